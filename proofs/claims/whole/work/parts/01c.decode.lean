theorem dX6_init_0 : decode cX6_init 0 = .ok (.aload_n 0, 1) := by decide +kernel
theorem dX6_init_1 : decode cX6_init 1 = .ok (.invokespecial 5, 3) := by decide +kernel
theorem dX6_init_4 : decode cX6_init 4 = .ok (.return_, 1) := by decide +kernel
theorem dX6_begin_0 : decode cX6_begin 0 = .ok (.aload_n 0, 1) := by decide +kernel
theorem dX6_begin_1 : decode cX6_begin 1 = .ok (.iload_n 1, 1) := by decide +kernel
theorem dX6_begin_2 : decode cX6_begin 2 = .ok (.putfield 11, 3) := by decide +kernel
theorem dX6_begin_5 : decode cX6_begin 5 = .ok (.aload_n 0, 1) := by decide +kernel
theorem dX6_begin_6 : decode cX6_begin 6 = .ok (.iload_n 2, 1) := by decide +kernel
theorem dX6_begin_7 : decode cX6_begin 7 = .ok (.putfield 15, 3) := by decide +kernel
theorem dX6_begin_10 : decode cX6_begin 10 = .ok (.aload_n 0, 1) := by decide +kernel
theorem dX6_begin_11 : decode cX6_begin 11 = .ok (.iconst 0, 1) := by decide +kernel
theorem dX6_begin_12 : decode cX6_begin 12 = .ok (.putfield 18, 3) := by decide +kernel
theorem dX6_begin_15 : decode cX6_begin 15 = .ok (.aload_n 0, 1) := by decide +kernel
theorem dX6_begin_16 : decode cX6_begin 16 = .ok (.lconst 0, 1) := by decide +kernel
theorem dX6_begin_17 : decode cX6_begin 17 = .ok (.putfield 22, 3) := by decide +kernel
theorem dX6_begin_20 : decode cX6_begin 20 = .ok (.aload_n 0, 1) := by decide +kernel
theorem dX6_begin_21 : decode cX6_begin 21 = .ok (.getfield 15, 3) := by decide +kernel
theorem dX6_begin_24 : decode cX6_begin 24 = .ok (.ifCond .ne 13, 3) := by decide +kernel
theorem dX6_begin_27 : decode cX6_begin 27 = .ok (.aload_n 0, 1) := by decide +kernel
theorem dX6_begin_28 : decode cX6_begin 28 = .ok (.ldc2_w 26, 3) := by decide +kernel
theorem dX6_begin_31 : decode cX6_begin 31 = .ok (.putfield 22, 3) := by decide +kernel
theorem dX6_begin_34 : decode cX6_begin 34 = .ok (.goto 44, 3) := by decide +kernel
theorem dX6_begin_37 : decode cX6_begin 37 = .ok (.aload_n 0, 1) := by decide +kernel
theorem dX6_begin_38 : decode cX6_begin 38 = .ok (.getfield 15, 3) := by decide +kernel
theorem dX6_begin_41 : decode cX6_begin 41 = .ok (.iconst 1, 1) := by decide +kernel
theorem dX6_begin_42 : decode cX6_begin 42 = .ok (.if_icmp .ne 13, 3) := by decide +kernel
theorem dX6_begin_45 : decode cX6_begin 45 = .ok (.aload_n 0, 1) := by decide +kernel
theorem dX6_begin_46 : decode cX6_begin 46 = .ok (.ldc2_w 28, 3) := by decide +kernel
theorem dX6_begin_49 : decode cX6_begin 49 = .ok (.putfield 22, 3) := by decide +kernel
theorem dX6_begin_52 : decode cX6_begin 52 = .ok (.goto 26, 3) := by decide +kernel
theorem dX6_begin_55 : decode cX6_begin 55 = .ok (.aload_n 0, 1) := by decide +kernel
theorem dX6_begin_56 : decode cX6_begin 56 = .ok (.getfield 15, 3) := by decide +kernel
theorem dX6_begin_59 : decode cX6_begin 59 = .ok (.iconst 3, 1) := by decide +kernel
theorem dX6_begin_60 : decode cX6_begin 60 = .ok (.if_icmp .ne 18, 3) := by decide +kernel
theorem dX6_begin_63 : decode cX6_begin 63 = .ok (.aload_n 0, 1) := by decide +kernel
theorem dX6_begin_64 : decode cX6_begin 64 = .ok (.getfield 11, 3) := by decide +kernel
theorem dX6_begin_67 : decode cX6_begin 67 = .ok (.iconst 1, 1) := by decide +kernel
theorem dX6_begin_68 : decode cX6_begin 68 = .ok (.if_icmp .ne 10, 3) := by decide +kernel
theorem dX6_begin_71 : decode cX6_begin 71 = .ok (.aload_n 0, 1) := by decide +kernel
theorem dX6_begin_72 : decode cX6_begin 72 = .ok (.ldc2_w 30, 3) := by decide +kernel
theorem dX6_begin_75 : decode cX6_begin 75 = .ok (.putfield 22, 3) := by decide +kernel
theorem dX6_begin_78 : decode cX6_begin 78 = .ok (.return_, 1) := by decide +kernel
theorem dX6_add_0 : decode cX6_add 0 = .ok (.aload_n 0, 1) := by decide +kernel
theorem dX6_add_1 : decode cX6_add 1 = .ok (.getfield 15, 3) := by decide +kernel
theorem dX6_add_4 : decode cX6_add 4 = .ok (.ifCond .ne 18, 3) := by decide +kernel
theorem dX6_add_7 : decode cX6_add 7 = .ok (.aload_n 0, 1) := by decide +kernel
theorem dX6_add_8 : decode cX6_add 8 = .ok (.aload_n 0, 1) := by decide +kernel
theorem dX6_add_9 : decode cX6_add 9 = .ok (.getfield 22, 3) := by decide +kernel
theorem dX6_add_12 : decode cX6_add 12 = .ok (.lload_n 1, 1) := by decide +kernel
theorem dX6_add_13 : decode cX6_add 13 = .ok (.invokestatic 32, 3) := by decide +kernel
theorem dX6_add_16 : decode cX6_add 16 = .ok (.putfield 22, 3) := by decide +kernel
theorem dX6_add_19 : decode cX6_add 19 = .ok (.goto 63, 3) := by decide +kernel
theorem dX6_add_22 : decode cX6_add 22 = .ok (.aload_n 0, 1) := by decide +kernel
theorem dX6_add_23 : decode cX6_add 23 = .ok (.getfield 15, 3) := by decide +kernel
theorem dX6_add_26 : decode cX6_add 26 = .ok (.iconst 1, 1) := by decide +kernel
theorem dX6_add_27 : decode cX6_add 27 = .ok (.if_icmp .ne 18, 3) := by decide +kernel
theorem dX6_add_30 : decode cX6_add 30 = .ok (.aload_n 0, 1) := by decide +kernel
theorem dX6_add_31 : decode cX6_add 31 = .ok (.aload_n 0, 1) := by decide +kernel
theorem dX6_add_32 : decode cX6_add 32 = .ok (.getfield 22, 3) := by decide +kernel
theorem dX6_add_35 : decode cX6_add 35 = .ok (.lload_n 1, 1) := by decide +kernel
theorem dX6_add_36 : decode cX6_add 36 = .ok (.invokestatic 38, 3) := by decide +kernel
theorem dX6_add_39 : decode cX6_add 39 = .ok (.putfield 22, 3) := by decide +kernel
theorem dX6_add_42 : decode cX6_add 42 = .ok (.goto 40, 3) := by decide +kernel
theorem dX6_add_45 : decode cX6_add 45 = .ok (.aload_n 0, 1) := by decide +kernel
theorem dX6_add_46 : decode cX6_add 46 = .ok (.getfield 15, 3) := by decide +kernel
theorem dX6_add_49 : decode cX6_add 49 = .ok (.iconst 2, 1) := by decide +kernel
theorem dX6_add_50 : decode cX6_add 50 = .ok (.if_icmp .ne 11, 3) := by decide +kernel
theorem dX6_add_53 : decode cX6_add 53 = .ok (.aload_n 0, 1) := by decide +kernel
theorem dX6_add_54 : decode cX6_add 54 = .ok (.lload_n 1, 1) := by decide +kernel
theorem dX6_add_55 : decode cX6_add 55 = .ok (.invokevirtual 41, 3) := by decide +kernel
theorem dX6_add_58 : decode cX6_add 58 = .ok (.goto 24, 3) := by decide +kernel
theorem dX6_add_61 : decode cX6_add 61 = .ok (.aload_n 0, 1) := by decide +kernel
theorem dX6_add_62 : decode cX6_add 62 = .ok (.getfield 15, 3) := by decide +kernel
theorem dX6_add_65 : decode cX6_add 65 = .ok (.iconst 3, 1) := by decide +kernel
theorem dX6_add_66 : decode cX6_add 66 = .ok (.if_icmp .ne 11, 3) := by decide +kernel
theorem dX6_add_69 : decode cX6_add 69 = .ok (.aload_n 0, 1) := by decide +kernel
theorem dX6_add_70 : decode cX6_add 70 = .ok (.lload_n 1, 1) := by decide +kernel
theorem dX6_add_71 : decode cX6_add 71 = .ok (.invokevirtual 45, 3) := by decide +kernel
theorem dX6_add_74 : decode cX6_add 74 = .ok (.goto 8, 3) := by decide +kernel
theorem dX6_add_77 : decode cX6_add 77 = .ok (.aload_n 0, 1) := by decide +kernel
theorem dX6_add_78 : decode cX6_add 78 = .ok (.lload_n 1, 1) := by decide +kernel
theorem dX6_add_79 : decode cX6_add 79 = .ok (.putfield 22, 3) := by decide +kernel
theorem dX6_add_82 : decode cX6_add 82 = .ok (.return_, 1) := by decide +kernel
theorem dX6_end_0 : decode cX6_end 0 = .ok (.aload_n 0, 1) := by decide +kernel
theorem dX6_end_1 : decode cX6_end 1 = .ok (.getfield 15, 3) := by decide +kernel
theorem dX6_end_4 : decode cX6_end 4 = .ok (.iconst 3, 1) := by decide +kernel
theorem dX6_end_5 : decode cX6_end 5 = .ok (.if_icmp .ne 39, 3) := by decide +kernel
theorem dX6_end_8 : decode cX6_end 8 = .ok (.aload_n 0, 1) := by decide +kernel
theorem dX6_end_9 : decode cX6_end 9 = .ok (.getfield 11, 3) := by decide +kernel
theorem dX6_end_12 : decode cX6_end 12 = .ok (.ifCond .ne 32, 3) := by decide +kernel
theorem dX6_end_15 : decode cX6_end 15 = .ok (.aload_n 0, 1) := by decide +kernel
theorem dX6_end_16 : decode cX6_end 16 = .ok (.aload_n 0, 1) := by decide +kernel
theorem dX6_end_17 : decode cX6_end 17 = .ok (.getfield 22, 3) := by decide +kernel
theorem dX6_end_20 : decode cX6_end 20 = .ok (.ldc2_w 26, 3) := by decide +kernel
theorem dX6_end_23 : decode cX6_end 23 = .ok (.lcmp, 1) := by decide +kernel
theorem dX6_end_24 : decode cX6_end 24 = .ok (.ifCond .ne 7, 3) := by decide +kernel
theorem dX6_end_27 : decode cX6_end 27 = .ok (.iconst 1, 1) := by decide +kernel
theorem dX6_end_28 : decode cX6_end 28 = .ok (.goto 4, 3) := by decide +kernel
theorem dX6_end_31 : decode cX6_end 31 = .ok (.iconst 0, 1) := by decide +kernel
theorem dX6_end_32 : decode cX6_end 32 = .ok (.putfield 18, 3) := by decide +kernel
theorem dX6_end_35 : decode cX6_end 35 = .ok (.aload_n 0, 1) := by decide +kernel
theorem dX6_end_36 : decode cX6_end 36 = .ok (.aload_n 0, 1) := by decide +kernel
theorem dX6_end_37 : decode cX6_end 37 = .ok (.getfield 22, 3) := by decide +kernel
theorem dX6_end_40 : decode cX6_end 40 = .ok (.lneg, 1) := by decide +kernel
theorem dX6_end_41 : decode cX6_end 41 = .ok (.putfield 22, 3) := by decide +kernel
theorem dX6_end_44 : decode cX6_end 44 = .ok (.return_, 1) := by decide +kernel
theorem dX6_putTogether_0 : decode cX6_putTogether 0 = .ok (.aload_n 0, 1) := by decide +kernel
theorem dX6_putTogether_1 : decode cX6_putTogether 1 = .ok (.getfield 11, 3) := by decide +kernel
theorem dX6_putTogether_4 : decode cX6_putTogether 4 = .ok (.iconst 1, 1) := by decide +kernel
theorem dX6_putTogether_5 : decode cX6_putTogether 5 = .ok (.if_icmp .ne 14, 3) := by decide +kernel
theorem dX6_putTogether_8 : decode cX6_putTogether 8 = .ok (.aload_n 0, 1) := by decide +kernel
theorem dX6_putTogether_9 : decode cX6_putTogether 9 = .ok (.dup, 1) := by decide +kernel
theorem dX6_putTogether_10 : decode cX6_putTogether 10 = .ok (.getfield 22, 3) := by decide +kernel
theorem dX6_putTogether_13 : decode cX6_putTogether 13 = .ok (.lload_n 1, 1) := by decide +kernel
theorem dX6_putTogether_14 : decode cX6_putTogether 14 = .ok (.lor, 1) := by decide +kernel
theorem dX6_putTogether_15 : decode cX6_putTogether 15 = .ok (.putfield 22, 3) := by decide +kernel
theorem dX6_putTogether_18 : decode cX6_putTogether 18 = .ok (.return_, 1) := by decide +kernel
theorem dX6_putTogether_19 : decode cX6_putTogether 19 = .ok (.aload_n 0, 1) := by decide +kernel
theorem dX6_putTogether_20 : decode cX6_putTogether 20 = .ok (.getfield 22, 3) := by decide +kernel
theorem dX6_putTogether_23 : decode cX6_putTogether 23 = .ok (.lload_n 1, 1) := by decide +kernel
theorem dX6_putTogether_24 : decode cX6_putTogether 24 = .ok (.ladd, 1) := by decide +kernel
theorem dX6_putTogether_25 : decode cX6_putTogether 25 = .ok (.lstore_n 3, 1) := by decide +kernel
theorem dX6_putTogether_26 : decode cX6_putTogether 26 = .ok (.aload_n 0, 1) := by decide +kernel
theorem dX6_putTogether_27 : decode cX6_putTogether 27 = .ok (.aload_n 0, 1) := by decide +kernel
theorem dX6_putTogether_28 : decode cX6_putTogether 28 = .ok (.getfield 18, 3) := by decide +kernel
theorem dX6_putTogether_31 : decode cX6_putTogether 31 = .ok (.ifCond .ne 18, 3) := by decide +kernel
theorem dX6_putTogether_34 : decode cX6_putTogether 34 = .ok (.aload_n 0, 1) := by decide +kernel
theorem dX6_putTogether_35 : decode cX6_putTogether 35 = .ok (.getfield 22, 3) := by decide +kernel
theorem dX6_putTogether_38 : decode cX6_putTogether 38 = .ok (.lload_n 3, 1) := by decide +kernel
theorem dX6_putTogether_39 : decode cX6_putTogether 39 = .ok (.lxor, 1) := by decide +kernel
theorem dX6_putTogether_40 : decode cX6_putTogether 40 = .ok (.lload_n 1, 1) := by decide +kernel
theorem dX6_putTogether_41 : decode cX6_putTogether 41 = .ok (.lload_n 3, 1) := by decide +kernel
theorem dX6_putTogether_42 : decode cX6_putTogether 42 = .ok (.lxor, 1) := by decide +kernel
theorem dX6_putTogether_43 : decode cX6_putTogether 43 = .ok (.land, 1) := by decide +kernel
theorem dX6_putTogether_44 : decode cX6_putTogether 44 = .ok (.lconst 0, 1) := by decide +kernel
theorem dX6_putTogether_45 : decode cX6_putTogether 45 = .ok (.lcmp, 1) := by decide +kernel
theorem dX6_putTogether_46 : decode cX6_putTogether 46 = .ok (.ifCond .ge 7, 3) := by decide +kernel
theorem dX6_putTogether_49 : decode cX6_putTogether 49 = .ok (.iconst 1, 1) := by decide +kernel
theorem dX6_putTogether_50 : decode cX6_putTogether 50 = .ok (.goto 4, 3) := by decide +kernel
theorem dX6_putTogether_53 : decode cX6_putTogether 53 = .ok (.iconst 0, 1) := by decide +kernel
theorem dX6_putTogether_54 : decode cX6_putTogether 54 = .ok (.putfield 18, 3) := by decide +kernel
theorem dX6_putTogether_57 : decode cX6_putTogether 57 = .ok (.aload_n 0, 1) := by decide +kernel
theorem dX6_putTogether_58 : decode cX6_putTogether 58 = .ok (.lload_n 3, 1) := by decide +kernel
theorem dX6_putTogether_59 : decode cX6_putTogether 59 = .ok (.putfield 22, 3) := by decide +kernel
theorem dX6_putTogether_62 : decode cX6_putTogether 62 = .ok (.return_, 1) := by decide +kernel
theorem dX6_keepCommon_0 : decode cX6_keepCommon 0 = .ok (.aload_n 0, 1) := by decide +kernel
theorem dX6_keepCommon_1 : decode cX6_keepCommon 1 = .ok (.getfield 11, 3) := by decide +kernel
theorem dX6_keepCommon_4 : decode cX6_keepCommon 4 = .ok (.iconst 1, 1) := by decide +kernel
theorem dX6_keepCommon_5 : decode cX6_keepCommon 5 = .ok (.if_icmp .ne 14, 3) := by decide +kernel
theorem dX6_keepCommon_8 : decode cX6_keepCommon 8 = .ok (.aload_n 0, 1) := by decide +kernel
theorem dX6_keepCommon_9 : decode cX6_keepCommon 9 = .ok (.dup, 1) := by decide +kernel
theorem dX6_keepCommon_10 : decode cX6_keepCommon 10 = .ok (.getfield 22, 3) := by decide +kernel
theorem dX6_keepCommon_13 : decode cX6_keepCommon 13 = .ok (.lload_n 1, 1) := by decide +kernel
theorem dX6_keepCommon_14 : decode cX6_keepCommon 14 = .ok (.land, 1) := by decide +kernel
theorem dX6_keepCommon_15 : decode cX6_keepCommon 15 = .ok (.putfield 22, 3) := by decide +kernel
theorem dX6_keepCommon_18 : decode cX6_keepCommon 18 = .ok (.return_, 1) := by decide +kernel
theorem dX6_keepCommon_19 : decode cX6_keepCommon 19 = .ok (.aload_n 0, 1) := by decide +kernel
theorem dX6_keepCommon_20 : decode cX6_keepCommon 20 = .ok (.aload_n 0, 1) := by decide +kernel
theorem dX6_keepCommon_21 : decode cX6_keepCommon 21 = .ok (.getfield 22, 3) := by decide +kernel
theorem dX6_keepCommon_24 : decode cX6_keepCommon 24 = .ok (.lload_n 1, 1) := by decide +kernel
theorem dX6_keepCommon_25 : decode cX6_keepCommon 25 = .ok (.lconst 0, 1) := by decide +kernel
theorem dX6_keepCommon_26 : decode cX6_keepCommon 26 = .ok (.lcmp, 1) := by decide +kernel
theorem dX6_keepCommon_27 : decode cX6_keepCommon 27 = .ok (.ifCond .le 8, 3) := by decide +kernel
theorem dX6_keepCommon_30 : decode cX6_keepCommon 30 = .ok (.lload_n 1, 1) := by decide +kernel
theorem dX6_keepCommon_31 : decode cX6_keepCommon 31 = .ok (.lneg, 1) := by decide +kernel
theorem dX6_keepCommon_32 : decode cX6_keepCommon 32 = .ok (.goto 4, 3) := by decide +kernel
theorem dX6_keepCommon_35 : decode cX6_keepCommon 35 = .ok (.lload_n 1, 1) := by decide +kernel
theorem dX6_keepCommon_36 : decode cX6_keepCommon 36 = .ok (.invokestatic 48, 3) := by decide +kernel
theorem dX6_keepCommon_39 : decode cX6_keepCommon 39 = .ok (.putfield 22, 3) := by decide +kernel
theorem dX6_keepCommon_42 : decode cX6_keepCommon 42 = .ok (.return_, 1) := by decide +kernel
theorem dX6_divisorOf_0 : decode cX6_divisorOf 0 = .ok (.lload_n 0, 1) := by decide +kernel
theorem dX6_divisorOf_1 : decode cX6_divisorOf 1 = .ok (.lstore 4, 2) := by decide +kernel
theorem dX6_divisorOf_3 : decode cX6_divisorOf 3 = .ok (.lload_n 2, 1) := by decide +kernel
theorem dX6_divisorOf_4 : decode cX6_divisorOf 4 = .ok (.lstore 6, 2) := by decide +kernel
theorem dX6_divisorOf_6 : decode cX6_divisorOf 6 = .ok (.iconst 0, 1) := by decide +kernel
theorem dX6_divisorOf_7 : decode cX6_divisorOf 7 = .ok (.istore 8, 2) := by decide +kernel
theorem dX6_divisorOf_9 : decode cX6_divisorOf 9 = .ok (.iload 8, 2) := by decide +kernel
theorem dX6_divisorOf_11 : decode cX6_divisorOf 11 = .ok (.sipush 1000, 3) := by decide +kernel
theorem dX6_divisorOf_14 : decode cX6_divisorOf 14 = .ok (.if_icmp .ge 31, 3) := by decide +kernel
theorem dX6_divisorOf_17 : decode cX6_divisorOf 17 = .ok (.lload 6, 2) := by decide +kernel
theorem dX6_divisorOf_19 : decode cX6_divisorOf 19 = .ok (.lconst 0, 1) := by decide +kernel
theorem dX6_divisorOf_20 : decode cX6_divisorOf 20 = .ok (.lcmp, 1) := by decide +kernel
theorem dX6_divisorOf_21 : decode cX6_divisorOf 21 = .ok (.ifCond .eq 24, 3) := by decide +kernel
theorem dX6_divisorOf_24 : decode cX6_divisorOf 24 = .ok (.lload 4, 2) := by decide +kernel
theorem dX6_divisorOf_26 : decode cX6_divisorOf 26 = .ok (.lload 6, 2) := by decide +kernel
theorem dX6_divisorOf_28 : decode cX6_divisorOf 28 = .ok (.lrem, 1) := by decide +kernel
theorem dX6_divisorOf_29 : decode cX6_divisorOf 29 = .ok (.lstore 9, 2) := by decide +kernel
theorem dX6_divisorOf_31 : decode cX6_divisorOf 31 = .ok (.lload 6, 2) := by decide +kernel
theorem dX6_divisorOf_33 : decode cX6_divisorOf 33 = .ok (.lstore 4, 2) := by decide +kernel
theorem dX6_divisorOf_35 : decode cX6_divisorOf 35 = .ok (.lload 9, 2) := by decide +kernel
theorem dX6_divisorOf_37 : decode cX6_divisorOf 37 = .ok (.lstore 6, 2) := by decide +kernel
theorem dX6_divisorOf_39 : decode cX6_divisorOf 39 = .ok (.iinc 8 1, 3) := by decide +kernel
theorem dX6_divisorOf_42 : decode cX6_divisorOf 42 = .ok (.goto (-33), 3) := by decide +kernel
theorem dX6_divisorOf_45 : decode cX6_divisorOf 45 = .ok (.lload 4, 2) := by decide +kernel
theorem dX6_divisorOf_47 : decode cX6_divisorOf 47 = .ok (.lreturn, 1) := by decide +kernel
theorem dX7_init_0 : decode cX7_init 0 = .ok (.aload_n 0, 1) := by decide +kernel
theorem dX7_init_1 : decode cX7_init 1 = .ok (.invokespecial 3, 3) := by decide +kernel
theorem dX7_init_4 : decode cX7_init 4 = .ok (.aload_n 0, 1) := by decide +kernel
theorem dX7_init_5 : decode cX7_init 5 = .ok (.iconst 4, 1) := by decide +kernel
theorem dX7_init_6 : decode cX7_init 6 = .ok (.newarray .int, 2) := by decide +kernel
theorem dX7_init_8 : decode cX7_init 8 = .ok (.putfield 9, 3) := by decide +kernel
theorem dX7_init_11 : decode cX7_init 11 = .ok (.return_, 1) := by decide +kernel
theorem dX7_fill_0 : decode cX7_fill 0 = .ok (.aload_n 0, 1) := by decide +kernel
theorem dX7_fill_1 : decode cX7_fill 1 = .ok (.invokevirtual 15, 3) := by decide +kernel
theorem dX7_fill_4 : decode cX7_fill 4 = .ok (.aload_n 1, 1) := by decide +kernel
theorem dX7_fill_5 : decode cX7_fill 5 = .ok (.invokevirtual 18, 3) := by decide +kernel
theorem dX7_fill_8 : decode cX7_fill 8 = .ok (.iconst 0, 1) := by decide +kernel
theorem dX7_fill_9 : decode cX7_fill 9 = .ok (.istore_n 2, 1) := by decide +kernel
theorem dX7_fill_10 : decode cX7_fill 10 = .ok (.iload_n 2, 1) := by decide +kernel
theorem dX7_fill_11 : decode cX7_fill 11 = .ok (.bipush 7, 2) := by decide +kernel
theorem dX7_fill_13 : decode cX7_fill 13 = .ok (.if_icmp .gt 57, 3) := by decide +kernel
theorem dX7_fill_16 : decode cX7_fill 16 = .ok (.aload_n 1, 1) := by decide +kernel
theorem dX7_fill_17 : decode cX7_fill 17 = .ok (.invokevirtual 23, 3) := by decide +kernel
theorem dX7_fill_20 : decode cX7_fill 20 = .ok (.aload_n 1, 1) := by decide +kernel
theorem dX7_fill_21 : decode cX7_fill 21 = .ok (.getfield 26, 3) := by decide +kernel
theorem dX7_fill_24 : decode cX7_fill 24 = .ok (.ifCond .ne 9, 3) := by decide +kernel
theorem dX7_fill_27 : decode cX7_fill 27 = .ok (.aload_n 0, 1) := by decide +kernel
theorem dX7_fill_28 : decode cX7_fill 28 = .ok (.invokevirtual 30, 3) := by decide +kernel
theorem dX7_fill_31 : decode cX7_fill 31 = .ok (.iconst (-1), 1) := by decide +kernel
theorem dX7_fill_32 : decode cX7_fill 32 = .ok (.ireturn, 1) := by decide +kernel
theorem dX7_fill_33 : decode cX7_fill 33 = .ok (.aload_n 0, 1) := by decide +kernel
theorem dX7_fill_34 : decode cX7_fill 34 = .ok (.aload_n 1, 1) := by decide +kernel
theorem dX7_fill_35 : decode cX7_fill 35 = .ok (.invokevirtual 33, 3) := by decide +kernel
theorem dX7_fill_38 : decode cX7_fill 38 = .ok (.ifCond .eq 11, 3) := by decide +kernel
theorem dX7_fill_41 : decode cX7_fill 41 = .ok (.aload_n 0, 1) := by decide +kernel
theorem dX7_fill_42 : decode cX7_fill 42 = .ok (.aload_n 1, 1) := by decide +kernel
theorem dX7_fill_43 : decode cX7_fill 43 = .ok (.invokevirtual 37, 3) := by decide +kernel
theorem dX7_fill_46 : decode cX7_fill 46 = .ok (.ifCond .ne 8, 3) := by decide +kernel
theorem dX7_fill_49 : decode cX7_fill 49 = .ok (.aload_n 1, 1) := by decide +kernel
theorem dX7_fill_50 : decode cX7_fill 50 = .ok (.getfield 40, 3) := by decide +kernel
theorem dX7_fill_53 : decode cX7_fill 53 = .ok (.ireturn, 1) := by decide +kernel
theorem dX7_fill_54 : decode cX7_fill 54 = .ok (.aload_n 0, 1) := by decide +kernel
theorem dX7_fill_55 : decode cX7_fill 55 = .ok (.dup, 1) := by decide +kernel
theorem dX7_fill_56 : decode cX7_fill 56 = .ok (.getfield 43, 3) := by decide +kernel
theorem dX7_fill_59 : decode cX7_fill 59 = .ok (.iconst 1, 1) := by decide +kernel
theorem dX7_fill_60 : decode cX7_fill 60 = .ok (.iadd, 1) := by decide +kernel
theorem dX7_fill_61 : decode cX7_fill 61 = .ok (.putfield 43, 3) := by decide +kernel
theorem dX7_fill_64 : decode cX7_fill 64 = .ok (.iinc 2 1, 3) := by decide +kernel
theorem dX7_fill_67 : decode cX7_fill 67 = .ok (.goto (-57), 3) := by decide +kernel
theorem dX7_fill_70 : decode cX7_fill 70 = .ok (.aload_n 1, 1) := by decide +kernel
theorem dX7_fill_71 : decode cX7_fill 71 = .ok (.getfield 40, 3) := by decide +kernel
theorem dX7_fill_74 : decode cX7_fill 74 = .ok (.ireturn, 1) := by decide +kernel
theorem dX7_kindOf_0 : decode cX7_kindOf 0 = .ok (.iload_n 1, 1) := by decide +kernel
theorem dX7_kindOf_1 : decode cX7_kindOf 1 = .ok (.ifCond .lt 29, 3) := by decide +kernel
theorem dX7_kindOf_4 : decode cX7_kindOf 4 = .ok (.iload_n 1, 1) := by decide +kernel
theorem dX7_kindOf_5 : decode cX7_kindOf 5 = .ok (.aload_n 0, 1) := by decide +kernel
theorem dX7_kindOf_6 : decode cX7_kindOf 6 = .ok (.getfield 46, 3) := by decide +kernel
theorem dX7_kindOf_9 : decode cX7_kindOf 9 = .ok (.if_icmp .ge 21, 3) := by decide +kernel
theorem dX7_kindOf_12 : decode cX7_kindOf 12 = .ok (.iload_n 1, 1) := by decide +kernel
theorem dX7_kindOf_13 : decode cX7_kindOf 13 = .ok (.aload_n 0, 1) := by decide +kernel
theorem dX7_kindOf_14 : decode cX7_kindOf 14 = .ok (.getfield 9, 3) := by decide +kernel
theorem dX7_kindOf_17 : decode cX7_kindOf 17 = .ok (.arraylength, 1) := by decide +kernel
theorem dX7_kindOf_18 : decode cX7_kindOf 18 = .ok (.if_icmp .ge 12, 3) := by decide +kernel
theorem dX7_kindOf_21 : decode cX7_kindOf 21 = .ok (.aload_n 0, 1) := by decide +kernel
theorem dX7_kindOf_22 : decode cX7_kindOf 22 = .ok (.getfield 9, 3) := by decide +kernel
theorem dX7_kindOf_25 : decode cX7_kindOf 25 = .ok (.iload_n 1, 1) := by decide +kernel
theorem dX7_kindOf_26 : decode cX7_kindOf 26 = .ok (.iaload, 1) := by decide +kernel
theorem dX7_kindOf_27 : decode cX7_kindOf 27 = .ok (.goto 4, 3) := by decide +kernel
theorem dX7_kindOf_30 : decode cX7_kindOf 30 = .ok (.iconst 0, 1) := by decide +kernel
theorem dX7_kindOf_31 : decode cX7_kindOf 31 = .ok (.ireturn, 1) := by decide +kernel
theorem dX7_forget_0 : decode cX7_forget 0 = .ok (.aload_n 0, 1) := by decide +kernel
theorem dX7_forget_1 : decode cX7_forget 1 = .ok (.iconst 0, 1) := by decide +kernel
theorem dX7_forget_2 : decode cX7_forget 2 = .ok (.putfield 49, 3) := by decide +kernel
theorem dX7_forget_5 : decode cX7_forget 5 = .ok (.aload_n 0, 1) := by decide +kernel
theorem dX7_forget_6 : decode cX7_forget 6 = .ok (.iconst 0, 1) := by decide +kernel
theorem dX7_forget_7 : decode cX7_forget 7 = .ok (.putfield 52, 3) := by decide +kernel
theorem dX7_forget_10 : decode cX7_forget 10 = .ok (.aload_n 0, 1) := by decide +kernel
theorem dX7_forget_11 : decode cX7_forget 11 = .ok (.iconst 0, 1) := by decide +kernel
theorem dX7_forget_12 : decode cX7_forget 12 = .ok (.putfield 55, 3) := by decide +kernel
theorem dX7_forget_15 : decode cX7_forget 15 = .ok (.aload_n 0, 1) := by decide +kernel
theorem dX7_forget_16 : decode cX7_forget 16 = .ok (.iconst 0, 1) := by decide +kernel
theorem dX7_forget_17 : decode cX7_forget 17 = .ok (.putfield 46, 3) := by decide +kernel
theorem dX7_forget_20 : decode cX7_forget 20 = .ok (.aload_n 0, 1) := by decide +kernel
theorem dX7_forget_21 : decode cX7_forget 21 = .ok (.iconst 0, 1) := by decide +kernel
theorem dX7_forget_22 : decode cX7_forget 22 = .ok (.putfield 43, 3) := by decide +kernel
theorem dX7_forget_25 : decode cX7_forget 25 = .ok (.return_, 1) := by decide +kernel
theorem dX7_putUsual_0 : decode cX7_putUsual 0 = .ok (.aload_n 0, 1) := by decide +kernel
theorem dX7_putUsual_1 : decode cX7_putUsual 1 = .ok (.aload_n 0, 1) := by decide +kernel
theorem dX7_putUsual_2 : decode cX7_putUsual 2 = .ok (.getfield 49, 3) := by decide +kernel
theorem dX7_putUsual_5 : decode cX7_putUsual 5 = .ok (.ifCond .ne 7, 3) := by decide +kernel
theorem dX7_putUsual_8 : decode cX7_putUsual 8 = .ok (.iconst 3, 1) := by decide +kernel
theorem dX7_putUsual_9 : decode cX7_putUsual 9 = .ok (.goto 7, 3) := by decide +kernel
theorem dX7_putUsual_12 : decode cX7_putUsual 12 = .ok (.aload_n 0, 1) := by decide +kernel
theorem dX7_putUsual_13 : decode cX7_putUsual 13 = .ok (.getfield 49, 3) := by decide +kernel
theorem dX7_putUsual_16 : decode cX7_putUsual 16 = .ok (.putfield 49, 3) := by decide +kernel
theorem dX7_putUsual_19 : decode cX7_putUsual 19 = .ok (.aload_n 0, 1) := by decide +kernel
theorem dX7_putUsual_20 : decode cX7_putUsual 20 = .ok (.aload_n 0, 1) := by decide +kernel
theorem dX7_putUsual_21 : decode cX7_putUsual 21 = .ok (.getfield 52, 3) := by decide +kernel
theorem dX7_putUsual_24 : decode cX7_putUsual 24 = .ok (.ifCond .ne 7, 3) := by decide +kernel
theorem dX7_putUsual_27 : decode cX7_putUsual 27 = .ok (.iconst 4, 1) := by decide +kernel
theorem dX7_putUsual_28 : decode cX7_putUsual 28 = .ok (.goto 7, 3) := by decide +kernel
theorem dX7_putUsual_31 : decode cX7_putUsual 31 = .ok (.aload_n 0, 1) := by decide +kernel
theorem dX7_putUsual_32 : decode cX7_putUsual 32 = .ok (.getfield 52, 3) := by decide +kernel
theorem dX7_putUsual_35 : decode cX7_putUsual 35 = .ok (.putfield 52, 3) := by decide +kernel
theorem dX7_putUsual_38 : decode cX7_putUsual 38 = .ok (.aload_n 0, 1) := by decide +kernel
theorem dX7_putUsual_39 : decode cX7_putUsual 39 = .ok (.aload_n 0, 1) := by decide +kernel
theorem dX7_putUsual_40 : decode cX7_putUsual 40 = .ok (.getfield 55, 3) := by decide +kernel
theorem dX7_putUsual_43 : decode cX7_putUsual 43 = .ok (.ifCond .ne 7, 3) := by decide +kernel
theorem dX7_putUsual_46 : decode cX7_putUsual 46 = .ok (.iconst 4, 1) := by decide +kernel
theorem dX7_putUsual_47 : decode cX7_putUsual 47 = .ok (.goto 7, 3) := by decide +kernel
theorem dX7_putUsual_50 : decode cX7_putUsual 50 = .ok (.aload_n 0, 1) := by decide +kernel
theorem dX7_putUsual_51 : decode cX7_putUsual 51 = .ok (.getfield 55, 3) := by decide +kernel
theorem dX7_putUsual_54 : decode cX7_putUsual 54 = .ok (.putfield 55, 3) := by decide +kernel
theorem dX7_putUsual_57 : decode cX7_putUsual 57 = .ok (.return_, 1) := by decide +kernel
theorem dX7_takesWords_0 : decode cX7_takesWords 0 = .ok (.aload_n 1, 1) := by decide +kernel
theorem dX7_takesWords_1 : decode cX7_takesWords 1 = .ok (.ldc 58, 2) := by decide +kernel
theorem dX7_takesWords_3 : decode cX7_takesWords 3 = .ok (.invokevirtual 60, 3) := by decide +kernel
theorem dX7_takesWords_6 : decode cX7_takesWords 6 = .ok (.ifCond .eq 9, 3) := by decide +kernel
theorem dX7_takesWords_9 : decode cX7_takesWords 9 = .ok (.aload_n 0, 1) := by decide +kernel
theorem dX7_takesWords_10 : decode cX7_takesWords 10 = .ok (.iconst 0, 1) := by decide +kernel
theorem dX7_takesWords_11 : decode cX7_takesWords 11 = .ok (.invokevirtual 64, 3) := by decide +kernel
theorem dX7_takesWords_14 : decode cX7_takesWords 14 = .ok (.ireturn, 1) := by decide +kernel
theorem dX7_takesWords_15 : decode cX7_takesWords 15 = .ok (.aload_n 1, 1) := by decide +kernel
theorem dX7_takesWords_16 : decode cX7_takesWords 16 = .ok (.ldc 68, 2) := by decide +kernel
theorem dX7_takesWords_18 : decode cX7_takesWords 18 = .ok (.invokevirtual 60, 3) := by decide +kernel
theorem dX7_takesWords_21 : decode cX7_takesWords 21 = .ok (.ifCond .eq 9, 3) := by decide +kernel
theorem dX7_takesWords_24 : decode cX7_takesWords 24 = .ok (.aload_n 0, 1) := by decide +kernel
theorem dX7_takesWords_25 : decode cX7_takesWords 25 = .ok (.iconst 1, 1) := by decide +kernel
theorem dX7_takesWords_26 : decode cX7_takesWords 26 = .ok (.invokevirtual 64, 3) := by decide +kernel
theorem dX7_takesWords_29 : decode cX7_takesWords 29 = .ok (.ireturn, 1) := by decide +kernel
theorem dX7_takesWords_30 : decode cX7_takesWords 30 = .ok (.aload_n 1, 1) := by decide +kernel
theorem dX7_takesWords_31 : decode cX7_takesWords 31 = .ok (.ldc 70, 2) := by decide +kernel
theorem dX7_takesWords_33 : decode cX7_takesWords 33 = .ok (.invokevirtual 60, 3) := by decide +kernel
theorem dX7_takesWords_36 : decode cX7_takesWords 36 = .ok (.ifCond .eq 34, 3) := by decide +kernel
theorem dX7_takesWords_39 : decode cX7_takesWords 39 = .ok (.aload_n 0, 1) := by decide +kernel
theorem dX7_takesWords_40 : decode cX7_takesWords 40 = .ok (.getfield 49, 3) := by decide +kernel
theorem dX7_takesWords_43 : decode cX7_takesWords 43 = .ok (.ifCond .ne 27, 3) := by decide +kernel
theorem dX7_takesWords_46 : decode cX7_takesWords 46 = .ok (.aload_n 0, 1) := by decide +kernel
theorem dX7_takesWords_47 : decode cX7_takesWords 47 = .ok (.aload_n 0, 1) := by decide +kernel
theorem dX7_takesWords_48 : decode cX7_takesWords 48 = .ok (.aload_n 1, 1) := by decide +kernel
theorem dX7_takesWords_49 : decode cX7_takesWords 49 = .ok (.iconst 2, 1) := by decide +kernel
theorem dX7_takesWords_50 : decode cX7_takesWords 50 = .ok (.iconst 4, 1) := by decide +kernel
theorem dX7_takesWords_51 : decode cX7_takesWords 51 = .ok (.invokevirtual 71, 3) := by decide +kernel
theorem dX7_takesWords_54 : decode cX7_takesWords 54 = .ok (.putfield 49, 3) := by decide +kernel
theorem dX7_takesWords_57 : decode cX7_takesWords 57 = .ok (.aload_n 0, 1) := by decide +kernel
theorem dX7_takesWords_58 : decode cX7_takesWords 58 = .ok (.getfield 49, 3) := by decide +kernel
theorem dX7_takesWords_61 : decode cX7_takesWords 61 = .ok (.ifCond .eq 7, 3) := by decide +kernel
theorem dX7_takesWords_64 : decode cX7_takesWords 64 = .ok (.iconst 1, 1) := by decide +kernel
theorem dX7_takesWords_65 : decode cX7_takesWords 65 = .ok (.goto 4, 3) := by decide +kernel
theorem dX7_takesWords_68 : decode cX7_takesWords 68 = .ok (.iconst 0, 1) := by decide +kernel
theorem dX7_takesWords_69 : decode cX7_takesWords 69 = .ok (.ireturn, 1) := by decide +kernel
theorem dX7_takesWords_70 : decode cX7_takesWords 70 = .ok (.aload_n 1, 1) := by decide +kernel
theorem dX7_takesWords_71 : decode cX7_takesWords 71 = .ok (.ldc 75, 2) := by decide +kernel
theorem dX7_takesWords_73 : decode cX7_takesWords 73 = .ok (.invokevirtual 60, 3) := by decide +kernel
theorem dX7_takesWords_76 : decode cX7_takesWords 76 = .ok (.ifCond .eq 35, 3) := by decide +kernel
theorem dX7_takesWords_79 : decode cX7_takesWords 79 = .ok (.aload_n 0, 1) := by decide +kernel
theorem dX7_takesWords_80 : decode cX7_takesWords 80 = .ok (.getfield 52, 3) := by decide +kernel
theorem dX7_takesWords_83 : decode cX7_takesWords 83 = .ok (.ifCond .ne 28, 3) := by decide +kernel
theorem dX7_takesWords_86 : decode cX7_takesWords 86 = .ok (.aload_n 0, 1) := by decide +kernel
theorem dX7_takesWords_87 : decode cX7_takesWords 87 = .ok (.aload_n 0, 1) := by decide +kernel
theorem dX7_takesWords_88 : decode cX7_takesWords 88 = .ok (.aload_n 1, 1) := by decide +kernel
theorem dX7_takesWords_89 : decode cX7_takesWords 89 = .ok (.iconst 1, 1) := by decide +kernel
theorem dX7_takesWords_90 : decode cX7_takesWords 90 = .ok (.bipush 6, 2) := by decide +kernel
theorem dX7_takesWords_92 : decode cX7_takesWords 92 = .ok (.invokevirtual 71, 3) := by decide +kernel
theorem dX7_takesWords_95 : decode cX7_takesWords 95 = .ok (.putfield 52, 3) := by decide +kernel
theorem dX7_takesWords_98 : decode cX7_takesWords 98 = .ok (.aload_n 0, 1) := by decide +kernel
theorem dX7_takesWords_99 : decode cX7_takesWords 99 = .ok (.getfield 52, 3) := by decide +kernel
theorem dX7_takesWords_102 : decode cX7_takesWords 102 = .ok (.ifCond .eq 7, 3) := by decide +kernel
theorem dX7_takesWords_105 : decode cX7_takesWords 105 = .ok (.iconst 1, 1) := by decide +kernel
theorem dX7_takesWords_106 : decode cX7_takesWords 106 = .ok (.goto 4, 3) := by decide +kernel
theorem dX7_takesWords_109 : decode cX7_takesWords 109 = .ok (.iconst 0, 1) := by decide +kernel
theorem dX7_takesWords_110 : decode cX7_takesWords 110 = .ok (.ireturn, 1) := by decide +kernel
theorem dX7_takesWords_111 : decode cX7_takesWords 111 = .ok (.aload_n 1, 1) := by decide +kernel
theorem dX7_takesWords_112 : decode cX7_takesWords 112 = .ok (.ldc 76, 2) := by decide +kernel
theorem dX7_takesWords_114 : decode cX7_takesWords 114 = .ok (.invokevirtual 60, 3) := by decide +kernel
theorem dX7_takesWords_117 : decode cX7_takesWords 117 = .ok (.ifCond .eq 34, 3) := by decide +kernel
theorem dX7_takesWords_120 : decode cX7_takesWords 120 = .ok (.aload_n 0, 1) := by decide +kernel
theorem dX7_takesWords_121 : decode cX7_takesWords 121 = .ok (.getfield 55, 3) := by decide +kernel
theorem dX7_takesWords_124 : decode cX7_takesWords 124 = .ok (.ifCond .ne 27, 3) := by decide +kernel
theorem dX7_takesWords_127 : decode cX7_takesWords 127 = .ok (.aload_n 0, 1) := by decide +kernel
theorem dX7_takesWords_128 : decode cX7_takesWords 128 = .ok (.aload_n 0, 1) := by decide +kernel
theorem dX7_takesWords_129 : decode cX7_takesWords 129 = .ok (.aload_n 1, 1) := by decide +kernel
theorem dX7_takesWords_130 : decode cX7_takesWords 130 = .ok (.iconst 1, 1) := by decide +kernel
theorem dX7_takesWords_131 : decode cX7_takesWords 131 = .ok (.iconst 4, 1) := by decide +kernel
theorem dX7_takesWords_132 : decode cX7_takesWords 132 = .ok (.invokevirtual 71, 3) := by decide +kernel
theorem dX7_takesWords_135 : decode cX7_takesWords 135 = .ok (.putfield 55, 3) := by decide +kernel
theorem dX7_takesWords_138 : decode cX7_takesWords 138 = .ok (.aload_n 0, 1) := by decide +kernel
theorem dX7_takesWords_139 : decode cX7_takesWords 139 = .ok (.getfield 55, 3) := by decide +kernel
theorem dX7_takesWords_142 : decode cX7_takesWords 142 = .ok (.ifCond .eq 7, 3) := by decide +kernel
theorem dX7_takesWords_145 : decode cX7_takesWords 145 = .ok (.iconst 1, 1) := by decide +kernel
theorem dX7_takesWords_146 : decode cX7_takesWords 146 = .ok (.goto 4, 3) := by decide +kernel
theorem dX7_takesWords_149 : decode cX7_takesWords 149 = .ok (.iconst 0, 1) := by decide +kernel
theorem dX7_takesWords_150 : decode cX7_takesWords 150 = .ok (.ireturn, 1) := by decide +kernel
theorem dX7_takesWords_151 : decode cX7_takesWords 151 = .ok (.iconst 0, 1) := by decide +kernel
theorem dX7_takesWords_152 : decode cX7_takesWords 152 = .ok (.ireturn, 1) := by decide +kernel
theorem dX7_takesKey_0 : decode cX7_takesKey 0 = .ok (.aload_n 0, 1) := by decide +kernel
theorem dX7_takesKey_1 : decode cX7_takesKey 1 = .ok (.getfield 46, 3) := by decide +kernel
theorem dX7_takesKey_4 : decode cX7_takesKey 4 = .ok (.aload_n 0, 1) := by decide +kernel
theorem dX7_takesKey_5 : decode cX7_takesKey 5 = .ok (.getfield 9, 3) := by decide +kernel
theorem dX7_takesKey_8 : decode cX7_takesKey 8 = .ok (.arraylength, 1) := by decide +kernel
theorem dX7_takesKey_9 : decode cX7_takesKey 9 = .ok (.if_icmp .lt 5, 3) := by decide +kernel
theorem dX7_takesKey_12 : decode cX7_takesKey 12 = .ok (.iconst 0, 1) := by decide +kernel
theorem dX7_takesKey_13 : decode cX7_takesKey 13 = .ok (.ireturn, 1) := by decide +kernel
theorem dX7_takesKey_14 : decode cX7_takesKey 14 = .ok (.aload_n 0, 1) := by decide +kernel
theorem dX7_takesKey_15 : decode cX7_takesKey 15 = .ok (.getfield 9, 3) := by decide +kernel
theorem dX7_takesKey_18 : decode cX7_takesKey 18 = .ok (.aload_n 0, 1) := by decide +kernel
theorem dX7_takesKey_19 : decode cX7_takesKey 19 = .ok (.getfield 46, 3) := by decide +kernel
theorem dX7_takesKey_22 : decode cX7_takesKey 22 = .ok (.iload_n 1, 1) := by decide +kernel
theorem dX7_takesKey_23 : decode cX7_takesKey 23 = .ok (.iastore, 1) := by decide +kernel
theorem dX7_takesKey_24 : decode cX7_takesKey 24 = .ok (.aload_n 0, 1) := by decide +kernel
theorem dX7_takesKey_25 : decode cX7_takesKey 25 = .ok (.dup, 1) := by decide +kernel
theorem dX7_takesKey_26 : decode cX7_takesKey 26 = .ok (.getfield 46, 3) := by decide +kernel
theorem dX7_takesKey_29 : decode cX7_takesKey 29 = .ok (.iconst 1, 1) := by decide +kernel
theorem dX7_takesKey_30 : decode cX7_takesKey 30 = .ok (.iadd, 1) := by decide +kernel
theorem dX7_takesKey_31 : decode cX7_takesKey 31 = .ok (.putfield 46, 3) := by decide +kernel
theorem dX7_takesKey_34 : decode cX7_takesKey 34 = .ok (.iconst 1, 1) := by decide +kernel
theorem dX7_takesKey_35 : decode cX7_takesKey 35 = .ok (.ireturn, 1) := by decide +kernel
theorem dX7_takenNumber_0 : decode cX7_takenNumber 0 = .ok (.aload_n 1, 1) := by decide +kernel
theorem dX7_takenNumber_1 : decode cX7_takenNumber 1 = .ok (.invokevirtual 23, 3) := by decide +kernel
theorem dX7_takenNumber_4 : decode cX7_takenNumber 4 = .ok (.aload_n 1, 1) := by decide +kernel
theorem dX7_takenNumber_5 : decode cX7_takenNumber 5 = .ok (.invokevirtual 77, 3) := by decide +kernel
theorem dX7_takenNumber_8 : decode cX7_takenNumber 8 = .ok (.istore 4, 2) := by decide +kernel
theorem dX7_takenNumber_10 : decode cX7_takenNumber 10 = .ok (.iload 4, 2) := by decide +kernel
theorem dX7_takenNumber_12 : decode cX7_takenNumber 12 = .ok (.iload_n 2, 1) := by decide +kernel
theorem dX7_takenNumber_13 : decode cX7_takenNumber 13 = .ok (.if_icmp .lt 14, 3) := by decide +kernel
theorem dX7_takenNumber_16 : decode cX7_takenNumber 16 = .ok (.iload 4, 2) := by decide +kernel
theorem dX7_takenNumber_18 : decode cX7_takenNumber 18 = .ok (.iload_n 3, 1) := by decide +kernel
theorem dX7_takenNumber_19 : decode cX7_takenNumber 19 = .ok (.if_icmp .gt 8, 3) := by decide +kernel
theorem dX7_takenNumber_22 : decode cX7_takenNumber 22 = .ok (.iload 4, 2) := by decide +kernel
theorem dX7_takenNumber_24 : decode cX7_takenNumber 24 = .ok (.goto 4, 3) := by decide +kernel
theorem dX7_takenNumber_27 : decode cX7_takenNumber 27 = .ok (.iconst 0, 1) := by decide +kernel
theorem dX7_takenNumber_28 : decode cX7_takenNumber 28 = .ok (.ireturn, 1) := by decide +kernel
theorem dX7_takesSemicolon_0 : decode cX7_takesSemicolon 0 = .ok (.aload_n 1, 1) := by decide +kernel
theorem dX7_takesSemicolon_1 : decode cX7_takesSemicolon 1 = .ok (.invokevirtual 23, 3) := by decide +kernel
theorem dX7_takesSemicolon_4 : decode cX7_takesSemicolon 4 = .ok (.aload_n 1, 1) := by decide +kernel
theorem dX7_takesSemicolon_5 : decode cX7_takesSemicolon 5 = .ok (.getfield 26, 3) := by decide +kernel
theorem dX7_takesSemicolon_8 : decode cX7_takesSemicolon 8 = .ok (.iconst 3, 1) := by decide +kernel
theorem dX7_takesSemicolon_9 : decode cX7_takesSemicolon 9 = .ok (.if_icmp .ne 7, 3) := by decide +kernel
theorem dX7_takesSemicolon_12 : decode cX7_takesSemicolon 12 = .ok (.iconst 1, 1) := by decide +kernel
theorem dX7_takesSemicolon_13 : decode cX7_takesSemicolon 13 = .ok (.goto 4, 3) := by decide +kernel
theorem dX7_takesSemicolon_16 : decode cX7_takesSemicolon 16 = .ok (.iconst 0, 1) := by decide +kernel
theorem dX7_takesSemicolon_17 : decode cX7_takesSemicolon 17 = .ok (.ireturn, 1) := by decide +kernel
theorem dX8_init_0 : decode cX8_init 0 = .ok (.aload_n 0, 1) := by decide +kernel
theorem dX8_init_1 : decode cX8_init 1 = .ok (.invokespecial 1, 3) := by decide +kernel
theorem dX8_init_4 : decode cX8_init 4 = .ok (.aload_n 0, 1) := by decide +kernel
theorem dX8_init_5 : decode cX8_init 5 = .ok (.new 7, 3) := by decide +kernel
theorem dX8_init_8 : decode cX8_init 8 = .ok (.dup, 1) := by decide +kernel
theorem dX8_init_9 : decode cX8_init 9 = .ok (.invokespecial 9, 3) := by decide +kernel
theorem dX8_init_12 : decode cX8_init 12 = .ok (.putfield 10, 3) := by decide +kernel
theorem dX8_init_15 : decode cX8_init 15 = .ok (.aload_n 0, 1) := by decide +kernel
theorem dX8_init_16 : decode cX8_init 16 = .ok (.iload_n 1, 1) := by decide +kernel
theorem dX8_init_17 : decode cX8_init 17 = .ok (.putfield 16, 3) := by decide +kernel
theorem dX8_init_20 : decode cX8_init 20 = .ok (.aload_n 0, 1) := by decide +kernel
theorem dX8_init_21 : decode cX8_init 21 = .ok (.aload_n 2, 1) := by decide +kernel
theorem dX8_init_22 : decode cX8_init 22 = .ok (.putfield 20, 3) := by decide +kernel
theorem dX8_init_25 : decode cX8_init 25 = .ok (.return_, 1) := by decide +kernel
theorem dX8_beginAnew_0 : decode cX8_beginAnew 0 = .ok (.aload_n 0, 1) := by decide +kernel
theorem dX8_beginAnew_1 : decode cX8_beginAnew 1 = .ok (.iconst 0, 1) := by decide +kernel
theorem dX8_beginAnew_2 : decode cX8_beginAnew 2 = .ok (.putfield 24, 3) := by decide +kernel
theorem dX8_beginAnew_5 : decode cX8_beginAnew 5 = .ok (.aload_n 0, 1) := by decide +kernel
theorem dX8_beginAnew_6 : decode cX8_beginAnew 6 = .ok (.getfield 10, 3) := by decide +kernel
theorem dX8_beginAnew_9 : decode cX8_beginAnew 9 = .ok (.invokevirtual 27, 3) := by decide +kernel
theorem dX8_beginAnew_12 : decode cX8_beginAnew 12 = .ok (.return_, 1) := by decide +kernel
theorem dX8_nextNumber_0 : decode cX8_nextNumber 0 = .ok (.aload_n 0, 1) := by decide +kernel
theorem dX8_nextNumber_1 : decode cX8_nextNumber 1 = .ok (.getfield 24, 3) := by decide +kernel
theorem dX8_nextNumber_4 : decode cX8_nextNumber 4 = .ok (.aload_n 0, 1) := by decide +kernel
theorem dX8_nextNumber_5 : decode cX8_nextNumber 5 = .ok (.getfield 16, 3) := by decide +kernel
theorem dX8_nextNumber_8 : decode cX8_nextNumber 8 = .ok (.invokestatic 30, 3) := by decide +kernel
theorem dX8_nextNumber_11 : decode cX8_nextNumber 11 = .ok (.iconst 1, 1) := by decide +kernel
theorem dX8_nextNumber_12 : decode cX8_nextNumber 12 = .ok (.iadd, 1) := by decide +kernel
theorem dX8_nextNumber_13 : decode cX8_nextNumber 13 = .ok (.ireturn, 1) := by decide +kernel
theorem dX8_take_0 : decode cX8_take 0 = .ok (.aload_n 0, 1) := by decide +kernel
theorem dX8_take_1 : decode cX8_take 1 = .ok (.getfield 20, 3) := by decide +kernel
theorem dX8_take_4 : decode cX8_take 4 = .ok (.getfield 36, 3) := by decide +kernel
theorem dX8_take_7 : decode cX8_take 7 = .ok (.aload_n 0, 1) := by decide +kernel
theorem dX8_take_8 : decode cX8_take 8 = .ok (.getfield 10, 3) := by decide +kernel
theorem dX8_take_11 : decode cX8_take 11 = .ok (.iload 4, 2) := by decide +kernel
theorem dX8_take_13 : decode cX8_take 13 = .ok (.invokevirtual 41, 3) := by decide +kernel
theorem dX8_take_16 : decode cX8_take 16 = .ok (.aload_n 0, 1) := by decide +kernel
theorem dX8_take_17 : decode cX8_take 17 = .ok (.getfield 10, 3) := by decide +kernel
theorem dX8_take_20 : decode cX8_take 20 = .ok (.iload 4, 2) := by decide +kernel
theorem dX8_take_22 : decode cX8_take 22 = .ok (.invokevirtual 45, 3) := by decide +kernel
theorem dX8_take_25 : decode cX8_take 25 = .ok (.aload_n 0, 1) := by decide +kernel
theorem dX8_take_26 : decode cX8_take 26 = .ok (.getfield 20, 3) := by decide +kernel
theorem dX8_take_29 : decode cX8_take 29 = .ok (.dup, 1) := by decide +kernel
theorem dX8_take_30 : decode cX8_take 30 = .ok (.getfield 49, 3) := by decide +kernel
theorem dX8_take_33 : decode cX8_take 33 = .ok (.aload_n 0, 1) := by decide +kernel
theorem dX8_take_34 : decode cX8_take 34 = .ok (.getfield 10, 3) := by decide +kernel
theorem dX8_take_37 : decode cX8_take 37 = .ok (.iload 5, 2) := by decide +kernel
theorem dX8_take_39 : decode cX8_take 39 = .ok (.invokevirtual 52, 3) := by decide +kernel
theorem dX8_take_42 : decode cX8_take 42 = .ok (.iadd, 1) := by decide +kernel
theorem dX8_take_43 : decode cX8_take 43 = .ok (.putfield 49, 3) := by decide +kernel
theorem dX8_take_46 : decode cX8_take 46 = .ok (.aload_n 0, 1) := by decide +kernel
theorem dX8_take_47 : decode cX8_take 47 = .ok (.invokevirtual 56, 3) := by decide +kernel
theorem dX8_take_50 : decode cX8_take 50 = .ok (.istore 6, 2) := by decide +kernel
theorem dX8_take_52 : decode cX8_take 52 = .ok (.aload_n 0, 1) := by decide +kernel
theorem dX8_take_53 : decode cX8_take 53 = .ok (.getfield 16, 3) := by decide +kernel
theorem dX8_take_56 : decode cX8_take 56 = .ok (.iload 6, 2) := by decide +kernel
theorem dX8_take_58 : decode cX8_take 58 = .ok (.invokestatic 60, 3) := by decide +kernel
theorem dX8_take_61 : decode cX8_take 61 = .ok (.istore 7, 2) := by decide +kernel
theorem dX8_take_63 : decode cX8_take 63 = .ok (.aload_n 0, 1) := by decide +kernel
theorem dX8_take_64 : decode cX8_take 64 = .ok (.aload_n 0, 1) := by decide +kernel
theorem dX8_take_65 : decode cX8_take 65 = .ok (.getfield 24, 3) := by decide +kernel
theorem dX8_take_68 : decode cX8_take 68 = .ok (.iload 4, 2) := by decide +kernel
theorem dX8_take_70 : decode cX8_take 70 = .ok (.invokestatic 63, 3) := by decide +kernel
theorem dX8_take_73 : decode cX8_take 73 = .ok (.aload_n 0, 1) := by decide +kernel
theorem dX8_take_74 : decode cX8_take 74 = .ok (.getfield 16, 3) := by decide +kernel
theorem dX8_take_77 : decode cX8_take 77 = .ok (.iload 6, 2) := by decide +kernel
theorem dX8_take_79 : decode cX8_take 79 = .ok (.invokestatic 66, 3) := by decide +kernel
theorem dX8_take_82 : decode cX8_take 82 = .ok (.putfield 24, 3) := by decide +kernel
theorem dX8_take_85 : decode cX8_take 85 = .ok (.aload_n 0, 1) := by decide +kernel
theorem dX8_take_86 : decode cX8_take 86 = .ok (.getfield 20, 3) := by decide +kernel
theorem dX8_take_89 : decode cX8_take 89 = .ok (.iload 7, 2) := by decide +kernel
theorem dX8_take_91 : decode cX8_take 91 = .ok (.lload_n 1, 1) := by decide +kernel
theorem dX8_take_92 : decode cX8_take 92 = .ok (.iload_n 3, 1) := by decide +kernel
theorem dX8_take_93 : decode cX8_take 93 = .ok (.iload 4, 2) := by decide +kernel
theorem dX8_take_95 : decode cX8_take 95 = .ok (.iload 5, 2) := by decide +kernel
theorem dX8_take_97 : decode cX8_take 97 = .ok (.invokevirtual 70, 3) := by decide +kernel
theorem dX8_take_100 : decode cX8_take 100 = .ok (.aload_n 0, 1) := by decide +kernel
theorem dX8_take_101 : decode cX8_take 101 = .ok (.getfield 10, 3) := by decide +kernel
theorem dX8_take_104 : decode cX8_take 104 = .ok (.iload 7, 2) := by decide +kernel
theorem dX8_take_106 : decode cX8_take 106 = .ok (.invokevirtual 74, 3) := by decide +kernel
theorem dX8_take_109 : decode cX8_take 109 = .ok (.return_, 1) := by decide +kernel
theorem dX8_receive_0 : decode cX8_receive 0 = .ok (.aload_n 0, 1) := by decide +kernel
theorem dX8_receive_1 : decode cX8_receive 1 = .ok (.getfield 10, 3) := by decide +kernel
theorem dX8_receive_4 : decode cX8_receive 4 = .ok (.aload_n 0, 1) := by decide +kernel
theorem dX8_receive_5 : decode cX8_receive 5 = .ok (.getfield 24, 3) := by decide +kernel
theorem dX8_receive_8 : decode cX8_receive 8 = .ok (.aload_n 1, 1) := by decide +kernel
theorem dX8_receive_9 : decode cX8_receive 9 = .ok (.getfield 10, 3) := by decide +kernel
theorem dX8_receive_12 : decode cX8_receive 12 = .ok (.aload_n 1, 1) := by decide +kernel
theorem dX8_receive_13 : decode cX8_receive 13 = .ok (.getfield 24, 3) := by decide +kernel
theorem dX8_receive_16 : decode cX8_receive 16 = .ok (.invokevirtual 77, 3) := by decide +kernel
theorem dX8_receive_19 : decode cX8_receive 19 = .ok (.aload_n 0, 1) := by decide +kernel
theorem dX8_receive_20 : decode cX8_receive 20 = .ok (.aload_n 0, 1) := by decide +kernel
theorem dX8_receive_21 : decode cX8_receive 21 = .ok (.getfield 24, 3) := by decide +kernel
theorem dX8_receive_24 : decode cX8_receive 24 = .ok (.aload_n 1, 1) := by decide +kernel
theorem dX8_receive_25 : decode cX8_receive 25 = .ok (.getfield 24, 3) := by decide +kernel
theorem dX8_receive_28 : decode cX8_receive 28 = .ok (.invokestatic 63, 3) := by decide +kernel
theorem dX8_receive_31 : decode cX8_receive 31 = .ok (.putfield 24, 3) := by decide +kernel
theorem dX8_receive_34 : decode cX8_receive 34 = .ok (.return_, 1) := by decide +kernel
theorem dX8_dropBeyond_0 : decode cX8_dropBeyond 0 = .ok (.aload_n 0, 1) := by decide +kernel
theorem dX8_dropBeyond_1 : decode cX8_dropBeyond 1 = .ok (.getfield 10, 3) := by decide +kernel
theorem dX8_dropBeyond_4 : decode cX8_dropBeyond 4 = .ok (.invokevirtual 81, 3) := by decide +kernel
theorem dX8_dropBeyond_7 : decode cX8_dropBeyond 7 = .ok (.iload_n 1, 1) := by decide +kernel
theorem dX8_dropBeyond_8 : decode cX8_dropBeyond 8 = .ok (.isub, 1) := by decide +kernel
theorem dX8_dropBeyond_9 : decode cX8_dropBeyond 9 = .ok (.istore_n 2, 1) := by decide +kernel
theorem dX8_dropBeyond_10 : decode cX8_dropBeyond 10 = .ok (.iload_n 2, 1) := by decide +kernel
theorem dX8_dropBeyond_11 : decode cX8_dropBeyond 11 = .ok (.ifCond .le 41, 3) := by decide +kernel
theorem dX8_dropBeyond_14 : decode cX8_dropBeyond 14 = .ok (.aload_n 0, 1) := by decide +kernel
theorem dX8_dropBeyond_15 : decode cX8_dropBeyond 15 = .ok (.getfield 20, 3) := by decide +kernel
theorem dX8_dropBeyond_18 : decode cX8_dropBeyond 18 = .ok (.aload_n 0, 1) := by decide +kernel
theorem dX8_dropBeyond_19 : decode cX8_dropBeyond 19 = .ok (.getfield 10, 3) := by decide +kernel
theorem dX8_dropBeyond_22 : decode cX8_dropBeyond 22 = .ok (.iconst 0, 1) := by decide +kernel
theorem dX8_dropBeyond_23 : decode cX8_dropBeyond 23 = .ok (.invokevirtual 84, 3) := by decide +kernel
theorem dX8_dropBeyond_26 : decode cX8_dropBeyond 26 = .ok (.istore_n 3, 1) := by decide +kernel
theorem dX8_dropBeyond_27 : decode cX8_dropBeyond 27 = .ok (.aload_n 0, 1) := by decide +kernel
theorem dX8_dropBeyond_28 : decode cX8_dropBeyond 28 = .ok (.getfield 10, 3) := by decide +kernel
theorem dX8_dropBeyond_31 : decode cX8_dropBeyond 31 = .ok (.iload_n 3, 1) := by decide +kernel
theorem dX8_dropBeyond_32 : decode cX8_dropBeyond 32 = .ok (.invokevirtual 88, 3) := by decide +kernel
theorem dX8_dropBeyond_35 : decode cX8_dropBeyond 35 = .ok (.aload_n 0, 1) := by decide +kernel
theorem dX8_dropBeyond_36 : decode cX8_dropBeyond 36 = .ok (.getfield 20, 3) := by decide +kernel
theorem dX8_dropBeyond_39 : decode cX8_dropBeyond 39 = .ok (.getfield 91, 3) := by decide +kernel
theorem dX8_dropBeyond_42 : decode cX8_dropBeyond 42 = .ok (.iload_n 3, 1) := by decide +kernel
theorem dX8_dropBeyond_43 : decode cX8_dropBeyond 43 = .ok (.invokevirtual 74, 3) := by decide +kernel
theorem dX8_dropBeyond_46 : decode cX8_dropBeyond 46 = .ok (.iinc 2 (-1), 3) := by decide +kernel
theorem dX8_dropBeyond_49 : decode cX8_dropBeyond 49 = .ok (.goto (-39), 3) := by decide +kernel
theorem dX8_dropBeyond_52 : decode cX8_dropBeyond 52 = .ok (.return_, 1) := by decide +kernel
theorem dX8_blend_0 : decode cX8_blend 0 = .ok (.aload_n 1, 1) := by decide +kernel
theorem dX8_blend_1 : decode cX8_blend 1 = .ok (.aload_n 0, 1) := by decide +kernel
theorem dX8_blend_2 : decode cX8_blend 2 = .ok (.getfield 20, 3) := by decide +kernel
theorem dX8_blend_5 : decode cX8_blend 5 = .ok (.getfield 94, 3) := by decide +kernel
theorem dX8_blend_8 : decode cX8_blend 8 = .ok (.iload_n 2, 1) := by decide +kernel
theorem dX8_blend_9 : decode cX8_blend 9 = .ok (.invokevirtual 97, 3) := by decide +kernel
theorem dX8_blend_12 : decode cX8_blend 12 = .ok (.iconst 0, 1) := by decide +kernel
theorem dX8_blend_13 : decode cX8_blend 13 = .ok (.istore_n 3, 1) := by decide +kernel
theorem dX8_blend_14 : decode cX8_blend 14 = .ok (.aload_n 0, 1) := by decide +kernel
theorem dX8_blend_15 : decode cX8_blend 15 = .ok (.getfield 10, 3) := by decide +kernel
theorem dX8_blend_18 : decode cX8_blend 18 = .ok (.invokevirtual 81, 3) := by decide +kernel
theorem dX8_blend_21 : decode cX8_blend 21 = .ok (.istore 4, 2) := by decide +kernel
theorem dX8_blend_23 : decode cX8_blend 23 = .ok (.iload 4, 2) := by decide +kernel
theorem dX8_blend_25 : decode cX8_blend 25 = .ok (.ifCond .le 46, 3) := by decide +kernel
theorem dX8_blend_28 : decode cX8_blend 28 = .ok (.aload_n 0, 1) := by decide +kernel
theorem dX8_blend_29 : decode cX8_blend 29 = .ok (.getfield 20, 3) := by decide +kernel
theorem dX8_blend_32 : decode cX8_blend 32 = .ok (.aload_n 0, 1) := by decide +kernel
theorem dX8_blend_33 : decode cX8_blend 33 = .ok (.getfield 10, 3) := by decide +kernel
theorem dX8_blend_36 : decode cX8_blend 36 = .ok (.iload_n 3, 1) := by decide +kernel
theorem dX8_blend_37 : decode cX8_blend 37 = .ok (.invokevirtual 84, 3) := by decide +kernel
theorem dX8_blend_40 : decode cX8_blend 40 = .ok (.istore 5, 2) := by decide +kernel
theorem dX8_blend_42 : decode cX8_blend 42 = .ok (.aload_n 0, 1) := by decide +kernel
theorem dX8_blend_43 : decode cX8_blend 43 = .ok (.getfield 20, 3) := by decide +kernel
theorem dX8_blend_46 : decode cX8_blend 46 = .ok (.iload 5, 2) := by decide +kernel
theorem dX8_blend_48 : decode cX8_blend 48 = .ok (.invokevirtual 103, 3) := by decide +kernel
theorem dX8_blend_51 : decode cX8_blend 51 = .ok (.istore_n 3, 1) := by decide +kernel
theorem dX8_blend_52 : decode cX8_blend 52 = .ok (.aload_n 1, 1) := by decide +kernel
theorem dX8_blend_53 : decode cX8_blend 53 = .ok (.aload_n 0, 1) := by decide +kernel
theorem dX8_blend_54 : decode cX8_blend 54 = .ok (.getfield 20, 3) := by decide +kernel
theorem dX8_blend_57 : decode cX8_blend 57 = .ok (.iload 5, 2) := by decide +kernel
theorem dX8_blend_59 : decode cX8_blend 59 = .ok (.invokevirtual 106, 3) := by decide +kernel
theorem dX8_blend_62 : decode cX8_blend 62 = .ok (.invokevirtual 110, 3) := by decide +kernel
theorem dX8_blend_65 : decode cX8_blend 65 = .ok (.iinc 4 (-1), 3) := by decide +kernel
theorem dX8_blend_68 : decode cX8_blend 68 = .ok (.goto (-45), 3) := by decide +kernel
theorem dX8_blend_71 : decode cX8_blend 71 = .ok (.aload_n 1, 1) := by decide +kernel
theorem dX8_blend_72 : decode cX8_blend 72 = .ok (.invokevirtual 113, 3) := by decide +kernel
theorem dX8_blend_75 : decode cX8_blend 75 = .ok (.return_, 1) := by decide +kernel
theorem dX8_mergeInto_0 : decode cX8_mergeInto 0 = .ok (.aload_n 0, 1) := by decide +kernel
theorem dX8_mergeInto_1 : decode cX8_mergeInto 1 = .ok (.getfield 20, 3) := by decide +kernel
theorem dX8_mergeInto_4 : decode cX8_mergeInto 4 = .ok (.getfield 116, 3) := by decide +kernel
theorem dX8_mergeInto_7 : decode cX8_mergeInto 7 = .ok (.aload_n 0, 1) := by decide +kernel
theorem dX8_mergeInto_8 : decode cX8_mergeInto 8 = .ok (.getfield 10, 3) := by decide +kernel
theorem dX8_mergeInto_11 : decode cX8_mergeInto 11 = .ok (.invokevirtual 119, 3) := by decide +kernel
theorem dX8_mergeInto_14 : decode cX8_mergeInto 14 = .ok (.aload_n 0, 1) := by decide +kernel
theorem dX8_mergeInto_15 : decode cX8_mergeInto 15 = .ok (.getfield 20, 3) := by decide +kernel
theorem dX8_mergeInto_18 : decode cX8_mergeInto 18 = .ok (.getfield 123, 3) := by decide +kernel
theorem dX8_mergeInto_21 : decode cX8_mergeInto 21 = .ok (.aload_n 0, 1) := by decide +kernel
theorem dX8_mergeInto_22 : decode cX8_mergeInto 22 = .ok (.getfield 10, 3) := by decide +kernel
theorem dX8_mergeInto_25 : decode cX8_mergeInto 25 = .ok (.invokevirtual 119, 3) := by decide +kernel
theorem dX8_mergeInto_28 : decode cX8_mergeInto 28 = .ok (.aload_n 0, 1) := by decide +kernel
theorem dX8_mergeInto_29 : decode cX8_mergeInto 29 = .ok (.getfield 10, 3) := by decide +kernel
theorem dX8_mergeInto_32 : decode cX8_mergeInto 32 = .ok (.invokevirtual 27, 3) := by decide +kernel
theorem dX8_mergeInto_35 : decode cX8_mergeInto 35 = .ok (.aload_n 0, 1) := by decide +kernel
theorem dX8_mergeInto_36 : decode cX8_mergeInto 36 = .ok (.lload_n 1, 1) := by decide +kernel
theorem dX8_mergeInto_37 : decode cX8_mergeInto 37 = .ok (.iload_n 3, 1) := by decide +kernel
theorem dX8_mergeInto_38 : decode cX8_mergeInto 38 = .ok (.aload_n 0, 1) := by decide +kernel
theorem dX8_mergeInto_39 : decode cX8_mergeInto 39 = .ok (.getfield 24, 3) := by decide +kernel
theorem dX8_mergeInto_42 : decode cX8_mergeInto 42 = .ok (.aload_n 0, 1) := by decide +kernel
theorem dX8_mergeInto_43 : decode cX8_mergeInto 43 = .ok (.getfield 24, 3) := by decide +kernel
theorem dX8_mergeInto_46 : decode cX8_mergeInto 46 = .ok (.invokevirtual 126, 3) := by decide +kernel
theorem dX8_mergeInto_49 : decode cX8_mergeInto 49 = .ok (.return_, 1) := by decide +kernel
theorem dX8_covered_0 : decode cX8_covered 0 = .ok (.aload_n 0, 1) := by decide +kernel
theorem dX8_covered_1 : decode cX8_covered 1 = .ok (.getfield 24, 3) := by decide +kernel
theorem dX8_covered_4 : decode cX8_covered 4 = .ok (.iload_n 1, 1) := by decide +kernel
theorem dX8_covered_5 : decode cX8_covered 5 = .ok (.invokestatic 130, 3) := by decide +kernel
theorem dX8_covered_8 : decode cX8_covered 8 = .ok (.lreturn, 1) := by decide +kernel
theorem dX8_gone_0 : decode cX8_gone 0 = .ok (.aload_n 0, 1) := by decide +kernel
theorem dX8_gone_1 : decode cX8_gone 1 = .ok (.getfield 10, 3) := by decide +kernel
theorem dX8_gone_4 : decode cX8_gone 4 = .ok (.aload_n 0, 1) := by decide +kernel
theorem dX8_gone_5 : decode cX8_gone 5 = .ok (.getfield 24, 3) := by decide +kernel
theorem dX8_gone_8 : decode cX8_gone 8 = .ok (.iload_n 1, 1) := by decide +kernel
theorem dX8_gone_9 : decode cX8_gone 9 = .ok (.invokevirtual 134, 3) := by decide +kernel
theorem dX8_gone_12 : decode cX8_gone 12 = .ok (.lreturn, 1) := by decide +kernel
theorem dX9_number_0 : decode cX9_number 0 = .ok (.iload_n 0, 1) := by decide +kernel
theorem dX9_number_1 : decode cX9_number 1 = .ok (.bipush 8, 2) := by decide +kernel
theorem dX9_number_3 : decode cX9_number 3 = .ok (.iload_n 1, 1) := by decide +kernel
theorem dX9_number_4 : decode cX9_number 4 = .ok (.imul, 1) := by decide +kernel
theorem dX9_number_5 : decode cX9_number 5 = .ok (.iushr, 1) := by decide +kernel
theorem dX9_number_6 : decode cX9_number 6 = .ok (.sipush 255, 3) := by decide +kernel
theorem dX9_number_9 : decode cX9_number 9 = .ok (.iand, 1) := by decide +kernel
theorem dX9_number_10 : decode cX9_number 10 = .ok (.ireturn, 1) := by decide +kernel
theorem dX9_with_0 : decode cX9_with 0 = .ok (.iload_n 0, 1) := by decide +kernel
theorem dX9_with_1 : decode cX9_with 1 = .ok (.sipush 255, 3) := by decide +kernel
theorem dX9_with_4 : decode cX9_with 4 = .ok (.bipush 8, 2) := by decide +kernel
theorem dX9_with_6 : decode cX9_with 6 = .ok (.iload_n 1, 1) := by decide +kernel
theorem dX9_with_7 : decode cX9_with 7 = .ok (.imul, 1) := by decide +kernel
theorem dX9_with_8 : decode cX9_with 8 = .ok (.ishl, 1) := by decide +kernel
theorem dX9_with_9 : decode cX9_with 9 = .ok (.iconst (-1), 1) := by decide +kernel
theorem dX9_with_10 : decode cX9_with 10 = .ok (.ixor, 1) := by decide +kernel
theorem dX9_with_11 : decode cX9_with 11 = .ok (.iand, 1) := by decide +kernel
theorem dX9_with_12 : decode cX9_with 12 = .ok (.iload_n 2, 1) := by decide +kernel
theorem dX9_with_13 : decode cX9_with 13 = .ok (.bipush 8, 2) := by decide +kernel
theorem dX9_with_15 : decode cX9_with 15 = .ok (.iload_n 1, 1) := by decide +kernel
theorem dX9_with_16 : decode cX9_with 16 = .ok (.imul, 1) := by decide +kernel
theorem dX9_with_17 : decode cX9_with 17 = .ok (.ishl, 1) := by decide +kernel
theorem dX9_with_18 : decode cX9_with 18 = .ok (.ior, 1) := by decide +kernel
theorem dX9_with_19 : decode cX9_with 19 = .ok (.ireturn, 1) := by decide +kernel
theorem dX9_greater_0 : decode cX9_greater 0 = .ok (.iconst 0, 1) := by decide +kernel
theorem dX9_greater_1 : decode cX9_greater 1 = .ok (.istore_n 2, 1) := by decide +kernel
theorem dX9_greater_2 : decode cX9_greater 2 = .ok (.iconst 0, 1) := by decide +kernel
theorem dX9_greater_3 : decode cX9_greater 3 = .ok (.istore_n 3, 1) := by decide +kernel
theorem dX9_greater_4 : decode cX9_greater 4 = .ok (.iload_n 3, 1) := by decide +kernel
theorem dX9_greater_5 : decode cX9_greater 5 = .ok (.iconst 4, 1) := by decide +kernel
theorem dX9_greater_6 : decode cX9_greater 6 = .ok (.if_icmp .ge 28, 3) := by decide +kernel
theorem dX9_greater_9 : decode cX9_greater 9 = .ok (.iload_n 2, 1) := by decide +kernel
theorem dX9_greater_10 : decode cX9_greater 10 = .ok (.iload_n 3, 1) := by decide +kernel
theorem dX9_greater_11 : decode cX9_greater 11 = .ok (.iload_n 0, 1) := by decide +kernel
theorem dX9_greater_12 : decode cX9_greater 12 = .ok (.iload_n 3, 1) := by decide +kernel
theorem dX9_greater_13 : decode cX9_greater 13 = .ok (.invokestatic 9, 3) := by decide +kernel
theorem dX9_greater_16 : decode cX9_greater 16 = .ok (.iload_n 1, 1) := by decide +kernel
theorem dX9_greater_17 : decode cX9_greater 17 = .ok (.iload_n 3, 1) := by decide +kernel
theorem dX9_greater_18 : decode cX9_greater 18 = .ok (.invokestatic 9, 3) := by decide +kernel
theorem dX9_greater_21 : decode cX9_greater 21 = .ok (.invokestatic 15, 3) := by decide +kernel
theorem dX9_greater_24 : decode cX9_greater 24 = .ok (.invokestatic 20, 3) := by decide +kernel
theorem dX9_greater_27 : decode cX9_greater 27 = .ok (.istore_n 2, 1) := by decide +kernel
theorem dX9_greater_28 : decode cX9_greater 28 = .ok (.iinc 3 1, 3) := by decide +kernel
theorem dX9_greater_31 : decode cX9_greater 31 = .ok (.goto (-27), 3) := by decide +kernel
theorem dX9_greater_34 : decode cX9_greater 34 = .ok (.iload_n 2, 1) := by decide +kernel
theorem dX9_greater_35 : decode cX9_greater 35 = .ok (.ireturn, 1) := by decide +kernel
theorem dX9_sum_0 : decode cX9_sum 0 = .ok (.iconst 0, 1) := by decide +kernel
theorem dX9_sum_1 : decode cX9_sum 1 = .ok (.istore_n 1, 1) := by decide +kernel
theorem dX9_sum_2 : decode cX9_sum 2 = .ok (.iconst 0, 1) := by decide +kernel
theorem dX9_sum_3 : decode cX9_sum 3 = .ok (.istore_n 2, 1) := by decide +kernel
theorem dX9_sum_4 : decode cX9_sum 4 = .ok (.iload_n 2, 1) := by decide +kernel
theorem dX9_sum_5 : decode cX9_sum 5 = .ok (.iconst 4, 1) := by decide +kernel
theorem dX9_sum_6 : decode cX9_sum 6 = .ok (.if_icmp .ge 17, 3) := by decide +kernel
theorem dX9_sum_9 : decode cX9_sum 9 = .ok (.iload_n 1, 1) := by decide +kernel
theorem dX9_sum_10 : decode cX9_sum 10 = .ok (.iload_n 0, 1) := by decide +kernel
theorem dX9_sum_11 : decode cX9_sum 11 = .ok (.iload_n 2, 1) := by decide +kernel
theorem dX9_sum_12 : decode cX9_sum 12 = .ok (.invokestatic 9, 3) := by decide +kernel
theorem dX9_sum_15 : decode cX9_sum 15 = .ok (.iadd, 1) := by decide +kernel
theorem dX9_sum_16 : decode cX9_sum 16 = .ok (.istore_n 1, 1) := by decide +kernel
theorem dX9_sum_17 : decode cX9_sum 17 = .ok (.iinc 2 1, 3) := by decide +kernel
theorem dX9_sum_20 : decode cX9_sum 20 = .ok (.goto (-16), 3) := by decide +kernel
theorem dX9_sum_23 : decode cX9_sum 23 = .ok (.iload_n 1, 1) := by decide +kernel
theorem dX9_sum_24 : decode cX9_sum 24 = .ok (.ireturn, 1) := by decide +kernel
theorem dX9_aboveZero_0 : decode cX9_aboveZero 0 = .ok (.iconst 0, 1) := by decide +kernel
theorem dX9_aboveZero_1 : decode cX9_aboveZero 1 = .ok (.istore_n 1, 1) := by decide +kernel
theorem dX9_aboveZero_2 : decode cX9_aboveZero 2 = .ok (.iconst 0, 1) := by decide +kernel
theorem dX9_aboveZero_3 : decode cX9_aboveZero 3 = .ok (.istore_n 2, 1) := by decide +kernel
theorem dX9_aboveZero_4 : decode cX9_aboveZero 4 = .ok (.iload_n 2, 1) := by decide +kernel
theorem dX9_aboveZero_5 : decode cX9_aboveZero 5 = .ok (.iconst 4, 1) := by decide +kernel
theorem dX9_aboveZero_6 : decode cX9_aboveZero 6 = .ok (.if_icmp .ge 25, 3) := by decide +kernel
theorem dX9_aboveZero_9 : decode cX9_aboveZero 9 = .ok (.iload_n 1, 1) := by decide +kernel
theorem dX9_aboveZero_10 : decode cX9_aboveZero 10 = .ok (.iload_n 0, 1) := by decide +kernel
theorem dX9_aboveZero_11 : decode cX9_aboveZero 11 = .ok (.iload_n 2, 1) := by decide +kernel
theorem dX9_aboveZero_12 : decode cX9_aboveZero 12 = .ok (.invokestatic 9, 3) := by decide +kernel
theorem dX9_aboveZero_15 : decode cX9_aboveZero 15 = .ok (.ifCond .le 7, 3) := by decide +kernel
theorem dX9_aboveZero_18 : decode cX9_aboveZero 18 = .ok (.iconst 1, 1) := by decide +kernel
theorem dX9_aboveZero_19 : decode cX9_aboveZero 19 = .ok (.goto 4, 3) := by decide +kernel
theorem dX9_aboveZero_22 : decode cX9_aboveZero 22 = .ok (.iconst 0, 1) := by decide +kernel
theorem dX9_aboveZero_23 : decode cX9_aboveZero 23 = .ok (.iadd, 1) := by decide +kernel
theorem dX9_aboveZero_24 : decode cX9_aboveZero 24 = .ok (.istore_n 1, 1) := by decide +kernel
theorem dX9_aboveZero_25 : decode cX9_aboveZero 25 = .ok (.iinc 2 1, 3) := by decide +kernel
theorem dX9_aboveZero_28 : decode cX9_aboveZero 28 = .ok (.goto (-24), 3) := by decide +kernel
theorem dX9_aboveZero_31 : decode cX9_aboveZero 31 = .ok (.iload_n 1, 1) := by decide +kernel
theorem dX9_aboveZero_32 : decode cX9_aboveZero 32 = .ok (.ireturn, 1) := by decide +kernel
theorem dX10_init_0 : decode cX10_init 0 = .ok (.aload_n 0, 1) := by decide +kernel
theorem dX10_init_1 : decode cX10_init 1 = .ok (.invokespecial 3, 3) := by decide +kernel
theorem dX10_init_4 : decode cX10_init 4 = .ok (.aload_n 0, 1) := by decide +kernel
theorem dX10_init_5 : decode cX10_init 5 = .ok (.bipush 100, 2) := by decide +kernel
theorem dX10_init_7 : decode cX10_init 7 = .ok (.newarray .int, 2) := by decide +kernel
theorem dX10_init_9 : decode cX10_init 9 = .ok (.putfield 9, 3) := by decide +kernel
theorem dX10_init_12 : decode cX10_init 12 = .ok (.return_, 1) := by decide +kernel
theorem dX10_isFull_0 : decode cX10_isFull 0 = .ok (.aload_n 0, 1) := by decide +kernel
theorem dX10_isFull_1 : decode cX10_isFull 1 = .ok (.getfield 15, 3) := by decide +kernel
theorem dX10_isFull_4 : decode cX10_isFull 4 = .ok (.aload_n 0, 1) := by decide +kernel
theorem dX10_isFull_5 : decode cX10_isFull 5 = .ok (.getfield 9, 3) := by decide +kernel
theorem dX10_isFull_8 : decode cX10_isFull 8 = .ok (.arraylength, 1) := by decide +kernel
theorem dX10_isFull_9 : decode cX10_isFull 9 = .ok (.if_icmp .lt 7, 3) := by decide +kernel
theorem dX10_isFull_12 : decode cX10_isFull 12 = .ok (.iconst 1, 1) := by decide +kernel
theorem dX10_isFull_13 : decode cX10_isFull 13 = .ok (.goto 4, 3) := by decide +kernel
theorem dX10_isFull_16 : decode cX10_isFull 16 = .ok (.iconst 0, 1) := by decide +kernel
theorem dX10_isFull_17 : decode cX10_isFull 17 = .ok (.ireturn, 1) := by decide +kernel
theorem dX10_append_0 : decode cX10_append 0 = .ok (.aload_n 0, 1) := by decide +kernel
theorem dX10_append_1 : decode cX10_append 1 = .ok (.getfield 15, 3) := by decide +kernel
theorem dX10_append_4 : decode cX10_append 4 = .ok (.aload_n 0, 1) := by decide +kernel
theorem dX10_append_5 : decode cX10_append 5 = .ok (.getfield 9, 3) := by decide +kernel
theorem dX10_append_8 : decode cX10_append 8 = .ok (.arraylength, 1) := by decide +kernel
theorem dX10_append_9 : decode cX10_append 9 = .ok (.if_icmp .ge 23, 3) := by decide +kernel
theorem dX10_append_12 : decode cX10_append 12 = .ok (.aload_n 0, 1) := by decide +kernel
theorem dX10_append_13 : decode cX10_append 13 = .ok (.getfield 9, 3) := by decide +kernel
theorem dX10_append_16 : decode cX10_append 16 = .ok (.aload_n 0, 1) := by decide +kernel
theorem dX10_append_17 : decode cX10_append 17 = .ok (.getfield 15, 3) := by decide +kernel
theorem dX10_append_20 : decode cX10_append 20 = .ok (.iload_n 1, 1) := by decide +kernel
theorem dX10_append_21 : decode cX10_append 21 = .ok (.iastore, 1) := by decide +kernel
theorem dX10_append_22 : decode cX10_append 22 = .ok (.aload_n 0, 1) := by decide +kernel
theorem dX10_append_23 : decode cX10_append 23 = .ok (.dup, 1) := by decide +kernel
theorem dX10_append_24 : decode cX10_append 24 = .ok (.getfield 15, 3) := by decide +kernel
theorem dX10_append_27 : decode cX10_append 27 = .ok (.iconst 1, 1) := by decide +kernel
theorem dX10_append_28 : decode cX10_append 28 = .ok (.iadd, 1) := by decide +kernel
theorem dX10_append_29 : decode cX10_append 29 = .ok (.putfield 15, 3) := by decide +kernel
theorem dX10_append_32 : decode cX10_append 32 = .ok (.return_, 1) := by decide +kernel
theorem dX10_empty_0 : decode cX10_empty 0 = .ok (.aload_n 0, 1) := by decide +kernel
theorem dX10_empty_1 : decode cX10_empty 1 = .ok (.iconst 0, 1) := by decide +kernel
theorem dX10_empty_2 : decode cX10_empty 2 = .ok (.putfield 15, 3) := by decide +kernel
theorem dX10_empty_5 : decode cX10_empty 5 = .ok (.return_, 1) := by decide +kernel
theorem dX10_rewind_0 : decode cX10_rewind 0 = .ok (.aload_n 0, 1) := by decide +kernel
theorem dX10_rewind_1 : decode cX10_rewind 1 = .ok (.iconst 0, 1) := by decide +kernel
theorem dX10_rewind_2 : decode cX10_rewind 2 = .ok (.putfield 19, 3) := by decide +kernel
theorem dX10_rewind_5 : decode cX10_rewind 5 = .ok (.return_, 1) := by decide +kernel
theorem dX10_step_0 : decode cX10_step 0 = .ok (.aload_n 0, 1) := by decide +kernel
theorem dX10_step_1 : decode cX10_step 1 = .ok (.aload_n 0, 1) := by decide +kernel
theorem dX10_step_2 : decode cX10_step 2 = .ok (.getfield 19, 3) := by decide +kernel
theorem dX10_step_5 : decode cX10_step 5 = .ok (.putfield 22, 3) := by decide +kernel
theorem dX10_step_8 : decode cX10_step 8 = .ok (.aload_n 0, 1) := by decide +kernel
theorem dX10_step_9 : decode cX10_step 9 = .ok (.getfield 22, 3) := by decide +kernel
theorem dX10_step_12 : decode cX10_step 12 = .ok (.aload_n 0, 1) := by decide +kernel
theorem dX10_step_13 : decode cX10_step 13 = .ok (.getfield 15, 3) := by decide +kernel
theorem dX10_step_16 : decode cX10_step 16 = .ok (.if_icmp .ge 28, 3) := by decide +kernel
theorem dX10_step_19 : decode cX10_step 19 = .ok (.aload_n 0, 1) := by decide +kernel
theorem dX10_step_20 : decode cX10_step 20 = .ok (.aload_n 0, 1) := by decide +kernel
theorem dX10_step_21 : decode cX10_step 21 = .ok (.getfield 22, 3) := by decide +kernel
theorem dX10_step_24 : decode cX10_step 24 = .ok (.invokevirtual 25, 3) := by decide +kernel
theorem dX10_step_27 : decode cX10_step 27 = .ok (.iconst 4, 1) := by decide +kernel
theorem dX10_step_28 : decode cX10_step 28 = .ok (.if_icmp .ne 16, 3) := by decide +kernel
theorem dX10_step_31 : decode cX10_step 31 = .ok (.aload_n 0, 1) := by decide +kernel
theorem dX10_step_32 : decode cX10_step 32 = .ok (.dup, 1) := by decide +kernel
theorem dX10_step_33 : decode cX10_step 33 = .ok (.getfield 22, 3) := by decide +kernel
theorem dX10_step_36 : decode cX10_step 36 = .ok (.iconst 1, 1) := by decide +kernel
theorem dX10_step_37 : decode cX10_step 37 = .ok (.iadd, 1) := by decide +kernel
theorem dX10_step_38 : decode cX10_step 38 = .ok (.putfield 22, 3) := by decide +kernel
theorem dX10_step_41 : decode cX10_step 41 = .ok (.goto (-33), 3) := by decide +kernel
theorem dX10_step_44 : decode cX10_step 44 = .ok (.aload_n 0, 1) := by decide +kernel
theorem dX10_step_45 : decode cX10_step 45 = .ok (.aload_n 0, 1) := by decide +kernel
theorem dX10_step_46 : decode cX10_step 46 = .ok (.aload_n 0, 1) := by decide +kernel
theorem dX10_step_47 : decode cX10_step 47 = .ok (.getfield 22, 3) := by decide +kernel
theorem dX10_step_50 : decode cX10_step 50 = .ok (.invokevirtual 25, 3) := by decide +kernel
theorem dX10_step_53 : decode cX10_step 53 = .ok (.putfield 29, 3) := by decide +kernel
theorem dX10_step_56 : decode cX10_step 56 = .ok (.aload_n 0, 1) := by decide +kernel
theorem dX10_step_57 : decode cX10_step 57 = .ok (.aload_n 0, 1) := by decide +kernel
theorem dX10_step_58 : decode cX10_step 58 = .ok (.getfield 22, 3) := by decide +kernel
theorem dX10_step_61 : decode cX10_step 61 = .ok (.iconst 1, 1) := by decide +kernel
theorem dX10_step_62 : decode cX10_step 62 = .ok (.iadd, 1) := by decide +kernel
theorem dX10_step_63 : decode cX10_step 63 = .ok (.aload_n 0, 1) := by decide +kernel
theorem dX10_step_64 : decode cX10_step 64 = .ok (.getfield 15, 3) := by decide +kernel
theorem dX10_step_67 : decode cX10_step 67 = .ok (.invokestatic 32, 3) := by decide +kernel
theorem dX10_step_70 : decode cX10_step 70 = .ok (.putfield 19, 3) := by decide +kernel
theorem dX10_step_73 : decode cX10_step 73 = .ok (.aload_n 0, 1) := by decide +kernel
theorem dX10_step_74 : decode cX10_step 74 = .ok (.getfield 29, 3) := by decide +kernel
theorem dX10_step_77 : decode cX10_step 77 = .ok (.iconst 1, 1) := by decide +kernel
theorem dX10_step_78 : decode cX10_step 78 = .ok (.if_icmp .eq 11, 3) := by decide +kernel
theorem dX10_step_81 : decode cX10_step 81 = .ok (.aload_n 0, 1) := by decide +kernel
theorem dX10_step_82 : decode cX10_step 82 = .ok (.getfield 29, 3) := by decide +kernel
theorem dX10_step_85 : decode cX10_step 85 = .ok (.iconst 2, 1) := by decide +kernel
theorem dX10_step_86 : decode cX10_step 86 = .ok (.if_icmp .ne 7, 3) := by decide +kernel
theorem dX10_step_89 : decode cX10_step 89 = .ok (.iconst 1, 1) := by decide +kernel
theorem dX10_step_90 : decode cX10_step 90 = .ok (.goto 4, 3) := by decide +kernel
theorem dX10_step_93 : decode cX10_step 93 = .ok (.iconst 0, 1) := by decide +kernel
theorem dX10_step_94 : decode cX10_step 94 = .ok (.istore_n 1, 1) := by decide +kernel
theorem dX10_step_95 : decode cX10_step 95 = .ok (.iload_n 1, 1) := by decide +kernel
theorem dX10_step_96 : decode cX10_step 96 = .ok (.ifCond .eq 42, 3) := by decide +kernel
theorem dX10_step_99 : decode cX10_step 99 = .ok (.aload_n 0, 1) := by decide +kernel
theorem dX10_step_100 : decode cX10_step 100 = .ok (.getfield 19, 3) := by decide +kernel
theorem dX10_step_103 : decode cX10_step 103 = .ok (.aload_n 0, 1) := by decide +kernel
theorem dX10_step_104 : decode cX10_step 104 = .ok (.getfield 15, 3) := by decide +kernel
theorem dX10_step_107 : decode cX10_step 107 = .ok (.if_icmp .ge 31, 3) := by decide +kernel
theorem dX10_step_110 : decode cX10_step 110 = .ok (.aload_n 0, 1) := by decide +kernel
theorem dX10_step_111 : decode cX10_step 111 = .ok (.aload_n 0, 1) := by decide +kernel
theorem dX10_step_112 : decode cX10_step 112 = .ok (.getfield 19, 3) := by decide +kernel
theorem dX10_step_115 : decode cX10_step 115 = .ok (.invokevirtual 25, 3) := by decide +kernel
theorem dX10_step_118 : decode cX10_step 118 = .ok (.aload_n 0, 1) := by decide +kernel
theorem dX10_step_119 : decode cX10_step 119 = .ok (.getfield 29, 3) := by decide +kernel
theorem dX10_step_122 : decode cX10_step 122 = .ok (.if_icmp .ne 16, 3) := by decide +kernel
theorem dX10_step_125 : decode cX10_step 125 = .ok (.aload_n 0, 1) := by decide +kernel
theorem dX10_step_126 : decode cX10_step 126 = .ok (.dup, 1) := by decide +kernel
theorem dX10_step_127 : decode cX10_step 127 = .ok (.getfield 19, 3) := by decide +kernel
theorem dX10_step_130 : decode cX10_step 130 = .ok (.iconst 1, 1) := by decide +kernel
theorem dX10_step_131 : decode cX10_step 131 = .ok (.iadd, 1) := by decide +kernel
theorem dX10_step_132 : decode cX10_step 132 = .ok (.putfield 19, 3) := by decide +kernel
theorem dX10_step_135 : decode cX10_step 135 = .ok (.goto (-40), 3) := by decide +kernel
theorem dX10_step_138 : decode cX10_step 138 = .ok (.return_, 1) := by decide +kernel
theorem dX10_isWord_0 : decode cX10_isWord 0 = .ok (.aload_n 0, 1) := by decide +kernel
theorem dX10_isWord_1 : decode cX10_isWord 1 = .ok (.getfield 29, 3) := by decide +kernel
theorem dX10_isWord_4 : decode cX10_isWord 4 = .ok (.iconst 1, 1) := by decide +kernel
theorem dX10_isWord_5 : decode cX10_isWord 5 = .ok (.if_icmp .ne 19, 3) := by decide +kernel
theorem dX10_isWord_8 : decode cX10_isWord 8 = .ok (.aload_n 0, 1) := by decide +kernel
theorem dX10_isWord_9 : decode cX10_isWord 9 = .ok (.getfield 19, 3) := by decide +kernel
theorem dX10_isWord_12 : decode cX10_isWord 12 = .ok (.aload_n 0, 1) := by decide +kernel
theorem dX10_isWord_13 : decode cX10_isWord 13 = .ok (.getfield 22, 3) := by decide +kernel
theorem dX10_isWord_16 : decode cX10_isWord 16 = .ok (.isub, 1) := by decide +kernel
theorem dX10_isWord_17 : decode cX10_isWord 17 = .ok (.aload_n 1, 1) := by decide +kernel
theorem dX10_isWord_18 : decode cX10_isWord 18 = .ok (.invokevirtual 38, 3) := by decide +kernel
theorem dX10_isWord_21 : decode cX10_isWord 21 = .ok (.if_icmp .eq 5, 3) := by decide +kernel
theorem dX10_isWord_24 : decode cX10_isWord 24 = .ok (.iconst 0, 1) := by decide +kernel
theorem dX10_isWord_25 : decode cX10_isWord 25 = .ok (.ireturn, 1) := by decide +kernel
theorem dX10_isWord_26 : decode cX10_isWord 26 = .ok (.iconst 0, 1) := by decide +kernel
theorem dX10_isWord_27 : decode cX10_isWord 27 = .ok (.istore_n 2, 1) := by decide +kernel
theorem dX10_isWord_28 : decode cX10_isWord 28 = .ok (.iload_n 2, 1) := by decide +kernel
theorem dX10_isWord_29 : decode cX10_isWord 29 = .ok (.aload_n 1, 1) := by decide +kernel
theorem dX10_isWord_30 : decode cX10_isWord 30 = .ok (.invokevirtual 38, 3) := by decide +kernel
theorem dX10_isWord_33 : decode cX10_isWord 33 = .ok (.if_icmp .ge 29, 3) := by decide +kernel
theorem dX10_isWord_36 : decode cX10_isWord 36 = .ok (.aload_n 0, 1) := by decide +kernel
theorem dX10_isWord_37 : decode cX10_isWord 37 = .ok (.aload_n 0, 1) := by decide +kernel
theorem dX10_isWord_38 : decode cX10_isWord 38 = .ok (.getfield 22, 3) := by decide +kernel
theorem dX10_isWord_41 : decode cX10_isWord 41 = .ok (.iload_n 2, 1) := by decide +kernel
theorem dX10_isWord_42 : decode cX10_isWord 42 = .ok (.iadd, 1) := by decide +kernel
theorem dX10_isWord_43 : decode cX10_isWord 43 = .ok (.invokevirtual 43, 3) := by decide +kernel
theorem dX10_isWord_46 : decode cX10_isWord 46 = .ok (.aload_n 1, 1) := by decide +kernel
theorem dX10_isWord_47 : decode cX10_isWord 47 = .ok (.iload_n 2, 1) := by decide +kernel
theorem dX10_isWord_48 : decode cX10_isWord 48 = .ok (.invokevirtual 46, 3) := by decide +kernel
theorem dX10_isWord_51 : decode cX10_isWord 51 = .ok (.if_icmp .eq 5, 3) := by decide +kernel
theorem dX10_isWord_54 : decode cX10_isWord 54 = .ok (.iconst 0, 1) := by decide +kernel
theorem dX10_isWord_55 : decode cX10_isWord 55 = .ok (.ireturn, 1) := by decide +kernel
theorem dX10_isWord_56 : decode cX10_isWord 56 = .ok (.iinc 2 1, 3) := by decide +kernel
theorem dX10_isWord_59 : decode cX10_isWord 59 = .ok (.goto (-31), 3) := by decide +kernel
theorem dX10_isWord_62 : decode cX10_isWord 62 = .ok (.iconst 1, 1) := by decide +kernel
theorem dX10_isWord_63 : decode cX10_isWord 63 = .ok (.ireturn, 1) := by decide +kernel
theorem dX10_digit_0 : decode cX10_digit 0 = .ok (.aload_n 0, 1) := by decide +kernel
theorem dX10_digit_1 : decode cX10_digit 1 = .ok (.getfield 29, 3) := by decide +kernel
theorem dX10_digit_4 : decode cX10_digit 4 = .ok (.iconst 2, 1) := by decide +kernel
theorem dX10_digit_5 : decode cX10_digit 5 = .ok (.if_icmp .ne 30, 3) := by decide +kernel
theorem dX10_digit_8 : decode cX10_digit 8 = .ok (.aload_n 0, 1) := by decide +kernel
theorem dX10_digit_9 : decode cX10_digit 9 = .ok (.getfield 19, 3) := by decide +kernel
theorem dX10_digit_12 : decode cX10_digit 12 = .ok (.aload_n 0, 1) := by decide +kernel
theorem dX10_digit_13 : decode cX10_digit 13 = .ok (.getfield 22, 3) := by decide +kernel
theorem dX10_digit_16 : decode cX10_digit 16 = .ok (.isub, 1) := by decide +kernel
theorem dX10_digit_17 : decode cX10_digit 17 = .ok (.iconst 1, 1) := by decide +kernel
theorem dX10_digit_18 : decode cX10_digit 18 = .ok (.if_icmp .ne 17, 3) := by decide +kernel
theorem dX10_digit_21 : decode cX10_digit 21 = .ok (.aload_n 0, 1) := by decide +kernel
theorem dX10_digit_22 : decode cX10_digit 22 = .ok (.aload_n 0, 1) := by decide +kernel
theorem dX10_digit_23 : decode cX10_digit 23 = .ok (.getfield 22, 3) := by decide +kernel
theorem dX10_digit_26 : decode cX10_digit 26 = .ok (.invokevirtual 43, 3) := by decide +kernel
theorem dX10_digit_29 : decode cX10_digit 29 = .ok (.bipush 48, 2) := by decide +kernel
theorem dX10_digit_31 : decode cX10_digit 31 = .ok (.isub, 1) := by decide +kernel
theorem dX10_digit_32 : decode cX10_digit 32 = .ok (.goto 4, 3) := by decide +kernel
theorem dX10_digit_35 : decode cX10_digit 35 = .ok (.iconst (-1), 1) := by decide +kernel
theorem dX10_digit_36 : decode cX10_digit 36 = .ok (.ireturn, 1) := by decide +kernel
theorem dX10_byteAt_0 : decode cX10_byteAt 0 = .ok (.iload_n 1, 1) := by decide +kernel
theorem dX10_byteAt_1 : decode cX10_byteAt 1 = .ok (.ifCond .lt 29, 3) := by decide +kernel
theorem dX10_byteAt_4 : decode cX10_byteAt 4 = .ok (.iload_n 1, 1) := by decide +kernel
theorem dX10_byteAt_5 : decode cX10_byteAt 5 = .ok (.aload_n 0, 1) := by decide +kernel
theorem dX10_byteAt_6 : decode cX10_byteAt 6 = .ok (.getfield 15, 3) := by decide +kernel
theorem dX10_byteAt_9 : decode cX10_byteAt 9 = .ok (.if_icmp .ge 21, 3) := by decide +kernel
theorem dX10_byteAt_12 : decode cX10_byteAt 12 = .ok (.iload_n 1, 1) := by decide +kernel
theorem dX10_byteAt_13 : decode cX10_byteAt 13 = .ok (.aload_n 0, 1) := by decide +kernel
theorem dX10_byteAt_14 : decode cX10_byteAt 14 = .ok (.getfield 9, 3) := by decide +kernel
theorem dX10_byteAt_17 : decode cX10_byteAt 17 = .ok (.arraylength, 1) := by decide +kernel
theorem dX10_byteAt_18 : decode cX10_byteAt 18 = .ok (.if_icmp .ge 12, 3) := by decide +kernel
theorem dX10_byteAt_21 : decode cX10_byteAt 21 = .ok (.aload_n 0, 1) := by decide +kernel
theorem dX10_byteAt_22 : decode cX10_byteAt 22 = .ok (.getfield 9, 3) := by decide +kernel
theorem dX10_byteAt_25 : decode cX10_byteAt 25 = .ok (.iload_n 1, 1) := by decide +kernel
theorem dX10_byteAt_26 : decode cX10_byteAt 26 = .ok (.iaload, 1) := by decide +kernel
theorem dX10_byteAt_27 : decode cX10_byteAt 27 = .ok (.goto 4, 3) := by decide +kernel
theorem dX10_byteAt_30 : decode cX10_byteAt 30 = .ok (.iconst (-1), 1) := by decide +kernel
theorem dX10_byteAt_31 : decode cX10_byteAt 31 = .ok (.ireturn, 1) := by decide +kernel
theorem dX10_sortAt_0 : decode cX10_sortAt 0 = .ok (.aload_n 0, 1) := by decide +kernel
theorem dX10_sortAt_1 : decode cX10_sortAt 1 = .ok (.iload_n 1, 1) := by decide +kernel
theorem dX10_sortAt_2 : decode cX10_sortAt 2 = .ok (.invokevirtual 43, 3) := by decide +kernel
theorem dX10_sortAt_5 : decode cX10_sortAt 5 = .ok (.istore_n 2, 1) := by decide +kernel
theorem dX10_sortAt_6 : decode cX10_sortAt 6 = .ok (.iload_n 2, 1) := by decide +kernel
theorem dX10_sortAt_7 : decode cX10_sortAt 7 = .ok (.ifCond .ge 5, 3) := by decide +kernel
theorem dX10_sortAt_10 : decode cX10_sortAt 10 = .ok (.iconst 0, 1) := by decide +kernel
theorem dX10_sortAt_11 : decode cX10_sortAt 11 = .ok (.ireturn, 1) := by decide +kernel
theorem dX10_sortAt_12 : decode cX10_sortAt 12 = .ok (.iload_n 2, 1) := by decide +kernel
theorem dX10_sortAt_13 : decode cX10_sortAt 13 = .ok (.bipush 97, 2) := by decide +kernel
theorem dX10_sortAt_15 : decode cX10_sortAt 15 = .ok (.if_icmp .lt 11, 3) := by decide +kernel
theorem dX10_sortAt_18 : decode cX10_sortAt 18 = .ok (.iload_n 2, 1) := by decide +kernel
theorem dX10_sortAt_19 : decode cX10_sortAt 19 = .ok (.bipush 122, 2) := by decide +kernel
theorem dX10_sortAt_21 : decode cX10_sortAt 21 = .ok (.if_icmp .gt 5, 3) := by decide +kernel
theorem dX10_sortAt_24 : decode cX10_sortAt 24 = .ok (.iconst 1, 1) := by decide +kernel
theorem dX10_sortAt_25 : decode cX10_sortAt 25 = .ok (.ireturn, 1) := by decide +kernel
theorem dX10_sortAt_26 : decode cX10_sortAt 26 = .ok (.iload_n 2, 1) := by decide +kernel
theorem dX10_sortAt_27 : decode cX10_sortAt 27 = .ok (.bipush 48, 2) := by decide +kernel
theorem dX10_sortAt_29 : decode cX10_sortAt 29 = .ok (.if_icmp .lt 11, 3) := by decide +kernel
theorem dX10_sortAt_32 : decode cX10_sortAt 32 = .ok (.iload_n 2, 1) := by decide +kernel
theorem dX10_sortAt_33 : decode cX10_sortAt 33 = .ok (.bipush 57, 2) := by decide +kernel
theorem dX10_sortAt_35 : decode cX10_sortAt 35 = .ok (.if_icmp .gt 5, 3) := by decide +kernel
theorem dX10_sortAt_38 : decode cX10_sortAt 38 = .ok (.iconst 2, 1) := by decide +kernel
theorem dX10_sortAt_39 : decode cX10_sortAt 39 = .ok (.ireturn, 1) := by decide +kernel
theorem dX10_sortAt_40 : decode cX10_sortAt 40 = .ok (.iload_n 2, 1) := by decide +kernel
theorem dX10_sortAt_41 : decode cX10_sortAt 41 = .ok (.bipush 59, 2) := by decide +kernel
theorem dX10_sortAt_43 : decode cX10_sortAt 43 = .ok (.if_icmp .ne 5, 3) := by decide +kernel
theorem dX10_sortAt_46 : decode cX10_sortAt 46 = .ok (.iconst 3, 1) := by decide +kernel
theorem dX10_sortAt_47 : decode cX10_sortAt 47 = .ok (.ireturn, 1) := by decide +kernel
theorem dX10_sortAt_48 : decode cX10_sortAt 48 = .ok (.iload_n 2, 1) := by decide +kernel
theorem dX10_sortAt_49 : decode cX10_sortAt 49 = .ok (.bipush 32, 2) := by decide +kernel
theorem dX10_sortAt_51 : decode cX10_sortAt 51 = .ok (.if_icmp .ne 7, 3) := by decide +kernel
theorem dX10_sortAt_54 : decode cX10_sortAt 54 = .ok (.iconst 4, 1) := by decide +kernel
theorem dX10_sortAt_55 : decode cX10_sortAt 55 = .ok (.goto 4, 3) := by decide +kernel
theorem dX10_sortAt_58 : decode cX10_sortAt 58 = .ok (.iconst 5, 1) := by decide +kernel
theorem dX10_sortAt_59 : decode cX10_sortAt 59 = .ok (.ireturn, 1) := by decide +kernel
theorem dX11_init_0 : decode cX11_init 0 = .ok (.aload_n 0, 1) := by decide +kernel
theorem dX11_init_1 : decode cX11_init 1 = .ok (.invokespecial 3, 3) := by decide +kernel
theorem dX11_init_4 : decode cX11_init 4 = .ok (.aload_n 0, 1) := by decide +kernel
theorem dX11_init_5 : decode cX11_init 5 = .ok (.new 9, 3) := by decide +kernel
theorem dX11_init_8 : decode cX11_init 8 = .ok (.dup, 1) := by decide +kernel
theorem dX11_init_9 : decode cX11_init 9 = .ok (.invokespecial 11, 3) := by decide +kernel
theorem dX11_init_12 : decode cX11_init 12 = .ok (.putfield 12, 3) := by decide +kernel
theorem dX11_init_15 : decode cX11_init 15 = .ok (.aload_n 0, 1) := by decide +kernel
theorem dX11_init_16 : decode cX11_init 16 = .ok (.new 16, 3) := by decide +kernel
theorem dX11_init_19 : decode cX11_init 19 = .ok (.dup, 1) := by decide +kernel
theorem dX11_init_20 : decode cX11_init 20 = .ok (.invokespecial 18, 3) := by decide +kernel
theorem dX11_init_23 : decode cX11_init 23 = .ok (.putfield 19, 3) := by decide +kernel
theorem dX11_init_26 : decode cX11_init 26 = .ok (.aload_n 0, 1) := by decide +kernel
theorem dX11_init_27 : decode cX11_init 27 = .ok (.iconst 4, 1) := by decide +kernel
theorem dX11_init_28 : decode cX11_init 28 = .ok (.anewarray 23, 3) := by decide +kernel
theorem dX11_init_31 : decode cX11_init 31 = .ok (.putfield 25, 3) := by decide +kernel
theorem dX11_init_34 : decode cX11_init 34 = .ok (.aload_n 0, 1) := by decide +kernel
theorem dX11_init_35 : decode cX11_init 35 = .ok (.iconst 4, 1) := by decide +kernel
theorem dX11_init_36 : decode cX11_init 36 = .ok (.anewarray 29, 3) := by decide +kernel
theorem dX11_init_39 : decode cX11_init 39 = .ok (.putfield 31, 3) := by decide +kernel
theorem dX11_init_42 : decode cX11_init 42 = .ok (.aload_n 0, 1) := by decide +kernel
theorem dX11_init_43 : decode cX11_init 43 = .ok (.new 35, 3) := by decide +kernel
theorem dX11_init_46 : decode cX11_init 46 = .ok (.dup, 1) := by decide +kernel
theorem dX11_init_47 : decode cX11_init 47 = .ok (.invokespecial 37, 3) := by decide +kernel
theorem dX11_init_50 : decode cX11_init 50 = .ok (.putfield 38, 3) := by decide +kernel
theorem dX11_init_53 : decode cX11_init 53 = .ok (.aload_n 0, 1) := by decide +kernel
theorem dX11_init_54 : decode cX11_init 54 = .ok (.new 42, 3) := by decide +kernel
theorem dX11_init_57 : decode cX11_init 57 = .ok (.dup, 1) := by decide +kernel
theorem dX11_init_58 : decode cX11_init 58 = .ok (.invokespecial 44, 3) := by decide +kernel
theorem dX11_init_61 : decode cX11_init 61 = .ok (.putfield 45, 3) := by decide +kernel
theorem dX11_init_64 : decode cX11_init 64 = .ok (.aload_n 0, 1) := by decide +kernel
theorem dX11_init_65 : decode cX11_init 65 = .ok (.new 49, 3) := by decide +kernel
theorem dX11_init_68 : decode cX11_init 68 = .ok (.dup, 1) := by decide +kernel
theorem dX11_init_69 : decode cX11_init 69 = .ok (.invokespecial 51, 3) := by decide +kernel
theorem dX11_init_72 : decode cX11_init 72 = .ok (.putfield 52, 3) := by decide +kernel
theorem dX11_init_75 : decode cX11_init 75 = .ok (.aload_n 0, 1) := by decide +kernel
theorem dX11_init_76 : decode cX11_init 76 = .ok (.iconst 3, 1) := by decide +kernel
theorem dX11_init_77 : decode cX11_init 77 = .ok (.putfield 56, 3) := by decide +kernel
theorem dX11_init_80 : decode cX11_init 80 = .ok (.aload_n 0, 1) := by decide +kernel
theorem dX11_init_81 : decode cX11_init 81 = .ok (.iconst 4, 1) := by decide +kernel
theorem dX11_init_82 : decode cX11_init 82 = .ok (.putfield 60, 3) := by decide +kernel
theorem dX11_init_85 : decode cX11_init 85 = .ok (.aload_n 0, 1) := by decide +kernel
theorem dX11_init_86 : decode cX11_init 86 = .ok (.iconst 4, 1) := by decide +kernel
theorem dX11_init_87 : decode cX11_init 87 = .ok (.putfield 63, 3) := by decide +kernel
theorem dX11_init_90 : decode cX11_init 90 = .ok (.iconst 0, 1) := by decide +kernel
theorem dX11_init_91 : decode cX11_init 91 = .ok (.istore_n 1, 1) := by decide +kernel
theorem dX11_init_92 : decode cX11_init 92 = .ok (.iload_n 1, 1) := by decide +kernel
theorem dX11_init_93 : decode cX11_init 93 = .ok (.aload_n 0, 1) := by decide +kernel
theorem dX11_init_94 : decode cX11_init 94 = .ok (.getfield 25, 3) := by decide +kernel
theorem dX11_init_97 : decode cX11_init 97 = .ok (.arraylength, 1) := by decide +kernel
theorem dX11_init_98 : decode cX11_init 98 = .ok (.if_icmp .ge 22, 3) := by decide +kernel
theorem dX11_init_101 : decode cX11_init 101 = .ok (.aload_n 0, 1) := by decide +kernel
theorem dX11_init_102 : decode cX11_init 102 = .ok (.getfield 25, 3) := by decide +kernel
theorem dX11_init_105 : decode cX11_init 105 = .ok (.iload_n 1, 1) := by decide +kernel
theorem dX11_init_106 : decode cX11_init 106 = .ok (.new 23, 3) := by decide +kernel
theorem dX11_init_109 : decode cX11_init 109 = .ok (.dup, 1) := by decide +kernel
theorem dX11_init_110 : decode cX11_init 110 = .ok (.invokespecial 66, 3) := by decide +kernel
theorem dX11_init_113 : decode cX11_init 113 = .ok (.aastore, 1) := by decide +kernel
theorem dX11_init_114 : decode cX11_init 114 = .ok (.iinc 1 1, 3) := by decide +kernel
theorem dX11_init_117 : decode cX11_init 117 = .ok (.goto (-25), 3) := by decide +kernel
theorem dX11_init_120 : decode cX11_init 120 = .ok (.iconst 0, 1) := by decide +kernel
theorem dX11_init_121 : decode cX11_init 121 = .ok (.istore_n 1, 1) := by decide +kernel
theorem dX11_init_122 : decode cX11_init 122 = .ok (.iload_n 1, 1) := by decide +kernel
theorem dX11_init_123 : decode cX11_init 123 = .ok (.aload_n 0, 1) := by decide +kernel
theorem dX11_init_124 : decode cX11_init 124 = .ok (.getfield 31, 3) := by decide +kernel
theorem dX11_init_127 : decode cX11_init 127 = .ok (.arraylength, 1) := by decide +kernel
theorem dX11_init_128 : decode cX11_init 128 = .ok (.if_icmp .ge 22, 3) := by decide +kernel
theorem dX11_init_131 : decode cX11_init 131 = .ok (.aload_n 0, 1) := by decide +kernel
theorem dX11_init_132 : decode cX11_init 132 = .ok (.getfield 31, 3) := by decide +kernel
theorem dX11_init_135 : decode cX11_init 135 = .ok (.iload_n 1, 1) := by decide +kernel
theorem dX11_init_136 : decode cX11_init 136 = .ok (.new 29, 3) := by decide +kernel
theorem dX11_init_139 : decode cX11_init 139 = .ok (.dup, 1) := by decide +kernel
theorem dX11_init_140 : decode cX11_init 140 = .ok (.invokespecial 67, 3) := by decide +kernel
theorem dX11_init_143 : decode cX11_init 143 = .ok (.aastore, 1) := by decide +kernel
theorem dX11_init_144 : decode cX11_init 144 = .ok (.iinc 1 1, 3) := by decide +kernel
theorem dX11_init_147 : decode cX11_init 147 = .ok (.goto (-25), 3) := by decide +kernel
theorem dX11_init_150 : decode cX11_init 150 = .ok (.return_, 1) := by decide +kernel
theorem dX11_type_0 : decode cX11_type 0 = .ok (.iload_n 1, 1) := by decide +kernel
theorem dX11_type_1 : decode cX11_type 1 = .ok (.ifCond .lt 10, 3) := by decide +kernel
theorem dX11_type_4 : decode cX11_type 4 = .ok (.iload_n 1, 1) := by decide +kernel
theorem dX11_type_5 : decode cX11_type 5 = .ok (.sipush 255, 3) := by decide +kernel
theorem dX11_type_8 : decode cX11_type 8 = .ok (.if_icmp .le 5, 3) := by decide +kernel
theorem dX11_type_11 : decode cX11_type 11 = .ok (.iconst (-1), 1) := by decide +kernel
theorem dX11_type_12 : decode cX11_type 12 = .ok (.ireturn, 1) := by decide +kernel
theorem dX11_type_13 : decode cX11_type 13 = .ok (.aload_n 0, 1) := by decide +kernel
theorem dX11_type_14 : decode cX11_type 14 = .ok (.getfield 12, 3) := by decide +kernel
theorem dX11_type_17 : decode cX11_type 17 = .ok (.invokevirtual 68, 3) := by decide +kernel
theorem dX11_type_20 : decode cX11_type 20 = .ok (.ifCond .eq 6, 3) := by decide +kernel
theorem dX11_type_23 : decode cX11_type 23 = .ok (.bipush (-3), 2) := by decide +kernel
theorem dX11_type_25 : decode cX11_type 25 = .ok (.ireturn, 1) := by decide +kernel
theorem dX11_type_26 : decode cX11_type 26 = .ok (.aload_n 0, 1) := by decide +kernel
theorem dX11_type_27 : decode cX11_type 27 = .ok (.getfield 12, 3) := by decide +kernel
theorem dX11_type_30 : decode cX11_type 30 = .ok (.iload_n 1, 1) := by decide +kernel
theorem dX11_type_31 : decode cX11_type 31 = .ok (.invokevirtual 72, 3) := by decide +kernel
theorem dX11_type_34 : decode cX11_type 34 = .ok (.aload_n 0, 1) := by decide +kernel
theorem dX11_type_35 : decode cX11_type 35 = .ok (.getfield 12, 3) := by decide +kernel
theorem dX11_type_38 : decode cX11_type 38 = .ok (.getfield 76, 3) := by decide +kernel
theorem dX11_type_41 : decode cX11_type 41 = .ok (.ireturn, 1) := by decide +kernel
theorem dX11_clear_0 : decode cX11_clear 0 = .ok (.aload_n 0, 1) := by decide +kernel
theorem dX11_clear_1 : decode cX11_clear 1 = .ok (.getfield 12, 3) := by decide +kernel
theorem dX11_clear_4 : decode cX11_clear 4 = .ok (.getfield 76, 3) := by decide +kernel
theorem dX11_clear_7 : decode cX11_clear 7 = .ok (.istore_n 1, 1) := by decide +kernel
theorem dX11_clear_8 : decode cX11_clear 8 = .ok (.aload_n 0, 1) := by decide +kernel
theorem dX11_clear_9 : decode cX11_clear 9 = .ok (.getfield 12, 3) := by decide +kernel
theorem dX11_clear_12 : decode cX11_clear 12 = .ok (.invokevirtual 79, 3) := by decide +kernel
theorem dX11_clear_15 : decode cX11_clear 15 = .ok (.iload_n 1, 1) := by decide +kernel
theorem dX11_clear_16 : decode cX11_clear 16 = .ok (.ireturn, 1) := by decide +kernel
theorem dX11_tells_0 : decode cX11_tells 0 = .ok (.aload_n 0, 1) := by decide +kernel
theorem dX11_tells_1 : decode cX11_tells 1 = .ok (.getfield 19, 3) := by decide +kernel
theorem dX11_tells_4 : decode cX11_tells 4 = .ok (.aload_n 0, 1) := by decide +kernel
theorem dX11_tells_5 : decode cX11_tells 5 = .ok (.getfield 12, 3) := by decide +kernel
theorem dX11_tells_8 : decode cX11_tells 8 = .ok (.invokevirtual 82, 3) := by decide +kernel
theorem dX11_tells_11 : decode cX11_tells 11 = .ok (.istore_n 1, 1) := by decide +kernel
theorem dX11_tells_12 : decode cX11_tells 12 = .ok (.iload_n 1, 1) := by decide +kernel
theorem dX11_tells_13 : decode cX11_tells 13 = .ok (.iconst (-1), 1) := by decide +kernel
theorem dX11_tells_14 : decode cX11_tells 14 = .ok (.if_icmp .eq 8, 3) := by decide +kernel
theorem dX11_tells_17 : decode cX11_tells 17 = .ok (.bipush (-10), 2) := by decide +kernel
theorem dX11_tells_19 : decode cX11_tells 19 = .ok (.iload_n 1, 1) := by decide +kernel
theorem dX11_tells_20 : decode cX11_tells 20 = .ok (.isub, 1) := by decide +kernel
theorem dX11_tells_21 : decode cX11_tells 21 = .ok (.ireturn, 1) := by decide +kernel
theorem dX11_tells_22 : decode cX11_tells 22 = .ok (.aload_n 0, 1) := by decide +kernel
theorem dX11_tells_23 : decode cX11_tells 23 = .ok (.getfield 12, 3) := by decide +kernel
theorem dX11_tells_26 : decode cX11_tells 26 = .ok (.invokevirtual 79, 3) := by decide +kernel
theorem dX11_tells_29 : decode cX11_tells 29 = .ok (.aload_n 0, 1) := by decide +kernel
theorem dX11_tells_30 : decode cX11_tells 30 = .ok (.invokevirtual 86, 3) := by decide +kernel
theorem dX11_tells_33 : decode cX11_tells 33 = .ok (.aload_n 0, 1) := by decide +kernel
theorem dX11_tells_34 : decode cX11_tells 34 = .ok (.getfield 19, 3) := by decide +kernel
theorem dX11_tells_37 : decode cX11_tells 37 = .ok (.getfield 89, 3) := by decide +kernel
theorem dX11_tells_40 : decode cX11_tells 40 = .ok (.ireturn, 1) := by decide +kernel
theorem dX11_reads_0 : decode cX11_reads 0 = .ok (.aload_n 0, 1) := by decide +kernel
theorem dX11_reads_1 : decode cX11_reads 1 = .ok (.iload_n 1, 1) := by decide +kernel
theorem dX11_reads_2 : decode cX11_reads 2 = .ok (.invokevirtual 92, 3) := by decide +kernel
theorem dX11_reads_5 : decode cX11_reads 5 = .ok (.astore 4, 2) := by decide +kernel
theorem dX11_reads_7 : decode cX11_reads 7 = .ok (.aload_n 0, 1) := by decide +kernel
theorem dX11_reads_8 : decode cX11_reads 8 = .ok (.iload_n 2, 1) := by decide +kernel
theorem dX11_reads_9 : decode cX11_reads 9 = .ok (.iload_n 3, 1) := by decide +kernel
theorem dX11_reads_10 : decode cX11_reads 10 = .ok (.invokevirtual 96, 3) := by decide +kernel
theorem dX11_reads_13 : decode cX11_reads 13 = .ok (.astore 5, 2) := by decide +kernel
theorem dX11_reads_15 : decode cX11_reads 15 = .ok (.aload 4, 2) := by decide +kernel
theorem dX11_reads_17 : decode cX11_reads 17 = .ok (.ifnull 8, 3) := by decide +kernel
theorem dX11_reads_20 : decode cX11_reads 20 = .ok (.aload 5, 2) := by decide +kernel
theorem dX11_reads_22 : decode cX11_reads 22 = .ok (.ifnonnull 5, 3) := by decide +kernel
theorem dX11_reads_25 : decode cX11_reads 25 = .ok (.iconst (-1), 1) := by decide +kernel
theorem dX11_reads_26 : decode cX11_reads 26 = .ok (.ireturn, 1) := by decide +kernel
theorem dX11_reads_27 : decode cX11_reads 27 = .ok (.aload 4, 2) := by decide +kernel
theorem dX11_reads_29 : decode cX11_reads 29 = .ok (.iload_n 3, 1) := by decide +kernel
theorem dX11_reads_30 : decode cX11_reads 30 = .ok (.putfield 100, 3) := by decide +kernel
theorem dX11_reads_33 : decode cX11_reads 33 = .ok (.aload 4, 2) := by decide +kernel
theorem dX11_reads_35 : decode cX11_reads 35 = .ok (.aload 5, 2) := by decide +kernel
theorem dX11_reads_37 : decode cX11_reads 37 = .ok (.getfield 103, 3) := by decide +kernel
theorem dX11_reads_40 : decode cX11_reads 40 = .ok (.putfield 108, 3) := by decide +kernel
theorem dX11_reads_43 : decode cX11_reads 43 = .ok (.aload 4, 2) := by decide +kernel
theorem dX11_reads_45 : decode cX11_reads 45 = .ok (.aload 5, 2) := by decide +kernel
theorem dX11_reads_47 : decode cX11_reads 47 = .ok (.getfield 111, 3) := by decide +kernel
theorem dX11_reads_50 : decode cX11_reads 50 = .ok (.aload 5, 2) := by decide +kernel
theorem dX11_reads_52 : decode cX11_reads 52 = .ok (.getfield 103, 3) := by decide +kernel
theorem dX11_reads_55 : decode cX11_reads 55 = .ok (.aload_n 0, 1) := by decide +kernel
theorem dX11_reads_56 : decode cX11_reads 56 = .ok (.getfield 63, 3) := by decide +kernel
theorem dX11_reads_59 : decode cX11_reads 59 = .ok (.invokevirtual 115, 3) := by decide +kernel
theorem dX11_reads_62 : decode cX11_reads 62 = .ok (.putfield 121, 3) := by decide +kernel
theorem dX11_reads_65 : decode cX11_reads 65 = .ok (.aload 5, 2) := by decide +kernel
theorem dX11_reads_67 : decode cX11_reads 67 = .ok (.getfield 111, 3) := by decide +kernel
theorem dX11_reads_70 : decode cX11_reads 70 = .ok (.getfield 124, 3) := by decide +kernel
theorem dX11_reads_73 : decode cX11_reads 73 = .ok (.aload 5, 2) := by decide +kernel
theorem dX11_reads_75 : decode cX11_reads 75 = .ok (.getfield 128, 3) := by decide +kernel
theorem dX11_reads_78 : decode cX11_reads 78 = .ok (.invokevirtual 131, 3) := by decide +kernel
theorem dX11_reads_81 : decode cX11_reads 81 = .ok (.aload 5, 2) := by decide +kernel
theorem dX11_reads_83 : decode cX11_reads 83 = .ok (.getfield 128, 3) := by decide +kernel
theorem dX11_reads_86 : decode cX11_reads 86 = .ok (.invokevirtual 137, 3) := by decide +kernel
theorem dX11_reads_89 : decode cX11_reads 89 = .ok (.ireturn, 1) := by decide +kernel
theorem dX11_writes_0 : decode cX11_writes 0 = .ok (.aload_n 0, 1) := by decide +kernel
theorem dX11_writes_1 : decode cX11_writes 1 = .ok (.iload_n 1, 1) := by decide +kernel
theorem dX11_writes_2 : decode cX11_writes 2 = .ok (.invokevirtual 92, 3) := by decide +kernel
theorem dX11_writes_5 : decode cX11_writes 5 = .ok (.astore 7, 2) := by decide +kernel
theorem dX11_writes_7 : decode cX11_writes 7 = .ok (.aload_n 0, 1) := by decide +kernel
theorem dX11_writes_8 : decode cX11_writes 8 = .ok (.iload_n 2, 1) := by decide +kernel
theorem dX11_writes_9 : decode cX11_writes 9 = .ok (.iload_n 3, 1) := by decide +kernel
theorem dX11_writes_10 : decode cX11_writes 10 = .ok (.invokevirtual 96, 3) := by decide +kernel
theorem dX11_writes_13 : decode cX11_writes 13 = .ok (.astore 8, 2) := by decide +kernel
theorem dX11_writes_15 : decode cX11_writes 15 = .ok (.aload 7, 2) := by decide +kernel
theorem dX11_writes_17 : decode cX11_writes 17 = .ok (.ifnull 19, 3) := by decide +kernel
theorem dX11_writes_20 : decode cX11_writes 20 = .ok (.aload 8, 2) := by decide +kernel
theorem dX11_writes_22 : decode cX11_writes 22 = .ok (.ifnull 14, 3) := by decide +kernel
theorem dX11_writes_25 : decode cX11_writes 25 = .ok (.iload 4, 2) := by decide +kernel
theorem dX11_writes_27 : decode cX11_writes 27 = .ok (.ifCond .lt 9, 3) := by decide +kernel
theorem dX11_writes_30 : decode cX11_writes 30 = .ok (.iload 4, 2) := by decide +kernel
theorem dX11_writes_32 : decode cX11_writes 32 = .ok (.iconst 1, 1) := by decide +kernel
theorem dX11_writes_33 : decode cX11_writes 33 = .ok (.if_icmp .le 5, 3) := by decide +kernel
theorem dX11_writes_36 : decode cX11_writes 36 = .ok (.iconst (-1), 1) := by decide +kernel
theorem dX11_writes_37 : decode cX11_writes 37 = .ok (.ireturn, 1) := by decide +kernel
theorem dX11_writes_38 : decode cX11_writes 38 = .ok (.iload 4, 2) := by decide +kernel
theorem dX11_writes_40 : decode cX11_writes 40 = .ok (.iconst 1, 1) := by decide +kernel
theorem dX11_writes_41 : decode cX11_writes 41 = .ok (.if_icmp .ne 12, 3) := by decide +kernel
theorem dX11_writes_44 : decode cX11_writes 44 = .ok (.lload 5, 2) := by decide +kernel
theorem dX11_writes_46 : decode cX11_writes 46 = .ok (.lconst 0, 1) := by decide +kernel
theorem dX11_writes_47 : decode cX11_writes 47 = .ok (.lcmp, 1) := by decide +kernel
theorem dX11_writes_48 : decode cX11_writes 48 = .ok (.ifCond .ge 5, 3) := by decide +kernel
theorem dX11_writes_51 : decode cX11_writes 51 = .ok (.iconst (-1), 1) := by decide +kernel
theorem dX11_writes_52 : decode cX11_writes 52 = .ok (.ireturn, 1) := by decide +kernel
theorem dX11_writes_53 : decode cX11_writes 53 = .ok (.aload 8, 2) := by decide +kernel
theorem dX11_writes_55 : decode cX11_writes 55 = .ok (.invokevirtual 141, 3) := by decide +kernel
theorem dX11_writes_58 : decode cX11_writes 58 = .ok (.istore 9, 2) := by decide +kernel
theorem dX11_writes_60 : decode cX11_writes 60 = .ok (.iload 9, 2) := by decide +kernel
theorem dX11_writes_62 : decode cX11_writes 62 = .ok (.bipush 40, 2) := by decide +kernel
theorem dX11_writes_64 : decode cX11_writes 64 = .ok (.if_icmp .le 6, 3) := by decide +kernel
theorem dX11_writes_67 : decode cX11_writes 67 = .ok (.bipush (-3), 2) := by decide +kernel
theorem dX11_writes_69 : decode cX11_writes 69 = .ok (.ireturn, 1) := by decide +kernel
theorem dX11_writes_70 : decode cX11_writes 70 = .ok (.aload 8, 2) := by decide +kernel
theorem dX11_writes_72 : decode cX11_writes 72 = .ok (.getfield 111, 3) := by decide +kernel
theorem dX11_writes_75 : decode cX11_writes 75 = .ok (.getfield 144, 3) := by decide +kernel
theorem dX11_writes_78 : decode cX11_writes 78 = .ok (.iload 4, 2) := by decide +kernel
theorem dX11_writes_80 : decode cX11_writes 80 = .ok (.if_icmp .eq 6, 3) := by decide +kernel
theorem dX11_writes_83 : decode cX11_writes 83 = .ok (.bipush (-4), 2) := by decide +kernel
theorem dX11_writes_85 : decode cX11_writes 85 = .ok (.ireturn, 1) := by decide +kernel
theorem dX11_writes_86 : decode cX11_writes 86 = .ok (.aload 7, 2) := by decide +kernel
theorem dX11_writes_88 : decode cX11_writes 88 = .ok (.getfield 100, 3) := by decide +kernel
theorem dX11_writes_91 : decode cX11_writes 91 = .ok (.iload_n 3, 1) := by decide +kernel
theorem dX11_writes_92 : decode cX11_writes 92 = .ok (.if_icmp .ne 7, 3) := by decide +kernel
theorem dX11_writes_95 : decode cX11_writes 95 = .ok (.iconst 1, 1) := by decide +kernel
theorem dX11_writes_96 : decode cX11_writes 96 = .ok (.goto 4, 3) := by decide +kernel
theorem dX11_writes_99 : decode cX11_writes 99 = .ok (.iconst 0, 1) := by decide +kernel
theorem dX11_writes_100 : decode cX11_writes 100 = .ok (.istore 10, 2) := by decide +kernel
theorem dX11_writes_102 : decode cX11_writes 102 = .ok (.aload_n 0, 1) := by decide +kernel
theorem dX11_writes_103 : decode cX11_writes 103 = .ok (.dup, 1) := by decide +kernel
theorem dX11_writes_104 : decode cX11_writes 104 = .ok (.getfield 147, 3) := by decide +kernel
theorem dX11_writes_107 : decode cX11_writes 107 = .ok (.iconst 1, 1) := by decide +kernel
theorem dX11_writes_108 : decode cX11_writes 108 = .ok (.iadd, 1) := by decide +kernel
theorem dX11_writes_109 : decode cX11_writes 109 = .ok (.putfield 147, 3) := by decide +kernel
theorem dX11_writes_112 : decode cX11_writes 112 = .ok (.aload 8, 2) := by decide +kernel
theorem dX11_writes_114 : decode cX11_writes 114 = .ok (.lload 5, 2) := by decide +kernel
theorem dX11_writes_116 : decode cX11_writes 116 = .ok (.aload_n 0, 1) := by decide +kernel
theorem dX11_writes_117 : decode cX11_writes 117 = .ok (.getfield 147, 3) := by decide +kernel
theorem dX11_writes_120 : decode cX11_writes 120 = .ok (.iload 10, 2) := by decide +kernel
theorem dX11_writes_122 : decode cX11_writes 122 = .ok (.ifCond .eq 11, 3) := by decide +kernel
theorem dX11_writes_125 : decode cX11_writes 125 = .ok (.aload 7, 2) := by decide +kernel
theorem dX11_writes_127 : decode cX11_writes 127 = .ok (.getfield 121, 3) := by decide +kernel
theorem dX11_writes_130 : decode cX11_writes 130 = .ok (.goto 4, 3) := by decide +kernel
theorem dX11_writes_133 : decode cX11_writes 133 = .ok (.iconst 0, 1) := by decide +kernel
theorem dX11_writes_134 : decode cX11_writes 134 = .ok (.iload 10, 2) := by decide +kernel
theorem dX11_writes_136 : decode cX11_writes 136 = .ok (.ifCond .eq 11, 3) := by decide +kernel
theorem dX11_writes_139 : decode cX11_writes 139 = .ok (.aload 7, 2) := by decide +kernel
theorem dX11_writes_141 : decode cX11_writes 141 = .ok (.getfield 108, 3) := by decide +kernel
theorem dX11_writes_144 : decode cX11_writes 144 = .ok (.goto 4, 3) := by decide +kernel
theorem dX11_writes_147 : decode cX11_writes 147 = .ok (.iconst 0, 1) := by decide +kernel
theorem dX11_writes_148 : decode cX11_writes 148 = .ok (.invokevirtual 150, 3) := by decide +kernel
theorem dX11_writes_151 : decode cX11_writes 151 = .ok (.aload 8, 2) := by decide +kernel
theorem dX11_writes_153 : decode cX11_writes 153 = .ok (.aload_n 0, 1) := by decide +kernel
theorem dX11_writes_154 : decode cX11_writes 154 = .ok (.getfield 60, 3) := by decide +kernel
theorem dX11_writes_157 : decode cX11_writes 157 = .ok (.invokevirtual 154, 3) := by decide +kernel
theorem dX11_writes_160 : decode cX11_writes 160 = .ok (.iload 10, 2) := by decide +kernel
theorem dX11_writes_162 : decode cX11_writes 162 = .ok (.ifCond .eq 8, 3) := by decide +kernel
theorem dX11_writes_165 : decode cX11_writes 165 = .ok (.aload 7, 2) := by decide +kernel
theorem dX11_writes_167 : decode cX11_writes 167 = .ok (.invokevirtual 157, 3) := by decide +kernel
theorem dX11_writes_170 : decode cX11_writes 170 = .ok (.iload 9, 2) := by decide +kernel
theorem dX11_writes_172 : decode cX11_writes 172 = .ok (.ireturn, 1) := by decide +kernel
theorem dX11_blinds_0 : decode cX11_blinds 0 = .ok (.aload_n 0, 1) := by decide +kernel
theorem dX11_blinds_1 : decode cX11_blinds 1 = .ok (.iload_n 1, 1) := by decide +kernel
theorem dX11_blinds_2 : decode cX11_blinds 2 = .ok (.invokevirtual 92, 3) := by decide +kernel
theorem dX11_blinds_5 : decode cX11_blinds 5 = .ok (.astore_n 2, 1) := by decide +kernel
theorem dX11_blinds_6 : decode cX11_blinds 6 = .ok (.aload_n 2, 1) := by decide +kernel
theorem dX11_blinds_7 : decode cX11_blinds 7 = .ok (.ifnonnull 5, 3) := by decide +kernel
theorem dX11_blinds_10 : decode cX11_blinds 10 = .ok (.iconst (-1), 1) := by decide +kernel
theorem dX11_blinds_11 : decode cX11_blinds 11 = .ok (.ireturn, 1) := by decide +kernel
theorem dX11_blinds_12 : decode cX11_blinds 12 = .ok (.aload_n 2, 1) := by decide +kernel
theorem dX11_blinds_13 : decode cX11_blinds 13 = .ok (.invokevirtual 160, 3) := by decide +kernel
theorem dX11_blinds_16 : decode cX11_blinds 16 = .ok (.ifCond .eq 5, 3) := by decide +kernel
theorem dX11_blinds_19 : decode cX11_blinds 19 = .ok (.iconst 0, 1) := by decide +kernel
theorem dX11_blinds_20 : decode cX11_blinds 20 = .ok (.ireturn, 1) := by decide +kernel
theorem dX11_blinds_21 : decode cX11_blinds 21 = .ok (.aload_n 2, 1) := by decide +kernel
theorem dX11_blinds_22 : decode cX11_blinds 22 = .ok (.invokevirtual 157, 3) := by decide +kernel
theorem dX11_blinds_25 : decode cX11_blinds 25 = .ok (.iconst 1, 1) := by decide +kernel
theorem dX11_blinds_26 : decode cX11_blinds 26 = .ok (.ireturn, 1) := by decide +kernel
theorem dX11_sends_0 : decode cX11_sends 0 = .ok (.aload_n 0, 1) := by decide +kernel
theorem dX11_sends_1 : decode cX11_sends 1 = .ok (.iload_n 1, 1) := by decide +kernel
theorem dX11_sends_2 : decode cX11_sends 2 = .ok (.iload_n 3, 1) := by decide +kernel
theorem dX11_sends_3 : decode cX11_sends 3 = .ok (.invokevirtual 96, 3) := by decide +kernel
theorem dX11_sends_6 : decode cX11_sends 6 = .ok (.astore 4, 2) := by decide +kernel
theorem dX11_sends_8 : decode cX11_sends 8 = .ok (.aload_n 0, 1) := by decide +kernel
theorem dX11_sends_9 : decode cX11_sends 9 = .ok (.iload_n 2, 1) := by decide +kernel
theorem dX11_sends_10 : decode cX11_sends 10 = .ok (.iload_n 3, 1) := by decide +kernel
theorem dX11_sends_11 : decode cX11_sends 11 = .ok (.invokevirtual 96, 3) := by decide +kernel
theorem dX11_sends_14 : decode cX11_sends 14 = .ok (.astore 5, 2) := by decide +kernel
theorem dX11_sends_16 : decode cX11_sends 16 = .ok (.aload 4, 2) := by decide +kernel
theorem dX11_sends_18 : decode cX11_sends 18 = .ok (.ifnull 13, 3) := by decide +kernel
theorem dX11_sends_21 : decode cX11_sends 21 = .ok (.aload 5, 2) := by decide +kernel
theorem dX11_sends_23 : decode cX11_sends 23 = .ok (.ifnull 8, 3) := by decide +kernel
theorem dX11_sends_26 : decode cX11_sends 26 = .ok (.iload_n 1, 1) := by decide +kernel
theorem dX11_sends_27 : decode cX11_sends 27 = .ok (.iload_n 2, 1) := by decide +kernel
theorem dX11_sends_28 : decode cX11_sends 28 = .ok (.if_icmp .ne 5, 3) := by decide +kernel
theorem dX11_sends_31 : decode cX11_sends 31 = .ok (.iconst (-1), 1) := by decide +kernel
theorem dX11_sends_32 : decode cX11_sends 32 = .ok (.ireturn, 1) := by decide +kernel
theorem dX11_sends_33 : decode cX11_sends 33 = .ok (.aload 5, 2) := by decide +kernel
theorem dX11_sends_35 : decode cX11_sends 35 = .ok (.aload 4, 2) := by decide +kernel
theorem dX11_sends_37 : decode cX11_sends 37 = .ok (.invokevirtual 163, 3) := by decide +kernel
theorem dX11_sends_40 : decode cX11_sends 40 = .ok (.aload 5, 2) := by decide +kernel
theorem dX11_sends_42 : decode cX11_sends 42 = .ok (.aload_n 0, 1) := by decide +kernel
theorem dX11_sends_43 : decode cX11_sends 43 = .ok (.getfield 60, 3) := by decide +kernel
theorem dX11_sends_46 : decode cX11_sends 46 = .ok (.invokevirtual 154, 3) := by decide +kernel
theorem dX11_sends_49 : decode cX11_sends 49 = .ok (.aload 5, 2) := by decide +kernel
theorem dX11_sends_51 : decode cX11_sends 51 = .ok (.getfield 128, 3) := by decide +kernel
theorem dX11_sends_54 : decode cX11_sends 54 = .ok (.invokevirtual 137, 3) := by decide +kernel
theorem dX11_sends_57 : decode cX11_sends 57 = .ok (.ireturn, 1) := by decide +kernel
theorem dX11_merges_0 : decode cX11_merges 0 = .ok (.aload_n 0, 1) := by decide +kernel
theorem dX11_merges_1 : decode cX11_merges 1 = .ok (.iload_n 1, 1) := by decide +kernel
theorem dX11_merges_2 : decode cX11_merges 2 = .ok (.iload_n 2, 1) := by decide +kernel
theorem dX11_merges_3 : decode cX11_merges 3 = .ok (.invokevirtual 96, 3) := by decide +kernel
theorem dX11_merges_6 : decode cX11_merges 6 = .ok (.astore_n 3, 1) := by decide +kernel
theorem dX11_merges_7 : decode cX11_merges 7 = .ok (.aload_n 3, 1) := by decide +kernel
theorem dX11_merges_8 : decode cX11_merges 8 = .ok (.ifnonnull 5, 3) := by decide +kernel
theorem dX11_merges_11 : decode cX11_merges 11 = .ok (.iconst (-1), 1) := by decide +kernel
theorem dX11_merges_12 : decode cX11_merges 12 = .ok (.ireturn, 1) := by decide +kernel
theorem dX11_merges_13 : decode cX11_merges 13 = .ok (.aload_n 0, 1) := by decide +kernel
theorem dX11_merges_14 : decode cX11_merges 14 = .ok (.getfield 38, 3) := by decide +kernel
theorem dX11_merges_17 : decode cX11_merges 17 = .ok (.iload_n 2, 1) := by decide +kernel
theorem dX11_merges_18 : decode cX11_merges 18 = .ok (.invokevirtual 167, 3) := by decide +kernel
theorem dX11_merges_21 : decode cX11_merges 21 = .ok (.istore 4, 2) := by decide +kernel
theorem dX11_merges_23 : decode cX11_merges 23 = .ok (.iload 4, 2) := by decide +kernel
theorem dX11_merges_25 : decode cX11_merges 25 = .ok (.bipush (-9), 2) := by decide +kernel
theorem dX11_merges_27 : decode cX11_merges 27 = .ok (.if_icmp .eq 14, 3) := by decide +kernel
theorem dX11_merges_30 : decode cX11_merges 30 = .ok (.aload_n 3, 1) := by decide +kernel
theorem dX11_merges_31 : decode cX11_merges 31 = .ok (.getfield 128, 3) := by decide +kernel
theorem dX11_merges_34 : decode cX11_merges 34 = .ok (.invokevirtual 137, 3) := by decide +kernel
theorem dX11_merges_37 : decode cX11_merges 37 = .ok (.iconst 2, 1) := by decide +kernel
theorem dX11_merges_38 : decode cX11_merges 38 = .ok (.if_icmp .ge 6, 3) := by decide +kernel
theorem dX11_merges_41 : decode cX11_merges 41 = .ok (.bipush (-2), 2) := by decide +kernel
theorem dX11_merges_43 : decode cX11_merges 43 = .ok (.ireturn, 1) := by decide +kernel
theorem dX11_merges_44 : decode cX11_merges 44 = .ok (.aload_n 3, 1) := by decide +kernel
theorem dX11_merges_45 : decode cX11_merges 45 = .ok (.invokevirtual 141, 3) := by decide +kernel
theorem dX11_merges_48 : decode cX11_merges 48 = .ok (.istore 5, 2) := by decide +kernel
theorem dX11_merges_50 : decode cX11_merges 50 = .ok (.iload 5, 2) := by decide +kernel
theorem dX11_merges_52 : decode cX11_merges 52 = .ok (.bipush 40, 2) := by decide +kernel
theorem dX11_merges_54 : decode cX11_merges 54 = .ok (.if_icmp .le 6, 3) := by decide +kernel
theorem dX11_merges_57 : decode cX11_merges 57 = .ok (.bipush (-3), 2) := by decide +kernel
theorem dX11_merges_59 : decode cX11_merges 59 = .ok (.ireturn, 1) := by decide +kernel
theorem dX11_merges_60 : decode cX11_merges 60 = .ok (.aload_n 3, 1) := by decide +kernel
theorem dX11_merges_61 : decode cX11_merges 61 = .ok (.aload_n 0, 1) := by decide +kernel
theorem dX11_merges_62 : decode cX11_merges 62 = .ok (.getfield 45, 3) := by decide +kernel
theorem dX11_merges_65 : decode cX11_merges 65 = .ok (.iload 4, 2) := by decide +kernel
theorem dX11_merges_67 : decode cX11_merges 67 = .ok (.invokevirtual 171, 3) := by decide +kernel
theorem dX11_merges_70 : decode cX11_merges 70 = .ok (.aload_n 0, 1) := by decide +kernel
theorem dX11_merges_71 : decode cX11_merges 71 = .ok (.getfield 45, 3) := by decide +kernel
theorem dX11_merges_74 : decode cX11_merges 74 = .ok (.getfield 175, 3) := by decide +kernel
theorem dX11_merges_77 : decode cX11_merges 77 = .ok (.ifCond .eq 6, 3) := by decide +kernel
theorem dX11_merges_80 : decode cX11_merges 80 = .ok (.bipush (-5), 2) := by decide +kernel
theorem dX11_merges_82 : decode cX11_merges 82 = .ok (.ireturn, 1) := by decide +kernel
theorem dX11_merges_83 : decode cX11_merges 83 = .ok (.aload_n 0, 1) := by decide +kernel
theorem dX11_merges_84 : decode cX11_merges 84 = .ok (.dup, 1) := by decide +kernel
theorem dX11_merges_85 : decode cX11_merges 85 = .ok (.getfield 147, 3) := by decide +kernel
theorem dX11_merges_88 : decode cX11_merges 88 = .ok (.iconst 1, 1) := by decide +kernel
theorem dX11_merges_89 : decode cX11_merges 89 = .ok (.iadd, 1) := by decide +kernel
theorem dX11_merges_90 : decode cX11_merges 90 = .ok (.putfield 147, 3) := by decide +kernel
theorem dX11_merges_93 : decode cX11_merges 93 = .ok (.aload_n 3, 1) := by decide +kernel
theorem dX11_merges_94 : decode cX11_merges 94 = .ok (.aload_n 0, 1) := by decide +kernel
theorem dX11_merges_95 : decode cX11_merges 95 = .ok (.getfield 45, 3) := by decide +kernel
theorem dX11_merges_98 : decode cX11_merges 98 = .ok (.getfield 179, 3) := by decide +kernel
theorem dX11_merges_101 : decode cX11_merges 101 = .ok (.aload_n 0, 1) := by decide +kernel
theorem dX11_merges_102 : decode cX11_merges 102 = .ok (.getfield 147, 3) := by decide +kernel
theorem dX11_merges_105 : decode cX11_merges 105 = .ok (.invokevirtual 183, 3) := by decide +kernel
theorem dX11_merges_108 : decode cX11_merges 108 = .ok (.iload 5, 2) := by decide +kernel
theorem dX11_merges_110 : decode cX11_merges 110 = .ok (.ireturn, 1) := by decide +kernel
theorem dX11_rules_0 : decode cX11_rules 0 = .ok (.aload_n 0, 1) := by decide +kernel
theorem dX11_rules_1 : decode cX11_rules 1 = .ok (.iload_n 1, 1) := by decide +kernel
theorem dX11_rules_2 : decode cX11_rules 2 = .ok (.invokevirtual 187, 3) := by decide +kernel
theorem dX11_rules_5 : decode cX11_rules 5 = .ok (.ifnull 12, 3) := by decide +kernel
theorem dX11_rules_8 : decode cX11_rules 8 = .ok (.iload_n 2, 1) := by decide +kernel
theorem dX11_rules_9 : decode cX11_rules 9 = .ok (.ifCond .lt 8, 3) := by decide +kernel
theorem dX11_rules_12 : decode cX11_rules 12 = .ok (.iload_n 2, 1) := by decide +kernel
theorem dX11_rules_13 : decode cX11_rules 13 = .ok (.iconst 4, 1) := by decide +kernel
theorem dX11_rules_14 : decode cX11_rules 14 = .ok (.if_icmp .le 5, 3) := by decide +kernel
theorem dX11_rules_17 : decode cX11_rules 17 = .ok (.iconst (-1), 1) := by decide +kernel
theorem dX11_rules_18 : decode cX11_rules 18 = .ok (.ireturn, 1) := by decide +kernel
theorem dX11_rules_19 : decode cX11_rules 19 = .ok (.aload_n 0, 1) := by decide +kernel
theorem dX11_rules_20 : decode cX11_rules 20 = .ok (.getfield 38, 3) := by decide +kernel
theorem dX11_rules_23 : decode cX11_rules 23 = .ok (.iload_n 1, 1) := by decide +kernel
theorem dX11_rules_24 : decode cX11_rules 24 = .ok (.iload_n 2, 1) := by decide +kernel
theorem dX11_rules_25 : decode cX11_rules 25 = .ok (.invokevirtual 191, 3) := by decide +kernel
theorem dX11_rules_28 : decode cX11_rules 28 = .ok (.ireturn, 1) := by decide +kernel
theorem dX11_row_0 : decode cX11_row 0 = .ok (.aload_n 0, 1) := by decide +kernel
theorem dX11_row_1 : decode cX11_row 1 = .ok (.iload_n 1, 1) := by decide +kernel
theorem dX11_row_2 : decode cX11_row 2 = .ok (.iload_n 2, 1) := by decide +kernel
theorem dX11_row_3 : decode cX11_row 3 = .ok (.invokevirtual 96, 3) := by decide +kernel
theorem dX11_row_6 : decode cX11_row 6 = .ok (.astore 4, 2) := by decide +kernel
theorem dX11_row_8 : decode cX11_row 8 = .ok (.aload 4, 2) := by decide +kernel
theorem dX11_row_10 : decode cX11_row 10 = .ok (.ifnull 11, 3) := by decide +kernel
theorem dX11_row_13 : decode cX11_row 13 = .ok (.aload_n 0, 1) := by decide +kernel
theorem dX11_row_14 : decode cX11_row 14 = .ok (.iload_n 3, 1) := by decide +kernel
theorem dX11_row_15 : decode cX11_row 15 = .ok (.invokevirtual 194, 3) := by decide +kernel
theorem dX11_row_18 : decode cX11_row 18 = .ok (.ifCond .ne 5, 3) := by decide +kernel
theorem dX11_row_21 : decode cX11_row 21 = .ok (.iconst (-1), 1) := by decide +kernel
theorem dX11_row_22 : decode cX11_row 22 = .ok (.ireturn, 1) := by decide +kernel
theorem dX11_row_23 : decode cX11_row 23 = .ok (.aload 4, 2) := by decide +kernel
theorem dX11_row_25 : decode cX11_row 25 = .ok (.getfield 103, 3) := by decide +kernel
theorem dX11_row_28 : decode cX11_row 28 = .ok (.iload_n 3, 1) := by decide +kernel
theorem dX11_row_29 : decode cX11_row 29 = .ok (.invokestatic 198, 3) := by decide +kernel
theorem dX11_row_32 : decode cX11_row 32 = .ok (.ireturn, 1) := by decide +kernel
theorem dX11_sibling_0 : decode cX11_sibling 0 = .ok (.aload_n 0, 1) := by decide +kernel
theorem dX11_sibling_1 : decode cX11_sibling 1 = .ok (.iload_n 1, 1) := by decide +kernel
theorem dX11_sibling_2 : decode cX11_sibling 2 = .ok (.iload_n 2, 1) := by decide +kernel
theorem dX11_sibling_3 : decode cX11_sibling 3 = .ok (.invokevirtual 96, 3) := by decide +kernel
theorem dX11_sibling_6 : decode cX11_sibling 6 = .ok (.astore 5, 2) := by decide +kernel
theorem dX11_sibling_8 : decode cX11_sibling 8 = .ok (.aload 5, 2) := by decide +kernel
theorem dX11_sibling_10 : decode cX11_sibling 10 = .ok (.ifnull 18, 3) := by decide +kernel
theorem dX11_sibling_13 : decode cX11_sibling 13 = .ok (.iload_n 3, 1) := by decide +kernel
theorem dX11_sibling_14 : decode cX11_sibling 14 = .ok (.ifCond .lt 14, 3) := by decide +kernel
theorem dX11_sibling_17 : decode cX11_sibling 17 = .ok (.iload 4, 2) := by decide +kernel
theorem dX11_sibling_19 : decode cX11_sibling 19 = .ok (.ifCond .lt 9, 3) := by decide +kernel
theorem dX11_sibling_22 : decode cX11_sibling 22 = .ok (.iload 4, 2) := by decide +kernel
theorem dX11_sibling_24 : decode cX11_sibling 24 = .ok (.iconst 3, 1) := by decide +kernel
theorem dX11_sibling_25 : decode cX11_sibling 25 = .ok (.if_icmp .le 7, 3) := by decide +kernel
theorem dX11_sibling_28 : decode cX11_sibling 28 = .ok (.ldc2_w 203, 3) := by decide +kernel
theorem dX11_sibling_31 : decode cX11_sibling 31 = .ok (.lreturn, 1) := by decide +kernel
theorem dX11_sibling_32 : decode cX11_sibling 32 = .ok (.aload 5, 2) := by decide +kernel
theorem dX11_sibling_34 : decode cX11_sibling 34 = .ok (.getfield 128, 3) := by decide +kernel
theorem dX11_sibling_37 : decode cX11_sibling 37 = .ok (.iload_n 3, 1) := by decide +kernel
theorem dX11_sibling_38 : decode cX11_sibling 38 = .ok (.invokevirtual 205, 3) := by decide +kernel
theorem dX11_sibling_41 : decode cX11_sibling 41 = .ok (.istore 6, 2) := by decide +kernel
theorem dX11_sibling_43 : decode cX11_sibling 43 = .ok (.iload 6, 2) := by decide +kernel
theorem dX11_sibling_45 : decode cX11_sibling 45 = .ok (.iconst (-1), 1) := by decide +kernel
theorem dX11_sibling_46 : decode cX11_sibling 46 = .ok (.if_icmp .ne 7, 3) := by decide +kernel
theorem dX11_sibling_49 : decode cX11_sibling 49 = .ok (.ldc2_w 208, 3) := by decide +kernel
theorem dX11_sibling_52 : decode cX11_sibling 52 = .ok (.lreturn, 1) := by decide +kernel
theorem dX11_sibling_53 : decode cX11_sibling 53 = .ok (.iload 4, 2) := by decide +kernel
theorem dX11_sibling_55 : decode cX11_sibling 55 = .ok (.tableswitch 51 0 2 #[25, 32, 39], 25) := by decide +kernel
theorem dX11_sibling_80 : decode cX11_sibling 80 = .ok (.iload 6, 2) := by decide +kernel
theorem dX11_sibling_82 : decode cX11_sibling 82 = .ok (.invokestatic 210, 3) := by decide +kernel
theorem dX11_sibling_85 : decode cX11_sibling 85 = .ok (.i2l, 1) := by decide +kernel
theorem dX11_sibling_86 : decode cX11_sibling 86 = .ok (.lreturn, 1) := by decide +kernel
theorem dX11_sibling_87 : decode cX11_sibling 87 = .ok (.iload 6, 2) := by decide +kernel
theorem dX11_sibling_89 : decode cX11_sibling 89 = .ok (.invokestatic 213, 3) := by decide +kernel
theorem dX11_sibling_92 : decode cX11_sibling 92 = .ok (.i2l, 1) := by decide +kernel
theorem dX11_sibling_93 : decode cX11_sibling 93 = .ok (.lreturn, 1) := by decide +kernel
theorem dX11_sibling_94 : decode cX11_sibling 94 = .ok (.aload 5, 2) := by decide +kernel
theorem dX11_sibling_96 : decode cX11_sibling 96 = .ok (.getfield 111, 3) := by decide +kernel
theorem dX11_sibling_99 : decode cX11_sibling 99 = .ok (.iload 6, 2) := by decide +kernel
theorem dX11_sibling_101 : decode cX11_sibling 101 = .ok (.invokevirtual 216, 3) := by decide +kernel
theorem dX11_sibling_104 : decode cX11_sibling 104 = .ok (.i2l, 1) := by decide +kernel
theorem dX11_sibling_105 : decode cX11_sibling 105 = .ok (.lreturn, 1) := by decide +kernel
theorem dX11_sibling_106 : decode cX11_sibling 106 = .ok (.aload 5, 2) := by decide +kernel
theorem dX11_sibling_108 : decode cX11_sibling 108 = .ok (.getfield 111, 3) := by decide +kernel
theorem dX11_sibling_111 : decode cX11_sibling 111 = .ok (.iload 6, 2) := by decide +kernel
theorem dX11_sibling_113 : decode cX11_sibling 113 = .ok (.invokevirtual 219, 3) := by decide +kernel
theorem dX11_sibling_116 : decode cX11_sibling 116 = .ok (.lreturn, 1) := by decide +kernel
theorem dX11_context_0 : decode cX11_context 0 = .ok (.aload_n 0, 1) := by decide +kernel
theorem dX11_context_1 : decode cX11_context 1 = .ok (.iload_n 1, 1) := by decide +kernel
theorem dX11_context_2 : decode cX11_context 2 = .ok (.invokevirtual 92, 3) := by decide +kernel
theorem dX11_context_5 : decode cX11_context 5 = .ok (.astore_n 3, 1) := by decide +kernel
theorem dX11_context_6 : decode cX11_context 6 = .ok (.aload_n 3, 1) := by decide +kernel
theorem dX11_context_7 : decode cX11_context 7 = .ok (.ifnull 8, 3) := by decide +kernel
theorem dX11_context_10 : decode cX11_context 10 = .ok (.iload_n 2, 1) := by decide +kernel
theorem dX11_context_11 : decode cX11_context 11 = .ok (.iconst (-1), 1) := by decide +kernel
theorem dX11_context_12 : decode cX11_context 12 = .ok (.if_icmp .ge 5, 3) := by decide +kernel
theorem dX11_context_15 : decode cX11_context 15 = .ok (.iconst (-1), 1) := by decide +kernel
theorem dX11_context_16 : decode cX11_context 16 = .ok (.ireturn, 1) := by decide +kernel
theorem dX11_context_17 : decode cX11_context 17 = .ok (.iload_n 2, 1) := by decide +kernel
theorem dX11_context_18 : decode cX11_context 18 = .ok (.iconst 4, 1) := by decide +kernel
theorem dX11_context_19 : decode cX11_context 19 = .ok (.if_icmp .lt 7, 3) := by decide +kernel
theorem dX11_context_22 : decode cX11_context 22 = .ok (.iconst 1, 1) := by decide +kernel
theorem dX11_context_23 : decode cX11_context 23 = .ok (.goto 4, 3) := by decide +kernel
theorem dX11_context_26 : decode cX11_context 26 = .ok (.iconst 0, 1) := by decide +kernel
theorem dX11_context_27 : decode cX11_context 27 = .ok (.istore 4, 2) := by decide +kernel
theorem dX11_context_29 : decode cX11_context 29 = .ok (.iload 4, 2) := by decide +kernel
theorem dX11_context_31 : decode cX11_context 31 = .ok (.ifCond .eq 9, 3) := by decide +kernel
theorem dX11_context_34 : decode cX11_context 34 = .ok (.iload_n 2, 1) := by decide +kernel
theorem dX11_context_35 : decode cX11_context 35 = .ok (.iconst 4, 1) := by decide +kernel
theorem dX11_context_36 : decode cX11_context 36 = .ok (.isub, 1) := by decide +kernel
theorem dX11_context_37 : decode cX11_context 37 = .ok (.goto 4, 3) := by decide +kernel
theorem dX11_context_40 : decode cX11_context 40 = .ok (.iload_n 2, 1) := by decide +kernel
theorem dX11_context_41 : decode cX11_context 41 = .ok (.istore 5, 2) := by decide +kernel
theorem dX11_context_43 : decode cX11_context 43 = .ok (.iload_n 2, 1) := by decide +kernel
theorem dX11_context_44 : decode cX11_context 44 = .ok (.iconst (-1), 1) := by decide +kernel
theorem dX11_context_45 : decode cX11_context 45 = .ok (.if_icmp .eq 14, 3) := by decide +kernel
theorem dX11_context_48 : decode cX11_context 48 = .ok (.aload_n 0, 1) := by decide +kernel
theorem dX11_context_49 : decode cX11_context 49 = .ok (.iload 5, 2) := by decide +kernel
theorem dX11_context_51 : decode cX11_context 51 = .ok (.invokevirtual 194, 3) := by decide +kernel
theorem dX11_context_54 : decode cX11_context 54 = .ok (.ifCond .ne 5, 3) := by decide +kernel
theorem dX11_context_57 : decode cX11_context 57 = .ok (.iconst (-1), 1) := by decide +kernel
theorem dX11_context_58 : decode cX11_context 58 = .ok (.ireturn, 1) := by decide +kernel
theorem dX11_context_59 : decode cX11_context 59 = .ok (.aload_n 3, 1) := by decide +kernel
theorem dX11_context_60 : decode cX11_context 60 = .ok (.invokevirtual 160, 3) := by decide +kernel
theorem dX11_context_63 : decode cX11_context 63 = .ok (.ifCond .eq 6, 3) := by decide +kernel
theorem dX11_context_66 : decode cX11_context 66 = .ok (.bipush (-9), 2) := by decide +kernel
theorem dX11_context_68 : decode cX11_context 68 = .ok (.ireturn, 1) := by decide +kernel
theorem dX11_context_69 : decode cX11_context 69 = .ok (.iload_n 2, 1) := by decide +kernel
theorem dX11_context_70 : decode cX11_context 70 = .ok (.iconst (-1), 1) := by decide +kernel
theorem dX11_context_71 : decode cX11_context 71 = .ok (.if_icmp .ne 8, 3) := by decide +kernel
theorem dX11_context_74 : decode cX11_context 74 = .ok (.aload_n 3, 1) := by decide +kernel
theorem dX11_context_75 : decode cX11_context 75 = .ok (.getfield 100, 3) := by decide +kernel
theorem dX11_context_78 : decode cX11_context 78 = .ok (.ireturn, 1) := by decide +kernel
theorem dX11_context_79 : decode cX11_context 79 = .ok (.iload 4, 2) := by decide +kernel
theorem dX11_context_81 : decode cX11_context 81 = .ok (.ifCond .eq 10, 3) := by decide +kernel
theorem dX11_context_84 : decode cX11_context 84 = .ok (.aload_n 3, 1) := by decide +kernel
theorem dX11_context_85 : decode cX11_context 85 = .ok (.getfield 121, 3) := by decide +kernel
theorem dX11_context_88 : decode cX11_context 88 = .ok (.goto 7, 3) := by decide +kernel
theorem dX11_context_91 : decode cX11_context 91 = .ok (.aload_n 3, 1) := by decide +kernel
theorem dX11_context_92 : decode cX11_context 92 = .ok (.getfield 108, 3) := by decide +kernel
theorem dX11_context_95 : decode cX11_context 95 = .ok (.iload 5, 2) := by decide +kernel
theorem dX11_context_97 : decode cX11_context 97 = .ok (.invokestatic 198, 3) := by decide +kernel
theorem dX11_context_100 : decode cX11_context 100 = .ok (.ireturn, 1) := by decide +kernel
theorem dX11_write_0 : decode cX11_write 0 = .ok (.aload_n 0, 1) := by decide +kernel
theorem dX11_write_1 : decode cX11_write 1 = .ok (.iload_n 1, 1) := by decide +kernel
theorem dX11_write_2 : decode cX11_write 2 = .ok (.invokevirtual 187, 3) := by decide +kernel
theorem dX11_write_5 : decode cX11_write 5 = .ok (.astore 5, 2) := by decide +kernel
theorem dX11_write_7 : decode cX11_write 7 = .ok (.aload_n 0, 1) := by decide +kernel
theorem dX11_write_8 : decode cX11_write 8 = .ok (.iload_n 1, 1) := by decide +kernel
theorem dX11_write_9 : decode cX11_write 9 = .ok (.iload_n 2, 1) := by decide +kernel
theorem dX11_write_10 : decode cX11_write 10 = .ok (.iload_n 3, 1) := by decide +kernel
theorem dX11_write_11 : decode cX11_write 11 = .ok (.invokevirtual 223, 3) := by decide +kernel
theorem dX11_write_14 : decode cX11_write 14 = .ok (.istore 6, 2) := by decide +kernel
theorem dX11_write_16 : decode cX11_write 16 = .ok (.aload 5, 2) := by decide +kernel
theorem dX11_write_18 : decode cX11_write 18 = .ok (.ifnull 21, 3) := by decide +kernel
theorem dX11_write_21 : decode cX11_write 21 = .ok (.iload 6, 2) := by decide +kernel
theorem dX11_write_23 : decode cX11_write 23 = .ok (.iconst (-1), 1) := by decide +kernel
theorem dX11_write_24 : decode cX11_write 24 = .ok (.if_icmp .eq 15, 3) := by decide +kernel
theorem dX11_write_27 : decode cX11_write 27 = .ok (.iload 4, 2) := by decide +kernel
theorem dX11_write_29 : decode cX11_write 29 = .ok (.ifCond .lt 10, 3) := by decide +kernel
theorem dX11_write_32 : decode cX11_write 32 = .ok (.iload 4, 2) := by decide +kernel
theorem dX11_write_34 : decode cX11_write 34 = .ok (.bipush 7, 2) := by decide +kernel
theorem dX11_write_36 : decode cX11_write 36 = .ok (.if_icmp .le 7, 3) := by decide +kernel
theorem dX11_write_39 : decode cX11_write 39 = .ok (.ldc2_w 203, 3) := by decide +kernel
theorem dX11_write_42 : decode cX11_write 42 = .ok (.lreturn, 1) := by decide +kernel
theorem dX11_write_43 : decode cX11_write 43 = .ok (.aload 5, 2) := by decide +kernel
theorem dX11_write_45 : decode cX11_write 45 = .ok (.getfield 227, 3) := by decide +kernel
theorem dX11_write_48 : decode cX11_write 48 = .ok (.astore 7, 2) := by decide +kernel
theorem dX11_write_50 : decode cX11_write 50 = .ok (.iload 4, 2) := by decide +kernel
theorem dX11_write_52 : decode cX11_write 52 = .ok (.tableswitch 130 0 6 #[44, 52, 61, 76, 91, 106, 121], 44) := by decide +kernel
theorem dX11_write_96 : decode cX11_write 96 = .ok (.aload 7, 2) := by decide +kernel
theorem dX11_write_98 : decode cX11_write 98 = .ok (.iload 6, 2) := by decide +kernel
theorem dX11_write_100 : decode cX11_write 100 = .ok (.invokevirtual 219, 3) := by decide +kernel
theorem dX11_write_103 : decode cX11_write 103 = .ok (.lreturn, 1) := by decide +kernel
theorem dX11_write_104 : decode cX11_write 104 = .ok (.aload 7, 2) := by decide +kernel
theorem dX11_write_106 : decode cX11_write 106 = .ok (.iload 6, 2) := by decide +kernel
theorem dX11_write_108 : decode cX11_write 108 = .ok (.invokevirtual 216, 3) := by decide +kernel
theorem dX11_write_111 : decode cX11_write 111 = .ok (.i2l, 1) := by decide +kernel
theorem dX11_write_112 : decode cX11_write 112 = .ok (.lreturn, 1) := by decide +kernel
theorem dX11_write_113 : decode cX11_write 113 = .ok (.aload 7, 2) := by decide +kernel
theorem dX11_write_115 : decode cX11_write 115 = .ok (.getfield 124, 3) := by decide +kernel
theorem dX11_write_118 : decode cX11_write 118 = .ok (.iload 6, 2) := by decide +kernel
theorem dX11_write_120 : decode cX11_write 120 = .ok (.invokevirtual 228, 3) := by decide +kernel
theorem dX11_write_123 : decode cX11_write 123 = .ok (.invokestatic 231, 3) := by decide +kernel
theorem dX11_write_126 : decode cX11_write 126 = .ok (.i2l, 1) := by decide +kernel
theorem dX11_write_127 : decode cX11_write 127 = .ok (.lreturn, 1) := by decide +kernel
theorem dX11_write_128 : decode cX11_write 128 = .ok (.aload 7, 2) := by decide +kernel
theorem dX11_write_130 : decode cX11_write 130 = .ok (.getfield 235, 3) := by decide +kernel
theorem dX11_write_133 : decode cX11_write 133 = .ok (.iload 6, 2) := by decide +kernel
theorem dX11_write_135 : decode cX11_write 135 = .ok (.invokevirtual 228, 3) := by decide +kernel
theorem dX11_write_138 : decode cX11_write 138 = .ok (.invokestatic 231, 3) := by decide +kernel
theorem dX11_write_141 : decode cX11_write 141 = .ok (.i2l, 1) := by decide +kernel
theorem dX11_write_142 : decode cX11_write 142 = .ok (.lreturn, 1) := by decide +kernel
theorem dX11_write_143 : decode cX11_write 143 = .ok (.aload 7, 2) := by decide +kernel
theorem dX11_write_145 : decode cX11_write 145 = .ok (.getfield 238, 3) := by decide +kernel
theorem dX11_write_148 : decode cX11_write 148 = .ok (.iload 6, 2) := by decide +kernel
theorem dX11_write_150 : decode cX11_write 150 = .ok (.invokevirtual 228, 3) := by decide +kernel
theorem dX11_write_153 : decode cX11_write 153 = .ok (.invokestatic 231, 3) := by decide +kernel
theorem dX11_write_156 : decode cX11_write 156 = .ok (.i2l, 1) := by decide +kernel
theorem dX11_write_157 : decode cX11_write 157 = .ok (.lreturn, 1) := by decide +kernel
theorem dX11_write_158 : decode cX11_write 158 = .ok (.aload 7, 2) := by decide +kernel
theorem dX11_write_160 : decode cX11_write 160 = .ok (.getfield 241, 3) := by decide +kernel
theorem dX11_write_163 : decode cX11_write 163 = .ok (.iload 6, 2) := by decide +kernel
theorem dX11_write_165 : decode cX11_write 165 = .ok (.invokevirtual 228, 3) := by decide +kernel
theorem dX11_write_168 : decode cX11_write 168 = .ok (.invokestatic 231, 3) := by decide +kernel
theorem dX11_write_171 : decode cX11_write 171 = .ok (.i2l, 1) := by decide +kernel
theorem dX11_write_172 : decode cX11_write 172 = .ok (.lreturn, 1) := by decide +kernel
theorem dX11_write_173 : decode cX11_write 173 = .ok (.aload 5, 2) := by decide +kernel
theorem dX11_write_175 : decode cX11_write 175 = .ok (.iload 6, 2) := by decide +kernel
theorem dX11_write_177 : decode cX11_write 177 = .ok (.invokevirtual 244, 3) := by decide +kernel
theorem dX11_write_180 : decode cX11_write 180 = .ok (.i2l, 1) := by decide +kernel
theorem dX11_write_181 : decode cX11_write 181 = .ok (.lreturn, 1) := by decide +kernel
theorem dX11_write_182 : decode cX11_write 182 = .ok (.aload 5, 2) := by decide +kernel
theorem dX11_write_184 : decode cX11_write 184 = .ok (.iload 6, 2) := by decide +kernel
theorem dX11_write_186 : decode cX11_write 186 = .ok (.invokevirtual 247, 3) := by decide +kernel
theorem dX11_write_189 : decode cX11_write 189 = .ok (.invokestatic 231, 3) := by decide +kernel
theorem dX11_write_192 : decode cX11_write 192 = .ok (.i2l, 1) := by decide +kernel
theorem dX11_write_193 : decode cX11_write 193 = .ok (.lreturn, 1) := by decide +kernel
theorem dX11_ahead_0 : decode cX11_ahead 0 = .ok (.aload_n 0, 1) := by decide +kernel
theorem dX11_ahead_1 : decode cX11_ahead 1 = .ok (.iload_n 1, 1) := by decide +kernel
theorem dX11_ahead_2 : decode cX11_ahead 2 = .ok (.invokevirtual 187, 3) := by decide +kernel
theorem dX11_ahead_5 : decode cX11_ahead 5 = .ok (.astore 7, 2) := by decide +kernel
theorem dX11_ahead_7 : decode cX11_ahead 7 = .ok (.aload_n 0, 1) := by decide +kernel
theorem dX11_ahead_8 : decode cX11_ahead 8 = .ok (.iload_n 1, 1) := by decide +kernel
theorem dX11_ahead_9 : decode cX11_ahead 9 = .ok (.iload_n 2, 1) := by decide +kernel
theorem dX11_ahead_10 : decode cX11_ahead 10 = .ok (.iload_n 3, 1) := by decide +kernel
theorem dX11_ahead_11 : decode cX11_ahead 11 = .ok (.invokevirtual 223, 3) := by decide +kernel
theorem dX11_ahead_14 : decode cX11_ahead 14 = .ok (.istore 8, 2) := by decide +kernel
theorem dX11_ahead_16 : decode cX11_ahead 16 = .ok (.aload_n 0, 1) := by decide +kernel
theorem dX11_ahead_17 : decode cX11_ahead 17 = .ok (.iload_n 1, 1) := by decide +kernel
theorem dX11_ahead_18 : decode cX11_ahead 18 = .ok (.iload 4, 2) := by decide +kernel
theorem dX11_ahead_20 : decode cX11_ahead 20 = .ok (.iload 5, 2) := by decide +kernel
theorem dX11_ahead_22 : decode cX11_ahead 22 = .ok (.invokevirtual 223, 3) := by decide +kernel
theorem dX11_ahead_25 : decode cX11_ahead 25 = .ok (.istore 9, 2) := by decide +kernel
theorem dX11_ahead_27 : decode cX11_ahead 27 = .ok (.aload 7, 2) := by decide +kernel
theorem dX11_ahead_29 : decode cX11_ahead 29 = .ok (.ifnull 26, 3) := by decide +kernel
theorem dX11_ahead_32 : decode cX11_ahead 32 = .ok (.iload 8, 2) := by decide +kernel
theorem dX11_ahead_34 : decode cX11_ahead 34 = .ok (.iconst (-1), 1) := by decide +kernel
theorem dX11_ahead_35 : decode cX11_ahead 35 = .ok (.if_icmp .eq 20, 3) := by decide +kernel
theorem dX11_ahead_38 : decode cX11_ahead 38 = .ok (.iload 9, 2) := by decide +kernel
theorem dX11_ahead_40 : decode cX11_ahead 40 = .ok (.iconst (-1), 1) := by decide +kernel
theorem dX11_ahead_41 : decode cX11_ahead 41 = .ok (.if_icmp .eq 14, 3) := by decide +kernel
theorem dX11_ahead_44 : decode cX11_ahead 44 = .ok (.iload 6, 2) := by decide +kernel
theorem dX11_ahead_46 : decode cX11_ahead 46 = .ok (.ifCond .lt 9, 3) := by decide +kernel
theorem dX11_ahead_49 : decode cX11_ahead 49 = .ok (.iload 6, 2) := by decide +kernel
theorem dX11_ahead_51 : decode cX11_ahead 51 = .ok (.iconst 1, 1) := by decide +kernel
theorem dX11_ahead_52 : decode cX11_ahead 52 = .ok (.if_icmp .le 5, 3) := by decide +kernel
theorem dX11_ahead_55 : decode cX11_ahead 55 = .ok (.iconst (-1), 1) := by decide +kernel
theorem dX11_ahead_56 : decode cX11_ahead 56 = .ok (.ireturn, 1) := by decide +kernel
theorem dX11_ahead_57 : decode cX11_ahead 57 = .ok (.iload 6, 2) := by decide +kernel
theorem dX11_ahead_59 : decode cX11_ahead 59 = .ok (.ifCond .ne 16, 3) := by decide +kernel
theorem dX11_ahead_62 : decode cX11_ahead 62 = .ok (.aload 7, 2) := by decide +kernel
theorem dX11_ahead_64 : decode cX11_ahead 64 = .ok (.getfield 227, 3) := by decide +kernel
theorem dX11_ahead_67 : decode cX11_ahead 67 = .ok (.iload 9, 2) := by decide +kernel
theorem dX11_ahead_69 : decode cX11_ahead 69 = .ok (.invokevirtual 250, 3) := by decide +kernel
theorem dX11_ahead_72 : decode cX11_ahead 72 = .ok (.goto 13, 3) := by decide +kernel
theorem dX11_ahead_75 : decode cX11_ahead 75 = .ok (.aload 7, 2) := by decide +kernel
theorem dX11_ahead_77 : decode cX11_ahead 77 = .ok (.getfield 227, 3) := by decide +kernel
theorem dX11_ahead_80 : decode cX11_ahead 80 = .ok (.iload 9, 2) := by decide +kernel
theorem dX11_ahead_82 : decode cX11_ahead 82 = .ok (.invokevirtual 253, 3) := by decide +kernel
theorem dX11_ahead_85 : decode cX11_ahead 85 = .ok (.istore 10, 2) := by decide +kernel
theorem dX11_ahead_87 : decode cX11_ahead 87 = .ok (.iload 10, 2) := by decide +kernel
theorem dX11_ahead_89 : decode cX11_ahead 89 = .ok (.iload_n 2, 1) := by decide +kernel
theorem dX11_ahead_90 : decode cX11_ahead 90 = .ok (.invokestatic 198, 3) := by decide +kernel
theorem dX11_ahead_93 : decode cX11_ahead 93 = .ok (.iload_n 3, 1) := by decide +kernel
theorem dX11_ahead_94 : decode cX11_ahead 94 = .ok (.if_icmp .lt 7, 3) := by decide +kernel
theorem dX11_ahead_97 : decode cX11_ahead 97 = .ok (.iconst 1, 1) := by decide +kernel
theorem dX11_ahead_98 : decode cX11_ahead 98 = .ok (.goto 4, 3) := by decide +kernel
theorem dX11_ahead_101 : decode cX11_ahead 101 = .ok (.iconst 0, 1) := by decide +kernel
theorem dX11_ahead_102 : decode cX11_ahead 102 = .ok (.invokestatic 231, 3) := by decide +kernel
theorem dX11_ahead_105 : decode cX11_ahead 105 = .ok (.ireturn, 1) := by decide +kernel
theorem dX11_alike_0 : decode cX11_alike 0 = .ok (.aload_n 0, 1) := by decide +kernel
theorem dX11_alike_1 : decode cX11_alike 1 = .ok (.iload_n 1, 1) := by decide +kernel
theorem dX11_alike_2 : decode cX11_alike 2 = .ok (.iload_n 3, 1) := by decide +kernel
theorem dX11_alike_3 : decode cX11_alike 3 = .ok (.invokevirtual 96, 3) := by decide +kernel
theorem dX11_alike_6 : decode cX11_alike 6 = .ok (.astore 4, 2) := by decide +kernel
theorem dX11_alike_8 : decode cX11_alike 8 = .ok (.aload_n 0, 1) := by decide +kernel
theorem dX11_alike_9 : decode cX11_alike 9 = .ok (.iload_n 2, 1) := by decide +kernel
theorem dX11_alike_10 : decode cX11_alike 10 = .ok (.iload_n 3, 1) := by decide +kernel
theorem dX11_alike_11 : decode cX11_alike 11 = .ok (.invokevirtual 96, 3) := by decide +kernel
theorem dX11_alike_14 : decode cX11_alike 14 = .ok (.astore 5, 2) := by decide +kernel
theorem dX11_alike_16 : decode cX11_alike 16 = .ok (.aload 4, 2) := by decide +kernel
theorem dX11_alike_18 : decode cX11_alike 18 = .ok (.ifnull 8, 3) := by decide +kernel
theorem dX11_alike_21 : decode cX11_alike 21 = .ok (.aload 5, 2) := by decide +kernel
theorem dX11_alike_23 : decode cX11_alike 23 = .ok (.ifnonnull 5, 3) := by decide +kernel
theorem dX11_alike_26 : decode cX11_alike 26 = .ok (.iconst (-1), 1) := by decide +kernel
theorem dX11_alike_27 : decode cX11_alike 27 = .ok (.ireturn, 1) := by decide +kernel
theorem dX11_alike_28 : decode cX11_alike 28 = .ok (.aload 4, 2) := by decide +kernel
theorem dX11_alike_30 : decode cX11_alike 30 = .ok (.getfield 103, 3) := by decide +kernel
theorem dX11_alike_33 : decode cX11_alike 33 = .ok (.aload 5, 2) := by decide +kernel
theorem dX11_alike_35 : decode cX11_alike 35 = .ok (.getfield 103, 3) := by decide +kernel
theorem dX11_alike_38 : decode cX11_alike 38 = .ok (.if_icmp .ne 23, 3) := by decide +kernel
theorem dX11_alike_41 : decode cX11_alike 41 = .ok (.aload 4, 2) := by decide +kernel
theorem dX11_alike_43 : decode cX11_alike 43 = .ok (.getfield 128, 3) := by decide +kernel
theorem dX11_alike_46 : decode cX11_alike 46 = .ok (.aload 5, 2) := by decide +kernel
theorem dX11_alike_48 : decode cX11_alike 48 = .ok (.getfield 128, 3) := by decide +kernel
theorem dX11_alike_51 : decode cX11_alike 51 = .ok (.invokevirtual 256, 3) := by decide +kernel
theorem dX11_alike_54 : decode cX11_alike 54 = .ok (.ifCond .eq 7, 3) := by decide +kernel
theorem dX11_alike_57 : decode cX11_alike 57 = .ok (.iconst 1, 1) := by decide +kernel
theorem dX11_alike_58 : decode cX11_alike 58 = .ok (.goto 4, 3) := by decide +kernel
theorem dX11_alike_61 : decode cX11_alike 61 = .ok (.iconst 0, 1) := by decide +kernel
theorem dX11_alike_62 : decode cX11_alike 62 = .ok (.invokestatic 231, 3) := by decide +kernel
theorem dX11_alike_65 : decode cX11_alike 65 = .ok (.ireturn, 1) := by decide +kernel
theorem dX11_behind_0 : decode cX11_behind 0 = .ok (.aload_n 0, 1) := by decide +kernel
theorem dX11_behind_1 : decode cX11_behind 1 = .ok (.iload_n 2, 1) := by decide +kernel
theorem dX11_behind_2 : decode cX11_behind 2 = .ok (.invokevirtual 187, 3) := by decide +kernel
theorem dX11_behind_5 : decode cX11_behind 5 = .ok (.astore_n 3, 1) := by decide +kernel
theorem dX11_behind_6 : decode cX11_behind 6 = .ok (.aload_n 0, 1) := by decide +kernel
theorem dX11_behind_7 : decode cX11_behind 7 = .ok (.iload_n 1, 1) := by decide +kernel
theorem dX11_behind_8 : decode cX11_behind 8 = .ok (.iload_n 2, 1) := by decide +kernel
theorem dX11_behind_9 : decode cX11_behind 9 = .ok (.invokevirtual 96, 3) := by decide +kernel
theorem dX11_behind_12 : decode cX11_behind 12 = .ok (.astore 4, 2) := by decide +kernel
theorem dX11_behind_14 : decode cX11_behind 14 = .ok (.aload_n 3, 1) := by decide +kernel
theorem dX11_behind_15 : decode cX11_behind 15 = .ok (.ifnull 8, 3) := by decide +kernel
theorem dX11_behind_18 : decode cX11_behind 18 = .ok (.aload 4, 2) := by decide +kernel
theorem dX11_behind_20 : decode cX11_behind 20 = .ok (.ifnonnull 5, 3) := by decide +kernel
theorem dX11_behind_23 : decode cX11_behind 23 = .ok (.iconst (-1), 1) := by decide +kernel
theorem dX11_behind_24 : decode cX11_behind 24 = .ok (.ireturn, 1) := by decide +kernel
theorem dX11_behind_25 : decode cX11_behind 25 = .ok (.aload_n 3, 1) := by decide +kernel
theorem dX11_behind_26 : decode cX11_behind 26 = .ok (.invokevirtual 260, 3) := by decide +kernel
theorem dX11_behind_29 : decode cX11_behind 29 = .ok (.invokestatic 263, 3) := by decide +kernel
theorem dX11_behind_32 : decode cX11_behind 32 = .ok (.aload 4, 2) := by decide +kernel
theorem dX11_behind_34 : decode cX11_behind 34 = .ok (.getfield 103, 3) := by decide +kernel
theorem dX11_behind_37 : decode cX11_behind 37 = .ok (.invokestatic 263, 3) := by decide +kernel
theorem dX11_behind_40 : decode cX11_behind 40 = .ok (.isub, 1) := by decide +kernel
theorem dX11_behind_41 : decode cX11_behind 41 = .ok (.ireturn, 1) := by decide +kernel
theorem dX11_spread_0 : decode cX11_spread 0 = .ok (.aload_n 0, 1) := by decide +kernel
theorem dX11_spread_1 : decode cX11_spread 1 = .ok (.iload_n 1, 1) := by decide +kernel
theorem dX11_spread_2 : decode cX11_spread 2 = .ok (.invokevirtual 187, 3) := by decide +kernel
theorem dX11_spread_5 : decode cX11_spread 5 = .ok (.astore_n 3, 1) := by decide +kernel
theorem dX11_spread_6 : decode cX11_spread 6 = .ok (.aload_n 3, 1) := by decide +kernel
theorem dX11_spread_7 : decode cX11_spread 7 = .ok (.ifnull 12, 3) := by decide +kernel
theorem dX11_spread_10 : decode cX11_spread 10 = .ok (.iload_n 2, 1) := by decide +kernel
theorem dX11_spread_11 : decode cX11_spread 11 = .ok (.ifCond .lt 8, 3) := by decide +kernel
theorem dX11_spread_14 : decode cX11_spread 14 = .ok (.iload_n 2, 1) := by decide +kernel
theorem dX11_spread_15 : decode cX11_spread 15 = .ok (.iconst 1, 1) := by decide +kernel
theorem dX11_spread_16 : decode cX11_spread 16 = .ok (.if_icmp .le 5, 3) := by decide +kernel
theorem dX11_spread_19 : decode cX11_spread 19 = .ok (.iconst (-1), 1) := by decide +kernel
theorem dX11_spread_20 : decode cX11_spread 20 = .ok (.ireturn, 1) := by decide +kernel
theorem dX11_spread_21 : decode cX11_spread 21 = .ok (.aload_n 0, 1) := by decide +kernel
theorem dX11_spread_22 : decode cX11_spread 22 = .ok (.getfield 52, 3) := by decide +kernel
theorem dX11_spread_25 : decode cX11_spread 25 = .ok (.aload_n 3, 1) := by decide +kernel
theorem dX11_spread_26 : decode cX11_spread 26 = .ok (.aload_n 0, 1) := by decide +kernel
theorem dX11_spread_27 : decode cX11_spread 27 = .ok (.getfield 56, 3) := by decide +kernel
theorem dX11_spread_30 : decode cX11_spread 30 = .ok (.invokevirtual 266, 3) := by decide +kernel
theorem dX11_spread_33 : decode cX11_spread 33 = .ok (.iload_n 2, 1) := by decide +kernel
theorem dX11_spread_34 : decode cX11_spread 34 = .ok (.ifCond .ne 13, 3) := by decide +kernel
theorem dX11_spread_37 : decode cX11_spread 37 = .ok (.aload_n 0, 1) := by decide +kernel
theorem dX11_spread_38 : decode cX11_spread 38 = .ok (.getfield 52, 3) := by decide +kernel
theorem dX11_spread_41 : decode cX11_spread 41 = .ok (.invokevirtual 270, 3) := by decide +kernel
theorem dX11_spread_44 : decode cX11_spread 44 = .ok (.goto 10, 3) := by decide +kernel
theorem dX11_spread_47 : decode cX11_spread 47 = .ok (.aload_n 0, 1) := by decide +kernel
theorem dX11_spread_48 : decode cX11_spread 48 = .ok (.getfield 52, 3) := by decide +kernel
theorem dX11_spread_51 : decode cX11_spread 51 = .ok (.invokevirtual 273, 3) := by decide +kernel
theorem dX11_spread_54 : decode cX11_spread 54 = .ok (.ireturn, 1) := by decide +kernel
theorem dX11_rule_0 : decode cX11_rule 0 = .ok (.iload_n 1, 1) := by decide +kernel
theorem dX11_rule_1 : decode cX11_rule 1 = .ok (.ifCond .lt 12, 3) := by decide +kernel
theorem dX11_rule_4 : decode cX11_rule 4 = .ok (.iload_n 2, 1) := by decide +kernel
theorem dX11_rule_5 : decode cX11_rule 5 = .ok (.ifCond .lt 8, 3) := by decide +kernel
theorem dX11_rule_8 : decode cX11_rule 8 = .ok (.iload_n 2, 1) := by decide +kernel
theorem dX11_rule_9 : decode cX11_rule 9 = .ok (.iconst 1, 1) := by decide +kernel
theorem dX11_rule_10 : decode cX11_rule 10 = .ok (.if_icmp .le 5, 3) := by decide +kernel
theorem dX11_rule_13 : decode cX11_rule 13 = .ok (.iconst (-1), 1) := by decide +kernel
theorem dX11_rule_14 : decode cX11_rule 14 = .ok (.ireturn, 1) := by decide +kernel
theorem dX11_rule_15 : decode cX11_rule 15 = .ok (.iload_n 2, 1) := by decide +kernel
theorem dX11_rule_16 : decode cX11_rule 16 = .ok (.ifCond .ne 14, 3) := by decide +kernel
theorem dX11_rule_19 : decode cX11_rule 19 = .ok (.aload_n 0, 1) := by decide +kernel
theorem dX11_rule_20 : decode cX11_rule 20 = .ok (.getfield 38, 3) := by decide +kernel
theorem dX11_rule_23 : decode cX11_rule 23 = .ok (.iload_n 1, 1) := by decide +kernel
theorem dX11_rule_24 : decode cX11_rule 24 = .ok (.invokevirtual 276, 3) := by decide +kernel
theorem dX11_rule_27 : decode cX11_rule 27 = .ok (.goto 11, 3) := by decide +kernel
theorem dX11_rule_30 : decode cX11_rule 30 = .ok (.aload_n 0, 1) := by decide +kernel
theorem dX11_rule_31 : decode cX11_rule 31 = .ok (.getfield 38, 3) := by decide +kernel
theorem dX11_rule_34 : decode cX11_rule 34 = .ok (.iload_n 1, 1) := by decide +kernel
theorem dX11_rule_35 : decode cX11_rule 35 = .ok (.invokevirtual 279, 3) := by decide +kernel
theorem dX11_rule_38 : decode cX11_rule 38 = .ok (.ireturn, 1) := by decide +kernel
theorem dX11_tally_0 : decode cX11_tally 0 = .ok (.aload_n 0, 1) := by decide +kernel
theorem dX11_tally_1 : decode cX11_tally 1 = .ok (.iload_n 1, 1) := by decide +kernel
theorem dX11_tally_2 : decode cX11_tally 2 = .ok (.invokevirtual 187, 3) := by decide +kernel
theorem dX11_tally_5 : decode cX11_tally 5 = .ok (.astore_n 3, 1) := by decide +kernel
theorem dX11_tally_6 : decode cX11_tally 6 = .ok (.aload_n 3, 1) := by decide +kernel
theorem dX11_tally_7 : decode cX11_tally 7 = .ok (.ifnull 13, 3) := by decide +kernel
theorem dX11_tally_10 : decode cX11_tally 10 = .ok (.iload_n 2, 1) := by decide +kernel
theorem dX11_tally_11 : decode cX11_tally 11 = .ok (.ifCond .lt 9, 3) := by decide +kernel
theorem dX11_tally_14 : decode cX11_tally 14 = .ok (.iload_n 2, 1) := by decide +kernel
theorem dX11_tally_15 : decode cX11_tally 15 = .ok (.bipush 6, 2) := by decide +kernel
theorem dX11_tally_17 : decode cX11_tally 17 = .ok (.if_icmp .le 5, 3) := by decide +kernel
theorem dX11_tally_20 : decode cX11_tally 20 = .ok (.iconst (-1), 1) := by decide +kernel
theorem dX11_tally_21 : decode cX11_tally 21 = .ok (.ireturn, 1) := by decide +kernel
theorem dX11_tally_22 : decode cX11_tally 22 = .ok (.aload_n 3, 1) := by decide +kernel
theorem dX11_tally_23 : decode cX11_tally 23 = .ok (.getfield 227, 3) := by decide +kernel
theorem dX11_tally_26 : decode cX11_tally 26 = .ok (.astore 4, 2) := by decide +kernel
theorem dX11_tally_28 : decode cX11_tally 28 = .ok (.iload_n 2, 1) := by decide +kernel
theorem dX11_tally_29 : decode cX11_tally 29 = .ok (.tableswitch 86 0 5 #[39, 45, 54, 63, 72, 81], 39) := by decide +kernel
theorem dX11_tally_68 : decode cX11_tally 68 = .ok (.aload 4, 2) := by decide +kernel
theorem dX11_tally_70 : decode cX11_tally 70 = .ok (.getfield 144, 3) := by decide +kernel
theorem dX11_tally_73 : decode cX11_tally 73 = .ok (.ireturn, 1) := by decide +kernel
theorem dX11_tally_74 : decode cX11_tally 74 = .ok (.aload 4, 2) := by decide +kernel
theorem dX11_tally_76 : decode cX11_tally 76 = .ok (.getfield 282, 3) := by decide +kernel
theorem dX11_tally_79 : decode cX11_tally 79 = .ok (.invokestatic 263, 3) := by decide +kernel
theorem dX11_tally_82 : decode cX11_tally 82 = .ok (.ireturn, 1) := by decide +kernel
theorem dX11_tally_83 : decode cX11_tally 83 = .ok (.aload 4, 2) := by decide +kernel
theorem dX11_tally_85 : decode cX11_tally 85 = .ok (.getfield 238, 3) := by decide +kernel
theorem dX11_tally_88 : decode cX11_tally 88 = .ok (.invokevirtual 137, 3) := by decide +kernel
theorem dX11_tally_91 : decode cX11_tally 91 = .ok (.ireturn, 1) := by decide +kernel
theorem dX11_tally_92 : decode cX11_tally 92 = .ok (.aload 4, 2) := by decide +kernel
theorem dX11_tally_94 : decode cX11_tally 94 = .ok (.getfield 241, 3) := by decide +kernel
theorem dX11_tally_97 : decode cX11_tally 97 = .ok (.invokevirtual 137, 3) := by decide +kernel
theorem dX11_tally_100 : decode cX11_tally 100 = .ok (.ireturn, 1) := by decide +kernel
theorem dX11_tally_101 : decode cX11_tally 101 = .ok (.aload 4, 2) := by decide +kernel
theorem dX11_tally_103 : decode cX11_tally 103 = .ok (.getfield 235, 3) := by decide +kernel
theorem dX11_tally_106 : decode cX11_tally 106 = .ok (.invokevirtual 137, 3) := by decide +kernel
theorem dX11_tally_109 : decode cX11_tally 109 = .ok (.ireturn, 1) := by decide +kernel
theorem dX11_tally_110 : decode cX11_tally 110 = .ok (.aload_n 3, 1) := by decide +kernel
theorem dX11_tally_111 : decode cX11_tally 111 = .ok (.invokevirtual 285, 3) := by decide +kernel
theorem dX11_tally_114 : decode cX11_tally 114 = .ok (.ireturn, 1) := by decide +kernel
theorem dX11_tally_115 : decode cX11_tally 115 = .ok (.aload 4, 2) := by decide +kernel
theorem dX11_tally_117 : decode cX11_tally 117 = .ok (.getfield 288, 3) := by decide +kernel
theorem dX11_tally_120 : decode cX11_tally 120 = .ok (.ireturn, 1) := by decide +kernel
theorem dX11_count_0 : decode cX11_count 0 = .ok (.iload_n 1, 1) := by decide +kernel
theorem dX11_count_1 : decode cX11_count 1 = .ok (.tableswitch 72 0 5 #[39, 44, 49, 54, 59, 64], 39) := by decide +kernel
theorem dX11_count_40 : decode cX11_count 40 = .ok (.aload_n 0, 1) := by decide +kernel
theorem dX11_count_41 : decode cX11_count 41 = .ok (.getfield 56, 3) := by decide +kernel
theorem dX11_count_44 : decode cX11_count 44 = .ok (.ireturn, 1) := by decide +kernel
theorem dX11_count_45 : decode cX11_count 45 = .ok (.aload_n 0, 1) := by decide +kernel
theorem dX11_count_46 : decode cX11_count 46 = .ok (.getfield 291, 3) := by decide +kernel
theorem dX11_count_49 : decode cX11_count 49 = .ok (.ireturn, 1) := by decide +kernel
theorem dX11_count_50 : decode cX11_count 50 = .ok (.aload_n 0, 1) := by decide +kernel
theorem dX11_count_51 : decode cX11_count 51 = .ok (.getfield 60, 3) := by decide +kernel
theorem dX11_count_54 : decode cX11_count 54 = .ok (.ireturn, 1) := by decide +kernel
theorem dX11_count_55 : decode cX11_count 55 = .ok (.aload_n 0, 1) := by decide +kernel
theorem dX11_count_56 : decode cX11_count 56 = .ok (.getfield 63, 3) := by decide +kernel
theorem dX11_count_59 : decode cX11_count 59 = .ok (.ireturn, 1) := by decide +kernel
theorem dX11_count_60 : decode cX11_count 60 = .ok (.aload_n 0, 1) := by decide +kernel
theorem dX11_count_61 : decode cX11_count 61 = .ok (.getfield 147, 3) := by decide +kernel
theorem dX11_count_64 : decode cX11_count 64 = .ok (.ireturn, 1) := by decide +kernel
theorem dX11_count_65 : decode cX11_count 65 = .ok (.aload_n 0, 1) := by decide +kernel
theorem dX11_count_66 : decode cX11_count 66 = .ok (.getfield 12, 3) := by decide +kernel
theorem dX11_count_69 : decode cX11_count 69 = .ok (.getfield 76, 3) := by decide +kernel
theorem dX11_count_72 : decode cX11_count 72 = .ok (.ireturn, 1) := by decide +kernel
theorem dX11_count_73 : decode cX11_count 73 = .ok (.iconst (-1), 1) := by decide +kernel
theorem dX11_count_74 : decode cX11_count 74 = .ok (.ireturn, 1) := by decide +kernel
theorem dX11_beginAnew_0 : decode cX11_beginAnew 0 = .ok (.aload_n 0, 1) := by decide +kernel
theorem dX11_beginAnew_1 : decode cX11_beginAnew 1 = .ok (.aload_n 0, 1) := by decide +kernel
theorem dX11_beginAnew_2 : decode cX11_beginAnew 2 = .ok (.getfield 19, 3) := by decide +kernel
theorem dX11_beginAnew_5 : decode cX11_beginAnew 5 = .ok (.getfield 294, 3) := by decide +kernel
theorem dX11_beginAnew_8 : decode cX11_beginAnew 8 = .ok (.putfield 56, 3) := by decide +kernel
theorem dX11_beginAnew_11 : decode cX11_beginAnew 11 = .ok (.aload_n 0, 1) := by decide +kernel
theorem dX11_beginAnew_12 : decode cX11_beginAnew 12 = .ok (.aload_n 0, 1) := by decide +kernel
theorem dX11_beginAnew_13 : decode cX11_beginAnew 13 = .ok (.getfield 19, 3) := by decide +kernel
theorem dX11_beginAnew_16 : decode cX11_beginAnew 16 = .ok (.getfield 295, 3) := by decide +kernel
theorem dX11_beginAnew_19 : decode cX11_beginAnew 19 = .ok (.putfield 60, 3) := by decide +kernel
theorem dX11_beginAnew_22 : decode cX11_beginAnew 22 = .ok (.aload_n 0, 1) := by decide +kernel
theorem dX11_beginAnew_23 : decode cX11_beginAnew 23 = .ok (.aload_n 0, 1) := by decide +kernel
theorem dX11_beginAnew_24 : decode cX11_beginAnew 24 = .ok (.getfield 19, 3) := by decide +kernel
theorem dX11_beginAnew_27 : decode cX11_beginAnew 27 = .ok (.getfield 296, 3) := by decide +kernel
theorem dX11_beginAnew_30 : decode cX11_beginAnew 30 = .ok (.putfield 63, 3) := by decide +kernel
theorem dX11_beginAnew_33 : decode cX11_beginAnew 33 = .ok (.aload_n 0, 1) := by decide +kernel
theorem dX11_beginAnew_34 : decode cX11_beginAnew 34 = .ok (.aload_n 0, 1) := by decide +kernel
theorem dX11_beginAnew_35 : decode cX11_beginAnew 35 = .ok (.getfield 19, 3) := by decide +kernel
theorem dX11_beginAnew_38 : decode cX11_beginAnew 38 = .ok (.getfield 297, 3) := by decide +kernel
theorem dX11_beginAnew_41 : decode cX11_beginAnew 41 = .ok (.putfield 291, 3) := by decide +kernel
theorem dX11_beginAnew_44 : decode cX11_beginAnew 44 = .ok (.aload_n 0, 1) := by decide +kernel
theorem dX11_beginAnew_45 : decode cX11_beginAnew 45 = .ok (.iconst 0, 1) := by decide +kernel
theorem dX11_beginAnew_46 : decode cX11_beginAnew 46 = .ok (.putfield 147, 3) := by decide +kernel
theorem dX11_beginAnew_49 : decode cX11_beginAnew 49 = .ok (.iconst 0, 1) := by decide +kernel
theorem dX11_beginAnew_50 : decode cX11_beginAnew 50 = .ok (.istore_n 1, 1) := by decide +kernel
theorem dX11_beginAnew_51 : decode cX11_beginAnew 51 = .ok (.iload_n 1, 1) := by decide +kernel
theorem dX11_beginAnew_52 : decode cX11_beginAnew 52 = .ok (.aload_n 0, 1) := by decide +kernel
theorem dX11_beginAnew_53 : decode cX11_beginAnew 53 = .ok (.getfield 25, 3) := by decide +kernel
theorem dX11_beginAnew_56 : decode cX11_beginAnew 56 = .ok (.arraylength, 1) := by decide +kernel
theorem dX11_beginAnew_57 : decode cX11_beginAnew 57 = .ok (.if_icmp .ge 26, 3) := by decide +kernel
theorem dX11_beginAnew_60 : decode cX11_beginAnew 60 = .ok (.aload_n 0, 1) := by decide +kernel
theorem dX11_beginAnew_61 : decode cX11_beginAnew 61 = .ok (.getfield 25, 3) := by decide +kernel
theorem dX11_beginAnew_64 : decode cX11_beginAnew 64 = .ok (.iload_n 1, 1) := by decide +kernel
theorem dX11_beginAnew_65 : decode cX11_beginAnew 65 = .ok (.aaload, 1) := by decide +kernel
theorem dX11_beginAnew_66 : decode cX11_beginAnew 66 = .ok (.aload_n 0, 1) := by decide +kernel
theorem dX11_beginAnew_67 : decode cX11_beginAnew 67 = .ok (.getfield 19, 3) := by decide +kernel
theorem dX11_beginAnew_70 : decode cX11_beginAnew 70 = .ok (.iload_n 1, 1) := by decide +kernel
theorem dX11_beginAnew_71 : decode cX11_beginAnew 71 = .ok (.invokevirtual 298, 3) := by decide +kernel
theorem dX11_beginAnew_74 : decode cX11_beginAnew 74 = .ok (.invokevirtual 301, 3) := by decide +kernel
theorem dX11_beginAnew_77 : decode cX11_beginAnew 77 = .ok (.iinc 1 1, 3) := by decide +kernel
theorem dX11_beginAnew_80 : decode cX11_beginAnew 80 = .ok (.goto (-29), 3) := by decide +kernel
theorem dX11_beginAnew_83 : decode cX11_beginAnew 83 = .ok (.iconst 0, 1) := by decide +kernel
theorem dX11_beginAnew_84 : decode cX11_beginAnew 84 = .ok (.istore_n 1, 1) := by decide +kernel
theorem dX11_beginAnew_85 : decode cX11_beginAnew 85 = .ok (.iload_n 1, 1) := by decide +kernel
theorem dX11_beginAnew_86 : decode cX11_beginAnew 86 = .ok (.aload_n 0, 1) := by decide +kernel
theorem dX11_beginAnew_87 : decode cX11_beginAnew 87 = .ok (.getfield 31, 3) := by decide +kernel
theorem dX11_beginAnew_90 : decode cX11_beginAnew 90 = .ok (.arraylength, 1) := by decide +kernel
theorem dX11_beginAnew_91 : decode cX11_beginAnew 91 = .ok (.if_icmp .ge 18, 3) := by decide +kernel
theorem dX11_beginAnew_94 : decode cX11_beginAnew 94 = .ok (.aload_n 0, 1) := by decide +kernel
theorem dX11_beginAnew_95 : decode cX11_beginAnew 95 = .ok (.getfield 31, 3) := by decide +kernel
theorem dX11_beginAnew_98 : decode cX11_beginAnew 98 = .ok (.iload_n 1, 1) := by decide +kernel
theorem dX11_beginAnew_99 : decode cX11_beginAnew 99 = .ok (.aaload, 1) := by decide +kernel
theorem dX11_beginAnew_100 : decode cX11_beginAnew 100 = .ok (.invokevirtual 157, 3) := by decide +kernel
theorem dX11_beginAnew_103 : decode cX11_beginAnew 103 = .ok (.iinc 1 1, 3) := by decide +kernel
theorem dX11_beginAnew_106 : decode cX11_beginAnew 106 = .ok (.goto (-21), 3) := by decide +kernel
theorem dX11_beginAnew_109 : decode cX11_beginAnew 109 = .ok (.aload_n 0, 1) := by decide +kernel
theorem dX11_beginAnew_110 : decode cX11_beginAnew 110 = .ok (.getfield 38, 3) := by decide +kernel
theorem dX11_beginAnew_113 : decode cX11_beginAnew 113 = .ok (.invokevirtual 303, 3) := by decide +kernel
theorem dX11_beginAnew_116 : decode cX11_beginAnew 116 = .ok (.return_, 1) := by decide +kernel
theorem dX11_isSite_0 : decode cX11_isSite 0 = .ok (.iload_n 1, 1) := by decide +kernel
theorem dX11_isSite_1 : decode cX11_isSite 1 = .ok (.ifCond .lt 15, 3) := by decide +kernel
theorem dX11_isSite_4 : decode cX11_isSite 4 = .ok (.iload_n 1, 1) := by decide +kernel
theorem dX11_isSite_5 : decode cX11_isSite 5 = .ok (.aload_n 0, 1) := by decide +kernel
theorem dX11_isSite_6 : decode cX11_isSite 6 = .ok (.getfield 56, 3) := by decide +kernel
theorem dX11_isSite_9 : decode cX11_isSite 9 = .ok (.if_icmp .ge 7, 3) := by decide +kernel
theorem dX11_isSite_12 : decode cX11_isSite 12 = .ok (.iconst 1, 1) := by decide +kernel
theorem dX11_isSite_13 : decode cX11_isSite 13 = .ok (.goto 4, 3) := by decide +kernel
theorem dX11_isSite_16 : decode cX11_isSite 16 = .ok (.iconst 0, 1) := by decide +kernel
theorem dX11_isSite_17 : decode cX11_isSite 17 = .ok (.ireturn, 1) := by decide +kernel
theorem dX11_keyAt_0 : decode cX11_keyAt 0 = .ok (.iload_n 1, 1) := by decide +kernel
theorem dX11_keyAt_1 : decode cX11_keyAt 1 = .ok (.ifCond .lt 29, 3) := by decide +kernel
theorem dX11_keyAt_4 : decode cX11_keyAt 4 = .ok (.iload_n 1, 1) := by decide +kernel
theorem dX11_keyAt_5 : decode cX11_keyAt 5 = .ok (.aload_n 0, 1) := by decide +kernel
theorem dX11_keyAt_6 : decode cX11_keyAt 6 = .ok (.getfield 291, 3) := by decide +kernel
theorem dX11_keyAt_9 : decode cX11_keyAt 9 = .ok (.if_icmp .ge 21, 3) := by decide +kernel
theorem dX11_keyAt_12 : decode cX11_keyAt 12 = .ok (.iload_n 1, 1) := by decide +kernel
theorem dX11_keyAt_13 : decode cX11_keyAt 13 = .ok (.aload_n 0, 1) := by decide +kernel
theorem dX11_keyAt_14 : decode cX11_keyAt 14 = .ok (.getfield 25, 3) := by decide +kernel
theorem dX11_keyAt_17 : decode cX11_keyAt 17 = .ok (.arraylength, 1) := by decide +kernel
theorem dX11_keyAt_18 : decode cX11_keyAt 18 = .ok (.if_icmp .ge 12, 3) := by decide +kernel
theorem dX11_keyAt_21 : decode cX11_keyAt 21 = .ok (.aload_n 0, 1) := by decide +kernel
theorem dX11_keyAt_22 : decode cX11_keyAt 22 = .ok (.getfield 25, 3) := by decide +kernel
theorem dX11_keyAt_25 : decode cX11_keyAt 25 = .ok (.iload_n 1, 1) := by decide +kernel
theorem dX11_keyAt_26 : decode cX11_keyAt 26 = .ok (.aaload, 1) := by decide +kernel
theorem dX11_keyAt_27 : decode cX11_keyAt 27 = .ok (.goto 4, 3) := by decide +kernel
theorem dX11_keyAt_30 : decode cX11_keyAt 30 = .ok (.aconst_null, 1) := by decide +kernel
theorem dX11_keyAt_31 : decode cX11_keyAt 31 = .ok (.areturn, 1) := by decide +kernel
theorem dX11_clientAt_0 : decode cX11_clientAt 0 = .ok (.iload_n 1, 1) := by decide +kernel
theorem dX11_clientAt_1 : decode cX11_clientAt 1 = .ok (.ifCond .lt 21, 3) := by decide +kernel
theorem dX11_clientAt_4 : decode cX11_clientAt 4 = .ok (.iload_n 1, 1) := by decide +kernel
theorem dX11_clientAt_5 : decode cX11_clientAt 5 = .ok (.aload_n 0, 1) := by decide +kernel
theorem dX11_clientAt_6 : decode cX11_clientAt 6 = .ok (.getfield 31, 3) := by decide +kernel
theorem dX11_clientAt_9 : decode cX11_clientAt 9 = .ok (.arraylength, 1) := by decide +kernel
theorem dX11_clientAt_10 : decode cX11_clientAt 10 = .ok (.if_icmp .ge 12, 3) := by decide +kernel
theorem dX11_clientAt_13 : decode cX11_clientAt 13 = .ok (.aload_n 0, 1) := by decide +kernel
theorem dX11_clientAt_14 : decode cX11_clientAt 14 = .ok (.getfield 31, 3) := by decide +kernel
theorem dX11_clientAt_17 : decode cX11_clientAt 17 = .ok (.iload_n 1, 1) := by decide +kernel
theorem dX11_clientAt_18 : decode cX11_clientAt 18 = .ok (.aaload, 1) := by decide +kernel
theorem dX11_clientAt_19 : decode cX11_clientAt 19 = .ok (.goto 4, 3) := by decide +kernel
theorem dX11_clientAt_22 : decode cX11_clientAt 22 = .ok (.aconst_null, 1) := by decide +kernel
theorem dX11_clientAt_23 : decode cX11_clientAt 23 = .ok (.areturn, 1) := by decide +kernel
theorem dX11_replicaAt_0 : decode cX11_replicaAt 0 = .ok (.aload_n 0, 1) := by decide +kernel
theorem dX11_replicaAt_1 : decode cX11_replicaAt 1 = .ok (.iload_n 2, 1) := by decide +kernel
theorem dX11_replicaAt_2 : decode cX11_replicaAt 2 = .ok (.invokevirtual 187, 3) := by decide +kernel
theorem dX11_replicaAt_5 : decode cX11_replicaAt 5 = .ok (.astore_n 3, 1) := by decide +kernel
theorem dX11_replicaAt_6 : decode cX11_replicaAt 6 = .ok (.aload_n 3, 1) := by decide +kernel
theorem dX11_replicaAt_7 : decode cX11_replicaAt 7 = .ok (.ifnull 19, 3) := by decide +kernel
theorem dX11_replicaAt_10 : decode cX11_replicaAt 10 = .ok (.aload_n 0, 1) := by decide +kernel
theorem dX11_replicaAt_11 : decode cX11_replicaAt 11 = .ok (.iload_n 1, 1) := by decide +kernel
theorem dX11_replicaAt_12 : decode cX11_replicaAt 12 = .ok (.invokevirtual 194, 3) := by decide +kernel
theorem dX11_replicaAt_15 : decode cX11_replicaAt 15 = .ok (.ifCond .eq 11, 3) := by decide +kernel
theorem dX11_replicaAt_18 : decode cX11_replicaAt 18 = .ok (.aload_n 3, 1) := by decide +kernel
theorem dX11_replicaAt_19 : decode cX11_replicaAt 19 = .ok (.iload_n 1, 1) := by decide +kernel
theorem dX11_replicaAt_20 : decode cX11_replicaAt 20 = .ok (.invokevirtual 306, 3) := by decide +kernel
theorem dX11_replicaAt_23 : decode cX11_replicaAt 23 = .ok (.goto 4, 3) := by decide +kernel
theorem dX11_replicaAt_26 : decode cX11_replicaAt 26 = .ok (.aconst_null, 1) := by decide +kernel
theorem dX11_replicaAt_27 : decode cX11_replicaAt 27 = .ok (.areturn, 1) := by decide +kernel
theorem dX11_dotAt_0 : decode cX11_dotAt 0 = .ok (.aload_n 0, 1) := by decide +kernel
theorem dX11_dotAt_1 : decode cX11_dotAt 1 = .ok (.iload_n 1, 1) := by decide +kernel
theorem dX11_dotAt_2 : decode cX11_dotAt 2 = .ok (.invokevirtual 187, 3) := by decide +kernel
theorem dX11_dotAt_5 : decode cX11_dotAt 5 = .ok (.astore 4, 2) := by decide +kernel
theorem dX11_dotAt_7 : decode cX11_dotAt 7 = .ok (.aload 4, 2) := by decide +kernel
theorem dX11_dotAt_9 : decode cX11_dotAt 9 = .ok (.ifnull 22, 3) := by decide +kernel
theorem dX11_dotAt_12 : decode cX11_dotAt 12 = .ok (.aload_n 0, 1) := by decide +kernel
theorem dX11_dotAt_13 : decode cX11_dotAt 13 = .ok (.iload_n 2, 1) := by decide +kernel
theorem dX11_dotAt_14 : decode cX11_dotAt 14 = .ok (.invokevirtual 194, 3) := by decide +kernel
theorem dX11_dotAt_17 : decode cX11_dotAt 17 = .ok (.ifCond .eq 14, 3) := by decide +kernel
theorem dX11_dotAt_20 : decode cX11_dotAt 20 = .ok (.iload_n 3, 1) := by decide +kernel
theorem dX11_dotAt_21 : decode cX11_dotAt 21 = .ok (.iconst 1, 1) := by decide +kernel
theorem dX11_dotAt_22 : decode cX11_dotAt 22 = .ok (.if_icmp .lt 9, 3) := by decide +kernel
theorem dX11_dotAt_25 : decode cX11_dotAt 25 = .ok (.iload_n 3, 1) := by decide +kernel
theorem dX11_dotAt_26 : decode cX11_dotAt 26 = .ok (.bipush 40, 2) := by decide +kernel
theorem dX11_dotAt_28 : decode cX11_dotAt 28 = .ok (.if_icmp .le 5, 3) := by decide +kernel
theorem dX11_dotAt_31 : decode cX11_dotAt 31 = .ok (.iconst (-1), 1) := by decide +kernel
theorem dX11_dotAt_32 : decode cX11_dotAt 32 = .ok (.ireturn, 1) := by decide +kernel
theorem dX11_dotAt_33 : decode cX11_dotAt 33 = .ok (.iload_n 2, 1) := by decide +kernel
theorem dX11_dotAt_34 : decode cX11_dotAt 34 = .ok (.iload_n 3, 1) := by decide +kernel
theorem dX11_dotAt_35 : decode cX11_dotAt 35 = .ok (.invokestatic 310, 3) := by decide +kernel
theorem dX11_dotAt_38 : decode cX11_dotAt 38 = .ok (.istore 5, 2) := by decide +kernel
theorem dX11_dotAt_40 : decode cX11_dotAt 40 = .ok (.aload 4, 2) := by decide +kernel
theorem dX11_dotAt_42 : decode cX11_dotAt 42 = .ok (.getfield 227, 3) := by decide +kernel
theorem dX11_dotAt_45 : decode cX11_dotAt 45 = .ok (.iload 5, 2) := by decide +kernel
theorem dX11_dotAt_47 : decode cX11_dotAt 47 = .ok (.invokevirtual 313, 3) := by decide +kernel
theorem dX11_dotAt_50 : decode cX11_dotAt 50 = .ok (.ifCond .eq 8, 3) := by decide +kernel
theorem dX11_dotAt_53 : decode cX11_dotAt 53 = .ok (.iload 5, 2) := by decide +kernel
theorem dX11_dotAt_55 : decode cX11_dotAt 55 = .ok (.goto 4, 3) := by decide +kernel
theorem dX11_dotAt_58 : decode cX11_dotAt 58 = .ok (.iconst (-1), 1) := by decide +kernel
theorem dX11_dotAt_59 : decode cX11_dotAt 59 = .ok (.ireturn, 1) := by decide +kernel
theorem dX11_bit_0 : decode cX11_bit 0 = .ok (.iload_n 0, 1) := by decide +kernel
theorem dX11_bit_1 : decode cX11_bit 1 = .ok (.ifCond .eq 7, 3) := by decide +kernel
theorem dX11_bit_4 : decode cX11_bit 4 = .ok (.iconst 1, 1) := by decide +kernel
theorem dX11_bit_5 : decode cX11_bit 5 = .ok (.goto 4, 3) := by decide +kernel
theorem dX11_bit_8 : decode cX11_bit 8 = .ok (.iconst 0, 1) := by decide +kernel
theorem dX11_bit_9 : decode cX11_bit 9 = .ok (.ireturn, 1) := by decide +kernel
theorem dJ13_bitCount_95d88_0 : decode cJ13_bitCount_95d88 0 = .ok (.lload_n 0, 1) := by decide +kernel
theorem dJ13_bitCount_95d88_1 : decode cJ13_bitCount_95d88 1 = .ok (.lload_n 0, 1) := by decide +kernel
theorem dJ13_bitCount_95d88_2 : decode cJ13_bitCount_95d88 2 = .ok (.iconst 1, 1) := by decide +kernel
theorem dJ13_bitCount_95d88_3 : decode cJ13_bitCount_95d88 3 = .ok (.lushr, 1) := by decide +kernel
theorem dJ13_bitCount_95d88_4 : decode cJ13_bitCount_95d88 4 = .ok (.ldc2_w 314, 3) := by decide +kernel
theorem dJ13_bitCount_95d88_7 : decode cJ13_bitCount_95d88 7 = .ok (.land, 1) := by decide +kernel
theorem dJ13_bitCount_95d88_8 : decode cJ13_bitCount_95d88 8 = .ok (.lsub, 1) := by decide +kernel
theorem dJ13_bitCount_95d88_9 : decode cJ13_bitCount_95d88 9 = .ok (.lstore_n 0, 1) := by decide +kernel
theorem dJ13_bitCount_95d88_10 : decode cJ13_bitCount_95d88 10 = .ok (.lload_n 0, 1) := by decide +kernel
theorem dJ13_bitCount_95d88_11 : decode cJ13_bitCount_95d88 11 = .ok (.ldc2_w 316, 3) := by decide +kernel
theorem dJ13_bitCount_95d88_14 : decode cJ13_bitCount_95d88 14 = .ok (.land, 1) := by decide +kernel
theorem dJ13_bitCount_95d88_15 : decode cJ13_bitCount_95d88 15 = .ok (.lload_n 0, 1) := by decide +kernel
theorem dJ13_bitCount_95d88_16 : decode cJ13_bitCount_95d88 16 = .ok (.iconst 2, 1) := by decide +kernel
theorem dJ13_bitCount_95d88_17 : decode cJ13_bitCount_95d88 17 = .ok (.lushr, 1) := by decide +kernel
theorem dJ13_bitCount_95d88_18 : decode cJ13_bitCount_95d88 18 = .ok (.ldc2_w 316, 3) := by decide +kernel
theorem dJ13_bitCount_95d88_21 : decode cJ13_bitCount_95d88 21 = .ok (.land, 1) := by decide +kernel
theorem dJ13_bitCount_95d88_22 : decode cJ13_bitCount_95d88 22 = .ok (.ladd, 1) := by decide +kernel
theorem dJ13_bitCount_95d88_23 : decode cJ13_bitCount_95d88 23 = .ok (.lstore_n 0, 1) := by decide +kernel
theorem dJ13_bitCount_95d88_24 : decode cJ13_bitCount_95d88 24 = .ok (.lload_n 0, 1) := by decide +kernel
theorem dJ13_bitCount_95d88_25 : decode cJ13_bitCount_95d88 25 = .ok (.lload_n 0, 1) := by decide +kernel
theorem dJ13_bitCount_95d88_26 : decode cJ13_bitCount_95d88 26 = .ok (.iconst 4, 1) := by decide +kernel
theorem dJ13_bitCount_95d88_27 : decode cJ13_bitCount_95d88 27 = .ok (.lushr, 1) := by decide +kernel
theorem dJ13_bitCount_95d88_28 : decode cJ13_bitCount_95d88 28 = .ok (.ladd, 1) := by decide +kernel
theorem dJ13_bitCount_95d88_29 : decode cJ13_bitCount_95d88 29 = .ok (.ldc2_w 318, 3) := by decide +kernel
theorem dJ13_bitCount_95d88_32 : decode cJ13_bitCount_95d88 32 = .ok (.land, 1) := by decide +kernel
theorem dJ13_bitCount_95d88_33 : decode cJ13_bitCount_95d88 33 = .ok (.lstore_n 0, 1) := by decide +kernel
theorem dJ13_bitCount_95d88_34 : decode cJ13_bitCount_95d88 34 = .ok (.lload_n 0, 1) := by decide +kernel
theorem dJ13_bitCount_95d88_35 : decode cJ13_bitCount_95d88 35 = .ok (.lload_n 0, 1) := by decide +kernel
theorem dJ13_bitCount_95d88_36 : decode cJ13_bitCount_95d88 36 = .ok (.bipush 8, 2) := by decide +kernel
theorem dJ13_bitCount_95d88_38 : decode cJ13_bitCount_95d88 38 = .ok (.lushr, 1) := by decide +kernel
theorem dJ13_bitCount_95d88_39 : decode cJ13_bitCount_95d88 39 = .ok (.ladd, 1) := by decide +kernel
theorem dJ13_bitCount_95d88_40 : decode cJ13_bitCount_95d88 40 = .ok (.lstore_n 0, 1) := by decide +kernel
theorem dJ13_bitCount_95d88_41 : decode cJ13_bitCount_95d88 41 = .ok (.lload_n 0, 1) := by decide +kernel
theorem dJ13_bitCount_95d88_42 : decode cJ13_bitCount_95d88 42 = .ok (.lload_n 0, 1) := by decide +kernel
theorem dJ13_bitCount_95d88_43 : decode cJ13_bitCount_95d88 43 = .ok (.bipush 16, 2) := by decide +kernel
theorem dJ13_bitCount_95d88_45 : decode cJ13_bitCount_95d88 45 = .ok (.lushr, 1) := by decide +kernel
theorem dJ13_bitCount_95d88_46 : decode cJ13_bitCount_95d88 46 = .ok (.ladd, 1) := by decide +kernel
theorem dJ13_bitCount_95d88_47 : decode cJ13_bitCount_95d88 47 = .ok (.lstore_n 0, 1) := by decide +kernel
theorem dJ13_bitCount_95d88_48 : decode cJ13_bitCount_95d88 48 = .ok (.lload_n 0, 1) := by decide +kernel
theorem dJ13_bitCount_95d88_49 : decode cJ13_bitCount_95d88 49 = .ok (.lload_n 0, 1) := by decide +kernel
theorem dJ13_bitCount_95d88_50 : decode cJ13_bitCount_95d88 50 = .ok (.bipush 32, 2) := by decide +kernel
theorem dJ13_bitCount_95d88_52 : decode cJ13_bitCount_95d88 52 = .ok (.lushr, 1) := by decide +kernel
theorem dJ13_bitCount_95d88_53 : decode cJ13_bitCount_95d88 53 = .ok (.ladd, 1) := by decide +kernel
theorem dJ13_bitCount_95d88_54 : decode cJ13_bitCount_95d88 54 = .ok (.lstore_n 0, 1) := by decide +kernel
theorem dJ13_bitCount_95d88_55 : decode cJ13_bitCount_95d88 55 = .ok (.lload_n 0, 1) := by decide +kernel
theorem dJ13_bitCount_95d88_56 : decode cJ13_bitCount_95d88 56 = .ok (.l2i, 1) := by decide +kernel
theorem dJ13_bitCount_95d88_57 : decode cJ13_bitCount_95d88 57 = .ok (.bipush 127, 2) := by decide +kernel
theorem dJ13_bitCount_95d88_59 : decode cJ13_bitCount_95d88 59 = .ok (.iand, 1) := by decide +kernel
theorem dJ13_bitCount_95d88_60 : decode cJ13_bitCount_95d88 60 = .ok (.ireturn, 1) := by decide +kernel
theorem dJ9_max_7cf53_0 : decode cJ9_max_7cf53 0 = .ok (.iload_n 0, 1) := by decide +kernel
theorem dJ9_max_7cf53_1 : decode cJ9_max_7cf53 1 = .ok (.iload_n 1, 1) := by decide +kernel
theorem dJ9_max_7cf53_2 : decode cJ9_max_7cf53 2 = .ok (.if_icmp .lt 7, 3) := by decide +kernel
theorem dJ9_max_7cf53_5 : decode cJ9_max_7cf53 5 = .ok (.iload_n 0, 1) := by decide +kernel
theorem dJ9_max_7cf53_6 : decode cJ9_max_7cf53 6 = .ok (.goto 4, 3) := by decide +kernel
theorem dJ9_max_7cf53_9 : decode cJ9_max_7cf53 9 = .ok (.iload_n 1, 1) := by decide +kernel
theorem dJ9_max_7cf53_10 : decode cJ9_max_7cf53 10 = .ok (.ireturn, 1) := by decide +kernel
theorem dJ9_max_f86c9_0 : decode cJ9_max_f86c9 0 = .ok (.lload_n 0, 1) := by decide +kernel
theorem dJ9_max_f86c9_1 : decode cJ9_max_f86c9 1 = .ok (.lload_n 2, 1) := by decide +kernel
theorem dJ9_max_f86c9_2 : decode cJ9_max_f86c9 2 = .ok (.lcmp, 1) := by decide +kernel
theorem dJ9_max_f86c9_3 : decode cJ9_max_f86c9 3 = .ok (.ifCond .lt 7, 3) := by decide +kernel
theorem dJ9_max_f86c9_6 : decode cJ9_max_f86c9 6 = .ok (.lload_n 0, 1) := by decide +kernel
theorem dJ9_max_f86c9_7 : decode cJ9_max_f86c9 7 = .ok (.goto 4, 3) := by decide +kernel
theorem dJ9_max_f86c9_10 : decode cJ9_max_f86c9 10 = .ok (.lload_n 2, 1) := by decide +kernel
theorem dJ9_max_f86c9_11 : decode cJ9_max_f86c9 11 = .ok (.lreturn, 1) := by decide +kernel
theorem dJ9_min_7cf53_0 : decode cJ9_min_7cf53 0 = .ok (.iload_n 0, 1) := by decide +kernel
theorem dJ9_min_7cf53_1 : decode cJ9_min_7cf53 1 = .ok (.iload_n 1, 1) := by decide +kernel
theorem dJ9_min_7cf53_2 : decode cJ9_min_7cf53 2 = .ok (.if_icmp .gt 7, 3) := by decide +kernel
theorem dJ9_min_7cf53_5 : decode cJ9_min_7cf53 5 = .ok (.iload_n 0, 1) := by decide +kernel
theorem dJ9_min_7cf53_6 : decode cJ9_min_7cf53 6 = .ok (.goto 4, 3) := by decide +kernel
theorem dJ9_min_7cf53_9 : decode cJ9_min_7cf53 9 = .ok (.iload_n 1, 1) := by decide +kernel
theorem dJ9_min_7cf53_10 : decode cJ9_min_7cf53 10 = .ok (.ireturn, 1) := by decide +kernel
theorem dJ9_min_f86c9_0 : decode cJ9_min_f86c9 0 = .ok (.lload_n 0, 1) := by decide +kernel
theorem dJ9_min_f86c9_1 : decode cJ9_min_f86c9 1 = .ok (.lload_n 2, 1) := by decide +kernel
theorem dJ9_min_f86c9_2 : decode cJ9_min_f86c9 2 = .ok (.lcmp, 1) := by decide +kernel
theorem dJ9_min_f86c9_3 : decode cJ9_min_f86c9 3 = .ok (.ifCond .gt 7, 3) := by decide +kernel
theorem dJ9_min_f86c9_6 : decode cJ9_min_f86c9 6 = .ok (.lload_n 0, 1) := by decide +kernel
theorem dJ9_min_f86c9_7 : decode cJ9_min_f86c9 7 = .ok (.goto 4, 3) := by decide +kernel
theorem dJ9_min_f86c9_10 : decode cJ9_min_f86c9 10 = .ok (.lload_n 2, 1) := by decide +kernel
theorem dJ9_min_f86c9_11 : decode cJ9_min_f86c9 11 = .ok (.lreturn, 1) := by decide +kernel
theorem dJ0_length_8abf5_0 : decode cJ0_length_8abf5 0 = .ok (.aload_n 0, 1) := by decide +kernel
theorem dJ0_length_8abf5_1 : decode cJ0_length_8abf5 1 = .ok (.getfield 9, 3) := by decide +kernel
theorem dJ0_length_8abf5_4 : decode cJ0_length_8abf5 4 = .ok (.arraylength, 1) := by decide +kernel
theorem dJ0_length_8abf5_5 : decode cJ0_length_8abf5 5 = .ok (.aload_n 0, 1) := by decide +kernel
theorem dJ0_length_8abf5_6 : decode cJ0_length_8abf5 6 = .ok (.invokevirtual 335, 3) := by decide +kernel
theorem dJ0_length_8abf5_9 : decode cJ0_length_8abf5 9 = .ok (.ishr, 1) := by decide +kernel
theorem dJ0_length_8abf5_10 : decode cJ0_length_8abf5 10 = .ok (.ireturn, 1) := by decide +kernel
theorem dJ0_charAt_5068e_0 : decode cJ0_charAt_5068e 0 = .ok (.aload_n 0, 1) := by decide +kernel
theorem dJ0_charAt_5068e_1 : decode cJ0_charAt_5068e 1 = .ok (.invokevirtual 492, 3) := by decide +kernel
theorem dJ0_charAt_5068e_4 : decode cJ0_charAt_5068e 4 = .ok (.ifCond .eq 12, 3) := by decide +kernel
theorem dJ0_charAt_5068e_7 : decode cJ0_charAt_5068e 7 = .ok (.aload_n 0, 1) := by decide +kernel
theorem dJ0_charAt_5068e_8 : decode cJ0_charAt_5068e 8 = .ok (.getfield 9, 3) := by decide +kernel
theorem dJ0_charAt_5068e_11 : decode cJ0_charAt_5068e 11 = .ok (.iload_n 1, 1) := by decide +kernel
theorem dJ0_charAt_5068e_12 : decode cJ0_charAt_5068e 12 = .ok (.invokestatic 495, 3) := by decide +kernel
theorem dJ0_charAt_5068e_15 : decode cJ0_charAt_5068e 15 = .ok (.ireturn, 1) := by decide +kernel
theorem dJ0_charAt_5068e_16 : decode cJ0_charAt_5068e 16 = .ok (.aload_n 0, 1) := by decide +kernel
theorem dJ0_charAt_5068e_17 : decode cJ0_charAt_5068e 17 = .ok (.getfield 9, 3) := by decide +kernel
theorem dJ0_charAt_5068e_20 : decode cJ0_charAt_5068e 20 = .ok (.iload_n 1, 1) := by decide +kernel
theorem dJ0_charAt_5068e_21 : decode cJ0_charAt_5068e 21 = .ok (.invokestatic 498, 3) := by decide +kernel
theorem dJ0_charAt_5068e_24 : decode cJ0_charAt_5068e 24 = .ok (.ireturn, 1) := by decide +kernel
theorem dJ0_coder_7d493_0 : decode cJ0_coder_7d493 0 = .ok (.getstatic 38, 3) := by decide +kernel
theorem dJ0_coder_7d493_3 : decode cJ0_coder_7d493 3 = .ok (.ifCond .eq 10, 3) := by decide +kernel
theorem dJ0_coder_7d493_6 : decode cJ0_coder_7d493 6 = .ok (.aload_n 0, 1) := by decide +kernel
theorem dJ0_coder_7d493_7 : decode cJ0_coder_7d493 7 = .ok (.getfield 15, 3) := by decide +kernel
theorem dJ0_coder_7d493_10 : decode cJ0_coder_7d493 10 = .ok (.goto 4, 3) := by decide +kernel
theorem dJ0_coder_7d493_13 : decode cJ0_coder_7d493 13 = .ok (.iconst 1, 1) := by decide +kernel
theorem dJ0_coder_7d493_14 : decode cJ0_coder_7d493 14 = .ok (.ireturn, 1) := by decide +kernel
theorem dJ0_isLatin1_aae02_0 : decode cJ0_isLatin1_aae02 0 = .ok (.getstatic 38, 3) := by decide +kernel
theorem dJ0_isLatin1_aae02_3 : decode cJ0_isLatin1_aae02 3 = .ok (.ifCond .eq 14, 3) := by decide +kernel
theorem dJ0_isLatin1_aae02_6 : decode cJ0_isLatin1_aae02 6 = .ok (.aload_n 0, 1) := by decide +kernel
theorem dJ0_isLatin1_aae02_7 : decode cJ0_isLatin1_aae02 7 = .ok (.getfield 15, 3) := by decide +kernel
theorem dJ0_isLatin1_aae02_10 : decode cJ0_isLatin1_aae02 10 = .ok (.ifCond .ne 7, 3) := by decide +kernel
theorem dJ0_isLatin1_aae02_13 : decode cJ0_isLatin1_aae02 13 = .ok (.iconst 1, 1) := by decide +kernel
theorem dJ0_isLatin1_aae02_14 : decode cJ0_isLatin1_aae02 14 = .ok (.goto 4, 3) := by decide +kernel
theorem dJ0_isLatin1_aae02_17 : decode cJ0_isLatin1_aae02 17 = .ok (.iconst 0, 1) := by decide +kernel
theorem dJ0_isLatin1_aae02_18 : decode cJ0_isLatin1_aae02 18 = .ok (.ireturn, 1) := by decide +kernel
theorem dJ0_checkIndex_df160_0 : decode cJ0_checkIndex_df160 0 = .ok (.iload_n 0, 1) := by decide +kernel
theorem dJ0_checkIndex_df160_1 : decode cJ0_checkIndex_df160 1 = .ok (.iload_n 1, 1) := by decide +kernel
theorem dJ0_checkIndex_df160_2 : decode cJ0_checkIndex_df160 2 = .ok (.getstatic 1053, 3) := by decide +kernel
theorem dJ0_checkIndex_df160_5 : decode cJ0_checkIndex_df160 5 = .ok (.invokestatic 1059, 3) := by decide +kernel
theorem dJ0_checkIndex_df160_8 : decode cJ0_checkIndex_df160 8 = .ok (.pop, 1) := by decide +kernel
theorem dJ0_checkIndex_df160_9 : decode cJ0_checkIndex_df160 9 = .ok (.return_, 1) := by decide +kernel
theorem dJ1_charAt_3b067_0 : decode cJ1_charAt_3b067 0 = .ok (.iload_n 1, 1) := by decide +kernel
theorem dJ1_charAt_3b067_1 : decode cJ1_charAt_3b067 1 = .ok (.aload_n 0, 1) := by decide +kernel
theorem dJ1_charAt_3b067_2 : decode cJ1_charAt_3b067 2 = .ok (.arraylength, 1) := by decide +kernel
theorem dJ1_charAt_3b067_3 : decode cJ1_charAt_3b067 3 = .ok (.invokestatic 9, 3) := by decide +kernel
theorem dJ1_charAt_3b067_6 : decode cJ1_charAt_3b067 6 = .ok (.aload_n 0, 1) := by decide +kernel
theorem dJ1_charAt_3b067_7 : decode cJ1_charAt_3b067 7 = .ok (.iload_n 1, 1) := by decide +kernel
theorem dJ1_charAt_3b067_8 : decode cJ1_charAt_3b067 8 = .ok (.baload, 1) := by decide +kernel
theorem dJ1_charAt_3b067_9 : decode cJ1_charAt_3b067 9 = .ok (.sipush 255, 3) := by decide +kernel
theorem dJ1_charAt_3b067_12 : decode cJ1_charAt_3b067 12 = .ok (.iand, 1) := by decide +kernel
theorem dJ1_charAt_3b067_13 : decode cJ1_charAt_3b067 13 = .ok (.i2c, 1) := by decide +kernel
theorem dJ1_charAt_3b067_14 : decode cJ1_charAt_3b067 14 = .ok (.ireturn, 1) := by decide +kernel
theorem dJ2_getChar_3b067_0 : decode cJ2_getChar_3b067 0 = .ok (.getstatic 44, 3) := by decide +kernel
theorem dJ2_getChar_3b067_3 : decode cJ2_getChar_3b067 3 = .ok (.ifCond .ne 25, 3) := by decide +kernel
theorem dJ2_getChar_3b067_6 : decode cJ2_getChar_3b067 6 = .ok (.iload_n 1, 1) := by decide +kernel
theorem dJ2_getChar_3b067_7 : decode cJ2_getChar_3b067 7 = .ok (.ifCond .lt 11, 3) := by decide +kernel
theorem dJ2_getChar_3b067_10 : decode cJ2_getChar_3b067 10 = .ok (.iload_n 1, 1) := by decide +kernel
theorem dJ2_getChar_3b067_11 : decode cJ2_getChar_3b067 11 = .ok (.aload_n 0, 1) := by decide +kernel
theorem dJ2_getChar_3b067_12 : decode cJ2_getChar_3b067 12 = .ok (.invokestatic 48, 3) := by decide +kernel
theorem dJ2_getChar_3b067_15 : decode cJ2_getChar_3b067 15 = .ok (.if_icmp .lt 13, 3) := by decide +kernel
theorem dJ2_getChar_3b067_18 : decode cJ2_getChar_3b067 18 = .ok (.new 52, 3) := by decide +kernel
theorem dJ2_getChar_3b067_21 : decode cJ2_getChar_3b067 21 = .ok (.dup, 1) := by decide +kernel
theorem dJ2_getChar_3b067_22 : decode cJ2_getChar_3b067 22 = .ok (.ldc 54, 2) := by decide +kernel
theorem dJ2_getChar_3b067_24 : decode cJ2_getChar_3b067 24 = .ok (.invokespecial 56, 3) := by decide +kernel
theorem dJ2_getChar_3b067_27 : decode cJ2_getChar_3b067 27 = .ok (.athrow, 1) := by decide +kernel
theorem dJ2_getChar_3b067_28 : decode cJ2_getChar_3b067 28 = .ok (.iload_n 1, 1) := by decide +kernel
theorem dJ2_getChar_3b067_29 : decode cJ2_getChar_3b067 29 = .ok (.iconst 1, 1) := by decide +kernel
theorem dJ2_getChar_3b067_30 : decode cJ2_getChar_3b067 30 = .ok (.ishl, 1) := by decide +kernel
theorem dJ2_getChar_3b067_31 : decode cJ2_getChar_3b067 31 = .ok (.istore_n 1, 1) := by decide +kernel
theorem dJ2_getChar_3b067_32 : decode cJ2_getChar_3b067 32 = .ok (.aload_n 0, 1) := by decide +kernel
theorem dJ2_getChar_3b067_33 : decode cJ2_getChar_3b067 33 = .ok (.iload_n 1, 1) := by decide +kernel
theorem dJ2_getChar_3b067_34 : decode cJ2_getChar_3b067 34 = .ok (.iinc 1 1, 3) := by decide +kernel
theorem dJ2_getChar_3b067_37 : decode cJ2_getChar_3b067 37 = .ok (.baload, 1) := by decide +kernel
theorem dJ2_getChar_3b067_38 : decode cJ2_getChar_3b067 38 = .ok (.sipush 255, 3) := by decide +kernel
theorem dJ2_getChar_3b067_41 : decode cJ2_getChar_3b067 41 = .ok (.iand, 1) := by decide +kernel
theorem dJ2_getChar_3b067_42 : decode cJ2_getChar_3b067 42 = .ok (.getstatic 59, 3) := by decide +kernel
theorem dJ2_getChar_3b067_45 : decode cJ2_getChar_3b067 45 = .ok (.ishl, 1) := by decide +kernel
theorem dJ2_getChar_3b067_46 : decode cJ2_getChar_3b067 46 = .ok (.aload_n 0, 1) := by decide +kernel
theorem dJ2_getChar_3b067_47 : decode cJ2_getChar_3b067 47 = .ok (.iload_n 1, 1) := by decide +kernel
theorem dJ2_getChar_3b067_48 : decode cJ2_getChar_3b067 48 = .ok (.baload, 1) := by decide +kernel
theorem dJ2_getChar_3b067_49 : decode cJ2_getChar_3b067 49 = .ok (.sipush 255, 3) := by decide +kernel
theorem dJ2_getChar_3b067_52 : decode cJ2_getChar_3b067 52 = .ok (.iand, 1) := by decide +kernel
theorem dJ2_getChar_3b067_53 : decode cJ2_getChar_3b067 53 = .ok (.getstatic 63, 3) := by decide +kernel
theorem dJ2_getChar_3b067_56 : decode cJ2_getChar_3b067 56 = .ok (.ishl, 1) := by decide +kernel
theorem dJ2_getChar_3b067_57 : decode cJ2_getChar_3b067 57 = .ok (.ior, 1) := by decide +kernel
theorem dJ2_getChar_3b067_58 : decode cJ2_getChar_3b067 58 = .ok (.i2c, 1) := by decide +kernel
theorem dJ2_getChar_3b067_59 : decode cJ2_getChar_3b067 59 = .ok (.ireturn, 1) := by decide +kernel
theorem dJ2_length_9d52b_0 : decode cJ2_length_9d52b 0 = .ok (.aload_n 0, 1) := by decide +kernel
theorem dJ2_length_9d52b_1 : decode cJ2_length_9d52b 1 = .ok (.arraylength, 1) := by decide +kernel
theorem dJ2_length_9d52b_2 : decode cJ2_length_9d52b 2 = .ok (.iconst 1, 1) := by decide +kernel
theorem dJ2_length_9d52b_3 : decode cJ2_length_9d52b 3 = .ok (.ishr, 1) := by decide +kernel
theorem dJ2_length_9d52b_4 : decode cJ2_length_9d52b 4 = .ok (.ireturn, 1) := by decide +kernel
theorem dJ2_charAt_3b067_0 : decode cJ2_charAt_3b067 0 = .ok (.iload_n 1, 1) := by decide +kernel
theorem dJ2_charAt_3b067_1 : decode cJ2_charAt_3b067 1 = .ok (.aload_n 0, 1) := by decide +kernel
theorem dJ2_charAt_3b067_2 : decode cJ2_charAt_3b067 2 = .ok (.invokestatic 67, 3) := by decide +kernel
theorem dJ2_charAt_3b067_5 : decode cJ2_charAt_3b067 5 = .ok (.aload_n 0, 1) := by decide +kernel
theorem dJ2_charAt_3b067_6 : decode cJ2_charAt_3b067 6 = .ok (.iload_n 1, 1) := by decide +kernel
theorem dJ2_charAt_3b067_7 : decode cJ2_charAt_3b067 7 = .ok (.invokestatic 71, 3) := by decide +kernel
theorem dJ2_charAt_3b067_10 : decode cJ2_charAt_3b067 10 = .ok (.ireturn, 1) := by decide +kernel
theorem dJ2_checkIndex_2214a_0 : decode cJ2_checkIndex_2214a 0 = .ok (.iload_n 0, 1) := by decide +kernel
theorem dJ2_checkIndex_2214a_1 : decode cJ2_checkIndex_2214a 1 = .ok (.aload_n 1, 1) := by decide +kernel
theorem dJ2_checkIndex_2214a_2 : decode cJ2_checkIndex_2214a 2 = .ok (.invokestatic 48, 3) := by decide +kernel
theorem dJ2_checkIndex_2214a_5 : decode cJ2_checkIndex_2214a 5 = .ok (.invokestatic 414, 3) := by decide +kernel
theorem dJ2_checkIndex_2214a_8 : decode cJ2_checkIndex_2214a 8 = .ok (.return_, 1) := by decide +kernel
theorem dJ3_checkIndex_8e157_0 : decode cJ3_checkIndex_8e157 0 = .ok (.iload_n 0, 1) := by decide +kernel
theorem dJ3_checkIndex_8e157_1 : decode cJ3_checkIndex_8e157 1 = .ok (.ifCond .lt 8, 3) := by decide +kernel
theorem dJ3_checkIndex_8e157_4 : decode cJ3_checkIndex_8e157 4 = .ok (.iload_n 0, 1) := by decide +kernel
theorem dJ3_checkIndex_8e157_5 : decode cJ3_checkIndex_8e157 5 = .ok (.iload_n 1, 1) := by decide +kernel
theorem dJ3_checkIndex_8e157_6 : decode cJ3_checkIndex_8e157 6 = .ok (.if_icmp .lt 10, 3) := by decide +kernel
theorem dJ3_checkIndex_8e157_9 : decode cJ3_checkIndex_8e157 9 = .ok (.aload_n 2, 1) := by decide +kernel
theorem dJ3_checkIndex_8e157_10 : decode cJ3_checkIndex_8e157 10 = .ok (.iload_n 0, 1) := by decide +kernel
theorem dJ3_checkIndex_8e157_11 : decode cJ3_checkIndex_8e157 11 = .ok (.iload_n 1, 1) := by decide +kernel
theorem dJ3_checkIndex_8e157_12 : decode cJ3_checkIndex_8e157 12 = .ok (.invokestatic 95, 3) := by decide +kernel
theorem dJ3_checkIndex_8e157_15 : decode cJ3_checkIndex_8e157 15 = .ok (.athrow, 1) := by decide +kernel
theorem dJ3_checkIndex_8e157_16 : decode cJ3_checkIndex_8e157 16 = .ok (.iload_n 0, 1) := by decide +kernel
theorem dJ3_checkIndex_8e157_17 : decode cJ3_checkIndex_8e157 17 = .ok (.ireturn, 1) := by decide +kernel
