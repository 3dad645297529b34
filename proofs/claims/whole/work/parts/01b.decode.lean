theorem dX0_init_0 : decode cX0_init 0 = .ok (.aload_n 0, 1) := by decide +kernel
theorem dX0_init_1 : decode cX0_init 1 = .ok (.invokespecial 1, 3) := by decide +kernel
theorem dX0_init_4 : decode cX0_init 4 = .ok (.aload_n 0, 1) := by decide +kernel
theorem dX0_init_5 : decode cX0_init 5 = .ok (.iconst (-1), 1) := by decide +kernel
theorem dX0_init_6 : decode cX0_init 6 = .ok (.putfield 9, 3) := by decide +kernel
theorem dX0_init_9 : decode cX0_init 9 = .ok (.return_, 1) := by decide +kernel
theorem dX0_isBlind_0 : decode cX0_isBlind 0 = .ok (.aload_n 0, 1) := by decide +kernel
theorem dX0_isBlind_1 : decode cX0_isBlind 1 = .ok (.getfield 9, 3) := by decide +kernel
theorem dX0_isBlind_4 : decode cX0_isBlind 4 = .ok (.iconst (-1), 1) := by decide +kernel
theorem dX0_isBlind_5 : decode cX0_isBlind 5 = .ok (.if_icmp .ne 7, 3) := by decide +kernel
theorem dX0_isBlind_8 : decode cX0_isBlind 8 = .ok (.iconst 1, 1) := by decide +kernel
theorem dX0_isBlind_9 : decode cX0_isBlind 9 = .ok (.goto 4, 3) := by decide +kernel
theorem dX0_isBlind_12 : decode cX0_isBlind 12 = .ok (.iconst 0, 1) := by decide +kernel
theorem dX0_isBlind_13 : decode cX0_isBlind 13 = .ok (.ireturn, 1) := by decide +kernel
theorem dX0_becomeBlind_0 : decode cX0_becomeBlind 0 = .ok (.aload_n 0, 1) := by decide +kernel
theorem dX0_becomeBlind_1 : decode cX0_becomeBlind 1 = .ok (.iconst (-1), 1) := by decide +kernel
theorem dX0_becomeBlind_2 : decode cX0_becomeBlind 2 = .ok (.putfield 9, 3) := by decide +kernel
theorem dX0_becomeBlind_5 : decode cX0_becomeBlind 5 = .ok (.aload_n 0, 1) := by decide +kernel
theorem dX0_becomeBlind_6 : decode cX0_becomeBlind 6 = .ok (.iconst 0, 1) := by decide +kernel
theorem dX0_becomeBlind_7 : decode cX0_becomeBlind 7 = .ok (.putfield 13, 3) := by decide +kernel
theorem dX0_becomeBlind_10 : decode cX0_becomeBlind 10 = .ok (.aload_n 0, 1) := by decide +kernel
theorem dX0_becomeBlind_11 : decode cX0_becomeBlind 11 = .ok (.iconst 0, 1) := by decide +kernel
theorem dX0_becomeBlind_12 : decode cX0_becomeBlind 12 = .ok (.putfield 16, 3) := by decide +kernel
theorem dX0_becomeBlind_15 : decode cX0_becomeBlind 15 = .ok (.return_, 1) := by decide +kernel
theorem dX1_init_0 : decode cX1_init 0 = .ok (.aload_n 0, 1) := by decide +kernel
theorem dX1_init_1 : decode cX1_init 1 = .ok (.invokespecial 3, 3) := by decide +kernel
theorem dX1_init_4 : decode cX1_init 4 = .ok (.aload_n 0, 1) := by decide +kernel
theorem dX1_init_5 : decode cX1_init 5 = .ok (.iconst 4, 1) := by decide +kernel
theorem dX1_init_6 : decode cX1_init 6 = .ok (.newarray .long, 2) := by decide +kernel
theorem dX1_init_8 : decode cX1_init 8 = .ok (.putfield 9, 3) := by decide +kernel
theorem dX1_init_11 : decode cX1_init 11 = .ok (.return_, 1) := by decide +kernel
theorem dX1_of_0 : decode cX1_of 0 = .ok (.iload_n 0, 1) := by decide +kernel
theorem dX1_of_1 : decode cX1_of 1 = .ok (.bipush 40, 2) := by decide +kernel
theorem dX1_of_3 : decode cX1_of 3 = .ok (.imul, 1) := by decide +kernel
theorem dX1_of_4 : decode cX1_of 4 = .ok (.iload_n 1, 1) := by decide +kernel
theorem dX1_of_5 : decode cX1_of 5 = .ok (.iadd, 1) := by decide +kernel
theorem dX1_of_6 : decode cX1_of 6 = .ok (.iconst 1, 1) := by decide +kernel
theorem dX1_of_7 : decode cX1_of 7 = .ok (.isub, 1) := by decide +kernel
theorem dX1_of_8 : decode cX1_of 8 = .ok (.ireturn, 1) := by decide +kernel
theorem dX1_siteOf_0 : decode cX1_siteOf 0 = .ok (.iload_n 0, 1) := by decide +kernel
theorem dX1_siteOf_1 : decode cX1_siteOf 1 = .ok (.bipush 40, 2) := by decide +kernel
theorem dX1_siteOf_3 : decode cX1_siteOf 3 = .ok (.idiv, 1) := by decide +kernel
theorem dX1_siteOf_4 : decode cX1_siteOf 4 = .ok (.ireturn, 1) := by decide +kernel
theorem dX1_numberOf_0 : decode cX1_numberOf 0 = .ok (.iload_n 0, 1) := by decide +kernel
theorem dX1_numberOf_1 : decode cX1_numberOf 1 = .ok (.bipush 40, 2) := by decide +kernel
theorem dX1_numberOf_3 : decode cX1_numberOf 3 = .ok (.irem, 1) := by decide +kernel
theorem dX1_numberOf_4 : decode cX1_numberOf 4 = .ok (.iconst 1, 1) := by decide +kernel
theorem dX1_numberOf_5 : decode cX1_numberOf 5 = .ok (.iadd, 1) := by decide +kernel
theorem dX1_numberOf_6 : decode cX1_numberOf 6 = .ok (.ireturn, 1) := by decide +kernel
theorem dX1_isDot_0 : decode cX1_isDot 0 = .ok (.iload_n 0, 1) := by decide +kernel
theorem dX1_isDot_1 : decode cX1_isDot 1 = .ok (.ifCond .lt 14, 3) := by decide +kernel
theorem dX1_isDot_4 : decode cX1_isDot 4 = .ok (.iload_n 0, 1) := by decide +kernel
theorem dX1_isDot_5 : decode cX1_isDot 5 = .ok (.sipush 160, 3) := by decide +kernel
theorem dX1_isDot_8 : decode cX1_isDot 8 = .ok (.if_icmp .ge 7, 3) := by decide +kernel
theorem dX1_isDot_11 : decode cX1_isDot 11 = .ok (.iconst 1, 1) := by decide +kernel
theorem dX1_isDot_12 : decode cX1_isDot 12 = .ok (.goto 4, 3) := by decide +kernel
theorem dX1_isDot_15 : decode cX1_isDot 15 = .ok (.iconst 0, 1) := by decide +kernel
theorem dX1_isDot_16 : decode cX1_isDot 16 = .ok (.ireturn, 1) := by decide +kernel
theorem dX1_covered_0 : decode cX1_covered 0 = .ok (.lconst 1, 1) := by decide +kernel
theorem dX1_covered_1 : decode cX1_covered 1 = .ok (.iload_n 0, 1) := by decide +kernel
theorem dX1_covered_2 : decode cX1_covered 2 = .ok (.iload_n 1, 1) := by decide +kernel
theorem dX1_covered_3 : decode cX1_covered 3 = .ok (.invokestatic 15, 3) := by decide +kernel
theorem dX1_covered_6 : decode cX1_covered 6 = .ok (.lshl, 1) := by decide +kernel
theorem dX1_covered_7 : decode cX1_covered 7 = .ok (.lconst 1, 1) := by decide +kernel
theorem dX1_covered_8 : decode cX1_covered 8 = .ok (.lsub, 1) := by decide +kernel
theorem dX1_covered_9 : decode cX1_covered 9 = .ok (.lreturn, 1) := by decide +kernel
theorem dX1_has_0 : decode cX1_has 0 = .ok (.iload_n 1, 1) := by decide +kernel
theorem dX1_has_1 : decode cX1_has 1 = .ok (.invokestatic 21, 3) := by decide +kernel
theorem dX1_has_4 : decode cX1_has 4 = .ok (.ifCond .eq 26, 3) := by decide +kernel
theorem dX1_has_7 : decode cX1_has 7 = .ok (.aload_n 0, 1) := by decide +kernel
theorem dX1_has_8 : decode cX1_has 8 = .ok (.getfield 9, 3) := by decide +kernel
theorem dX1_has_11 : decode cX1_has 11 = .ok (.iload_n 1, 1) := by decide +kernel
theorem dX1_has_12 : decode cX1_has 12 = .ok (.invokestatic 25, 3) := by decide +kernel
theorem dX1_has_15 : decode cX1_has 15 = .ok (.laload, 1) := by decide +kernel
theorem dX1_has_16 : decode cX1_has 16 = .ok (.iload_n 1, 1) := by decide +kernel
theorem dX1_has_17 : decode cX1_has 17 = .ok (.invokestatic 29, 3) := by decide +kernel
theorem dX1_has_20 : decode cX1_has 20 = .ok (.land, 1) := by decide +kernel
theorem dX1_has_21 : decode cX1_has 21 = .ok (.lconst 0, 1) := by decide +kernel
theorem dX1_has_22 : decode cX1_has 22 = .ok (.lcmp, 1) := by decide +kernel
theorem dX1_has_23 : decode cX1_has 23 = .ok (.ifCond .eq 7, 3) := by decide +kernel
theorem dX1_has_26 : decode cX1_has 26 = .ok (.iconst 1, 1) := by decide +kernel
theorem dX1_has_27 : decode cX1_has 27 = .ok (.goto 4, 3) := by decide +kernel
theorem dX1_has_30 : decode cX1_has 30 = .ok (.iconst 0, 1) := by decide +kernel
theorem dX1_has_31 : decode cX1_has 31 = .ok (.ireturn, 1) := by decide +kernel
theorem dX1_add_0 : decode cX1_add 0 = .ok (.iload_n 1, 1) := by decide +kernel
theorem dX1_add_1 : decode cX1_add 1 = .ok (.invokestatic 21, 3) := by decide +kernel
theorem dX1_add_4 : decode cX1_add 4 = .ok (.ifCond .eq 19, 3) := by decide +kernel
theorem dX1_add_7 : decode cX1_add 7 = .ok (.aload_n 0, 1) := by decide +kernel
theorem dX1_add_8 : decode cX1_add 8 = .ok (.getfield 9, 3) := by decide +kernel
theorem dX1_add_11 : decode cX1_add 11 = .ok (.iload_n 1, 1) := by decide +kernel
theorem dX1_add_12 : decode cX1_add 12 = .ok (.invokestatic 25, 3) := by decide +kernel
theorem dX1_add_15 : decode cX1_add 15 = .ok (.dup2, 1) := by decide +kernel
theorem dX1_add_16 : decode cX1_add 16 = .ok (.laload, 1) := by decide +kernel
theorem dX1_add_17 : decode cX1_add 17 = .ok (.iload_n 1, 1) := by decide +kernel
theorem dX1_add_18 : decode cX1_add 18 = .ok (.invokestatic 29, 3) := by decide +kernel
theorem dX1_add_21 : decode cX1_add 21 = .ok (.lor, 1) := by decide +kernel
theorem dX1_add_22 : decode cX1_add 22 = .ok (.lastore, 1) := by decide +kernel
theorem dX1_add_23 : decode cX1_add 23 = .ok (.return_, 1) := by decide +kernel
theorem dX1_remove_0 : decode cX1_remove 0 = .ok (.iload_n 1, 1) := by decide +kernel
theorem dX1_remove_1 : decode cX1_remove 1 = .ok (.invokestatic 21, 3) := by decide +kernel
theorem dX1_remove_4 : decode cX1_remove 4 = .ok (.ifCond .eq 23, 3) := by decide +kernel
theorem dX1_remove_7 : decode cX1_remove 7 = .ok (.aload_n 0, 1) := by decide +kernel
theorem dX1_remove_8 : decode cX1_remove 8 = .ok (.getfield 9, 3) := by decide +kernel
theorem dX1_remove_11 : decode cX1_remove 11 = .ok (.iload_n 1, 1) := by decide +kernel
theorem dX1_remove_12 : decode cX1_remove 12 = .ok (.invokestatic 25, 3) := by decide +kernel
theorem dX1_remove_15 : decode cX1_remove 15 = .ok (.dup2, 1) := by decide +kernel
theorem dX1_remove_16 : decode cX1_remove 16 = .ok (.laload, 1) := by decide +kernel
theorem dX1_remove_17 : decode cX1_remove 17 = .ok (.iload_n 1, 1) := by decide +kernel
theorem dX1_remove_18 : decode cX1_remove 18 = .ok (.invokestatic 29, 3) := by decide +kernel
theorem dX1_remove_21 : decode cX1_remove 21 = .ok (.ldc2_w 33, 3) := by decide +kernel
theorem dX1_remove_24 : decode cX1_remove 24 = .ok (.lxor, 1) := by decide +kernel
theorem dX1_remove_25 : decode cX1_remove 25 = .ok (.land, 1) := by decide +kernel
theorem dX1_remove_26 : decode cX1_remove 26 = .ok (.lastore, 1) := by decide +kernel
theorem dX1_remove_27 : decode cX1_remove 27 = .ok (.return_, 1) := by decide +kernel
theorem dX1_empty_0 : decode cX1_empty 0 = .ok (.iconst 0, 1) := by decide +kernel
theorem dX1_empty_1 : decode cX1_empty 1 = .ok (.istore_n 1, 1) := by decide +kernel
theorem dX1_empty_2 : decode cX1_empty 2 = .ok (.iload_n 1, 1) := by decide +kernel
theorem dX1_empty_3 : decode cX1_empty 3 = .ok (.iconst 4, 1) := by decide +kernel
theorem dX1_empty_4 : decode cX1_empty 4 = .ok (.if_icmp .ge 16, 3) := by decide +kernel
theorem dX1_empty_7 : decode cX1_empty 7 = .ok (.aload_n 0, 1) := by decide +kernel
theorem dX1_empty_8 : decode cX1_empty 8 = .ok (.getfield 9, 3) := by decide +kernel
theorem dX1_empty_11 : decode cX1_empty 11 = .ok (.iload_n 1, 1) := by decide +kernel
theorem dX1_empty_12 : decode cX1_empty 12 = .ok (.lconst 0, 1) := by decide +kernel
theorem dX1_empty_13 : decode cX1_empty 13 = .ok (.lastore, 1) := by decide +kernel
theorem dX1_empty_14 : decode cX1_empty 14 = .ok (.iinc 1 1, 3) := by decide +kernel
theorem dX1_empty_17 : decode cX1_empty 17 = .ok (.goto (-15), 3) := by decide +kernel
theorem dX1_empty_20 : decode cX1_empty 20 = .ok (.return_, 1) := by decide +kernel
theorem dX1_size_0 : decode cX1_size 0 = .ok (.iconst 0, 1) := by decide +kernel
theorem dX1_size_1 : decode cX1_size 1 = .ok (.istore_n 1, 1) := by decide +kernel
theorem dX1_size_2 : decode cX1_size 2 = .ok (.iconst 0, 1) := by decide +kernel
theorem dX1_size_3 : decode cX1_size 3 = .ok (.istore_n 2, 1) := by decide +kernel
theorem dX1_size_4 : decode cX1_size 4 = .ok (.iload_n 2, 1) := by decide +kernel
theorem dX1_size_5 : decode cX1_size 5 = .ok (.iconst 4, 1) := by decide +kernel
theorem dX1_size_6 : decode cX1_size 6 = .ok (.if_icmp .ge 21, 3) := by decide +kernel
theorem dX1_size_9 : decode cX1_size 9 = .ok (.iload_n 1, 1) := by decide +kernel
theorem dX1_size_10 : decode cX1_size 10 = .ok (.aload_n 0, 1) := by decide +kernel
theorem dX1_size_11 : decode cX1_size 11 = .ok (.getfield 9, 3) := by decide +kernel
theorem dX1_size_14 : decode cX1_size 14 = .ok (.iload_n 2, 1) := by decide +kernel
theorem dX1_size_15 : decode cX1_size 15 = .ok (.laload, 1) := by decide +kernel
theorem dX1_size_16 : decode cX1_size 16 = .ok (.invokestatic 35, 3) := by decide +kernel
theorem dX1_size_19 : decode cX1_size 19 = .ok (.iadd, 1) := by decide +kernel
theorem dX1_size_20 : decode cX1_size 20 = .ok (.istore_n 1, 1) := by decide +kernel
theorem dX1_size_21 : decode cX1_size 21 = .ok (.iinc 2 1, 3) := by decide +kernel
theorem dX1_size_24 : decode cX1_size 24 = .ok (.goto (-20), 3) := by decide +kernel
theorem dX1_size_27 : decode cX1_size 27 = .ok (.iload_n 1, 1) := by decide +kernel
theorem dX1_size_28 : decode cX1_size 28 = .ok (.ireturn, 1) := by decide +kernel
theorem dX1_at_0 : decode cX1_at 0 = .ok (.iconst 0, 1) := by decide +kernel
theorem dX1_at_1 : decode cX1_at 1 = .ok (.istore_n 2, 1) := by decide +kernel
theorem dX1_at_2 : decode cX1_at 2 = .ok (.iconst 0, 1) := by decide +kernel
theorem dX1_at_3 : decode cX1_at 3 = .ok (.istore_n 3, 1) := by decide +kernel
theorem dX1_at_4 : decode cX1_at 4 = .ok (.iload_n 3, 1) := by decide +kernel
theorem dX1_at_5 : decode cX1_at 5 = .ok (.sipush 160, 3) := by decide +kernel
theorem dX1_at_8 : decode cX1_at 8 = .ok (.if_icmp .ge 27, 3) := by decide +kernel
theorem dX1_at_11 : decode cX1_at 11 = .ok (.aload_n 0, 1) := by decide +kernel
theorem dX1_at_12 : decode cX1_at 12 = .ok (.iload_n 3, 1) := by decide +kernel
theorem dX1_at_13 : decode cX1_at 13 = .ok (.invokevirtual 41, 3) := by decide +kernel
theorem dX1_at_16 : decode cX1_at 16 = .ok (.ifCond .eq 13, 3) := by decide +kernel
theorem dX1_at_19 : decode cX1_at 19 = .ok (.iload_n 2, 1) := by decide +kernel
theorem dX1_at_20 : decode cX1_at 20 = .ok (.iload_n 1, 1) := by decide +kernel
theorem dX1_at_21 : decode cX1_at 21 = .ok (.if_icmp .ne 5, 3) := by decide +kernel
theorem dX1_at_24 : decode cX1_at 24 = .ok (.iload_n 3, 1) := by decide +kernel
theorem dX1_at_25 : decode cX1_at 25 = .ok (.ireturn, 1) := by decide +kernel
theorem dX1_at_26 : decode cX1_at 26 = .ok (.iinc 2 1, 3) := by decide +kernel
theorem dX1_at_29 : decode cX1_at 29 = .ok (.iinc 3 1, 3) := by decide +kernel
theorem dX1_at_32 : decode cX1_at 32 = .ok (.goto (-28), 3) := by decide +kernel
theorem dX1_at_35 : decode cX1_at 35 = .ok (.iconst (-1), 1) := by decide +kernel
theorem dX1_at_36 : decode cX1_at 36 = .ok (.ireturn, 1) := by decide +kernel
theorem dX1_isSame_0 : decode cX1_isSame 0 = .ok (.iconst 0, 1) := by decide +kernel
theorem dX1_isSame_1 : decode cX1_isSame 1 = .ok (.istore_n 2, 1) := by decide +kernel
theorem dX1_isSame_2 : decode cX1_isSame 2 = .ok (.iload_n 2, 1) := by decide +kernel
theorem dX1_isSame_3 : decode cX1_isSame 3 = .ok (.iconst 4, 1) := by decide +kernel
theorem dX1_isSame_4 : decode cX1_isSame 4 = .ok (.if_icmp .ge 27, 3) := by decide +kernel
theorem dX1_isSame_7 : decode cX1_isSame 7 = .ok (.aload_n 0, 1) := by decide +kernel
theorem dX1_isSame_8 : decode cX1_isSame 8 = .ok (.getfield 9, 3) := by decide +kernel
theorem dX1_isSame_11 : decode cX1_isSame 11 = .ok (.iload_n 2, 1) := by decide +kernel
theorem dX1_isSame_12 : decode cX1_isSame 12 = .ok (.laload, 1) := by decide +kernel
theorem dX1_isSame_13 : decode cX1_isSame 13 = .ok (.aload_n 1, 1) := by decide +kernel
theorem dX1_isSame_14 : decode cX1_isSame 14 = .ok (.getfield 9, 3) := by decide +kernel
theorem dX1_isSame_17 : decode cX1_isSame 17 = .ok (.iload_n 2, 1) := by decide +kernel
theorem dX1_isSame_18 : decode cX1_isSame 18 = .ok (.laload, 1) := by decide +kernel
theorem dX1_isSame_19 : decode cX1_isSame 19 = .ok (.lcmp, 1) := by decide +kernel
theorem dX1_isSame_20 : decode cX1_isSame 20 = .ok (.ifCond .eq 5, 3) := by decide +kernel
theorem dX1_isSame_23 : decode cX1_isSame 23 = .ok (.iconst 0, 1) := by decide +kernel
theorem dX1_isSame_24 : decode cX1_isSame 24 = .ok (.ireturn, 1) := by decide +kernel
theorem dX1_isSame_25 : decode cX1_isSame 25 = .ok (.iinc 2 1, 3) := by decide +kernel
theorem dX1_isSame_28 : decode cX1_isSame 28 = .ok (.goto (-26), 3) := by decide +kernel
theorem dX1_isSame_31 : decode cX1_isSame 31 = .ok (.iconst 1, 1) := by decide +kernel
theorem dX1_isSame_32 : decode cX1_isSame 32 = .ok (.ireturn, 1) := by decide +kernel
theorem dX1_addAll_0 : decode cX1_addAll 0 = .ok (.iconst 0, 1) := by decide +kernel
theorem dX1_addAll_1 : decode cX1_addAll 1 = .ok (.istore_n 2, 1) := by decide +kernel
theorem dX1_addAll_2 : decode cX1_addAll 2 = .ok (.iload_n 2, 1) := by decide +kernel
theorem dX1_addAll_3 : decode cX1_addAll 3 = .ok (.iconst 4, 1) := by decide +kernel
theorem dX1_addAll_4 : decode cX1_addAll 4 = .ok (.if_icmp .ge 24, 3) := by decide +kernel
theorem dX1_addAll_7 : decode cX1_addAll 7 = .ok (.aload_n 0, 1) := by decide +kernel
theorem dX1_addAll_8 : decode cX1_addAll 8 = .ok (.getfield 9, 3) := by decide +kernel
theorem dX1_addAll_11 : decode cX1_addAll 11 = .ok (.iload_n 2, 1) := by decide +kernel
theorem dX1_addAll_12 : decode cX1_addAll 12 = .ok (.dup2, 1) := by decide +kernel
theorem dX1_addAll_13 : decode cX1_addAll 13 = .ok (.laload, 1) := by decide +kernel
theorem dX1_addAll_14 : decode cX1_addAll 14 = .ok (.aload_n 1, 1) := by decide +kernel
theorem dX1_addAll_15 : decode cX1_addAll 15 = .ok (.getfield 9, 3) := by decide +kernel
theorem dX1_addAll_18 : decode cX1_addAll 18 = .ok (.iload_n 2, 1) := by decide +kernel
theorem dX1_addAll_19 : decode cX1_addAll 19 = .ok (.laload, 1) := by decide +kernel
theorem dX1_addAll_20 : decode cX1_addAll 20 = .ok (.lor, 1) := by decide +kernel
theorem dX1_addAll_21 : decode cX1_addAll 21 = .ok (.lastore, 1) := by decide +kernel
theorem dX1_addAll_22 : decode cX1_addAll 22 = .ok (.iinc 2 1, 3) := by decide +kernel
theorem dX1_addAll_25 : decode cX1_addAll 25 = .ok (.goto (-23), 3) := by decide +kernel
theorem dX1_addAll_28 : decode cX1_addAll 28 = .ok (.return_, 1) := by decide +kernel
theorem dX1_addCovered_0 : decode cX1_addCovered 0 = .ok (.iconst 0, 1) := by decide +kernel
theorem dX1_addCovered_1 : decode cX1_addCovered 1 = .ok (.istore_n 3, 1) := by decide +kernel
theorem dX1_addCovered_2 : decode cX1_addCovered 2 = .ok (.iload_n 3, 1) := by decide +kernel
theorem dX1_addCovered_3 : decode cX1_addCovered 3 = .ok (.iconst 4, 1) := by decide +kernel
theorem dX1_addCovered_4 : decode cX1_addCovered 4 = .ok (.if_icmp .ge 30, 3) := by decide +kernel
theorem dX1_addCovered_7 : decode cX1_addCovered 7 = .ok (.aload_n 0, 1) := by decide +kernel
theorem dX1_addCovered_8 : decode cX1_addCovered 8 = .ok (.getfield 9, 3) := by decide +kernel
theorem dX1_addCovered_11 : decode cX1_addCovered 11 = .ok (.iload_n 3, 1) := by decide +kernel
theorem dX1_addCovered_12 : decode cX1_addCovered 12 = .ok (.dup2, 1) := by decide +kernel
theorem dX1_addCovered_13 : decode cX1_addCovered 13 = .ok (.laload, 1) := by decide +kernel
theorem dX1_addCovered_14 : decode cX1_addCovered 14 = .ok (.aload_n 1, 1) := by decide +kernel
theorem dX1_addCovered_15 : decode cX1_addCovered 15 = .ok (.getfield 9, 3) := by decide +kernel
theorem dX1_addCovered_18 : decode cX1_addCovered 18 = .ok (.iload_n 3, 1) := by decide +kernel
theorem dX1_addCovered_19 : decode cX1_addCovered 19 = .ok (.laload, 1) := by decide +kernel
theorem dX1_addCovered_20 : decode cX1_addCovered 20 = .ok (.iload_n 2, 1) := by decide +kernel
theorem dX1_addCovered_21 : decode cX1_addCovered 21 = .ok (.iload_n 3, 1) := by decide +kernel
theorem dX1_addCovered_22 : decode cX1_addCovered 22 = .ok (.invokestatic 44, 3) := by decide +kernel
theorem dX1_addCovered_25 : decode cX1_addCovered 25 = .ok (.land, 1) := by decide +kernel
theorem dX1_addCovered_26 : decode cX1_addCovered 26 = .ok (.lor, 1) := by decide +kernel
theorem dX1_addCovered_27 : decode cX1_addCovered 27 = .ok (.lastore, 1) := by decide +kernel
theorem dX1_addCovered_28 : decode cX1_addCovered 28 = .ok (.iinc 3 1, 3) := by decide +kernel
theorem dX1_addCovered_31 : decode cX1_addCovered 31 = .ok (.goto (-29), 3) := by decide +kernel
theorem dX1_addCovered_34 : decode cX1_addCovered 34 = .ok (.return_, 1) := by decide +kernel
theorem dX1_removeCovered_0 : decode cX1_removeCovered 0 = .ok (.iconst 0, 1) := by decide +kernel
theorem dX1_removeCovered_1 : decode cX1_removeCovered 1 = .ok (.istore_n 2, 1) := by decide +kernel
theorem dX1_removeCovered_2 : decode cX1_removeCovered 2 = .ok (.iload_n 2, 1) := by decide +kernel
theorem dX1_removeCovered_3 : decode cX1_removeCovered 3 = .ok (.iconst 4, 1) := by decide +kernel
theorem dX1_removeCovered_4 : decode cX1_removeCovered 4 = .ok (.if_icmp .ge 27, 3) := by decide +kernel
theorem dX1_removeCovered_7 : decode cX1_removeCovered 7 = .ok (.aload_n 0, 1) := by decide +kernel
theorem dX1_removeCovered_8 : decode cX1_removeCovered 8 = .ok (.getfield 9, 3) := by decide +kernel
theorem dX1_removeCovered_11 : decode cX1_removeCovered 11 = .ok (.iload_n 2, 1) := by decide +kernel
theorem dX1_removeCovered_12 : decode cX1_removeCovered 12 = .ok (.dup2, 1) := by decide +kernel
theorem dX1_removeCovered_13 : decode cX1_removeCovered 13 = .ok (.laload, 1) := by decide +kernel
theorem dX1_removeCovered_14 : decode cX1_removeCovered 14 = .ok (.iload_n 1, 1) := by decide +kernel
theorem dX1_removeCovered_15 : decode cX1_removeCovered 15 = .ok (.iload_n 2, 1) := by decide +kernel
theorem dX1_removeCovered_16 : decode cX1_removeCovered 16 = .ok (.invokestatic 44, 3) := by decide +kernel
theorem dX1_removeCovered_19 : decode cX1_removeCovered 19 = .ok (.ldc2_w 33, 3) := by decide +kernel
theorem dX1_removeCovered_22 : decode cX1_removeCovered 22 = .ok (.lxor, 1) := by decide +kernel
theorem dX1_removeCovered_23 : decode cX1_removeCovered 23 = .ok (.land, 1) := by decide +kernel
theorem dX1_removeCovered_24 : decode cX1_removeCovered 24 = .ok (.lastore, 1) := by decide +kernel
theorem dX1_removeCovered_25 : decode cX1_removeCovered 25 = .ok (.iinc 2 1, 3) := by decide +kernel
theorem dX1_removeCovered_28 : decode cX1_removeCovered 28 = .ok (.goto (-26), 3) := by decide +kernel
theorem dX1_removeCovered_31 : decode cX1_removeCovered 31 = .ok (.return_, 1) := by decide +kernel
theorem dX1_coveredTotal_0 : decode cX1_coveredTotal 0 = .ok (.iconst 0, 1) := by decide +kernel
theorem dX1_coveredTotal_1 : decode cX1_coveredTotal 1 = .ok (.istore_n 2, 1) := by decide +kernel
theorem dX1_coveredTotal_2 : decode cX1_coveredTotal 2 = .ok (.iconst 0, 1) := by decide +kernel
theorem dX1_coveredTotal_3 : decode cX1_coveredTotal 3 = .ok (.istore_n 3, 1) := by decide +kernel
theorem dX1_coveredTotal_4 : decode cX1_coveredTotal 4 = .ok (.iload_n 3, 1) := by decide +kernel
theorem dX1_coveredTotal_5 : decode cX1_coveredTotal 5 = .ok (.iconst 4, 1) := by decide +kernel
theorem dX1_coveredTotal_6 : decode cX1_coveredTotal 6 = .ok (.if_icmp .ge 27, 3) := by decide +kernel
theorem dX1_coveredTotal_9 : decode cX1_coveredTotal 9 = .ok (.iload_n 2, 1) := by decide +kernel
theorem dX1_coveredTotal_10 : decode cX1_coveredTotal 10 = .ok (.aload_n 0, 1) := by decide +kernel
theorem dX1_coveredTotal_11 : decode cX1_coveredTotal 11 = .ok (.getfield 9, 3) := by decide +kernel
theorem dX1_coveredTotal_14 : decode cX1_coveredTotal 14 = .ok (.iload_n 3, 1) := by decide +kernel
theorem dX1_coveredTotal_15 : decode cX1_coveredTotal 15 = .ok (.laload, 1) := by decide +kernel
theorem dX1_coveredTotal_16 : decode cX1_coveredTotal 16 = .ok (.iload_n 1, 1) := by decide +kernel
theorem dX1_coveredTotal_17 : decode cX1_coveredTotal 17 = .ok (.iload_n 3, 1) := by decide +kernel
theorem dX1_coveredTotal_18 : decode cX1_coveredTotal 18 = .ok (.invokestatic 44, 3) := by decide +kernel
theorem dX1_coveredTotal_21 : decode cX1_coveredTotal 21 = .ok (.land, 1) := by decide +kernel
theorem dX1_coveredTotal_22 : decode cX1_coveredTotal 22 = .ok (.invokestatic 35, 3) := by decide +kernel
theorem dX1_coveredTotal_25 : decode cX1_coveredTotal 25 = .ok (.iadd, 1) := by decide +kernel
theorem dX1_coveredTotal_26 : decode cX1_coveredTotal 26 = .ok (.istore_n 2, 1) := by decide +kernel
theorem dX1_coveredTotal_27 : decode cX1_coveredTotal 27 = .ok (.iinc 3 1, 3) := by decide +kernel
theorem dX1_coveredTotal_30 : decode cX1_coveredTotal 30 = .ok (.goto (-26), 3) := by decide +kernel
theorem dX1_coveredTotal_33 : decode cX1_coveredTotal 33 = .ok (.iload_n 2, 1) := by decide +kernel
theorem dX1_coveredTotal_34 : decode cX1_coveredTotal 34 = .ok (.ireturn, 1) := by decide +kernel
theorem dX1_join_0 : decode cX1_join 0 = .ok (.iconst 0, 1) := by decide +kernel
theorem dX1_join_1 : decode cX1_join 1 = .ok (.istore 4, 2) := by decide +kernel
theorem dX1_join_3 : decode cX1_join 3 = .ok (.iload 4, 2) := by decide +kernel
theorem dX1_join_5 : decode cX1_join 5 = .ok (.iconst 4, 1) := by decide +kernel
theorem dX1_join_6 : decode cX1_join 6 = .ok (.if_icmp .ge 67, 3) := by decide +kernel
theorem dX1_join_9 : decode cX1_join 9 = .ok (.aload_n 0, 1) := by decide +kernel
theorem dX1_join_10 : decode cX1_join 10 = .ok (.getfield 9, 3) := by decide +kernel
theorem dX1_join_13 : decode cX1_join 13 = .ok (.iload 4, 2) := by decide +kernel
theorem dX1_join_15 : decode cX1_join 15 = .ok (.laload, 1) := by decide +kernel
theorem dX1_join_16 : decode cX1_join 16 = .ok (.lstore 5, 2) := by decide +kernel
theorem dX1_join_18 : decode cX1_join 18 = .ok (.aload_n 2, 1) := by decide +kernel
theorem dX1_join_19 : decode cX1_join 19 = .ok (.getfield 9, 3) := by decide +kernel
theorem dX1_join_22 : decode cX1_join 22 = .ok (.iload 4, 2) := by decide +kernel
theorem dX1_join_24 : decode cX1_join 24 = .ok (.laload, 1) := by decide +kernel
theorem dX1_join_25 : decode cX1_join 25 = .ok (.lstore 7, 2) := by decide +kernel
theorem dX1_join_27 : decode cX1_join 27 = .ok (.aload_n 0, 1) := by decide +kernel
theorem dX1_join_28 : decode cX1_join 28 = .ok (.getfield 9, 3) := by decide +kernel
theorem dX1_join_31 : decode cX1_join 31 = .ok (.iload 4, 2) := by decide +kernel
theorem dX1_join_33 : decode cX1_join 33 = .ok (.lload 5, 2) := by decide +kernel
theorem dX1_join_35 : decode cX1_join 35 = .ok (.lload 7, 2) := by decide +kernel
theorem dX1_join_37 : decode cX1_join 37 = .ok (.land, 1) := by decide +kernel
theorem dX1_join_38 : decode cX1_join 38 = .ok (.lload 5, 2) := by decide +kernel
theorem dX1_join_40 : decode cX1_join 40 = .ok (.iload_n 3, 1) := by decide +kernel
theorem dX1_join_41 : decode cX1_join 41 = .ok (.iload 4, 2) := by decide +kernel
theorem dX1_join_43 : decode cX1_join 43 = .ok (.invokestatic 44, 3) := by decide +kernel
theorem dX1_join_46 : decode cX1_join 46 = .ok (.ldc2_w 33, 3) := by decide +kernel
theorem dX1_join_49 : decode cX1_join 49 = .ok (.lxor, 1) := by decide +kernel
theorem dX1_join_50 : decode cX1_join 50 = .ok (.land, 1) := by decide +kernel
theorem dX1_join_51 : decode cX1_join 51 = .ok (.lor, 1) := by decide +kernel
theorem dX1_join_52 : decode cX1_join 52 = .ok (.lload 7, 2) := by decide +kernel
theorem dX1_join_54 : decode cX1_join 54 = .ok (.iload_n 1, 1) := by decide +kernel
theorem dX1_join_55 : decode cX1_join 55 = .ok (.iload 4, 2) := by decide +kernel
theorem dX1_join_57 : decode cX1_join 57 = .ok (.invokestatic 44, 3) := by decide +kernel
theorem dX1_join_60 : decode cX1_join 60 = .ok (.ldc2_w 33, 3) := by decide +kernel
theorem dX1_join_63 : decode cX1_join 63 = .ok (.lxor, 1) := by decide +kernel
theorem dX1_join_64 : decode cX1_join 64 = .ok (.land, 1) := by decide +kernel
theorem dX1_join_65 : decode cX1_join 65 = .ok (.lor, 1) := by decide +kernel
theorem dX1_join_66 : decode cX1_join 66 = .ok (.lastore, 1) := by decide +kernel
theorem dX1_join_67 : decode cX1_join 67 = .ok (.iinc 4 1, 3) := by decide +kernel
theorem dX1_join_70 : decode cX1_join 70 = .ok (.goto (-67), 3) := by decide +kernel
theorem dX1_join_73 : decode cX1_join 73 = .ok (.return_, 1) := by decide +kernel
theorem dX1_gone_0 : decode cX1_gone 0 = .ok (.iload_n 2, 1) := by decide +kernel
theorem dX1_gone_1 : decode cX1_gone 1 = .ok (.ifCond .lt 31, 3) := by decide +kernel
theorem dX1_gone_4 : decode cX1_gone 4 = .ok (.iload_n 2, 1) := by decide +kernel
theorem dX1_gone_5 : decode cX1_gone 5 = .ok (.aload_n 0, 1) := by decide +kernel
theorem dX1_gone_6 : decode cX1_gone 6 = .ok (.getfield 9, 3) := by decide +kernel
theorem dX1_gone_9 : decode cX1_gone 9 = .ok (.arraylength, 1) := by decide +kernel
theorem dX1_gone_10 : decode cX1_gone 10 = .ok (.if_icmp .ge 22, 3) := by decide +kernel
theorem dX1_gone_13 : decode cX1_gone 13 = .ok (.iload_n 1, 1) := by decide +kernel
theorem dX1_gone_14 : decode cX1_gone 14 = .ok (.iload_n 2, 1) := by decide +kernel
theorem dX1_gone_15 : decode cX1_gone 15 = .ok (.invokestatic 44, 3) := by decide +kernel
theorem dX1_gone_18 : decode cX1_gone 18 = .ok (.aload_n 0, 1) := by decide +kernel
theorem dX1_gone_19 : decode cX1_gone 19 = .ok (.getfield 9, 3) := by decide +kernel
theorem dX1_gone_22 : decode cX1_gone 22 = .ok (.iload_n 2, 1) := by decide +kernel
theorem dX1_gone_23 : decode cX1_gone 23 = .ok (.laload, 1) := by decide +kernel
theorem dX1_gone_24 : decode cX1_gone 24 = .ok (.ldc2_w 33, 3) := by decide +kernel
theorem dX1_gone_27 : decode cX1_gone 27 = .ok (.lxor, 1) := by decide +kernel
theorem dX1_gone_28 : decode cX1_gone 28 = .ok (.land, 1) := by decide +kernel
theorem dX1_gone_29 : decode cX1_gone 29 = .ok (.goto 4, 3) := by decide +kernel
theorem dX1_gone_32 : decode cX1_gone 32 = .ok (.lconst 0, 1) := by decide +kernel
theorem dX1_gone_33 : decode cX1_gone 33 = .ok (.lreturn, 1) := by decide +kernel
theorem dX1_bitOf_0 : decode cX1_bitOf 0 = .ok (.lconst 1, 1) := by decide +kernel
theorem dX1_bitOf_1 : decode cX1_bitOf 1 = .ok (.iload_n 0, 1) := by decide +kernel
theorem dX1_bitOf_2 : decode cX1_bitOf 2 = .ok (.invokestatic 48, 3) := by decide +kernel
theorem dX1_bitOf_5 : decode cX1_bitOf 5 = .ok (.iconst 1, 1) := by decide +kernel
theorem dX1_bitOf_6 : decode cX1_bitOf 6 = .ok (.isub, 1) := by decide +kernel
theorem dX1_bitOf_7 : decode cX1_bitOf 7 = .ok (.lshl, 1) := by decide +kernel
theorem dX1_bitOf_8 : decode cX1_bitOf 8 = .ok (.lreturn, 1) := by decide +kernel
theorem dX2_init_0 : decode cX2_init 0 = .ok (.aload_n 0, 1) := by decide +kernel
theorem dX2_init_1 : decode cX2_init 1 = .ok (.invokespecial 3, 3) := by decide +kernel
theorem dX2_init_4 : decode cX2_init 4 = .ok (.aload_n 0, 1) := by decide +kernel
theorem dX2_init_5 : decode cX2_init 5 = .ok (.bipush 16, 2) := by decide +kernel
theorem dX2_init_7 : decode cX2_init 7 = .ok (.newarray .int, 2) := by decide +kernel
theorem dX2_init_9 : decode cX2_init 9 = .ok (.putfield 9, 3) := by decide +kernel
theorem dX2_init_12 : decode cX2_init 12 = .ok (.return_, 1) := by decide +kernel
theorem dX2_lookAt_0 : decode cX2_lookAt 0 = .ok (.aload_n 0, 1) := by decide +kernel
theorem dX2_lookAt_1 : decode cX2_lookAt 1 = .ok (.iload_n 2, 1) := by decide +kernel
theorem dX2_lookAt_2 : decode cX2_lookAt 2 = .ok (.iconst 4, 1) := by decide +kernel
theorem dX2_lookAt_3 : decode cX2_lookAt 3 = .ok (.invokestatic 15, 3) := by decide +kernel
theorem dX2_lookAt_6 : decode cX2_lookAt 6 = .ok (.putfield 21, 3) := by decide +kernel
theorem dX2_lookAt_9 : decode cX2_lookAt 9 = .ok (.iconst 0, 1) := by decide +kernel
theorem dX2_lookAt_10 : decode cX2_lookAt 10 = .ok (.istore_n 3, 1) := by decide +kernel
theorem dX2_lookAt_11 : decode cX2_lookAt 11 = .ok (.iload_n 3, 1) := by decide +kernel
theorem dX2_lookAt_12 : decode cX2_lookAt 12 = .ok (.iconst 1, 1) := by decide +kernel
theorem dX2_lookAt_13 : decode cX2_lookAt 13 = .ok (.aload_n 0, 1) := by decide +kernel
theorem dX2_lookAt_14 : decode cX2_lookAt 14 = .ok (.getfield 21, 3) := by decide +kernel
theorem dX2_lookAt_17 : decode cX2_lookAt 17 = .ok (.ishl, 1) := by decide +kernel
theorem dX2_lookAt_18 : decode cX2_lookAt 18 = .ok (.if_icmp .ge 56, 3) := by decide +kernel
theorem dX2_lookAt_21 : decode cX2_lookAt 21 = .ok (.aload_n 0, 1) := by decide +kernel
theorem dX2_lookAt_22 : decode cX2_lookAt 22 = .ok (.getfield 9, 3) := by decide +kernel
theorem dX2_lookAt_25 : decode cX2_lookAt 25 = .ok (.iload_n 3, 1) := by decide +kernel
theorem dX2_lookAt_26 : decode cX2_lookAt 26 = .ok (.iconst 0, 1) := by decide +kernel
theorem dX2_lookAt_27 : decode cX2_lookAt 27 = .ok (.iastore, 1) := by decide +kernel
theorem dX2_lookAt_28 : decode cX2_lookAt 28 = .ok (.iconst 0, 1) := by decide +kernel
theorem dX2_lookAt_29 : decode cX2_lookAt 29 = .ok (.istore 4, 2) := by decide +kernel
theorem dX2_lookAt_31 : decode cX2_lookAt 31 = .ok (.iload 4, 2) := by decide +kernel
theorem dX2_lookAt_33 : decode cX2_lookAt 33 = .ok (.aload_n 0, 1) := by decide +kernel
theorem dX2_lookAt_34 : decode cX2_lookAt 34 = .ok (.getfield 21, 3) := by decide +kernel
theorem dX2_lookAt_37 : decode cX2_lookAt 37 = .ok (.if_icmp .ge 31, 3) := by decide +kernel
theorem dX2_lookAt_40 : decode cX2_lookAt 40 = .ok (.aload_n 0, 1) := by decide +kernel
theorem dX2_lookAt_41 : decode cX2_lookAt 41 = .ok (.getfield 9, 3) := by decide +kernel
theorem dX2_lookAt_44 : decode cX2_lookAt 44 = .ok (.iload_n 3, 1) := by decide +kernel
theorem dX2_lookAt_45 : decode cX2_lookAt 45 = .ok (.dup2, 1) := by decide +kernel
theorem dX2_lookAt_46 : decode cX2_lookAt 46 = .ok (.iaload, 1) := by decide +kernel
theorem dX2_lookAt_47 : decode cX2_lookAt 47 = .ok (.aload_n 1, 1) := by decide +kernel
theorem dX2_lookAt_48 : decode cX2_lookAt 48 = .ok (.iload 4, 2) := by decide +kernel
theorem dX2_lookAt_50 : decode cX2_lookAt 50 = .ok (.iload_n 3, 1) := by decide +kernel
theorem dX2_lookAt_51 : decode cX2_lookAt 51 = .ok (.invokevirtual 25, 3) := by decide +kernel
theorem dX2_lookAt_54 : decode cX2_lookAt 54 = .ok (.invokestatic 31, 3) := by decide +kernel
theorem dX2_lookAt_57 : decode cX2_lookAt 57 = .ok (.iload 4, 2) := by decide +kernel
theorem dX2_lookAt_59 : decode cX2_lookAt 59 = .ok (.ishl, 1) := by decide +kernel
theorem dX2_lookAt_60 : decode cX2_lookAt 60 = .ok (.ior, 1) := by decide +kernel
theorem dX2_lookAt_61 : decode cX2_lookAt 61 = .ok (.iastore, 1) := by decide +kernel
theorem dX2_lookAt_62 : decode cX2_lookAt 62 = .ok (.iinc 4 1, 3) := by decide +kernel
theorem dX2_lookAt_65 : decode cX2_lookAt 65 = .ok (.goto (-34), 3) := by decide +kernel
theorem dX2_lookAt_68 : decode cX2_lookAt 68 = .ok (.iinc 3 1, 3) := by decide +kernel
theorem dX2_lookAt_71 : decode cX2_lookAt 71 = .ok (.goto (-60), 3) := by decide +kernel
theorem dX2_lookAt_74 : decode cX2_lookAt 74 = .ok (.aload_n 0, 1) := by decide +kernel
theorem dX2_lookAt_75 : decode cX2_lookAt 75 = .ok (.iconst 0, 1) := by decide +kernel
theorem dX2_lookAt_76 : decode cX2_lookAt 76 = .ok (.putfield 35, 3) := by decide +kernel
theorem dX2_lookAt_79 : decode cX2_lookAt 79 = .ok (.iconst 0, 1) := by decide +kernel
theorem dX2_lookAt_80 : decode cX2_lookAt 80 = .ok (.istore_n 3, 1) := by decide +kernel
theorem dX2_lookAt_81 : decode cX2_lookAt 81 = .ok (.iload_n 3, 1) := by decide +kernel
theorem dX2_lookAt_82 : decode cX2_lookAt 82 = .ok (.aload_n 0, 1) := by decide +kernel
theorem dX2_lookAt_83 : decode cX2_lookAt 83 = .ok (.getfield 21, 3) := by decide +kernel
theorem dX2_lookAt_86 : decode cX2_lookAt 86 = .ok (.if_icmp .ge 30, 3) := by decide +kernel
theorem dX2_lookAt_89 : decode cX2_lookAt 89 = .ok (.aload_n 0, 1) := by decide +kernel
theorem dX2_lookAt_90 : decode cX2_lookAt 90 = .ok (.dup, 1) := by decide +kernel
theorem dX2_lookAt_91 : decode cX2_lookAt 91 = .ok (.getfield 35, 3) := by decide +kernel
theorem dX2_lookAt_94 : decode cX2_lookAt 94 = .ok (.aload_n 0, 1) := by decide +kernel
theorem dX2_lookAt_95 : decode cX2_lookAt 95 = .ok (.getfield 9, 3) := by decide +kernel
theorem dX2_lookAt_98 : decode cX2_lookAt 98 = .ok (.iconst 1, 1) := by decide +kernel
theorem dX2_lookAt_99 : decode cX2_lookAt 99 = .ok (.iload_n 3, 1) := by decide +kernel
theorem dX2_lookAt_100 : decode cX2_lookAt 100 = .ok (.ishl, 1) := by decide +kernel
theorem dX2_lookAt_101 : decode cX2_lookAt 101 = .ok (.iaload, 1) := by decide +kernel
theorem dX2_lookAt_102 : decode cX2_lookAt 102 = .ok (.iconst 4, 1) := by decide +kernel
theorem dX2_lookAt_103 : decode cX2_lookAt 103 = .ok (.iload_n 3, 1) := by decide +kernel
theorem dX2_lookAt_104 : decode cX2_lookAt 104 = .ok (.imul, 1) := by decide +kernel
theorem dX2_lookAt_105 : decode cX2_lookAt 105 = .ok (.ishl, 1) := by decide +kernel
theorem dX2_lookAt_106 : decode cX2_lookAt 106 = .ok (.ior, 1) := by decide +kernel
theorem dX2_lookAt_107 : decode cX2_lookAt 107 = .ok (.putfield 35, 3) := by decide +kernel
theorem dX2_lookAt_110 : decode cX2_lookAt 110 = .ok (.iinc 3 1, 3) := by decide +kernel
theorem dX2_lookAt_113 : decode cX2_lookAt 113 = .ok (.goto (-32), 3) := by decide +kernel
theorem dX2_lookAt_116 : decode cX2_lookAt 116 = .ok (.return_, 1) := by decide +kernel
theorem dX2_fewest_0 : decode cX2_fewest 0 = .ok (.iconst 2, 1) := by decide +kernel
theorem dX2_fewest_1 : decode cX2_fewest 1 = .ok (.aload_n 0, 1) := by decide +kernel
theorem dX2_fewest_2 : decode cX2_fewest 2 = .ok (.getfield 21, 3) := by decide +kernel
theorem dX2_fewest_5 : decode cX2_fewest 5 = .ok (.iconst 1, 1) := by decide +kernel
theorem dX2_fewest_6 : decode cX2_fewest 6 = .ok (.isub, 1) := by decide +kernel
theorem dX2_fewest_7 : decode cX2_fewest 7 = .ok (.imul, 1) := by decide +kernel
theorem dX2_fewest_8 : decode cX2_fewest 8 = .ok (.istore_n 1, 1) := by decide +kernel
theorem dX2_fewest_9 : decode cX2_fewest 9 = .ok (.iconst 0, 1) := by decide +kernel
theorem dX2_fewest_10 : decode cX2_fewest 10 = .ok (.istore_n 2, 1) := by decide +kernel
theorem dX2_fewest_11 : decode cX2_fewest 11 = .ok (.iload_n 2, 1) := by decide +kernel
theorem dX2_fewest_12 : decode cX2_fewest 12 = .ok (.iload_n 1, 1) := by decide +kernel
theorem dX2_fewest_13 : decode cX2_fewest 13 = .ok (.if_icmp .ge 23, 3) := by decide +kernel
theorem dX2_fewest_16 : decode cX2_fewest 16 = .ok (.aload_n 0, 1) := by decide +kernel
theorem dX2_fewest_17 : decode cX2_fewest 17 = .ok (.aload_n 0, 1) := by decide +kernel
theorem dX2_fewest_18 : decode cX2_fewest 18 = .ok (.getfield 35, 3) := by decide +kernel
theorem dX2_fewest_21 : decode cX2_fewest 21 = .ok (.iload_n 2, 1) := by decide +kernel
theorem dX2_fewest_22 : decode cX2_fewest 22 = .ok (.invokestatic 38, 3) := by decide +kernel
theorem dX2_fewest_25 : decode cX2_fewest 25 = .ok (.ifCond .eq 5, 3) := by decide +kernel
theorem dX2_fewest_28 : decode cX2_fewest 28 = .ok (.iload_n 2, 1) := by decide +kernel
theorem dX2_fewest_29 : decode cX2_fewest 29 = .ok (.ireturn, 1) := by decide +kernel
theorem dX2_fewest_30 : decode cX2_fewest 30 = .ok (.iinc 2 1, 3) := by decide +kernel
theorem dX2_fewest_33 : decode cX2_fewest 33 = .ok (.goto (-22), 3) := by decide +kernel
theorem dX2_fewest_36 : decode cX2_fewest 36 = .ok (.iload_n 1, 1) := by decide +kernel
theorem dX2_fewest_37 : decode cX2_fewest 37 = .ok (.ireturn, 1) := by decide +kernel
theorem dX2_firstOfFewest_0 : decode cX2_firstOfFewest 0 = .ok (.aload_n 0, 1) := by decide +kernel
theorem dX2_firstOfFewest_1 : decode cX2_firstOfFewest 1 = .ok (.invokevirtual 42, 3) := by decide +kernel
theorem dX2_firstOfFewest_4 : decode cX2_firstOfFewest 4 = .ok (.istore_n 1, 1) := by decide +kernel
theorem dX2_firstOfFewest_5 : decode cX2_firstOfFewest 5 = .ok (.iload_n 1, 1) := by decide +kernel
theorem dX2_firstOfFewest_6 : decode cX2_firstOfFewest 6 = .ok (.ifCond .ne 6, 3) := by decide +kernel
theorem dX2_firstOfFewest_9 : decode cX2_firstOfFewest 9 = .ok (.bipush (-9), 2) := by decide +kernel
theorem dX2_firstOfFewest_11 : decode cX2_firstOfFewest 11 = .ok (.ireturn, 1) := by decide +kernel
theorem dX2_firstOfFewest_12 : decode cX2_firstOfFewest 12 = .ok (.iconst 0, 1) := by decide +kernel
theorem dX2_firstOfFewest_13 : decode cX2_firstOfFewest 13 = .ok (.istore_n 2, 1) := by decide +kernel
theorem dX2_firstOfFewest_14 : decode cX2_firstOfFewest 14 = .ok (.iload_n 2, 1) := by decide +kernel
theorem dX2_firstOfFewest_15 : decode cX2_firstOfFewest 15 = .ok (.aload_n 0, 1) := by decide +kernel
theorem dX2_firstOfFewest_16 : decode cX2_firstOfFewest 16 = .ok (.getfield 21, 3) := by decide +kernel
theorem dX2_firstOfFewest_19 : decode cX2_firstOfFewest 19 = .ok (.if_icmp .ge 65, 3) := by decide +kernel
theorem dX2_firstOfFewest_22 : decode cX2_firstOfFewest 22 = .ok (.iconst 0, 1) := by decide +kernel
theorem dX2_firstOfFewest_23 : decode cX2_firstOfFewest 23 = .ok (.istore_n 3, 1) := by decide +kernel
theorem dX2_firstOfFewest_24 : decode cX2_firstOfFewest 24 = .ok (.iload_n 3, 1) := by decide +kernel
theorem dX2_firstOfFewest_25 : decode cX2_firstOfFewest 25 = .ok (.aload_n 0, 1) := by decide +kernel
theorem dX2_firstOfFewest_26 : decode cX2_firstOfFewest 26 = .ok (.getfield 21, 3) := by decide +kernel
theorem dX2_firstOfFewest_29 : decode cX2_firstOfFewest 29 = .ok (.if_icmp .ge 49, 3) := by decide +kernel
theorem dX2_firstOfFewest_32 : decode cX2_firstOfFewest 32 = .ok (.aload_n 0, 1) := by decide +kernel
theorem dX2_firstOfFewest_33 : decode cX2_firstOfFewest 33 = .ok (.aload_n 0, 1) := by decide +kernel
theorem dX2_firstOfFewest_34 : decode cX2_firstOfFewest 34 = .ok (.getfield 35, 3) := by decide +kernel
theorem dX2_firstOfFewest_37 : decode cX2_firstOfFewest 37 = .ok (.iload_n 2, 1) := by decide +kernel
theorem dX2_firstOfFewest_38 : decode cX2_firstOfFewest 38 = .ok (.iload_n 3, 1) := by decide +kernel
theorem dX2_firstOfFewest_39 : decode cX2_firstOfFewest 39 = .ok (.invokevirtual 46, 3) := by decide +kernel
theorem dX2_firstOfFewest_42 : decode cX2_firstOfFewest 42 = .ok (.istore 4, 2) := by decide +kernel
theorem dX2_firstOfFewest_44 : decode cX2_firstOfFewest 44 = .ok (.iload 4, 2) := by decide +kernel
theorem dX2_firstOfFewest_46 : decode cX2_firstOfFewest 46 = .ok (.aload_n 0, 1) := by decide +kernel
theorem dX2_firstOfFewest_47 : decode cX2_firstOfFewest 47 = .ok (.getfield 35, 3) := by decide +kernel
theorem dX2_firstOfFewest_50 : decode cX2_firstOfFewest 50 = .ok (.if_icmp .eq 22, 3) := by decide +kernel
theorem dX2_firstOfFewest_53 : decode cX2_firstOfFewest 53 = .ok (.aload_n 0, 1) := by decide +kernel
theorem dX2_firstOfFewest_54 : decode cX2_firstOfFewest 54 = .ok (.iload 4, 2) := by decide +kernel
theorem dX2_firstOfFewest_56 : decode cX2_firstOfFewest 56 = .ok (.iload_n 1, 1) := by decide +kernel
theorem dX2_firstOfFewest_57 : decode cX2_firstOfFewest 57 = .ok (.iconst 1, 1) := by decide +kernel
theorem dX2_firstOfFewest_58 : decode cX2_firstOfFewest 58 = .ok (.isub, 1) := by decide +kernel
theorem dX2_firstOfFewest_59 : decode cX2_firstOfFewest 59 = .ok (.invokestatic 38, 3) := by decide +kernel
theorem dX2_firstOfFewest_62 : decode cX2_firstOfFewest 62 = .ok (.ifCond .eq 10, 3) := by decide +kernel
theorem dX2_firstOfFewest_65 : decode cX2_firstOfFewest 65 = .ok (.bipush 10, 2) := by decide +kernel
theorem dX2_firstOfFewest_67 : decode cX2_firstOfFewest 67 = .ok (.iload_n 2, 1) := by decide +kernel
theorem dX2_firstOfFewest_68 : decode cX2_firstOfFewest 68 = .ok (.imul, 1) := by decide +kernel
theorem dX2_firstOfFewest_69 : decode cX2_firstOfFewest 69 = .ok (.iload_n 3, 1) := by decide +kernel
theorem dX2_firstOfFewest_70 : decode cX2_firstOfFewest 70 = .ok (.iadd, 1) := by decide +kernel
theorem dX2_firstOfFewest_71 : decode cX2_firstOfFewest 71 = .ok (.ireturn, 1) := by decide +kernel
theorem dX2_firstOfFewest_72 : decode cX2_firstOfFewest 72 = .ok (.iinc 3 1, 3) := by decide +kernel
theorem dX2_firstOfFewest_75 : decode cX2_firstOfFewest 75 = .ok (.goto (-51), 3) := by decide +kernel
theorem dX2_firstOfFewest_78 : decode cX2_firstOfFewest 78 = .ok (.iinc 2 1, 3) := by decide +kernel
theorem dX2_firstOfFewest_81 : decode cX2_firstOfFewest 81 = .ok (.goto (-67), 3) := by decide +kernel
theorem dX2_firstOfFewest_84 : decode cX2_firstOfFewest 84 = .ok (.bipush (-9), 2) := by decide +kernel
theorem dX2_firstOfFewest_86 : decode cX2_firstOfFewest 86 = .ok (.ireturn, 1) := by decide +kernel
theorem dX2_isEnough_0 : decode cX2_isEnough 0 = .ok (.aload_n 0, 1) := by decide +kernel
theorem dX2_isEnough_1 : decode cX2_isEnough 1 = .ok (.iload_n 1, 1) := by decide +kernel
theorem dX2_isEnough_2 : decode cX2_isEnough 2 = .ok (.invokevirtual 50, 3) := by decide +kernel
theorem dX2_isEnough_5 : decode cX2_isEnough 5 = .ok (.istore_n 3, 1) := by decide +kernel
theorem dX2_isEnough_6 : decode cX2_isEnough 6 = .ok (.iload_n 3, 1) := by decide +kernel
theorem dX2_isEnough_7 : decode cX2_isEnough 7 = .ok (.ifCond .eq 8, 3) := by decide +kernel
theorem dX2_isEnough_10 : decode cX2_isEnough 10 = .ok (.iload_n 3, 1) := by decide +kernel
theorem dX2_isEnough_11 : decode cX2_isEnough 11 = .ok (.iload_n 2, 1) := by decide +kernel
theorem dX2_isEnough_12 : decode cX2_isEnough 12 = .ok (.if_icmp .le 13, 3) := by decide +kernel
theorem dX2_isEnough_15 : decode cX2_isEnough 15 = .ok (.iload_n 3, 1) := by decide +kernel
theorem dX2_isEnough_16 : decode cX2_isEnough 16 = .ok (.ifCond .ne 7, 3) := by decide +kernel
theorem dX2_isEnough_19 : decode cX2_isEnough 19 = .ok (.iconst 1, 1) := by decide +kernel
theorem dX2_isEnough_20 : decode cX2_isEnough 20 = .ok (.goto 4, 3) := by decide +kernel
theorem dX2_isEnough_23 : decode cX2_isEnough 23 = .ok (.iconst 0, 1) := by decide +kernel
theorem dX2_isEnough_24 : decode cX2_isEnough 24 = .ok (.ireturn, 1) := by decide +kernel
theorem dX2_isEnough_25 : decode cX2_isEnough 25 = .ok (.iconst 0, 1) := by decide +kernel
theorem dX2_isEnough_26 : decode cX2_isEnough 26 = .ok (.istore 4, 2) := by decide +kernel
theorem dX2_isEnough_28 : decode cX2_isEnough 28 = .ok (.iload 4, 2) := by decide +kernel
theorem dX2_isEnough_30 : decode cX2_isEnough 30 = .ok (.aload_n 0, 1) := by decide +kernel
theorem dX2_isEnough_31 : decode cX2_isEnough 31 = .ok (.getfield 21, 3) := by decide +kernel
theorem dX2_isEnough_34 : decode cX2_isEnough 34 = .ok (.if_icmp .ge 58, 3) := by decide +kernel
theorem dX2_isEnough_37 : decode cX2_isEnough 37 = .ok (.iconst 0, 1) := by decide +kernel
theorem dX2_isEnough_38 : decode cX2_isEnough 38 = .ok (.istore 5, 2) := by decide +kernel
theorem dX2_isEnough_40 : decode cX2_isEnough 40 = .ok (.iload 5, 2) := by decide +kernel
theorem dX2_isEnough_42 : decode cX2_isEnough 42 = .ok (.aload_n 0, 1) := by decide +kernel
theorem dX2_isEnough_43 : decode cX2_isEnough 43 = .ok (.getfield 21, 3) := by decide +kernel
theorem dX2_isEnough_46 : decode cX2_isEnough 46 = .ok (.if_icmp .ge 40, 3) := by decide +kernel
theorem dX2_isEnough_49 : decode cX2_isEnough 49 = .ok (.aload_n 0, 1) := by decide +kernel
theorem dX2_isEnough_50 : decode cX2_isEnough 50 = .ok (.iload_n 1, 1) := by decide +kernel
theorem dX2_isEnough_51 : decode cX2_isEnough 51 = .ok (.iload 4, 2) := by decide +kernel
theorem dX2_isEnough_53 : decode cX2_isEnough 53 = .ok (.iload 5, 2) := by decide +kernel
theorem dX2_isEnough_55 : decode cX2_isEnough 55 = .ok (.invokevirtual 46, 3) := by decide +kernel
theorem dX2_isEnough_58 : decode cX2_isEnough 58 = .ok (.istore 6, 2) := by decide +kernel
theorem dX2_isEnough_60 : decode cX2_isEnough 60 = .ok (.iload 6, 2) := by decide +kernel
theorem dX2_isEnough_62 : decode cX2_isEnough 62 = .ok (.iload_n 1, 1) := by decide +kernel
theorem dX2_isEnough_63 : decode cX2_isEnough 63 = .ok (.if_icmp .eq 17, 3) := by decide +kernel
theorem dX2_isEnough_66 : decode cX2_isEnough 66 = .ok (.aload_n 0, 1) := by decide +kernel
theorem dX2_isEnough_67 : decode cX2_isEnough 67 = .ok (.iload 6, 2) := by decide +kernel
theorem dX2_isEnough_69 : decode cX2_isEnough 69 = .ok (.iload_n 2, 1) := by decide +kernel
theorem dX2_isEnough_70 : decode cX2_isEnough 70 = .ok (.iconst 1, 1) := by decide +kernel
theorem dX2_isEnough_71 : decode cX2_isEnough 71 = .ok (.isub, 1) := by decide +kernel
theorem dX2_isEnough_72 : decode cX2_isEnough 72 = .ok (.invokestatic 38, 3) := by decide +kernel
theorem dX2_isEnough_75 : decode cX2_isEnough 75 = .ok (.ifCond .eq 5, 3) := by decide +kernel
theorem dX2_isEnough_78 : decode cX2_isEnough 78 = .ok (.iconst 1, 1) := by decide +kernel
theorem dX2_isEnough_79 : decode cX2_isEnough 79 = .ok (.ireturn, 1) := by decide +kernel
theorem dX2_isEnough_80 : decode cX2_isEnough 80 = .ok (.iinc 5 1, 3) := by decide +kernel
theorem dX2_isEnough_83 : decode cX2_isEnough 83 = .ok (.goto (-43), 3) := by decide +kernel
theorem dX2_isEnough_86 : decode cX2_isEnough 86 = .ok (.iinc 4 1, 3) := by decide +kernel
theorem dX2_isEnough_89 : decode cX2_isEnough 89 = .ok (.goto (-61), 3) := by decide +kernel
theorem dX2_isEnough_92 : decode cX2_isEnough 92 = .ok (.iconst 0, 1) := by decide +kernel
theorem dX2_isEnough_93 : decode cX2_isEnough 93 = .ok (.ireturn, 1) := by decide +kernel
theorem dX2_lackingSites_0 : decode cX2_lackingSites 0 = .ok (.iconst 1, 1) := by decide +kernel
theorem dX2_lackingSites_1 : decode cX2_lackingSites 1 = .ok (.aload_n 0, 1) := by decide +kernel
theorem dX2_lackingSites_2 : decode cX2_lackingSites 2 = .ok (.getfield 21, 3) := by decide +kernel
theorem dX2_lackingSites_5 : decode cX2_lackingSites 5 = .ok (.ishl, 1) := by decide +kernel
theorem dX2_lackingSites_6 : decode cX2_lackingSites 6 = .ok (.iconst 1, 1) := by decide +kernel
theorem dX2_lackingSites_7 : decode cX2_lackingSites 7 = .ok (.isub, 1) := by decide +kernel
theorem dX2_lackingSites_8 : decode cX2_lackingSites 8 = .ok (.istore_n 2, 1) := by decide +kernel
theorem dX2_lackingSites_9 : decode cX2_lackingSites 9 = .ok (.iconst 0, 1) := by decide +kernel
theorem dX2_lackingSites_10 : decode cX2_lackingSites 10 = .ok (.istore_n 3, 1) := by decide +kernel
theorem dX2_lackingSites_11 : decode cX2_lackingSites 11 = .ok (.iconst 0, 1) := by decide +kernel
theorem dX2_lackingSites_12 : decode cX2_lackingSites 12 = .ok (.istore 4, 2) := by decide +kernel
theorem dX2_lackingSites_14 : decode cX2_lackingSites 14 = .ok (.iload 4, 2) := by decide +kernel
theorem dX2_lackingSites_16 : decode cX2_lackingSites 16 = .ok (.aload_n 0, 1) := by decide +kernel
theorem dX2_lackingSites_17 : decode cX2_lackingSites 17 = .ok (.getfield 21, 3) := by decide +kernel
theorem dX2_lackingSites_20 : decode cX2_lackingSites 20 = .ok (.if_icmp .ge 30, 3) := by decide +kernel
theorem dX2_lackingSites_23 : decode cX2_lackingSites 23 = .ok (.iload_n 3, 1) := by decide +kernel
theorem dX2_lackingSites_24 : decode cX2_lackingSites 24 = .ok (.iload_n 1, 1) := by decide +kernel
theorem dX2_lackingSites_25 : decode cX2_lackingSites 25 = .ok (.iload 4, 2) := by decide +kernel
theorem dX2_lackingSites_27 : decode cX2_lackingSites 27 = .ok (.invokestatic 54, 3) := by decide +kernel
theorem dX2_lackingSites_30 : decode cX2_lackingSites 30 = .ok (.iload_n 2, 1) := by decide +kernel
theorem dX2_lackingSites_31 : decode cX2_lackingSites 31 = .ok (.if_icmp .eq 7, 3) := by decide +kernel
theorem dX2_lackingSites_34 : decode cX2_lackingSites 34 = .ok (.iconst 1, 1) := by decide +kernel
theorem dX2_lackingSites_35 : decode cX2_lackingSites 35 = .ok (.goto 4, 3) := by decide +kernel
theorem dX2_lackingSites_38 : decode cX2_lackingSites 38 = .ok (.iconst 0, 1) := by decide +kernel
theorem dX2_lackingSites_39 : decode cX2_lackingSites 39 = .ok (.invokestatic 31, 3) := by decide +kernel
theorem dX2_lackingSites_42 : decode cX2_lackingSites 42 = .ok (.iadd, 1) := by decide +kernel
theorem dX2_lackingSites_43 : decode cX2_lackingSites 43 = .ok (.istore_n 3, 1) := by decide +kernel
theorem dX2_lackingSites_44 : decode cX2_lackingSites 44 = .ok (.iinc 4 1, 3) := by decide +kernel
theorem dX2_lackingSites_47 : decode cX2_lackingSites 47 = .ok (.goto (-33), 3) := by decide +kernel
theorem dX2_lackingSites_50 : decode cX2_lackingSites 50 = .ok (.iload_n 3, 1) := by decide +kernel
theorem dX2_lackingSites_51 : decode cX2_lackingSites 51 = .ok (.ireturn, 1) := by decide +kernel
theorem dX2_afterSending_0 : decode cX2_afterSending 0 = .ok (.aload_n 0, 1) := by decide +kernel
theorem dX2_afterSending_1 : decode cX2_afterSending 1 = .ok (.getfield 9, 3) := by decide +kernel
theorem dX2_afterSending_4 : decode cX2_afterSending 4 = .ok (.iload_n 1, 1) := by decide +kernel
theorem dX2_afterSending_5 : decode cX2_afterSending 5 = .ok (.iload_n 2, 1) := by decide +kernel
theorem dX2_afterSending_6 : decode cX2_afterSending 6 = .ok (.invokestatic 54, 3) := by decide +kernel
theorem dX2_afterSending_9 : decode cX2_afterSending 9 = .ok (.iload_n 1, 1) := by decide +kernel
theorem dX2_afterSending_10 : decode cX2_afterSending 10 = .ok (.iload_n 3, 1) := by decide +kernel
theorem dX2_afterSending_11 : decode cX2_afterSending 11 = .ok (.invokestatic 54, 3) := by decide +kernel
theorem dX2_afterSending_14 : decode cX2_afterSending 14 = .ok (.ior, 1) := by decide +kernel
theorem dX2_afterSending_15 : decode cX2_afterSending 15 = .ok (.iaload, 1) := by decide +kernel
theorem dX2_afterSending_16 : decode cX2_afterSending 16 = .ok (.istore 4, 2) := by decide +kernel
theorem dX2_afterSending_18 : decode cX2_afterSending 18 = .ok (.iload_n 1, 1) := by decide +kernel
theorem dX2_afterSending_19 : decode cX2_afterSending 19 = .ok (.bipush 15, 2) := by decide +kernel
theorem dX2_afterSending_21 : decode cX2_afterSending 21 = .ok (.iconst 4, 1) := by decide +kernel
theorem dX2_afterSending_22 : decode cX2_afterSending 22 = .ok (.iload_n 3, 1) := by decide +kernel
theorem dX2_afterSending_23 : decode cX2_afterSending 23 = .ok (.imul, 1) := by decide +kernel
theorem dX2_afterSending_24 : decode cX2_afterSending 24 = .ok (.ishl, 1) := by decide +kernel
theorem dX2_afterSending_25 : decode cX2_afterSending 25 = .ok (.iconst (-1), 1) := by decide +kernel
theorem dX2_afterSending_26 : decode cX2_afterSending 26 = .ok (.ixor, 1) := by decide +kernel
theorem dX2_afterSending_27 : decode cX2_afterSending 27 = .ok (.iand, 1) := by decide +kernel
theorem dX2_afterSending_28 : decode cX2_afterSending 28 = .ok (.iload 4, 2) := by decide +kernel
theorem dX2_afterSending_30 : decode cX2_afterSending 30 = .ok (.iconst 4, 1) := by decide +kernel
theorem dX2_afterSending_31 : decode cX2_afterSending 31 = .ok (.iload_n 3, 1) := by decide +kernel
theorem dX2_afterSending_32 : decode cX2_afterSending 32 = .ok (.imul, 1) := by decide +kernel
theorem dX2_afterSending_33 : decode cX2_afterSending 33 = .ok (.ishl, 1) := by decide +kernel
theorem dX2_afterSending_34 : decode cX2_afterSending 34 = .ok (.ior, 1) := by decide +kernel
theorem dX2_afterSending_35 : decode cX2_afterSending 35 = .ok (.ireturn, 1) := by decide +kernel
theorem dX2_setOf_0 : decode cX2_setOf 0 = .ok (.iload_n 0, 1) := by decide +kernel
theorem dX2_setOf_1 : decode cX2_setOf 1 = .ok (.iconst 4, 1) := by decide +kernel
theorem dX2_setOf_2 : decode cX2_setOf 2 = .ok (.iload_n 1, 1) := by decide +kernel
theorem dX2_setOf_3 : decode cX2_setOf 3 = .ok (.imul, 1) := by decide +kernel
theorem dX2_setOf_4 : decode cX2_setOf 4 = .ok (.ishr, 1) := by decide +kernel
theorem dX2_setOf_5 : decode cX2_setOf 5 = .ok (.bipush 15, 2) := by decide +kernel
theorem dX2_setOf_7 : decode cX2_setOf 7 = .ok (.iand, 1) := by decide +kernel
theorem dX2_setOf_8 : decode cX2_setOf 8 = .ok (.ireturn, 1) := by decide +kernel
theorem dX3_init_0 : decode cX3_init 0 = .ok (.aload_n 0, 1) := by decide +kernel
theorem dX3_init_1 : decode cX3_init 1 = .ok (.invokespecial 3, 3) := by decide +kernel
theorem dX3_init_4 : decode cX3_init 4 = .ok (.aload_n 0, 1) := by decide +kernel
theorem dX3_init_5 : decode cX3_init 5 = .ok (.sipush 160, 3) := by decide +kernel
theorem dX3_init_8 : decode cX3_init 8 = .ok (.newarray .long, 2) := by decide +kernel
theorem dX3_init_10 : decode cX3_init 10 = .ok (.putfield 9, 3) := by decide +kernel
theorem dX3_init_13 : decode cX3_init 13 = .ok (.aload_n 0, 1) := by decide +kernel
theorem dX3_init_14 : decode cX3_init 14 = .ok (.sipush 160, 3) := by decide +kernel
theorem dX3_init_17 : decode cX3_init 17 = .ok (.newarray .int, 2) := by decide +kernel
theorem dX3_init_19 : decode cX3_init 19 = .ok (.putfield 15, 3) := by decide +kernel
theorem dX3_init_22 : decode cX3_init 22 = .ok (.aload_n 0, 1) := by decide +kernel
theorem dX3_init_23 : decode cX3_init 23 = .ok (.sipush 160, 3) := by decide +kernel
theorem dX3_init_26 : decode cX3_init 26 = .ok (.newarray .int, 2) := by decide +kernel
theorem dX3_init_28 : decode cX3_init 28 = .ok (.putfield 19, 3) := by decide +kernel
theorem dX3_init_31 : decode cX3_init 31 = .ok (.aload_n 0, 1) := by decide +kernel
theorem dX3_init_32 : decode cX3_init 32 = .ok (.sipush 160, 3) := by decide +kernel
theorem dX3_init_35 : decode cX3_init 35 = .ok (.newarray .int, 2) := by decide +kernel
theorem dX3_init_37 : decode cX3_init 37 = .ok (.putfield 22, 3) := by decide +kernel
theorem dX3_init_40 : decode cX3_init 40 = .ok (.aload_n 0, 1) := by decide +kernel
theorem dX3_init_41 : decode cX3_init 41 = .ok (.new 25, 3) := by decide +kernel
theorem dX3_init_44 : decode cX3_init 44 = .ok (.dup, 1) := by decide +kernel
theorem dX3_init_45 : decode cX3_init 45 = .ok (.invokespecial 27, 3) := by decide +kernel
theorem dX3_init_48 : decode cX3_init 48 = .ok (.putfield 28, 3) := by decide +kernel
theorem dX3_init_51 : decode cX3_init 51 = .ok (.aload_n 0, 1) := by decide +kernel
theorem dX3_init_52 : decode cX3_init 52 = .ok (.new 25, 3) := by decide +kernel
theorem dX3_init_55 : decode cX3_init 55 = .ok (.dup, 1) := by decide +kernel
theorem dX3_init_56 : decode cX3_init 56 = .ok (.invokespecial 27, 3) := by decide +kernel
theorem dX3_init_59 : decode cX3_init 59 = .ok (.putfield 32, 3) := by decide +kernel
theorem dX3_init_62 : decode cX3_init 62 = .ok (.aload_n 0, 1) := by decide +kernel
theorem dX3_init_63 : decode cX3_init 63 = .ok (.new 25, 3) := by decide +kernel
theorem dX3_init_66 : decode cX3_init 66 = .ok (.dup, 1) := by decide +kernel
theorem dX3_init_67 : decode cX3_init 67 = .ok (.invokespecial 27, 3) := by decide +kernel
theorem dX3_init_70 : decode cX3_init 70 = .ok (.putfield 35, 3) := by decide +kernel
theorem dX3_init_73 : decode cX3_init 73 = .ok (.aload_n 0, 1) := by decide +kernel
theorem dX3_init_74 : decode cX3_init 74 = .ok (.new 25, 3) := by decide +kernel
theorem dX3_init_77 : decode cX3_init 77 = .ok (.dup, 1) := by decide +kernel
theorem dX3_init_78 : decode cX3_init 78 = .ok (.invokespecial 27, 3) := by decide +kernel
theorem dX3_init_81 : decode cX3_init 81 = .ok (.putfield 38, 3) := by decide +kernel
theorem dX3_init_84 : decode cX3_init 84 = .ok (.return_, 1) := by decide +kernel
theorem dX3_beginAnew_0 : decode cX3_beginAnew 0 = .ok (.aload_n 0, 1) := by decide +kernel
theorem dX3_beginAnew_1 : decode cX3_beginAnew 1 = .ok (.iload_n 1, 1) := by decide +kernel
theorem dX3_beginAnew_2 : decode cX3_beginAnew 2 = .ok (.putfield 41, 3) := by decide +kernel
theorem dX3_beginAnew_5 : decode cX3_beginAnew 5 = .ok (.aload_n 0, 1) := by decide +kernel
theorem dX3_beginAnew_6 : decode cX3_beginAnew 6 = .ok (.iconst 0, 1) := by decide +kernel
theorem dX3_beginAnew_7 : decode cX3_beginAnew 7 = .ok (.putfield 45, 3) := by decide +kernel
theorem dX3_beginAnew_10 : decode cX3_beginAnew 10 = .ok (.aload_n 0, 1) := by decide +kernel
theorem dX3_beginAnew_11 : decode cX3_beginAnew 11 = .ok (.iconst 0, 1) := by decide +kernel
theorem dX3_beginAnew_12 : decode cX3_beginAnew 12 = .ok (.putfield 48, 3) := by decide +kernel
theorem dX3_beginAnew_15 : decode cX3_beginAnew 15 = .ok (.aload_n 0, 1) := by decide +kernel
theorem dX3_beginAnew_16 : decode cX3_beginAnew 16 = .ok (.getfield 28, 3) := by decide +kernel
theorem dX3_beginAnew_19 : decode cX3_beginAnew 19 = .ok (.invokevirtual 51, 3) := by decide +kernel
theorem dX3_beginAnew_22 : decode cX3_beginAnew 22 = .ok (.aload_n 0, 1) := by decide +kernel
theorem dX3_beginAnew_23 : decode cX3_beginAnew 23 = .ok (.getfield 32, 3) := by decide +kernel
theorem dX3_beginAnew_26 : decode cX3_beginAnew 26 = .ok (.invokevirtual 51, 3) := by decide +kernel
theorem dX3_beginAnew_29 : decode cX3_beginAnew 29 = .ok (.aload_n 0, 1) := by decide +kernel
theorem dX3_beginAnew_30 : decode cX3_beginAnew 30 = .ok (.getfield 35, 3) := by decide +kernel
theorem dX3_beginAnew_33 : decode cX3_beginAnew 33 = .ok (.invokevirtual 51, 3) := by decide +kernel
theorem dX3_beginAnew_36 : decode cX3_beginAnew 36 = .ok (.aload_n 0, 1) := by decide +kernel
theorem dX3_beginAnew_37 : decode cX3_beginAnew 37 = .ok (.getfield 38, 3) := by decide +kernel
theorem dX3_beginAnew_40 : decode cX3_beginAnew 40 = .ok (.invokevirtual 51, 3) := by decide +kernel
theorem dX3_beginAnew_43 : decode cX3_beginAnew 43 = .ok (.return_, 1) := by decide +kernel
theorem dX3_has_0 : decode cX3_has 0 = .ok (.iload_n 1, 1) := by decide +kernel
theorem dX3_has_1 : decode cX3_has 1 = .ok (.invokestatic 54, 3) := by decide +kernel
theorem dX3_has_4 : decode cX3_has 4 = .ok (.ifCond .eq 25, 3) := by decide +kernel
theorem dX3_has_7 : decode cX3_has 7 = .ok (.aload_n 0, 1) := by decide +kernel
theorem dX3_has_8 : decode cX3_has 8 = .ok (.getfield 45, 3) := by decide +kernel
theorem dX3_has_11 : decode cX3_has 11 = .ok (.iload_n 1, 1) := by decide +kernel
theorem dX3_has_12 : decode cX3_has 12 = .ok (.invokestatic 58, 3) := by decide +kernel
theorem dX3_has_15 : decode cX3_has 15 = .ok (.invokestatic 62, 3) := by decide +kernel
theorem dX3_has_18 : decode cX3_has 18 = .ok (.iload_n 1, 1) := by decide +kernel
theorem dX3_has_19 : decode cX3_has 19 = .ok (.invokestatic 68, 3) := by decide +kernel
theorem dX3_has_22 : decode cX3_has 22 = .ok (.if_icmp .lt 7, 3) := by decide +kernel
theorem dX3_has_25 : decode cX3_has 25 = .ok (.iconst 1, 1) := by decide +kernel
theorem dX3_has_26 : decode cX3_has 26 = .ok (.goto 4, 3) := by decide +kernel
theorem dX3_has_29 : decode cX3_has 29 = .ok (.iconst 0, 1) := by decide +kernel
theorem dX3_has_30 : decode cX3_has 30 = .ok (.ireturn, 1) := by decide +kernel
theorem dX3_note_0 : decode cX3_note 0 = .ok (.iload_n 1, 1) := by decide +kernel
theorem dX3_note_1 : decode cX3_note 1 = .ok (.invokestatic 54, 3) := by decide +kernel
theorem dX3_note_4 : decode cX3_note 4 = .ok (.ifCond .eq 53, 3) := by decide +kernel
theorem dX3_note_7 : decode cX3_note 7 = .ok (.aload_n 0, 1) := by decide +kernel
theorem dX3_note_8 : decode cX3_note 8 = .ok (.getfield 9, 3) := by decide +kernel
theorem dX3_note_11 : decode cX3_note 11 = .ok (.iload_n 1, 1) := by decide +kernel
theorem dX3_note_12 : decode cX3_note 12 = .ok (.lload_n 2, 1) := by decide +kernel
theorem dX3_note_13 : decode cX3_note 13 = .ok (.lastore, 1) := by decide +kernel
theorem dX3_note_14 : decode cX3_note 14 = .ok (.aload_n 0, 1) := by decide +kernel
theorem dX3_note_15 : decode cX3_note 15 = .ok (.getfield 15, 3) := by decide +kernel
theorem dX3_note_18 : decode cX3_note 18 = .ok (.iload_n 1, 1) := by decide +kernel
theorem dX3_note_19 : decode cX3_note 19 = .ok (.iload 4, 2) := by decide +kernel
theorem dX3_note_21 : decode cX3_note 21 = .ok (.iastore, 1) := by decide +kernel
theorem dX3_note_22 : decode cX3_note 22 = .ok (.aload_n 0, 1) := by decide +kernel
theorem dX3_note_23 : decode cX3_note 23 = .ok (.getfield 19, 3) := by decide +kernel
theorem dX3_note_26 : decode cX3_note 26 = .ok (.iload_n 1, 1) := by decide +kernel
theorem dX3_note_27 : decode cX3_note 27 = .ok (.iload 5, 2) := by decide +kernel
theorem dX3_note_29 : decode cX3_note 29 = .ok (.iastore, 1) := by decide +kernel
theorem dX3_note_30 : decode cX3_note 30 = .ok (.aload_n 0, 1) := by decide +kernel
theorem dX3_note_31 : decode cX3_note 31 = .ok (.getfield 22, 3) := by decide +kernel
theorem dX3_note_34 : decode cX3_note 34 = .ok (.iload_n 1, 1) := by decide +kernel
theorem dX3_note_35 : decode cX3_note 35 = .ok (.iload 6, 2) := by decide +kernel
theorem dX3_note_37 : decode cX3_note 37 = .ok (.iastore, 1) := by decide +kernel
theorem dX3_note_38 : decode cX3_note 38 = .ok (.aload_n 0, 1) := by decide +kernel
theorem dX3_note_39 : decode cX3_note 39 = .ok (.aload_n 0, 1) := by decide +kernel
theorem dX3_note_40 : decode cX3_note 40 = .ok (.getfield 45, 3) := by decide +kernel
theorem dX3_note_43 : decode cX3_note 43 = .ok (.iload_n 1, 1) := by decide +kernel
theorem dX3_note_44 : decode cX3_note 44 = .ok (.invokestatic 58, 3) := by decide +kernel
theorem dX3_note_47 : decode cX3_note 47 = .ok (.iload_n 1, 1) := by decide +kernel
theorem dX3_note_48 : decode cX3_note 48 = .ok (.invokestatic 68, 3) := by decide +kernel
theorem dX3_note_51 : decode cX3_note 51 = .ok (.invokestatic 71, 3) := by decide +kernel
theorem dX3_note_54 : decode cX3_note 54 = .ok (.putfield 45, 3) := by decide +kernel
theorem dX3_note_57 : decode cX3_note 57 = .ok (.return_, 1) := by decide +kernel
theorem dX3_valueOf_0 : decode cX3_valueOf 0 = .ok (.aload_n 0, 1) := by decide +kernel
theorem dX3_valueOf_1 : decode cX3_valueOf 1 = .ok (.iload_n 1, 1) := by decide +kernel
theorem dX3_valueOf_2 : decode cX3_valueOf 2 = .ok (.invokevirtual 75, 3) := by decide +kernel
theorem dX3_valueOf_5 : decode cX3_valueOf 5 = .ok (.ifCond .eq 12, 3) := by decide +kernel
theorem dX3_valueOf_8 : decode cX3_valueOf 8 = .ok (.aload_n 0, 1) := by decide +kernel
theorem dX3_valueOf_9 : decode cX3_valueOf 9 = .ok (.getfield 9, 3) := by decide +kernel
theorem dX3_valueOf_12 : decode cX3_valueOf 12 = .ok (.iload_n 1, 1) := by decide +kernel
theorem dX3_valueOf_13 : decode cX3_valueOf 13 = .ok (.laload, 1) := by decide +kernel
theorem dX3_valueOf_14 : decode cX3_valueOf 14 = .ok (.goto 4, 3) := by decide +kernel
theorem dX3_valueOf_17 : decode cX3_valueOf 17 = .ok (.lconst 0, 1) := by decide +kernel
theorem dX3_valueOf_18 : decode cX3_valueOf 18 = .ok (.lreturn, 1) := by decide +kernel
theorem dX3_stampOf_0 : decode cX3_stampOf 0 = .ok (.aload_n 0, 1) := by decide +kernel
theorem dX3_stampOf_1 : decode cX3_stampOf 1 = .ok (.iload_n 1, 1) := by decide +kernel
theorem dX3_stampOf_2 : decode cX3_stampOf 2 = .ok (.invokevirtual 75, 3) := by decide +kernel
theorem dX3_stampOf_5 : decode cX3_stampOf 5 = .ok (.ifCond .eq 12, 3) := by decide +kernel
theorem dX3_stampOf_8 : decode cX3_stampOf 8 = .ok (.aload_n 0, 1) := by decide +kernel
theorem dX3_stampOf_9 : decode cX3_stampOf 9 = .ok (.getfield 15, 3) := by decide +kernel
theorem dX3_stampOf_12 : decode cX3_stampOf 12 = .ok (.iload_n 1, 1) := by decide +kernel
theorem dX3_stampOf_13 : decode cX3_stampOf 13 = .ok (.iaload, 1) := by decide +kernel
theorem dX3_stampOf_14 : decode cX3_stampOf 14 = .ok (.goto 4, 3) := by decide +kernel
theorem dX3_stampOf_17 : decode cX3_stampOf 17 = .ok (.iconst 0, 1) := by decide +kernel
theorem dX3_stampOf_18 : decode cX3_stampOf 18 = .ok (.ireturn, 1) := by decide +kernel
theorem dX3_toldOf_0 : decode cX3_toldOf 0 = .ok (.aload_n 0, 1) := by decide +kernel
theorem dX3_toldOf_1 : decode cX3_toldOf 1 = .ok (.iload_n 1, 1) := by decide +kernel
theorem dX3_toldOf_2 : decode cX3_toldOf 2 = .ok (.invokevirtual 75, 3) := by decide +kernel
theorem dX3_toldOf_5 : decode cX3_toldOf 5 = .ok (.ifCond .eq 12, 3) := by decide +kernel
theorem dX3_toldOf_8 : decode cX3_toldOf 8 = .ok (.aload_n 0, 1) := by decide +kernel
theorem dX3_toldOf_9 : decode cX3_toldOf 9 = .ok (.getfield 19, 3) := by decide +kernel
theorem dX3_toldOf_12 : decode cX3_toldOf 12 = .ok (.iload_n 1, 1) := by decide +kernel
theorem dX3_toldOf_13 : decode cX3_toldOf 13 = .ok (.iaload, 1) := by decide +kernel
theorem dX3_toldOf_14 : decode cX3_toldOf 14 = .ok (.goto 4, 3) := by decide +kernel
theorem dX3_toldOf_17 : decode cX3_toldOf 17 = .ok (.iconst 0, 1) := by decide +kernel
theorem dX3_toldOf_18 : decode cX3_toldOf 18 = .ok (.ireturn, 1) := by decide +kernel
theorem dX3_knownOf_0 : decode cX3_knownOf 0 = .ok (.aload_n 0, 1) := by decide +kernel
theorem dX3_knownOf_1 : decode cX3_knownOf 1 = .ok (.iload_n 1, 1) := by decide +kernel
theorem dX3_knownOf_2 : decode cX3_knownOf 2 = .ok (.invokevirtual 75, 3) := by decide +kernel
theorem dX3_knownOf_5 : decode cX3_knownOf 5 = .ok (.ifCond .eq 12, 3) := by decide +kernel
theorem dX3_knownOf_8 : decode cX3_knownOf 8 = .ok (.aload_n 0, 1) := by decide +kernel
theorem dX3_knownOf_9 : decode cX3_knownOf 9 = .ok (.getfield 22, 3) := by decide +kernel
theorem dX3_knownOf_12 : decode cX3_knownOf 12 = .ok (.iload_n 1, 1) := by decide +kernel
theorem dX3_knownOf_13 : decode cX3_knownOf 13 = .ok (.iaload, 1) := by decide +kernel
theorem dX3_knownOf_14 : decode cX3_knownOf 14 = .ok (.goto 4, 3) := by decide +kernel
theorem dX3_knownOf_17 : decode cX3_knownOf 17 = .ok (.iconst 0, 1) := by decide +kernel
theorem dX3_knownOf_18 : decode cX3_knownOf 18 = .ok (.ireturn, 1) := by decide +kernel
theorem dX3_nextByStamp_0 : decode cX3_nextByStamp 0 = .ok (.iconst (-1), 1) := by decide +kernel
theorem dX3_nextByStamp_1 : decode cX3_nextByStamp 1 = .ok (.istore_n 3, 1) := by decide +kernel
theorem dX3_nextByStamp_2 : decode cX3_nextByStamp 2 = .ok (.iconst 0, 1) := by decide +kernel
theorem dX3_nextByStamp_3 : decode cX3_nextByStamp 3 = .ok (.istore 4, 2) := by decide +kernel
theorem dX3_nextByStamp_5 : decode cX3_nextByStamp 5 = .ok (.iload 4, 2) := by decide +kernel
theorem dX3_nextByStamp_7 : decode cX3_nextByStamp 7 = .ok (.sipush 160, 3) := by decide +kernel
theorem dX3_nextByStamp_10 : decode cX3_nextByStamp 10 = .ok (.if_icmp .ge 50, 3) := by decide +kernel
theorem dX3_nextByStamp_13 : decode cX3_nextByStamp 13 = .ok (.aload_n 1, 1) := by decide +kernel
theorem dX3_nextByStamp_14 : decode cX3_nextByStamp 14 = .ok (.iload 4, 2) := by decide +kernel
theorem dX3_nextByStamp_16 : decode cX3_nextByStamp 16 = .ok (.invokevirtual 78, 3) := by decide +kernel
theorem dX3_nextByStamp_19 : decode cX3_nextByStamp 19 = .ok (.ifCond .eq 35, 3) := by decide +kernel
theorem dX3_nextByStamp_22 : decode cX3_nextByStamp 22 = .ok (.aload_n 0, 1) := by decide +kernel
theorem dX3_nextByStamp_23 : decode cX3_nextByStamp 23 = .ok (.iload 4, 2) := by decide +kernel
theorem dX3_nextByStamp_25 : decode cX3_nextByStamp 25 = .ok (.invokevirtual 79, 3) := by decide +kernel
theorem dX3_nextByStamp_28 : decode cX3_nextByStamp 28 = .ok (.iload_n 2, 1) := by decide +kernel
theorem dX3_nextByStamp_29 : decode cX3_nextByStamp 29 = .ok (.if_icmp .le 25, 3) := by decide +kernel
theorem dX3_nextByStamp_32 : decode cX3_nextByStamp 32 = .ok (.iload_n 3, 1) := by decide +kernel
theorem dX3_nextByStamp_33 : decode cX3_nextByStamp 33 = .ok (.iconst (-1), 1) := by decide +kernel
theorem dX3_nextByStamp_34 : decode cX3_nextByStamp 34 = .ok (.if_icmp .eq 17, 3) := by decide +kernel
theorem dX3_nextByStamp_37 : decode cX3_nextByStamp 37 = .ok (.aload_n 0, 1) := by decide +kernel
theorem dX3_nextByStamp_38 : decode cX3_nextByStamp 38 = .ok (.iload 4, 2) := by decide +kernel
theorem dX3_nextByStamp_40 : decode cX3_nextByStamp 40 = .ok (.invokevirtual 79, 3) := by decide +kernel
theorem dX3_nextByStamp_43 : decode cX3_nextByStamp 43 = .ok (.aload_n 0, 1) := by decide +kernel
theorem dX3_nextByStamp_44 : decode cX3_nextByStamp 44 = .ok (.iload_n 3, 1) := by decide +kernel
theorem dX3_nextByStamp_45 : decode cX3_nextByStamp 45 = .ok (.invokevirtual 79, 3) := by decide +kernel
theorem dX3_nextByStamp_48 : decode cX3_nextByStamp 48 = .ok (.if_icmp .ge 6, 3) := by decide +kernel
theorem dX3_nextByStamp_51 : decode cX3_nextByStamp 51 = .ok (.iload 4, 2) := by decide +kernel
theorem dX3_nextByStamp_53 : decode cX3_nextByStamp 53 = .ok (.istore_n 3, 1) := by decide +kernel
theorem dX3_nextByStamp_54 : decode cX3_nextByStamp 54 = .ok (.iinc 4 1, 3) := by decide +kernel
theorem dX3_nextByStamp_57 : decode cX3_nextByStamp 57 = .ok (.goto (-52), 3) := by decide +kernel
theorem dX3_nextByStamp_60 : decode cX3_nextByStamp 60 = .ok (.iload_n 3, 1) := by decide +kernel
theorem dX3_nextByStamp_61 : decode cX3_nextByStamp 61 = .ok (.ireturn, 1) := by decide +kernel
theorem dX3_pruned_0 : decode cX3_pruned 0 = .ok (.iload_n 1, 1) := by decide +kernel
theorem dX3_pruned_1 : decode cX3_pruned 1 = .ok (.istore_n 3, 1) := by decide +kernel
theorem dX3_pruned_2 : decode cX3_pruned 2 = .ok (.iload_n 1, 1) := by decide +kernel
theorem dX3_pruned_3 : decode cX3_pruned 3 = .ok (.invokestatic 82, 3) := by decide +kernel
theorem dX3_pruned_6 : decode cX3_pruned 6 = .ok (.iload_n 2, 1) := by decide +kernel
theorem dX3_pruned_7 : decode cX3_pruned 7 = .ok (.isub, 1) := by decide +kernel
theorem dX3_pruned_8 : decode cX3_pruned 8 = .ok (.istore 4, 2) := by decide +kernel
theorem dX3_pruned_10 : decode cX3_pruned 10 = .ok (.iload 4, 2) := by decide +kernel
theorem dX3_pruned_12 : decode cX3_pruned 12 = .ok (.ifCond .le 20, 3) := by decide +kernel
theorem dX3_pruned_15 : decode cX3_pruned 15 = .ok (.iload_n 3, 1) := by decide +kernel
theorem dX3_pruned_16 : decode cX3_pruned 16 = .ok (.aload_n 0, 1) := by decide +kernel
theorem dX3_pruned_17 : decode cX3_pruned 17 = .ok (.iload_n 3, 1) := by decide +kernel
theorem dX3_pruned_18 : decode cX3_pruned 18 = .ok (.invokevirtual 85, 3) := by decide +kernel
theorem dX3_pruned_21 : decode cX3_pruned 21 = .ok (.iconst 0, 1) := by decide +kernel
theorem dX3_pruned_22 : decode cX3_pruned 22 = .ok (.invokestatic 71, 3) := by decide +kernel
theorem dX3_pruned_25 : decode cX3_pruned 25 = .ok (.istore_n 3, 1) := by decide +kernel
theorem dX3_pruned_26 : decode cX3_pruned 26 = .ok (.iinc 4 (-1), 3) := by decide +kernel
theorem dX3_pruned_29 : decode cX3_pruned 29 = .ok (.goto (-19), 3) := by decide +kernel
theorem dX3_pruned_32 : decode cX3_pruned 32 = .ok (.iload_n 3, 1) := by decide +kernel
theorem dX3_pruned_33 : decode cX3_pruned 33 = .ok (.ireturn, 1) := by decide +kernel
theorem dX3_oldestSite_0 : decode cX3_oldestSite 0 = .ok (.iconst 0, 1) := by decide +kernel
theorem dX3_oldestSite_1 : decode cX3_oldestSite 1 = .ok (.istore_n 2, 1) := by decide +kernel
theorem dX3_oldestSite_2 : decode cX3_oldestSite 2 = .ok (.iconst 0, 1) := by decide +kernel
theorem dX3_oldestSite_3 : decode cX3_oldestSite 3 = .ok (.istore_n 3, 1) := by decide +kernel
theorem dX3_oldestSite_4 : decode cX3_oldestSite 4 = .ok (.iconst 0, 1) := by decide +kernel
theorem dX3_oldestSite_5 : decode cX3_oldestSite 5 = .ok (.istore 4, 2) := by decide +kernel
theorem dX3_oldestSite_7 : decode cX3_oldestSite 7 = .ok (.iload 4, 2) := by decide +kernel
theorem dX3_oldestSite_9 : decode cX3_oldestSite 9 = .ok (.iconst 4, 1) := by decide +kernel
theorem dX3_oldestSite_10 : decode cX3_oldestSite 10 = .ok (.if_icmp .ge 60, 3) := by decide +kernel
theorem dX3_oldestSite_13 : decode cX3_oldestSite 13 = .ok (.iload_n 1, 1) := by decide +kernel
theorem dX3_oldestSite_14 : decode cX3_oldestSite 14 = .ok (.iload 4, 2) := by decide +kernel
theorem dX3_oldestSite_16 : decode cX3_oldestSite 16 = .ok (.invokestatic 62, 3) := by decide +kernel
theorem dX3_oldestSite_19 : decode cX3_oldestSite 19 = .ok (.istore 5, 2) := by decide +kernel
theorem dX3_oldestSite_21 : decode cX3_oldestSite 21 = .ok (.iload 5, 2) := by decide +kernel
theorem dX3_oldestSite_23 : decode cX3_oldestSite 23 = .ok (.ifCond .le 17, 3) := by decide +kernel
theorem dX3_oldestSite_26 : decode cX3_oldestSite 26 = .ok (.aload_n 0, 1) := by decide +kernel
theorem dX3_oldestSite_27 : decode cX3_oldestSite 27 = .ok (.iload 4, 2) := by decide +kernel
theorem dX3_oldestSite_29 : decode cX3_oldestSite 29 = .ok (.iload 5, 2) := by decide +kernel
theorem dX3_oldestSite_31 : decode cX3_oldestSite 31 = .ok (.invokestatic 88, 3) := by decide +kernel
theorem dX3_oldestSite_34 : decode cX3_oldestSite 34 = .ok (.invokevirtual 79, 3) := by decide +kernel
theorem dX3_oldestSite_37 : decode cX3_oldestSite 37 = .ok (.goto 4, 3) := by decide +kernel
theorem dX3_oldestSite_40 : decode cX3_oldestSite 40 = .ok (.iconst 0, 1) := by decide +kernel
theorem dX3_oldestSite_41 : decode cX3_oldestSite 41 = .ok (.istore 6, 2) := by decide +kernel
theorem dX3_oldestSite_43 : decode cX3_oldestSite 43 = .ok (.iload 6, 2) := by decide +kernel
theorem dX3_oldestSite_45 : decode cX3_oldestSite 45 = .ok (.ifCond .le 19, 3) := by decide +kernel
theorem dX3_oldestSite_48 : decode cX3_oldestSite 48 = .ok (.iload_n 3, 1) := by decide +kernel
theorem dX3_oldestSite_49 : decode cX3_oldestSite 49 = .ok (.ifCond .eq 9, 3) := by decide +kernel
theorem dX3_oldestSite_52 : decode cX3_oldestSite 52 = .ok (.iload 6, 2) := by decide +kernel
theorem dX3_oldestSite_54 : decode cX3_oldestSite 54 = .ok (.iload_n 3, 1) := by decide +kernel
theorem dX3_oldestSite_55 : decode cX3_oldestSite 55 = .ok (.if_icmp .ge 9, 3) := by decide +kernel
theorem dX3_oldestSite_58 : decode cX3_oldestSite 58 = .ok (.iload 4, 2) := by decide +kernel
theorem dX3_oldestSite_60 : decode cX3_oldestSite 60 = .ok (.istore_n 2, 1) := by decide +kernel
theorem dX3_oldestSite_61 : decode cX3_oldestSite 61 = .ok (.iload 6, 2) := by decide +kernel
theorem dX3_oldestSite_63 : decode cX3_oldestSite 63 = .ok (.istore_n 3, 1) := by decide +kernel
theorem dX3_oldestSite_64 : decode cX3_oldestSite 64 = .ok (.iinc 4 1, 3) := by decide +kernel
theorem dX3_oldestSite_67 : decode cX3_oldestSite 67 = .ok (.goto (-60), 3) := by decide +kernel
theorem dX3_oldestSite_70 : decode cX3_oldestSite 70 = .ok (.iload_n 2, 1) := by decide +kernel
theorem dX3_oldestSite_71 : decode cX3_oldestSite 71 = .ok (.ireturn, 1) := by decide +kernel
theorem dX4_init_0 : decode cX4_init 0 = .ok (.aload_n 0, 1) := by decide +kernel
theorem dX4_init_1 : decode cX4_init 1 = .ok (.invokespecial 3, 3) := by decide +kernel
theorem dX4_init_4 : decode cX4_init 4 = .ok (.aload_n 0, 1) := by decide +kernel
theorem dX4_init_5 : decode cX4_init 5 = .ok (.new 9, 3) := by decide +kernel
theorem dX4_init_8 : decode cX4_init 8 = .ok (.dup, 1) := by decide +kernel
theorem dX4_init_9 : decode cX4_init 9 = .ok (.invokespecial 11, 3) := by decide +kernel
theorem dX4_init_12 : decode cX4_init 12 = .ok (.putfield 12, 3) := by decide +kernel
theorem dX4_init_15 : decode cX4_init 15 = .ok (.aload_n 0, 1) := by decide +kernel
theorem dX4_init_16 : decode cX4_init 16 = .ok (.iconst 4, 1) := by decide +kernel
theorem dX4_init_17 : decode cX4_init 17 = .ok (.anewarray 18, 3) := by decide +kernel
theorem dX4_init_20 : decode cX4_init 20 = .ok (.putfield 20, 3) := by decide +kernel
theorem dX4_init_23 : decode cX4_init 23 = .ok (.iconst 0, 1) := by decide +kernel
theorem dX4_init_24 : decode cX4_init 24 = .ok (.istore_n 1, 1) := by decide +kernel
theorem dX4_init_25 : decode cX4_init 25 = .ok (.iload_n 1, 1) := by decide +kernel
theorem dX4_init_26 : decode cX4_init 26 = .ok (.aload_n 0, 1) := by decide +kernel
theorem dX4_init_27 : decode cX4_init 27 = .ok (.getfield 20, 3) := by decide +kernel
theorem dX4_init_30 : decode cX4_init 30 = .ok (.arraylength, 1) := by decide +kernel
theorem dX4_init_31 : decode cX4_init 31 = .ok (.if_icmp .ge 27, 3) := by decide +kernel
theorem dX4_init_34 : decode cX4_init 34 = .ok (.aload_n 0, 1) := by decide +kernel
theorem dX4_init_35 : decode cX4_init 35 = .ok (.getfield 20, 3) := by decide +kernel
theorem dX4_init_38 : decode cX4_init 38 = .ok (.iload_n 1, 1) := by decide +kernel
theorem dX4_init_39 : decode cX4_init 39 = .ok (.new 18, 3) := by decide +kernel
theorem dX4_init_42 : decode cX4_init 42 = .ok (.dup, 1) := by decide +kernel
theorem dX4_init_43 : decode cX4_init 43 = .ok (.iload_n 1, 1) := by decide +kernel
theorem dX4_init_44 : decode cX4_init 44 = .ok (.aload_n 0, 1) := by decide +kernel
theorem dX4_init_45 : decode cX4_init 45 = .ok (.getfield 12, 3) := by decide +kernel
theorem dX4_init_48 : decode cX4_init 48 = .ok (.invokespecial 24, 3) := by decide +kernel
theorem dX4_init_51 : decode cX4_init 51 = .ok (.aastore, 1) := by decide +kernel
theorem dX4_init_52 : decode cX4_init 52 = .ok (.iinc 1 1, 3) := by decide +kernel
theorem dX4_init_55 : decode cX4_init 55 = .ok (.goto (-30), 3) := by decide +kernel
theorem dX4_init_58 : decode cX4_init 58 = .ok (.return_, 1) := by decide +kernel
theorem dX4_beginAnew_0 : decode cX4_beginAnew 0 = .ok (.aload_n 0, 1) := by decide +kernel
theorem dX4_beginAnew_1 : decode cX4_beginAnew 1 = .ok (.getfield 12, 3) := by decide +kernel
theorem dX4_beginAnew_4 : decode cX4_beginAnew 4 = .ok (.iload_n 1, 1) := by decide +kernel
theorem dX4_beginAnew_5 : decode cX4_beginAnew 5 = .ok (.invokevirtual 27, 3) := by decide +kernel
theorem dX4_beginAnew_8 : decode cX4_beginAnew 8 = .ok (.iconst 0, 1) := by decide +kernel
theorem dX4_beginAnew_9 : decode cX4_beginAnew 9 = .ok (.istore_n 2, 1) := by decide +kernel
theorem dX4_beginAnew_10 : decode cX4_beginAnew 10 = .ok (.iload_n 2, 1) := by decide +kernel
theorem dX4_beginAnew_11 : decode cX4_beginAnew 11 = .ok (.aload_n 0, 1) := by decide +kernel
theorem dX4_beginAnew_12 : decode cX4_beginAnew 12 = .ok (.getfield 20, 3) := by decide +kernel
theorem dX4_beginAnew_15 : decode cX4_beginAnew 15 = .ok (.arraylength, 1) := by decide +kernel
theorem dX4_beginAnew_16 : decode cX4_beginAnew 16 = .ok (.if_icmp .ge 18, 3) := by decide +kernel
theorem dX4_beginAnew_19 : decode cX4_beginAnew 19 = .ok (.aload_n 0, 1) := by decide +kernel
theorem dX4_beginAnew_20 : decode cX4_beginAnew 20 = .ok (.getfield 20, 3) := by decide +kernel
theorem dX4_beginAnew_23 : decode cX4_beginAnew 23 = .ok (.iload_n 2, 1) := by decide +kernel
theorem dX4_beginAnew_24 : decode cX4_beginAnew 24 = .ok (.aaload, 1) := by decide +kernel
theorem dX4_beginAnew_25 : decode cX4_beginAnew 25 = .ok (.invokevirtual 31, 3) := by decide +kernel
theorem dX4_beginAnew_28 : decode cX4_beginAnew 28 = .ok (.iinc 2 1, 3) := by decide +kernel
theorem dX4_beginAnew_31 : decode cX4_beginAnew 31 = .ok (.goto (-21), 3) := by decide +kernel
theorem dX4_beginAnew_34 : decode cX4_beginAnew 34 = .ok (.return_, 1) := by decide +kernel
theorem dX4_replicaOf_0 : decode cX4_replicaOf 0 = .ok (.iload_n 1, 1) := by decide +kernel
theorem dX4_replicaOf_1 : decode cX4_replicaOf 1 = .ok (.ifCond .lt 21, 3) := by decide +kernel
theorem dX4_replicaOf_4 : decode cX4_replicaOf 4 = .ok (.iload_n 1, 1) := by decide +kernel
theorem dX4_replicaOf_5 : decode cX4_replicaOf 5 = .ok (.aload_n 0, 1) := by decide +kernel
theorem dX4_replicaOf_6 : decode cX4_replicaOf 6 = .ok (.getfield 20, 3) := by decide +kernel
theorem dX4_replicaOf_9 : decode cX4_replicaOf 9 = .ok (.arraylength, 1) := by decide +kernel
theorem dX4_replicaOf_10 : decode cX4_replicaOf 10 = .ok (.if_icmp .ge 12, 3) := by decide +kernel
theorem dX4_replicaOf_13 : decode cX4_replicaOf 13 = .ok (.aload_n 0, 1) := by decide +kernel
theorem dX4_replicaOf_14 : decode cX4_replicaOf 14 = .ok (.getfield 20, 3) := by decide +kernel
theorem dX4_replicaOf_17 : decode cX4_replicaOf 17 = .ok (.iload_n 1, 1) := by decide +kernel
theorem dX4_replicaOf_18 : decode cX4_replicaOf 18 = .ok (.aaload, 1) := by decide +kernel
theorem dX4_replicaOf_19 : decode cX4_replicaOf 19 = .ok (.goto 4, 3) := by decide +kernel
theorem dX4_replicaOf_22 : decode cX4_replicaOf 22 = .ok (.aconst_null, 1) := by decide +kernel
theorem dX4_replicaOf_23 : decode cX4_replicaOf 23 = .ok (.areturn, 1) := by decide +kernel
theorem dX4_greatestRow_0 : decode cX4_greatestRow 0 = .ok (.iconst 0, 1) := by decide +kernel
theorem dX4_greatestRow_1 : decode cX4_greatestRow 1 = .ok (.istore_n 1, 1) := by decide +kernel
theorem dX4_greatestRow_2 : decode cX4_greatestRow 2 = .ok (.iconst 0, 1) := by decide +kernel
theorem dX4_greatestRow_3 : decode cX4_greatestRow 3 = .ok (.istore_n 2, 1) := by decide +kernel
theorem dX4_greatestRow_4 : decode cX4_greatestRow 4 = .ok (.iload_n 2, 1) := by decide +kernel
theorem dX4_greatestRow_5 : decode cX4_greatestRow 5 = .ok (.aload_n 0, 1) := by decide +kernel
theorem dX4_greatestRow_6 : decode cX4_greatestRow 6 = .ok (.getfield 20, 3) := by decide +kernel
theorem dX4_greatestRow_9 : decode cX4_greatestRow 9 = .ok (.arraylength, 1) := by decide +kernel
theorem dX4_greatestRow_10 : decode cX4_greatestRow 10 = .ok (.if_icmp .ge 23, 3) := by decide +kernel
theorem dX4_greatestRow_13 : decode cX4_greatestRow 13 = .ok (.iload_n 1, 1) := by decide +kernel
theorem dX4_greatestRow_14 : decode cX4_greatestRow 14 = .ok (.aload_n 0, 1) := by decide +kernel
theorem dX4_greatestRow_15 : decode cX4_greatestRow 15 = .ok (.getfield 20, 3) := by decide +kernel
theorem dX4_greatestRow_18 : decode cX4_greatestRow 18 = .ok (.iload_n 2, 1) := by decide +kernel
theorem dX4_greatestRow_19 : decode cX4_greatestRow 19 = .ok (.aaload, 1) := by decide +kernel
theorem dX4_greatestRow_20 : decode cX4_greatestRow 20 = .ok (.getfield 33, 3) := by decide +kernel
theorem dX4_greatestRow_23 : decode cX4_greatestRow 23 = .ok (.invokestatic 37, 3) := by decide +kernel
theorem dX4_greatestRow_26 : decode cX4_greatestRow 26 = .ok (.istore_n 1, 1) := by decide +kernel
theorem dX4_greatestRow_27 : decode cX4_greatestRow 27 = .ok (.iinc 2 1, 3) := by decide +kernel
theorem dX4_greatestRow_30 : decode cX4_greatestRow 30 = .ok (.goto (-26), 3) := by decide +kernel
theorem dX4_greatestRow_33 : decode cX4_greatestRow 33 = .ok (.iload_n 1, 1) := by decide +kernel
theorem dX4_greatestRow_34 : decode cX4_greatestRow 34 = .ok (.ireturn, 1) := by decide +kernel
theorem dX4_holders_0 : decode cX4_holders 0 = .ok (.iconst 0, 1) := by decide +kernel
theorem dX4_holders_1 : decode cX4_holders 1 = .ok (.istore_n 2, 1) := by decide +kernel
theorem dX4_holders_2 : decode cX4_holders 2 = .ok (.iconst 0, 1) := by decide +kernel
theorem dX4_holders_3 : decode cX4_holders 3 = .ok (.istore_n 3, 1) := by decide +kernel
theorem dX4_holders_4 : decode cX4_holders 4 = .ok (.iload_n 3, 1) := by decide +kernel
theorem dX4_holders_5 : decode cX4_holders 5 = .ok (.aload_n 0, 1) := by decide +kernel
theorem dX4_holders_6 : decode cX4_holders 6 = .ok (.getfield 20, 3) := by decide +kernel
theorem dX4_holders_9 : decode cX4_holders 9 = .ok (.arraylength, 1) := by decide +kernel
theorem dX4_holders_10 : decode cX4_holders 10 = .ok (.if_icmp .ge 30, 3) := by decide +kernel
theorem dX4_holders_13 : decode cX4_holders 13 = .ok (.iload_n 2, 1) := by decide +kernel
theorem dX4_holders_14 : decode cX4_holders 14 = .ok (.aload_n 0, 1) := by decide +kernel
theorem dX4_holders_15 : decode cX4_holders 15 = .ok (.getfield 20, 3) := by decide +kernel
theorem dX4_holders_18 : decode cX4_holders 18 = .ok (.iload_n 3, 1) := by decide +kernel
theorem dX4_holders_19 : decode cX4_holders 19 = .ok (.aaload, 1) := by decide +kernel
theorem dX4_holders_20 : decode cX4_holders 20 = .ok (.getfield 43, 3) := by decide +kernel
theorem dX4_holders_23 : decode cX4_holders 23 = .ok (.iload_n 1, 1) := by decide +kernel
theorem dX4_holders_24 : decode cX4_holders 24 = .ok (.invokevirtual 47, 3) := by decide +kernel
theorem dX4_holders_27 : decode cX4_holders 27 = .ok (.invokestatic 53, 3) := by decide +kernel
theorem dX4_holders_30 : decode cX4_holders 30 = .ok (.iload_n 3, 1) := by decide +kernel
theorem dX4_holders_31 : decode cX4_holders 31 = .ok (.ishl, 1) := by decide +kernel
theorem dX4_holders_32 : decode cX4_holders 32 = .ok (.ior, 1) := by decide +kernel
theorem dX4_holders_33 : decode cX4_holders 33 = .ok (.istore_n 2, 1) := by decide +kernel
theorem dX4_holders_34 : decode cX4_holders 34 = .ok (.iinc 3 1, 3) := by decide +kernel
theorem dX4_holders_37 : decode cX4_holders 37 = .ok (.goto (-33), 3) := by decide +kernel
theorem dX4_holders_40 : decode cX4_holders 40 = .ok (.iload_n 2, 1) := by decide +kernel
theorem dX4_holders_41 : decode cX4_holders 41 = .ok (.ireturn, 1) := by decide +kernel
theorem dX4_isLost_0 : decode cX4_isLost 0 = .ok (.aload_n 0, 1) := by decide +kernel
theorem dX4_isLost_1 : decode cX4_isLost 1 = .ok (.getfield 12, 3) := by decide +kernel
theorem dX4_isLost_4 : decode cX4_isLost 4 = .ok (.iload_n 1, 1) := by decide +kernel
theorem dX4_isLost_5 : decode cX4_isLost 5 = .ok (.invokevirtual 57, 3) := by decide +kernel
theorem dX4_isLost_8 : decode cX4_isLost 8 = .ok (.ifCond .eq 29, 3) := by decide +kernel
theorem dX4_isLost_11 : decode cX4_isLost 11 = .ok (.aload_n 0, 1) := by decide +kernel
theorem dX4_isLost_12 : decode cX4_isLost 12 = .ok (.getfield 12, 3) := by decide +kernel
theorem dX4_isLost_15 : decode cX4_isLost 15 = .ok (.getfield 58, 3) := by decide +kernel
theorem dX4_isLost_18 : decode cX4_isLost 18 = .ok (.iload_n 1, 1) := by decide +kernel
theorem dX4_isLost_19 : decode cX4_isLost 19 = .ok (.invokevirtual 47, 3) := by decide +kernel
theorem dX4_isLost_22 : decode cX4_isLost 22 = .ok (.ifCond .ne 15, 3) := by decide +kernel
theorem dX4_isLost_25 : decode cX4_isLost 25 = .ok (.aload_n 0, 1) := by decide +kernel
theorem dX4_isLost_26 : decode cX4_isLost 26 = .ok (.iload_n 1, 1) := by decide +kernel
theorem dX4_isLost_27 : decode cX4_isLost 27 = .ok (.invokevirtual 61, 3) := by decide +kernel
theorem dX4_isLost_30 : decode cX4_isLost 30 = .ok (.ifCond .ne 7, 3) := by decide +kernel
theorem dX4_isLost_33 : decode cX4_isLost 33 = .ok (.iconst 1, 1) := by decide +kernel
theorem dX4_isLost_34 : decode cX4_isLost 34 = .ok (.goto 4, 3) := by decide +kernel
theorem dX4_isLost_37 : decode cX4_isLost 37 = .ok (.iconst 0, 1) := by decide +kernel
theorem dX4_isLost_38 : decode cX4_isLost 38 = .ok (.ireturn, 1) := by decide +kernel
theorem dX4_lostTotal_0 : decode cX4_lostTotal 0 = .ok (.iconst 0, 1) := by decide +kernel
theorem dX4_lostTotal_1 : decode cX4_lostTotal 1 = .ok (.istore_n 1, 1) := by decide +kernel
theorem dX4_lostTotal_2 : decode cX4_lostTotal 2 = .ok (.iconst 0, 1) := by decide +kernel
theorem dX4_lostTotal_3 : decode cX4_lostTotal 3 = .ok (.istore_n 2, 1) := by decide +kernel
theorem dX4_lostTotal_4 : decode cX4_lostTotal 4 = .ok (.iload_n 2, 1) := by decide +kernel
theorem dX4_lostTotal_5 : decode cX4_lostTotal 5 = .ok (.sipush 160, 3) := by decide +kernel
theorem dX4_lostTotal_8 : decode cX4_lostTotal 8 = .ok (.if_icmp .ge 20, 3) := by decide +kernel
theorem dX4_lostTotal_11 : decode cX4_lostTotal 11 = .ok (.iload_n 1, 1) := by decide +kernel
theorem dX4_lostTotal_12 : decode cX4_lostTotal 12 = .ok (.aload_n 0, 1) := by decide +kernel
theorem dX4_lostTotal_13 : decode cX4_lostTotal 13 = .ok (.iload_n 2, 1) := by decide +kernel
theorem dX4_lostTotal_14 : decode cX4_lostTotal 14 = .ok (.invokevirtual 65, 3) := by decide +kernel
theorem dX4_lostTotal_17 : decode cX4_lostTotal 17 = .ok (.invokestatic 53, 3) := by decide +kernel
theorem dX4_lostTotal_20 : decode cX4_lostTotal 20 = .ok (.iadd, 1) := by decide +kernel
theorem dX4_lostTotal_21 : decode cX4_lostTotal 21 = .ok (.istore_n 1, 1) := by decide +kernel
theorem dX4_lostTotal_22 : decode cX4_lostTotal 22 = .ok (.iinc 2 1, 3) := by decide +kernel
theorem dX4_lostTotal_25 : decode cX4_lostTotal 25 = .ok (.goto (-21), 3) := by decide +kernel
theorem dX4_lostTotal_28 : decode cX4_lostTotal 28 = .ok (.iload_n 1, 1) := by decide +kernel
theorem dX4_lostTotal_29 : decode cX4_lostTotal 29 = .ok (.ireturn, 1) := by decide +kernel
theorem dX4_isWithin_0 : decode cX4_isWithin 0 = .ok (.aload_n 0, 1) := by decide +kernel
theorem dX4_isWithin_1 : decode cX4_isWithin 1 = .ok (.iload_n 1, 1) := by decide +kernel
theorem dX4_isWithin_2 : decode cX4_isWithin 2 = .ok (.invokevirtual 68, 3) := by decide +kernel
theorem dX4_isWithin_5 : decode cX4_isWithin 5 = .ok (.astore_n 3, 1) := by decide +kernel
theorem dX4_isWithin_6 : decode cX4_isWithin 6 = .ok (.iconst 0, 1) := by decide +kernel
theorem dX4_isWithin_7 : decode cX4_isWithin 7 = .ok (.istore 4, 2) := by decide +kernel
theorem dX4_isWithin_9 : decode cX4_isWithin 9 = .ok (.aload_n 3, 1) := by decide +kernel
theorem dX4_isWithin_10 : decode cX4_isWithin 10 = .ok (.ifnull 122, 3) := by decide +kernel
theorem dX4_isWithin_13 : decode cX4_isWithin 13 = .ok (.iload 4, 2) := by decide +kernel
theorem dX4_isWithin_15 : decode cX4_isWithin 15 = .ok (.iconst 4, 1) := by decide +kernel
theorem dX4_isWithin_16 : decode cX4_isWithin 16 = .ok (.if_icmp .ge 116, 3) := by decide +kernel
theorem dX4_isWithin_19 : decode cX4_isWithin 19 = .ok (.lconst 0, 1) := by decide +kernel
theorem dX4_isWithin_20 : decode cX4_isWithin 20 = .ok (.lstore 5, 2) := by decide +kernel
theorem dX4_isWithin_22 : decode cX4_isWithin 22 = .ok (.lconst 0, 1) := by decide +kernel
theorem dX4_isWithin_23 : decode cX4_isWithin 23 = .ok (.lstore 7, 2) := by decide +kernel
theorem dX4_isWithin_25 : decode cX4_isWithin 25 = .ok (.iconst 0, 1) := by decide +kernel
theorem dX4_isWithin_26 : decode cX4_isWithin 26 = .ok (.istore 9, 2) := by decide +kernel
theorem dX4_isWithin_28 : decode cX4_isWithin 28 = .ok (.iload 9, 2) := by decide +kernel
theorem dX4_isWithin_30 : decode cX4_isWithin 30 = .ok (.aload_n 0, 1) := by decide +kernel
theorem dX4_isWithin_31 : decode cX4_isWithin 31 = .ok (.getfield 20, 3) := by decide +kernel
theorem dX4_isWithin_34 : decode cX4_isWithin 34 = .ok (.arraylength, 1) := by decide +kernel
theorem dX4_isWithin_35 : decode cX4_isWithin 35 = .ok (.if_icmp .ge 53, 3) := by decide +kernel
theorem dX4_isWithin_38 : decode cX4_isWithin 38 = .ok (.iload_n 2, 1) := by decide +kernel
theorem dX4_isWithin_39 : decode cX4_isWithin 39 = .ok (.iload 9, 2) := by decide +kernel
theorem dX4_isWithin_41 : decode cX4_isWithin 41 = .ok (.ishr, 1) := by decide +kernel
theorem dX4_isWithin_42 : decode cX4_isWithin 42 = .ok (.iconst 1, 1) := by decide +kernel
theorem dX4_isWithin_43 : decode cX4_isWithin 43 = .ok (.iand, 1) := by decide +kernel
theorem dX4_isWithin_44 : decode cX4_isWithin 44 = .ok (.iconst 1, 1) := by decide +kernel
theorem dX4_isWithin_45 : decode cX4_isWithin 45 = .ok (.if_icmp .ne 37, 3) := by decide +kernel
theorem dX4_isWithin_48 : decode cX4_isWithin 48 = .ok (.lload 5, 2) := by decide +kernel
theorem dX4_isWithin_50 : decode cX4_isWithin 50 = .ok (.aload_n 0, 1) := by decide +kernel
theorem dX4_isWithin_51 : decode cX4_isWithin 51 = .ok (.getfield 20, 3) := by decide +kernel
theorem dX4_isWithin_54 : decode cX4_isWithin 54 = .ok (.iload 9, 2) := by decide +kernel
theorem dX4_isWithin_56 : decode cX4_isWithin 56 = .ok (.aaload, 1) := by decide +kernel
theorem dX4_isWithin_57 : decode cX4_isWithin 57 = .ok (.iload 4, 2) := by decide +kernel
theorem dX4_isWithin_59 : decode cX4_isWithin 59 = .ok (.invokevirtual 72, 3) := by decide +kernel
theorem dX4_isWithin_62 : decode cX4_isWithin 62 = .ok (.lor, 1) := by decide +kernel
theorem dX4_isWithin_63 : decode cX4_isWithin 63 = .ok (.lstore 5, 2) := by decide +kernel
theorem dX4_isWithin_65 : decode cX4_isWithin 65 = .ok (.lload 7, 2) := by decide +kernel
theorem dX4_isWithin_67 : decode cX4_isWithin 67 = .ok (.aload_n 0, 1) := by decide +kernel
theorem dX4_isWithin_68 : decode cX4_isWithin 68 = .ok (.getfield 20, 3) := by decide +kernel
theorem dX4_isWithin_71 : decode cX4_isWithin 71 = .ok (.iload 9, 2) := by decide +kernel
theorem dX4_isWithin_73 : decode cX4_isWithin 73 = .ok (.aaload, 1) := by decide +kernel
theorem dX4_isWithin_74 : decode cX4_isWithin 74 = .ok (.iload 4, 2) := by decide +kernel
theorem dX4_isWithin_76 : decode cX4_isWithin 76 = .ok (.invokevirtual 76, 3) := by decide +kernel
theorem dX4_isWithin_79 : decode cX4_isWithin 79 = .ok (.lor, 1) := by decide +kernel
theorem dX4_isWithin_80 : decode cX4_isWithin 80 = .ok (.lstore 7, 2) := by decide +kernel
theorem dX4_isWithin_82 : decode cX4_isWithin 82 = .ok (.iinc 9 1, 3) := by decide +kernel
theorem dX4_isWithin_85 : decode cX4_isWithin 85 = .ok (.goto (-57), 3) := by decide +kernel
theorem dX4_isWithin_88 : decode cX4_isWithin 88 = .ok (.aload_n 3, 1) := by decide +kernel
theorem dX4_isWithin_89 : decode cX4_isWithin 89 = .ok (.iload 4, 2) := by decide +kernel
theorem dX4_isWithin_91 : decode cX4_isWithin 91 = .ok (.invokevirtual 72, 3) := by decide +kernel
theorem dX4_isWithin_94 : decode cX4_isWithin 94 = .ok (.lload 5, 2) := by decide +kernel
theorem dX4_isWithin_96 : decode cX4_isWithin 96 = .ok (.ldc2_w 79, 3) := by decide +kernel
theorem dX4_isWithin_99 : decode cX4_isWithin 99 = .ok (.lxor, 1) := by decide +kernel
theorem dX4_isWithin_100 : decode cX4_isWithin 100 = .ok (.land, 1) := by decide +kernel
theorem dX4_isWithin_101 : decode cX4_isWithin 101 = .ok (.lconst 0, 1) := by decide +kernel
theorem dX4_isWithin_102 : decode cX4_isWithin 102 = .ok (.lcmp, 1) := by decide +kernel
theorem dX4_isWithin_103 : decode cX4_isWithin 103 = .ok (.ifCond .ne 21, 3) := by decide +kernel
theorem dX4_isWithin_106 : decode cX4_isWithin 106 = .ok (.aload_n 3, 1) := by decide +kernel
theorem dX4_isWithin_107 : decode cX4_isWithin 107 = .ok (.iload 4, 2) := by decide +kernel
theorem dX4_isWithin_109 : decode cX4_isWithin 109 = .ok (.invokevirtual 76, 3) := by decide +kernel
theorem dX4_isWithin_112 : decode cX4_isWithin 112 = .ok (.lload 7, 2) := by decide +kernel
theorem dX4_isWithin_114 : decode cX4_isWithin 114 = .ok (.ldc2_w 79, 3) := by decide +kernel
theorem dX4_isWithin_117 : decode cX4_isWithin 117 = .ok (.lxor, 1) := by decide +kernel
theorem dX4_isWithin_118 : decode cX4_isWithin 118 = .ok (.land, 1) := by decide +kernel
theorem dX4_isWithin_119 : decode cX4_isWithin 119 = .ok (.lconst 0, 1) := by decide +kernel
theorem dX4_isWithin_120 : decode cX4_isWithin 120 = .ok (.lcmp, 1) := by decide +kernel
theorem dX4_isWithin_121 : decode cX4_isWithin 121 = .ok (.ifCond .eq 5, 3) := by decide +kernel
theorem dX4_isWithin_124 : decode cX4_isWithin 124 = .ok (.iconst 0, 1) := by decide +kernel
theorem dX4_isWithin_125 : decode cX4_isWithin 125 = .ok (.ireturn, 1) := by decide +kernel
theorem dX4_isWithin_126 : decode cX4_isWithin 126 = .ok (.iinc 4 1, 3) := by decide +kernel
theorem dX4_isWithin_129 : decode cX4_isWithin 129 = .ok (.goto (-120), 3) := by decide +kernel
theorem dX4_isWithin_132 : decode cX4_isWithin 132 = .ok (.iconst 1, 1) := by decide +kernel
theorem dX4_isWithin_133 : decode cX4_isWithin 133 = .ok (.ireturn, 1) := by decide +kernel
theorem dX5_init_0 : decode cX5_init 0 = .ok (.aload_n 0, 1) := by decide +kernel
theorem dX5_init_1 : decode cX5_init 1 = .ok (.invokespecial 3, 3) := by decide +kernel
theorem dX5_init_4 : decode cX5_init 4 = .ok (.aload_n 0, 1) := by decide +kernel
theorem dX5_init_5 : decode cX5_init 5 = .ok (.iconst 2, 1) := by decide +kernel
theorem dX5_init_6 : decode cX5_init 6 = .ok (.newarray .int, 2) := by decide +kernel
theorem dX5_init_8 : decode cX5_init 8 = .ok (.putfield 9, 3) := by decide +kernel
theorem dX5_init_11 : decode cX5_init 11 = .ok (.aload_n 0, 1) := by decide +kernel
theorem dX5_init_12 : decode cX5_init 12 = .ok (.iconst 2, 1) := by decide +kernel
theorem dX5_init_13 : decode cX5_init 13 = .ok (.newarray .int, 2) := by decide +kernel
theorem dX5_init_15 : decode cX5_init 15 = .ok (.putfield 15, 3) := by decide +kernel
theorem dX5_init_18 : decode cX5_init 18 = .ok (.return_, 1) := by decide +kernel
theorem dX5_forget_0 : decode cX5_forget 0 = .ok (.aload_n 0, 1) := by decide +kernel
theorem dX5_forget_1 : decode cX5_forget 1 = .ok (.iconst 0, 1) := by decide +kernel
theorem dX5_forget_2 : decode cX5_forget 2 = .ok (.putfield 18, 3) := by decide +kernel
theorem dX5_forget_5 : decode cX5_forget 5 = .ok (.return_, 1) := by decide +kernel
theorem dX5_give_0 : decode cX5_give 0 = .ok (.aload_n 0, 1) := by decide +kernel
theorem dX5_give_1 : decode cX5_give 1 = .ok (.iload_n 1, 1) := by decide +kernel
theorem dX5_give_2 : decode cX5_give 2 = .ok (.invokevirtual 22, 3) := by decide +kernel
theorem dX5_give_5 : decode cX5_give 5 = .ok (.istore_n 3, 1) := by decide +kernel
theorem dX5_give_6 : decode cX5_give 6 = .ok (.iload_n 3, 1) := by decide +kernel
theorem dX5_give_7 : decode cX5_give 7 = .ok (.ifCond .lt 13, 3) := by decide +kernel
theorem dX5_give_10 : decode cX5_give 10 = .ok (.aload_n 0, 1) := by decide +kernel
theorem dX5_give_11 : decode cX5_give 11 = .ok (.getfield 15, 3) := by decide +kernel
theorem dX5_give_14 : decode cX5_give 14 = .ok (.iload_n 3, 1) := by decide +kernel
theorem dX5_give_15 : decode cX5_give 15 = .ok (.iload_n 2, 1) := by decide +kernel
theorem dX5_give_16 : decode cX5_give 16 = .ok (.iastore, 1) := by decide +kernel
theorem dX5_give_17 : decode cX5_give 17 = .ok (.bipush (-9), 2) := by decide +kernel
theorem dX5_give_19 : decode cX5_give 19 = .ok (.ireturn, 1) := by decide +kernel
theorem dX5_give_20 : decode cX5_give 20 = .ok (.bipush (-9), 2) := by decide +kernel
theorem dX5_give_22 : decode cX5_give 22 = .ok (.istore 4, 2) := by decide +kernel
theorem dX5_give_24 : decode cX5_give 24 = .ok (.aload_n 0, 1) := by decide +kernel
theorem dX5_give_25 : decode cX5_give 25 = .ok (.getfield 18, 3) := by decide +kernel
theorem dX5_give_28 : decode cX5_give 28 = .ok (.aload_n 0, 1) := by decide +kernel
theorem dX5_give_29 : decode cX5_give 29 = .ok (.getfield 9, 3) := by decide +kernel
theorem dX5_give_32 : decode cX5_give 32 = .ok (.arraylength, 1) := by decide +kernel
theorem dX5_give_33 : decode cX5_give 33 = .ok (.if_icmp .lt 40, 3) := by decide +kernel
theorem dX5_give_36 : decode cX5_give 36 = .ok (.aload_n 0, 1) := by decide +kernel
theorem dX5_give_37 : decode cX5_give 37 = .ok (.getfield 9, 3) := by decide +kernel
theorem dX5_give_40 : decode cX5_give 40 = .ok (.iconst 0, 1) := by decide +kernel
theorem dX5_give_41 : decode cX5_give 41 = .ok (.iaload, 1) := by decide +kernel
theorem dX5_give_42 : decode cX5_give 42 = .ok (.istore 4, 2) := by decide +kernel
theorem dX5_give_44 : decode cX5_give 44 = .ok (.aload_n 0, 1) := by decide +kernel
theorem dX5_give_45 : decode cX5_give 45 = .ok (.getfield 9, 3) := by decide +kernel
theorem dX5_give_48 : decode cX5_give 48 = .ok (.iconst 0, 1) := by decide +kernel
theorem dX5_give_49 : decode cX5_give 49 = .ok (.aload_n 0, 1) := by decide +kernel
theorem dX5_give_50 : decode cX5_give 50 = .ok (.getfield 9, 3) := by decide +kernel
theorem dX5_give_53 : decode cX5_give 53 = .ok (.iconst 1, 1) := by decide +kernel
theorem dX5_give_54 : decode cX5_give 54 = .ok (.iaload, 1) := by decide +kernel
theorem dX5_give_55 : decode cX5_give 55 = .ok (.iastore, 1) := by decide +kernel
theorem dX5_give_56 : decode cX5_give 56 = .ok (.aload_n 0, 1) := by decide +kernel
theorem dX5_give_57 : decode cX5_give 57 = .ok (.getfield 15, 3) := by decide +kernel
theorem dX5_give_60 : decode cX5_give 60 = .ok (.iconst 0, 1) := by decide +kernel
theorem dX5_give_61 : decode cX5_give 61 = .ok (.aload_n 0, 1) := by decide +kernel
theorem dX5_give_62 : decode cX5_give 62 = .ok (.getfield 15, 3) := by decide +kernel
theorem dX5_give_65 : decode cX5_give 65 = .ok (.iconst 1, 1) := by decide +kernel
theorem dX5_give_66 : decode cX5_give 66 = .ok (.iaload, 1) := by decide +kernel
theorem dX5_give_67 : decode cX5_give 67 = .ok (.iastore, 1) := by decide +kernel
theorem dX5_give_68 : decode cX5_give 68 = .ok (.aload_n 0, 1) := by decide +kernel
theorem dX5_give_69 : decode cX5_give 69 = .ok (.iconst 1, 1) := by decide +kernel
theorem dX5_give_70 : decode cX5_give 70 = .ok (.putfield 18, 3) := by decide +kernel
theorem dX5_give_73 : decode cX5_give 73 = .ok (.aload_n 0, 1) := by decide +kernel
theorem dX5_give_74 : decode cX5_give 74 = .ok (.getfield 9, 3) := by decide +kernel
theorem dX5_give_77 : decode cX5_give 77 = .ok (.aload_n 0, 1) := by decide +kernel
theorem dX5_give_78 : decode cX5_give 78 = .ok (.getfield 18, 3) := by decide +kernel
theorem dX5_give_81 : decode cX5_give 81 = .ok (.iload_n 1, 1) := by decide +kernel
theorem dX5_give_82 : decode cX5_give 82 = .ok (.iastore, 1) := by decide +kernel
theorem dX5_give_83 : decode cX5_give 83 = .ok (.aload_n 0, 1) := by decide +kernel
theorem dX5_give_84 : decode cX5_give 84 = .ok (.getfield 15, 3) := by decide +kernel
theorem dX5_give_87 : decode cX5_give 87 = .ok (.aload_n 0, 1) := by decide +kernel
theorem dX5_give_88 : decode cX5_give 88 = .ok (.getfield 18, 3) := by decide +kernel
theorem dX5_give_91 : decode cX5_give 91 = .ok (.iload_n 2, 1) := by decide +kernel
theorem dX5_give_92 : decode cX5_give 92 = .ok (.iastore, 1) := by decide +kernel
theorem dX5_give_93 : decode cX5_give 93 = .ok (.aload_n 0, 1) := by decide +kernel
theorem dX5_give_94 : decode cX5_give 94 = .ok (.dup, 1) := by decide +kernel
theorem dX5_give_95 : decode cX5_give 95 = .ok (.getfield 18, 3) := by decide +kernel
theorem dX5_give_98 : decode cX5_give 98 = .ok (.iconst 1, 1) := by decide +kernel
theorem dX5_give_99 : decode cX5_give 99 = .ok (.iadd, 1) := by decide +kernel
theorem dX5_give_100 : decode cX5_give 100 = .ok (.putfield 18, 3) := by decide +kernel
theorem dX5_give_103 : decode cX5_give 103 = .ok (.iload 4, 2) := by decide +kernel
theorem dX5_give_105 : decode cX5_give 105 = .ok (.ireturn, 1) := by decide +kernel
theorem dX5_ruleOf_0 : decode cX5_ruleOf 0 = .ok (.aload_n 0, 1) := by decide +kernel
theorem dX5_ruleOf_1 : decode cX5_ruleOf 1 = .ok (.aload_n 0, 1) := by decide +kernel
theorem dX5_ruleOf_2 : decode cX5_ruleOf 2 = .ok (.iload_n 1, 1) := by decide +kernel
theorem dX5_ruleOf_3 : decode cX5_ruleOf 3 = .ok (.invokevirtual 22, 3) := by decide +kernel
theorem dX5_ruleOf_6 : decode cX5_ruleOf 6 = .ok (.invokevirtual 26, 3) := by decide +kernel
theorem dX5_ruleOf_9 : decode cX5_ruleOf 9 = .ok (.ireturn, 1) := by decide +kernel
theorem dX5_keyAtPlace_0 : decode cX5_keyAtPlace 0 = .ok (.aload_n 0, 1) := by decide +kernel
theorem dX5_keyAtPlace_1 : decode cX5_keyAtPlace 1 = .ok (.iload_n 1, 1) := by decide +kernel
theorem dX5_keyAtPlace_2 : decode cX5_keyAtPlace 2 = .ok (.invokevirtual 29, 3) := by decide +kernel
theorem dX5_keyAtPlace_5 : decode cX5_keyAtPlace 5 = .ok (.ifCond .eq 12, 3) := by decide +kernel
theorem dX5_keyAtPlace_8 : decode cX5_keyAtPlace 8 = .ok (.aload_n 0, 1) := by decide +kernel
theorem dX5_keyAtPlace_9 : decode cX5_keyAtPlace 9 = .ok (.getfield 9, 3) := by decide +kernel
theorem dX5_keyAtPlace_12 : decode cX5_keyAtPlace 12 = .ok (.iload_n 1, 1) := by decide +kernel
theorem dX5_keyAtPlace_13 : decode cX5_keyAtPlace 13 = .ok (.iaload, 1) := by decide +kernel
theorem dX5_keyAtPlace_14 : decode cX5_keyAtPlace 14 = .ok (.goto 5, 3) := by decide +kernel
theorem dX5_keyAtPlace_17 : decode cX5_keyAtPlace 17 = .ok (.bipush (-9), 2) := by decide +kernel
theorem dX5_keyAtPlace_19 : decode cX5_keyAtPlace 19 = .ok (.ireturn, 1) := by decide +kernel
theorem dX5_ruleAtPlace_0 : decode cX5_ruleAtPlace 0 = .ok (.aload_n 0, 1) := by decide +kernel
theorem dX5_ruleAtPlace_1 : decode cX5_ruleAtPlace 1 = .ok (.iload_n 1, 1) := by decide +kernel
theorem dX5_ruleAtPlace_2 : decode cX5_ruleAtPlace 2 = .ok (.invokevirtual 29, 3) := by decide +kernel
theorem dX5_ruleAtPlace_5 : decode cX5_ruleAtPlace 5 = .ok (.ifCond .eq 12, 3) := by decide +kernel
theorem dX5_ruleAtPlace_8 : decode cX5_ruleAtPlace 8 = .ok (.aload_n 0, 1) := by decide +kernel
theorem dX5_ruleAtPlace_9 : decode cX5_ruleAtPlace 9 = .ok (.getfield 15, 3) := by decide +kernel
theorem dX5_ruleAtPlace_12 : decode cX5_ruleAtPlace 12 = .ok (.iload_n 1, 1) := by decide +kernel
theorem dX5_ruleAtPlace_13 : decode cX5_ruleAtPlace 13 = .ok (.iaload, 1) := by decide +kernel
theorem dX5_ruleAtPlace_14 : decode cX5_ruleAtPlace 14 = .ok (.goto 5, 3) := by decide +kernel
theorem dX5_ruleAtPlace_17 : decode cX5_ruleAtPlace 17 = .ok (.bipush (-9), 2) := by decide +kernel
theorem dX5_ruleAtPlace_19 : decode cX5_ruleAtPlace 19 = .ok (.ireturn, 1) := by decide +kernel
theorem dX5_isPlace_0 : decode cX5_isPlace 0 = .ok (.iload_n 1, 1) := by decide +kernel
theorem dX5_isPlace_1 : decode cX5_isPlace 1 = .ok (.ifCond .lt 24, 3) := by decide +kernel
theorem dX5_isPlace_4 : decode cX5_isPlace 4 = .ok (.iload_n 1, 1) := by decide +kernel
theorem dX5_isPlace_5 : decode cX5_isPlace 5 = .ok (.aload_n 0, 1) := by decide +kernel
theorem dX5_isPlace_6 : decode cX5_isPlace 6 = .ok (.getfield 18, 3) := by decide +kernel
theorem dX5_isPlace_9 : decode cX5_isPlace 9 = .ok (.if_icmp .ge 16, 3) := by decide +kernel
theorem dX5_isPlace_12 : decode cX5_isPlace 12 = .ok (.iload_n 1, 1) := by decide +kernel
theorem dX5_isPlace_13 : decode cX5_isPlace 13 = .ok (.aload_n 0, 1) := by decide +kernel
theorem dX5_isPlace_14 : decode cX5_isPlace 14 = .ok (.getfield 9, 3) := by decide +kernel
theorem dX5_isPlace_17 : decode cX5_isPlace 17 = .ok (.arraylength, 1) := by decide +kernel
theorem dX5_isPlace_18 : decode cX5_isPlace 18 = .ok (.if_icmp .ge 7, 3) := by decide +kernel
theorem dX5_isPlace_21 : decode cX5_isPlace 21 = .ok (.iconst 1, 1) := by decide +kernel
theorem dX5_isPlace_22 : decode cX5_isPlace 22 = .ok (.goto 4, 3) := by decide +kernel
theorem dX5_isPlace_25 : decode cX5_isPlace 25 = .ok (.iconst 0, 1) := by decide +kernel
theorem dX5_isPlace_26 : decode cX5_isPlace 26 = .ok (.ireturn, 1) := by decide +kernel
theorem dX5_placeOf_0 : decode cX5_placeOf 0 = .ok (.iconst 0, 1) := by decide +kernel
theorem dX5_placeOf_1 : decode cX5_placeOf 1 = .ok (.istore_n 2, 1) := by decide +kernel
theorem dX5_placeOf_2 : decode cX5_placeOf 2 = .ok (.iload_n 2, 1) := by decide +kernel
theorem dX5_placeOf_3 : decode cX5_placeOf 3 = .ok (.aload_n 0, 1) := by decide +kernel
theorem dX5_placeOf_4 : decode cX5_placeOf 4 = .ok (.getfield 18, 3) := by decide +kernel
theorem dX5_placeOf_7 : decode cX5_placeOf 7 = .ok (.if_icmp .ge 30, 3) := by decide +kernel
theorem dX5_placeOf_10 : decode cX5_placeOf 10 = .ok (.iload_n 2, 1) := by decide +kernel
theorem dX5_placeOf_11 : decode cX5_placeOf 11 = .ok (.aload_n 0, 1) := by decide +kernel
theorem dX5_placeOf_12 : decode cX5_placeOf 12 = .ok (.getfield 9, 3) := by decide +kernel
theorem dX5_placeOf_15 : decode cX5_placeOf 15 = .ok (.arraylength, 1) := by decide +kernel
theorem dX5_placeOf_16 : decode cX5_placeOf 16 = .ok (.if_icmp .ge 21, 3) := by decide +kernel
theorem dX5_placeOf_19 : decode cX5_placeOf 19 = .ok (.aload_n 0, 1) := by decide +kernel
theorem dX5_placeOf_20 : decode cX5_placeOf 20 = .ok (.getfield 9, 3) := by decide +kernel
theorem dX5_placeOf_23 : decode cX5_placeOf 23 = .ok (.iload_n 2, 1) := by decide +kernel
theorem dX5_placeOf_24 : decode cX5_placeOf 24 = .ok (.iaload, 1) := by decide +kernel
theorem dX5_placeOf_25 : decode cX5_placeOf 25 = .ok (.iload_n 1, 1) := by decide +kernel
theorem dX5_placeOf_26 : decode cX5_placeOf 26 = .ok (.if_icmp .ne 5, 3) := by decide +kernel
theorem dX5_placeOf_29 : decode cX5_placeOf 29 = .ok (.iload_n 2, 1) := by decide +kernel
theorem dX5_placeOf_30 : decode cX5_placeOf 30 = .ok (.ireturn, 1) := by decide +kernel
theorem dX5_placeOf_31 : decode cX5_placeOf 31 = .ok (.iinc 2 1, 3) := by decide +kernel
theorem dX5_placeOf_34 : decode cX5_placeOf 34 = .ok (.goto (-32), 3) := by decide +kernel
theorem dX5_placeOf_37 : decode cX5_placeOf 37 = .ok (.iconst (-1), 1) := by decide +kernel
theorem dX5_placeOf_38 : decode cX5_placeOf 38 = .ok (.ireturn, 1) := by decide +kernel
