theorem dX5_init_0 : decode cX5_init 0 = .ok (.aload_n 0, 1) := by decide +kernel
theorem dX5_init_1 : decode cX5_init 1 = .ok (.invokespecial 1, 3) := by decide +kernel
theorem dX5_init_4 : decode cX5_init 4 = .ok (.aload_n 0, 1) := by decide +kernel
theorem dX5_init_5 : decode cX5_init 5 = .ok (.new 7, 3) := by decide +kernel
theorem dX5_init_8 : decode cX5_init 8 = .ok (.dup, 1) := by decide +kernel
theorem dX5_init_9 : decode cX5_init 9 = .ok (.invokespecial 9, 3) := by decide +kernel
theorem dX5_init_12 : decode cX5_init 12 = .ok (.putfield 10, 3) := by decide +kernel
theorem dX5_init_15 : decode cX5_init 15 = .ok (.aload_n 0, 1) := by decide +kernel
theorem dX5_init_16 : decode cX5_init 16 = .ok (.new 7, 3) := by decide +kernel
theorem dX5_init_19 : decode cX5_init 19 = .ok (.dup, 1) := by decide +kernel
theorem dX5_init_20 : decode cX5_init 20 = .ok (.invokespecial 9, 3) := by decide +kernel
theorem dX5_init_23 : decode cX5_init 23 = .ok (.putfield 16, 3) := by decide +kernel
theorem dX5_init_26 : decode cX5_init 26 = .ok (.aload_n 0, 1) := by decide +kernel
theorem dX5_init_27 : decode cX5_init 27 = .ok (.new 7, 3) := by decide +kernel
theorem dX5_init_30 : decode cX5_init 30 = .ok (.dup, 1) := by decide +kernel
theorem dX5_init_31 : decode cX5_init 31 = .ok (.invokespecial 9, 3) := by decide +kernel
theorem dX5_init_34 : decode cX5_init 34 = .ok (.putfield 19, 3) := by decide +kernel
theorem dX5_init_37 : decode cX5_init 37 = .ok (.aload_n 0, 1) := by decide +kernel
theorem dX5_init_38 : decode cX5_init 38 = .ok (.new 22, 3) := by decide +kernel
theorem dX5_init_41 : decode cX5_init 41 = .ok (.dup, 1) := by decide +kernel
theorem dX5_init_42 : decode cX5_init 42 = .ok (.invokespecial 24, 3) := by decide +kernel
theorem dX5_init_45 : decode cX5_init 45 = .ok (.putfield 25, 3) := by decide +kernel
theorem dX5_init_48 : decode cX5_init 48 = .ok (.aload_n 0, 1) := by decide +kernel
theorem dX5_init_49 : decode cX5_init 49 = .ok (.new 29, 3) := by decide +kernel
theorem dX5_init_52 : decode cX5_init 52 = .ok (.dup, 1) := by decide +kernel
theorem dX5_init_53 : decode cX5_init 53 = .ok (.invokespecial 31, 3) := by decide +kernel
theorem dX5_init_56 : decode cX5_init 56 = .ok (.putfield 32, 3) := by decide +kernel
theorem dX5_init_59 : decode cX5_init 59 = .ok (.aload_n 0, 1) := by decide +kernel
theorem dX5_init_60 : decode cX5_init 60 = .ok (.new 36, 3) := by decide +kernel
theorem dX5_init_63 : decode cX5_init 63 = .ok (.dup, 1) := by decide +kernel
theorem dX5_init_64 : decode cX5_init 64 = .ok (.invokespecial 38, 3) := by decide +kernel
theorem dX5_init_67 : decode cX5_init 67 = .ok (.putfield 39, 3) := by decide +kernel
theorem dX5_init_70 : decode cX5_init 70 = .ok (.aload_n 0, 1) := by decide +kernel
theorem dX5_init_71 : decode cX5_init 71 = .ok (.new 43, 3) := by decide +kernel
theorem dX5_init_74 : decode cX5_init 74 = .ok (.dup, 1) := by decide +kernel
theorem dX5_init_75 : decode cX5_init 75 = .ok (.invokespecial 45, 3) := by decide +kernel
theorem dX5_init_78 : decode cX5_init 78 = .ok (.putfield 46, 3) := by decide +kernel
theorem dX5_init_81 : decode cX5_init 81 = .ok (.aload_n 0, 1) := by decide +kernel
theorem dX5_init_82 : decode cX5_init 82 = .ok (.getfield 10, 3) := by decide +kernel
theorem dX5_init_85 : decode cX5_init 85 = .ok (.iconst 0, 1) := by decide +kernel
theorem dX5_init_86 : decode cX5_init 86 = .ok (.invokevirtual 50, 3) := by decide +kernel
theorem dX5_init_89 : decode cX5_init 89 = .ok (.aload_n 0, 1) := by decide +kernel
theorem dX5_init_90 : decode cX5_init 90 = .ok (.getfield 10, 3) := by decide +kernel
theorem dX5_init_93 : decode cX5_init 93 = .ok (.iconst 1, 1) := by decide +kernel
theorem dX5_init_94 : decode cX5_init 94 = .ok (.invokevirtual 50, 3) := by decide +kernel
theorem dX5_init_97 : decode cX5_init 97 = .ok (.aload_n 0, 1) := by decide +kernel
theorem dX5_init_98 : decode cX5_init 98 = .ok (.getfield 10, 3) := by decide +kernel
theorem dX5_init_101 : decode cX5_init 101 = .ok (.iconst 2, 1) := by decide +kernel
theorem dX5_init_102 : decode cX5_init 102 = .ok (.invokevirtual 50, 3) := by decide +kernel
theorem dX5_init_105 : decode cX5_init 105 = .ok (.return_, 1) := by decide +kernel
theorem dX5_goTo_0 : decode cX5_goTo 0 = .ok (.aload_n 0, 1) := by decide +kernel
theorem dX5_goTo_1 : decode cX5_goTo 1 = .ok (.iload_n 1, 1) := by decide +kernel
theorem dX5_goTo_2 : decode cX5_goTo 2 = .ok (.invokevirtual 54, 3) := by decide +kernel
theorem dX5_goTo_5 : decode cX5_goTo 5 = .ok (.aload_n 0, 1) := by decide +kernel
theorem dX5_goTo_6 : decode cX5_goTo 6 = .ok (.aload_n 0, 1) := by decide +kernel
theorem dX5_goTo_7 : decode cX5_goTo 7 = .ok (.getfield 10, 3) := by decide +kernel
theorem dX5_goTo_10 : decode cX5_goTo 10 = .ok (.invokevirtual 57, 3) := by decide +kernel
theorem dX5_goTo_13 : decode cX5_goTo 13 = .ok (.istore_n 2, 1) := by decide +kernel
theorem dX5_goTo_14 : decode cX5_goTo 14 = .ok (.aload_n 0, 1) := by decide +kernel
theorem dX5_goTo_15 : decode cX5_goTo 15 = .ok (.iload_n 1, 1) := by decide +kernel
theorem dX5_goTo_16 : decode cX5_goTo 16 = .ok (.invokevirtual 61, 3) := by decide +kernel
theorem dX5_goTo_19 : decode cX5_goTo 19 = .ok (.pop, 1) := by decide +kernel
theorem dX5_goTo_20 : decode cX5_goTo 20 = .ok (.iload_n 2, 1) := by decide +kernel
theorem dX5_goTo_21 : decode cX5_goTo 21 = .ok (.ireturn, 1) := by decide +kernel
theorem dX5_jump_0 : decode cX5_jump 0 = .ok (.aload_n 0, 1) := by decide +kernel
theorem dX5_jump_1 : decode cX5_jump 1 = .ok (.aload_n 0, 1) := by decide +kernel
theorem dX5_jump_2 : decode cX5_jump 2 = .ok (.getfield 10, 3) := by decide +kernel
theorem dX5_jump_5 : decode cX5_jump 5 = .ok (.invokevirtual 57, 3) := by decide +kernel
theorem dX5_jump_8 : decode cX5_jump 8 = .ok (.i2l, 1) := by decide +kernel
theorem dX5_jump_9 : decode cX5_jump 9 = .ok (.iload_n 1, 1) := by decide +kernel
theorem dX5_jump_10 : decode cX5_jump 10 = .ok (.i2l, 1) := by decide +kernel
theorem dX5_jump_11 : decode cX5_jump 11 = .ok (.ladd, 1) := by decide +kernel
theorem dX5_jump_12 : decode cX5_jump 12 = .ok (.lstore_n 2, 1) := by decide +kernel
theorem dX5_jump_13 : decode cX5_jump 13 = .ok (.lload_n 2, 1) := by decide +kernel
theorem dX5_jump_14 : decode cX5_jump 14 = .ok (.lconst 0, 1) := by decide +kernel
theorem dX5_jump_15 : decode cX5_jump 15 = .ok (.lcmp, 1) := by decide +kernel
theorem dX5_jump_16 : decode cX5_jump 16 = .ok (.ifCond .lt 13, 3) := by decide +kernel
theorem dX5_jump_19 : decode cX5_jump 19 = .ok (.lload_n 2, 1) := by decide +kernel
theorem dX5_jump_20 : decode cX5_jump 20 = .ok (.aload_n 0, 1) := by decide +kernel
theorem dX5_jump_21 : decode cX5_jump 21 = .ok (.invokevirtual 65, 3) := by decide +kernel
theorem dX5_jump_24 : decode cX5_jump 24 = .ok (.i2l, 1) := by decide +kernel
theorem dX5_jump_25 : decode cX5_jump 25 = .ok (.lcmp, 1) := by decide +kernel
theorem dX5_jump_26 : decode cX5_jump 26 = .ok (.ifCond .lt 13, 3) := by decide +kernel
theorem dX5_jump_29 : decode cX5_jump 29 = .ok (.new 69, 3) := by decide +kernel
theorem dX5_jump_32 : decode cX5_jump 32 = .ok (.dup, 1) := by decide +kernel
theorem dX5_jump_33 : decode cX5_jump 33 = .ok (.ldc 71, 2) := by decide +kernel
theorem dX5_jump_35 : decode cX5_jump 35 = .ok (.invokespecial 73, 3) := by decide +kernel
theorem dX5_jump_38 : decode cX5_jump 38 = .ok (.athrow, 1) := by decide +kernel
theorem dX5_jump_39 : decode cX5_jump 39 = .ok (.aload_n 0, 1) := by decide +kernel
theorem dX5_jump_40 : decode cX5_jump 40 = .ok (.lload_n 2, 1) := by decide +kernel
theorem dX5_jump_41 : decode cX5_jump 41 = .ok (.l2i, 1) := by decide +kernel
theorem dX5_jump_42 : decode cX5_jump 42 = .ok (.invokevirtual 61, 3) := by decide +kernel
theorem dX5_jump_45 : decode cX5_jump 45 = .ok (.pop, 1) := by decide +kernel
theorem dX5_jump_46 : decode cX5_jump 46 = .ok (.lload_n 2, 1) := by decide +kernel
theorem dX5_jump_47 : decode cX5_jump 47 = .ok (.l2i, 1) := by decide +kernel
theorem dX5_jump_48 : decode cX5_jump 48 = .ok (.ireturn, 1) := by decide +kernel
theorem dX5_next_0 : decode cX5_next 0 = .ok (.aload_n 0, 1) := by decide +kernel
theorem dX5_next_1 : decode cX5_next 1 = .ok (.aload_n 0, 1) := by decide +kernel
theorem dX5_next_2 : decode cX5_next 2 = .ok (.getfield 10, 3) := by decide +kernel
theorem dX5_next_5 : decode cX5_next 5 = .ok (.invokevirtual 57, 3) := by decide +kernel
theorem dX5_next_8 : decode cX5_next 8 = .ok (.iconst 1, 1) := by decide +kernel
theorem dX5_next_9 : decode cX5_next 9 = .ok (.iadd, 1) := by decide +kernel
theorem dX5_next_10 : decode cX5_next 10 = .ok (.istore_n 1, 1) := by decide +kernel
theorem dX5_next_11 : decode cX5_next 11 = .ok (.aload_n 0, 1) := by decide +kernel
theorem dX5_next_12 : decode cX5_next 12 = .ok (.iload_n 1, 1) := by decide +kernel
theorem dX5_next_13 : decode cX5_next 13 = .ok (.aload_n 0, 1) := by decide +kernel
theorem dX5_next_14 : decode cX5_next 14 = .ok (.invokevirtual 65, 3) := by decide +kernel
theorem dX5_next_17 : decode cX5_next 17 = .ok (.if_icmp .ge 7, 3) := by decide +kernel
theorem dX5_next_20 : decode cX5_next 20 = .ok (.iload_n 1, 1) := by decide +kernel
theorem dX5_next_21 : decode cX5_next 21 = .ok (.goto 4, 3) := by decide +kernel
theorem dX5_next_24 : decode cX5_next 24 = .ok (.iconst 0, 1) := by decide +kernel
theorem dX5_next_25 : decode cX5_next 25 = .ok (.invokevirtual 61, 3) := by decide +kernel
theorem dX5_next_28 : decode cX5_next 28 = .ok (.ireturn, 1) := by decide +kernel
theorem dX5_previous_0 : decode cX5_previous 0 = .ok (.aload_n 0, 1) := by decide +kernel
theorem dX5_previous_1 : decode cX5_previous 1 = .ok (.aload_n 0, 1) := by decide +kernel
theorem dX5_previous_2 : decode cX5_previous 2 = .ok (.getfield 10, 3) := by decide +kernel
theorem dX5_previous_5 : decode cX5_previous 5 = .ok (.invokevirtual 57, 3) := by decide +kernel
theorem dX5_previous_8 : decode cX5_previous 8 = .ok (.istore_n 1, 1) := by decide +kernel
theorem dX5_previous_9 : decode cX5_previous 9 = .ok (.aload_n 0, 1) := by decide +kernel
theorem dX5_previous_10 : decode cX5_previous 10 = .ok (.iload_n 1, 1) := by decide +kernel
theorem dX5_previous_11 : decode cX5_previous 11 = .ok (.ifCond .le 7, 3) := by decide +kernel
theorem dX5_previous_14 : decode cX5_previous 14 = .ok (.iload_n 1, 1) := by decide +kernel
theorem dX5_previous_15 : decode cX5_previous 15 = .ok (.goto 7, 3) := by decide +kernel
theorem dX5_previous_18 : decode cX5_previous 18 = .ok (.aload_n 0, 1) := by decide +kernel
theorem dX5_previous_19 : decode cX5_previous 19 = .ok (.invokevirtual 65, 3) := by decide +kernel
theorem dX5_previous_22 : decode cX5_previous 22 = .ok (.iconst 1, 1) := by decide +kernel
theorem dX5_previous_23 : decode cX5_previous 23 = .ok (.isub, 1) := by decide +kernel
theorem dX5_previous_24 : decode cX5_previous 24 = .ok (.invokevirtual 61, 3) := by decide +kernel
theorem dX5_previous_27 : decode cX5_previous 27 = .ok (.ireturn, 1) := by decide +kernel
theorem dX5_nextSmooth_0 : decode cX5_nextSmooth 0 = .ok (.aload_n 0, 1) := by decide +kernel
theorem dX5_nextSmooth_1 : decode cX5_nextSmooth 1 = .ok (.invokevirtual 76, 3) := by decide +kernel
theorem dX5_nextSmooth_4 : decode cX5_nextSmooth 4 = .ok (.aload_n 0, 1) := by decide +kernel
theorem dX5_nextSmooth_5 : decode cX5_nextSmooth 5 = .ok (.getfield 10, 3) := by decide +kernel
theorem dX5_nextSmooth_8 : decode cX5_nextSmooth 8 = .ok (.aload_n 0, 1) := by decide +kernel
theorem dX5_nextSmooth_9 : decode cX5_nextSmooth 9 = .ok (.getfield 10, 3) := by decide +kernel
theorem dX5_nextSmooth_12 : decode cX5_nextSmooth 12 = .ok (.invokevirtual 79, 3) := by decide +kernel
theorem dX5_nextSmooth_15 : decode cX5_nextSmooth 15 = .ok (.invokevirtual 82, 3) := by decide +kernel
theorem dX5_nextSmooth_18 : decode cX5_nextSmooth 18 = .ok (.ifCond .eq 7, 3) := by decide +kernel
theorem dX5_nextSmooth_21 : decode cX5_nextSmooth 21 = .ok (.iconst 1, 1) := by decide +kernel
theorem dX5_nextSmooth_22 : decode cX5_nextSmooth 22 = .ok (.goto 4, 3) := by decide +kernel
theorem dX5_nextSmooth_25 : decode cX5_nextSmooth 25 = .ok (.iconst 0, 1) := by decide +kernel
theorem dX5_nextSmooth_26 : decode cX5_nextSmooth 26 = .ok (.iadd, 1) := by decide +kernel
theorem dX5_nextSmooth_27 : decode cX5_nextSmooth 27 = .ok (.istore_n 1, 1) := by decide +kernel
theorem dX5_nextSmooth_28 : decode cX5_nextSmooth 28 = .ok (.iload_n 1, 1) := by decide +kernel
theorem dX5_nextSmooth_29 : decode cX5_nextSmooth 29 = .ok (.aload_n 0, 1) := by decide +kernel
theorem dX5_nextSmooth_30 : decode cX5_nextSmooth 30 = .ok (.invokevirtual 86, 3) := by decide +kernel
theorem dX5_nextSmooth_33 : decode cX5_nextSmooth 33 = .ok (.if_icmp .lt 13, 3) := by decide +kernel
theorem dX5_nextSmooth_36 : decode cX5_nextSmooth 36 = .ok (.new 69, 3) := by decide +kernel
theorem dX5_nextSmooth_39 : decode cX5_nextSmooth 39 = .ok (.dup, 1) := by decide +kernel
theorem dX5_nextSmooth_40 : decode cX5_nextSmooth 40 = .ok (.ldc 89, 2) := by decide +kernel
theorem dX5_nextSmooth_42 : decode cX5_nextSmooth 42 = .ok (.invokespecial 73, 3) := by decide +kernel
theorem dX5_nextSmooth_45 : decode cX5_nextSmooth 45 = .ok (.athrow, 1) := by decide +kernel
theorem dX5_nextSmooth_46 : decode cX5_nextSmooth 46 = .ok (.aload_n 0, 1) := by decide +kernel
theorem dX5_nextSmooth_47 : decode cX5_nextSmooth 47 = .ok (.iload_n 1, 1) := by decide +kernel
theorem dX5_nextSmooth_48 : decode cX5_nextSmooth 48 = .ok (.invokevirtual 91, 3) := by decide +kernel
theorem dX5_nextSmooth_51 : decode cX5_nextSmooth 51 = .ok (.aload_n 0, 1) := by decide +kernel
theorem dX5_nextSmooth_52 : decode cX5_nextSmooth 52 = .ok (.invokevirtual 94, 3) := by decide +kernel
theorem dX5_nextSmooth_55 : decode cX5_nextSmooth 55 = .ok (.ireturn, 1) := by decide +kernel
theorem dX5_goToSmooth_0 : decode cX5_goToSmooth 0 = .ok (.iload_n 1, 1) := by decide +kernel
theorem dX5_goToSmooth_1 : decode cX5_goToSmooth 1 = .ok (.ifCond .lt 11, 3) := by decide +kernel
theorem dX5_goToSmooth_4 : decode cX5_goToSmooth 4 = .ok (.iload_n 1, 1) := by decide +kernel
theorem dX5_goToSmooth_5 : decode cX5_goToSmooth 5 = .ok (.aload_n 0, 1) := by decide +kernel
theorem dX5_goToSmooth_6 : decode cX5_goToSmooth 6 = .ok (.invokevirtual 86, 3) := by decide +kernel
theorem dX5_goToSmooth_9 : decode cX5_goToSmooth 9 = .ok (.if_icmp .lt 13, 3) := by decide +kernel
theorem dX5_goToSmooth_12 : decode cX5_goToSmooth 12 = .ok (.new 97, 3) := by decide +kernel
theorem dX5_goToSmooth_15 : decode cX5_goToSmooth 15 = .ok (.dup, 1) := by decide +kernel
theorem dX5_goToSmooth_16 : decode cX5_goToSmooth 16 = .ok (.ldc 99, 2) := by decide +kernel
theorem dX5_goToSmooth_18 : decode cX5_goToSmooth 18 = .ok (.invokespecial 101, 3) := by decide +kernel
theorem dX5_goToSmooth_21 : decode cX5_goToSmooth 21 = .ok (.athrow, 1) := by decide +kernel
theorem dX5_goToSmooth_22 : decode cX5_goToSmooth 22 = .ok (.aload_n 0, 1) := by decide +kernel
theorem dX5_goToSmooth_23 : decode cX5_goToSmooth 23 = .ok (.iload_n 1, 1) := by decide +kernel
theorem dX5_goToSmooth_24 : decode cX5_goToSmooth 24 = .ok (.invokevirtual 91, 3) := by decide +kernel
theorem dX5_goToSmooth_27 : decode cX5_goToSmooth 27 = .ok (.aload_n 0, 1) := by decide +kernel
theorem dX5_goToSmooth_28 : decode cX5_goToSmooth 28 = .ok (.invokevirtual 94, 3) := by decide +kernel
theorem dX5_goToSmooth_31 : decode cX5_goToSmooth 31 = .ok (.ireturn, 1) := by decide +kernel
theorem dX5_swap_0 : decode cX5_swap 0 = .ok (.aload_n 0, 1) := by decide +kernel
theorem dX5_swap_1 : decode cX5_swap 1 = .ok (.iload_n 1, 1) := by decide +kernel
theorem dX5_swap_2 : decode cX5_swap 2 = .ok (.invokevirtual 102, 3) := by decide +kernel
theorem dX5_swap_5 : decode cX5_swap 5 = .ok (.aload_n 0, 1) := by decide +kernel
theorem dX5_swap_6 : decode cX5_swap 6 = .ok (.iload_n 2, 1) := by decide +kernel
theorem dX5_swap_7 : decode cX5_swap 7 = .ok (.invokevirtual 102, 3) := by decide +kernel
theorem dX5_swap_10 : decode cX5_swap 10 = .ok (.aload_n 0, 1) := by decide +kernel
theorem dX5_swap_11 : decode cX5_swap 11 = .ok (.invokevirtual 105, 3) := by decide +kernel
theorem dX5_swap_14 : decode cX5_swap 14 = .ok (.aload_n 0, 1) := by decide +kernel
theorem dX5_swap_15 : decode cX5_swap 15 = .ok (.getfield 10, 3) := by decide +kernel
theorem dX5_swap_18 : decode cX5_swap 18 = .ok (.iload_n 1, 1) := by decide +kernel
theorem dX5_swap_19 : decode cX5_swap 19 = .ok (.iload_n 2, 1) := by decide +kernel
theorem dX5_swap_20 : decode cX5_swap 20 = .ok (.invokevirtual 108, 3) := by decide +kernel
theorem dX5_swap_23 : decode cX5_swap 23 = .ok (.aload_n 0, 1) := by decide +kernel
theorem dX5_swap_24 : decode cX5_swap 24 = .ok (.aload_n 0, 1) := by decide +kernel
theorem dX5_swap_25 : decode cX5_swap 25 = .ok (.getfield 10, 3) := by decide +kernel
theorem dX5_swap_28 : decode cX5_swap 28 = .ok (.invokevirtual 57, 3) := by decide +kernel
theorem dX5_swap_31 : decode cX5_swap 31 = .ok (.ireturn, 1) := by decide +kernel
theorem dX5_turn_0 : decode cX5_turn 0 = .ok (.aload_n 0, 1) := by decide +kernel
theorem dX5_turn_1 : decode cX5_turn 1 = .ok (.iload_n 1, 1) := by decide +kernel
theorem dX5_turn_2 : decode cX5_turn 2 = .ok (.invokevirtual 102, 3) := by decide +kernel
theorem dX5_turn_5 : decode cX5_turn 5 = .ok (.aload_n 0, 1) := by decide +kernel
theorem dX5_turn_6 : decode cX5_turn 6 = .ok (.iload_n 2, 1) := by decide +kernel
theorem dX5_turn_7 : decode cX5_turn 7 = .ok (.invokevirtual 102, 3) := by decide +kernel
theorem dX5_turn_10 : decode cX5_turn 10 = .ok (.iload_n 1, 1) := by decide +kernel
theorem dX5_turn_11 : decode cX5_turn 11 = .ok (.iload_n 2, 1) := by decide +kernel
theorem dX5_turn_12 : decode cX5_turn 12 = .ok (.if_icmp .gt 7, 3) := by decide +kernel
theorem dX5_turn_15 : decode cX5_turn 15 = .ok (.iconst 1, 1) := by decide +kernel
theorem dX5_turn_16 : decode cX5_turn 16 = .ok (.goto 4, 3) := by decide +kernel
theorem dX5_turn_19 : decode cX5_turn 19 = .ok (.iconst 0, 1) := by decide +kernel
theorem dX5_turn_20 : decode cX5_turn 20 = .ok (.invokestatic 112, 3) := by decide +kernel
theorem dX5_turn_23 : decode cX5_turn 23 = .ok (.aload_n 0, 1) := by decide +kernel
theorem dX5_turn_24 : decode cX5_turn 24 = .ok (.invokevirtual 105, 3) := by decide +kernel
theorem dX5_turn_27 : decode cX5_turn 27 = .ok (.aload_n 0, 1) := by decide +kernel
theorem dX5_turn_28 : decode cX5_turn 28 = .ok (.getfield 10, 3) := by decide +kernel
theorem dX5_turn_31 : decode cX5_turn 31 = .ok (.iload_n 1, 1) := by decide +kernel
theorem dX5_turn_32 : decode cX5_turn 32 = .ok (.iload_n 2, 1) := by decide +kernel
theorem dX5_turn_33 : decode cX5_turn 33 = .ok (.invokevirtual 116, 3) := by decide +kernel
theorem dX5_turn_36 : decode cX5_turn 36 = .ok (.aload_n 0, 1) := by decide +kernel
theorem dX5_turn_37 : decode cX5_turn 37 = .ok (.aload_n 0, 1) := by decide +kernel
theorem dX5_turn_38 : decode cX5_turn 38 = .ok (.getfield 10, 3) := by decide +kernel
theorem dX5_turn_41 : decode cX5_turn 41 = .ok (.invokevirtual 57, 3) := by decide +kernel
theorem dX5_turn_44 : decode cX5_turn 44 = .ok (.ireturn, 1) := by decide +kernel
theorem dX5_carry_0 : decode cX5_carry 0 = .ok (.aload_n 0, 1) := by decide +kernel
theorem dX5_carry_1 : decode cX5_carry 1 = .ok (.iload_n 1, 1) := by decide +kernel
theorem dX5_carry_2 : decode cX5_carry 2 = .ok (.invokevirtual 102, 3) := by decide +kernel
theorem dX5_carry_5 : decode cX5_carry 5 = .ok (.iload_n 2, 1) := by decide +kernel
theorem dX5_carry_6 : decode cX5_carry 6 = .ok (.ifCond .lt 13, 3) := by decide +kernel
theorem dX5_carry_9 : decode cX5_carry 9 = .ok (.iload_n 2, 1) := by decide +kernel
theorem dX5_carry_10 : decode cX5_carry 10 = .ok (.bipush 20, 2) := by decide +kernel
theorem dX5_carry_12 : decode cX5_carry 12 = .ok (.if_icmp .gt 7, 3) := by decide +kernel
theorem dX5_carry_15 : decode cX5_carry 15 = .ok (.iconst 1, 1) := by decide +kernel
theorem dX5_carry_16 : decode cX5_carry 16 = .ok (.goto 4, 3) := by decide +kernel
theorem dX5_carry_19 : decode cX5_carry 19 = .ok (.iconst 0, 1) := by decide +kernel
theorem dX5_carry_20 : decode cX5_carry 20 = .ok (.invokestatic 112, 3) := by decide +kernel
theorem dX5_carry_23 : decode cX5_carry 23 = .ok (.aload_n 0, 1) := by decide +kernel
theorem dX5_carry_24 : decode cX5_carry 24 = .ok (.invokevirtual 105, 3) := by decide +kernel
theorem dX5_carry_27 : decode cX5_carry 27 = .ok (.iload_n 1, 1) := by decide +kernel
theorem dX5_carry_28 : decode cX5_carry 28 = .ok (.istore_n 3, 1) := by decide +kernel
theorem dX5_carry_29 : decode cX5_carry 29 = .ok (.iconst 0, 1) := by decide +kernel
theorem dX5_carry_30 : decode cX5_carry 30 = .ok (.istore 4, 2) := by decide +kernel
theorem dX5_carry_32 : decode cX5_carry 32 = .ok (.iload 4, 2) := by decide +kernel
theorem dX5_carry_34 : decode cX5_carry 34 = .ok (.iload_n 2, 1) := by decide +kernel
theorem dX5_carry_35 : decode cX5_carry 35 = .ok (.if_icmp .ge 15, 3) := by decide +kernel
theorem dX5_carry_38 : decode cX5_carry 38 = .ok (.aload_n 0, 1) := by decide +kernel
theorem dX5_carry_39 : decode cX5_carry 39 = .ok (.iload_n 3, 1) := by decide +kernel
theorem dX5_carry_40 : decode cX5_carry 40 = .ok (.invokevirtual 119, 3) := by decide +kernel
theorem dX5_carry_43 : decode cX5_carry 43 = .ok (.istore_n 3, 1) := by decide +kernel
theorem dX5_carry_44 : decode cX5_carry 44 = .ok (.iinc 4 1, 3) := by decide +kernel
theorem dX5_carry_47 : decode cX5_carry 47 = .ok (.goto (-15), 3) := by decide +kernel
theorem dX5_carry_50 : decode cX5_carry 50 = .ok (.iload_n 3, 1) := by decide +kernel
theorem dX5_carry_51 : decode cX5_carry 51 = .ok (.ireturn, 1) := by decide +kernel
theorem dX5_put_0 : decode cX5_put 0 = .ok (.iload_n 1, 1) := by decide +kernel
theorem dX5_put_1 : decode cX5_put 1 = .ok (.ifCond .lt 14, 3) := by decide +kernel
theorem dX5_put_4 : decode cX5_put 4 = .ok (.iload_n 1, 1) := by decide +kernel
theorem dX5_put_5 : decode cX5_put 5 = .ok (.aload_n 0, 1) := by decide +kernel
theorem dX5_put_6 : decode cX5_put 6 = .ok (.getfield 10, 3) := by decide +kernel
theorem dX5_put_9 : decode cX5_put 9 = .ok (.invokevirtual 79, 3) := by decide +kernel
theorem dX5_put_12 : decode cX5_put 12 = .ok (.if_icmp .le 13, 3) := by decide +kernel
theorem dX5_put_15 : decode cX5_put 15 = .ok (.new 122, 3) := by decide +kernel
theorem dX5_put_18 : decode cX5_put 18 = .ok (.dup, 1) := by decide +kernel
theorem dX5_put_19 : decode cX5_put 19 = .ok (.ldc 124, 2) := by decide +kernel
theorem dX5_put_21 : decode cX5_put 21 = .ok (.invokespecial 126, 3) := by decide +kernel
theorem dX5_put_24 : decode cX5_put 24 = .ok (.athrow, 1) := by decide +kernel
theorem dX5_put_25 : decode cX5_put 25 = .ok (.iload_n 2, 1) := by decide +kernel
theorem dX5_put_26 : decode cX5_put 26 = .ok (.invokestatic 127, 3) := by decide +kernel
theorem dX5_put_29 : decode cX5_put 29 = .ok (.aload_n 0, 1) := by decide +kernel
theorem dX5_put_30 : decode cX5_put 30 = .ok (.getfield 10, 3) := by decide +kernel
theorem dX5_put_33 : decode cX5_put 33 = .ok (.invokevirtual 79, 3) := by decide +kernel
theorem dX5_put_36 : decode cX5_put 36 = .ok (.bipush 11, 2) := by decide +kernel
theorem dX5_put_38 : decode cX5_put 38 = .ok (.if_icmp .lt 13, 3) := by decide +kernel
theorem dX5_put_41 : decode cX5_put 41 = .ok (.new 69, 3) := by decide +kernel
theorem dX5_put_44 : decode cX5_put 44 = .ok (.dup, 1) := by decide +kernel
theorem dX5_put_45 : decode cX5_put 45 = .ok (.ldc 130, 2) := by decide +kernel
theorem dX5_put_47 : decode cX5_put 47 = .ok (.invokespecial 73, 3) := by decide +kernel
theorem dX5_put_50 : decode cX5_put 50 = .ok (.athrow, 1) := by decide +kernel
theorem dX5_put_51 : decode cX5_put 51 = .ok (.aload_n 0, 1) := by decide +kernel
theorem dX5_put_52 : decode cX5_put 52 = .ok (.invokevirtual 105, 3) := by decide +kernel
theorem dX5_put_55 : decode cX5_put 55 = .ok (.aload_n 0, 1) := by decide +kernel
theorem dX5_put_56 : decode cX5_put 56 = .ok (.getfield 10, 3) := by decide +kernel
theorem dX5_put_59 : decode cX5_put 59 = .ok (.iload_n 1, 1) := by decide +kernel
theorem dX5_put_60 : decode cX5_put 60 = .ok (.iload_n 2, 1) := by decide +kernel
theorem dX5_put_61 : decode cX5_put 61 = .ok (.invokevirtual 132, 3) := by decide +kernel
theorem dX5_put_64 : decode cX5_put 64 = .ok (.aload_n 0, 1) := by decide +kernel
theorem dX5_put_65 : decode cX5_put 65 = .ok (.invokevirtual 65, 3) := by decide +kernel
theorem dX5_put_68 : decode cX5_put 68 = .ok (.ireturn, 1) := by decide +kernel
theorem dX5_take_0 : decode cX5_take 0 = .ok (.aload_n 0, 1) := by decide +kernel
theorem dX5_take_1 : decode cX5_take 1 = .ok (.iload_n 1, 1) := by decide +kernel
theorem dX5_take_2 : decode cX5_take 2 = .ok (.invokevirtual 102, 3) := by decide +kernel
theorem dX5_take_5 : decode cX5_take 5 = .ok (.aload_n 0, 1) := by decide +kernel
theorem dX5_take_6 : decode cX5_take 6 = .ok (.getfield 10, 3) := by decide +kernel
theorem dX5_take_9 : decode cX5_take 9 = .ok (.invokevirtual 79, 3) := by decide +kernel
theorem dX5_take_12 : decode cX5_take 12 = .ok (.iconst 1, 1) := by decide +kernel
theorem dX5_take_13 : decode cX5_take 13 = .ok (.if_icmp .gt 13, 3) := by decide +kernel
theorem dX5_take_16 : decode cX5_take 16 = .ok (.new 69, 3) := by decide +kernel
theorem dX5_take_19 : decode cX5_take 19 = .ok (.dup, 1) := by decide +kernel
theorem dX5_take_20 : decode cX5_take 20 = .ok (.ldc 135, 2) := by decide +kernel
theorem dX5_take_22 : decode cX5_take 22 = .ok (.invokespecial 73, 3) := by decide +kernel
theorem dX5_take_25 : decode cX5_take 25 = .ok (.athrow, 1) := by decide +kernel
theorem dX5_take_26 : decode cX5_take 26 = .ok (.aload_n 0, 1) := by decide +kernel
theorem dX5_take_27 : decode cX5_take 27 = .ok (.invokevirtual 105, 3) := by decide +kernel
theorem dX5_take_30 : decode cX5_take 30 = .ok (.aload_n 0, 1) := by decide +kernel
theorem dX5_take_31 : decode cX5_take 31 = .ok (.getfield 10, 3) := by decide +kernel
theorem dX5_take_34 : decode cX5_take 34 = .ok (.iload_n 1, 1) := by decide +kernel
theorem dX5_take_35 : decode cX5_take 35 = .ok (.invokevirtual 137, 3) := by decide +kernel
theorem dX5_take_38 : decode cX5_take 38 = .ok (.istore_n 2, 1) := by decide +kernel
theorem dX5_take_39 : decode cX5_take 39 = .ok (.aload_n 0, 1) := by decide +kernel
theorem dX5_take_40 : decode cX5_take 40 = .ok (.getfield 10, 3) := by decide +kernel
theorem dX5_take_43 : decode cX5_take 43 = .ok (.iload_n 1, 1) := by decide +kernel
theorem dX5_take_44 : decode cX5_take 44 = .ok (.invokevirtual 140, 3) := by decide +kernel
theorem dX5_take_47 : decode cX5_take 47 = .ok (.iload_n 2, 1) := by decide +kernel
theorem dX5_take_48 : decode cX5_take 48 = .ok (.ireturn, 1) := by decide +kernel
theorem dX5_append_0 : decode cX5_append 0 = .ok (.iload_n 1, 1) := by decide +kernel
theorem dX5_append_1 : decode cX5_append 1 = .ok (.bipush 33, 2) := by decide +kernel
theorem dX5_append_3 : decode cX5_append 3 = .ok (.if_icmp .lt 13, 3) := by decide +kernel
theorem dX5_append_6 : decode cX5_append 6 = .ok (.iload_n 1, 1) := by decide +kernel
theorem dX5_append_7 : decode cX5_append 7 = .ok (.bipush 126, 2) := by decide +kernel
theorem dX5_append_9 : decode cX5_append 9 = .ok (.if_icmp .gt 7, 3) := by decide +kernel
theorem dX5_append_12 : decode cX5_append 12 = .ok (.iconst 1, 1) := by decide +kernel
theorem dX5_append_13 : decode cX5_append 13 = .ok (.goto 4, 3) := by decide +kernel
theorem dX5_append_16 : decode cX5_append 16 = .ok (.iconst 0, 1) := by decide +kernel
theorem dX5_append_17 : decode cX5_append 17 = .ok (.invokestatic 112, 3) := by decide +kernel
theorem dX5_append_20 : decode cX5_append 20 = .ok (.aload_n 0, 1) := by decide +kernel
theorem dX5_append_21 : decode cX5_append 21 = .ok (.getfield 39, 3) := by decide +kernel
theorem dX5_append_24 : decode cX5_append 24 = .ok (.invokevirtual 143, 3) := by decide +kernel
theorem dX5_append_27 : decode cX5_append 27 = .ok (.bipush 60, 2) := by decide +kernel
theorem dX5_append_29 : decode cX5_append 29 = .ok (.if_icmp .lt 13, 3) := by decide +kernel
theorem dX5_append_32 : decode cX5_append 32 = .ok (.new 69, 3) := by decide +kernel
theorem dX5_append_35 : decode cX5_append 35 = .ok (.dup, 1) := by decide +kernel
theorem dX5_append_36 : decode cX5_append 36 = .ok (.ldc 144, 2) := by decide +kernel
theorem dX5_append_38 : decode cX5_append 38 = .ok (.invokespecial 73, 3) := by decide +kernel
theorem dX5_append_41 : decode cX5_append 41 = .ok (.athrow, 1) := by decide +kernel
theorem dX5_append_42 : decode cX5_append 42 = .ok (.aload_n 0, 1) := by decide +kernel
theorem dX5_append_43 : decode cX5_append 43 = .ok (.getfield 39, 3) := by decide +kernel
theorem dX5_append_46 : decode cX5_append 46 = .ok (.iload_n 1, 1) := by decide +kernel
theorem dX5_append_47 : decode cX5_append 47 = .ok (.invokevirtual 146, 3) := by decide +kernel
theorem dX5_append_50 : decode cX5_append 50 = .ok (.aload_n 0, 1) := by decide +kernel
theorem dX5_append_51 : decode cX5_append 51 = .ok (.getfield 39, 3) := by decide +kernel
theorem dX5_append_54 : decode cX5_append 54 = .ok (.invokevirtual 143, 3) := by decide +kernel
theorem dX5_append_57 : decode cX5_append 57 = .ok (.ireturn, 1) := by decide +kernel
theorem dX5_clearBuffer_0 : decode cX5_clearBuffer 0 = .ok (.aload_n 0, 1) := by decide +kernel
theorem dX5_clearBuffer_1 : decode cX5_clearBuffer 1 = .ok (.getfield 39, 3) := by decide +kernel
theorem dX5_clearBuffer_4 : decode cX5_clearBuffer 4 = .ok (.invokevirtual 143, 3) := by decide +kernel
theorem dX5_clearBuffer_7 : decode cX5_clearBuffer 7 = .ok (.istore_n 1, 1) := by decide +kernel
theorem dX5_clearBuffer_8 : decode cX5_clearBuffer 8 = .ok (.aload_n 0, 1) := by decide +kernel
theorem dX5_clearBuffer_9 : decode cX5_clearBuffer 9 = .ok (.getfield 39, 3) := by decide +kernel
theorem dX5_clearBuffer_12 : decode cX5_clearBuffer 12 = .ok (.invokevirtual 147, 3) := by decide +kernel
theorem dX5_clearBuffer_15 : decode cX5_clearBuffer 15 = .ok (.iload_n 1, 1) := by decide +kernel
theorem dX5_clearBuffer_16 : decode cX5_clearBuffer 16 = .ok (.ireturn, 1) := by decide +kernel
theorem dX5_firstError_0 : decode cX5_firstError 0 = .ok (.aload_n 0, 1) := by decide +kernel
theorem dX5_firstError_1 : decode cX5_firstError 1 = .ok (.getfield 39, 3) := by decide +kernel
theorem dX5_firstError_4 : decode cX5_firstError 4 = .ok (.invokevirtual 150, 3) := by decide +kernel
theorem dX5_firstError_7 : decode cX5_firstError 7 = .ok (.ireturn, 1) := by decide +kernel
theorem dX5_read_0 : decode cX5_read 0 = .ok (.aload_n 0, 1) := by decide +kernel
theorem dX5_read_1 : decode cX5_read 1 = .ok (.getfield 39, 3) := by decide +kernel
theorem dX5_read_4 : decode cX5_read 4 = .ok (.invokevirtual 143, 3) := by decide +kernel
theorem dX5_read_7 : decode cX5_read 7 = .ok (.ifCond .eq 20, 3) := by decide +kernel
theorem dX5_read_10 : decode cX5_read 10 = .ok (.aload_n 0, 1) := by decide +kernel
theorem dX5_read_11 : decode cX5_read 11 = .ok (.getfield 39, 3) := by decide +kernel
theorem dX5_read_14 : decode cX5_read 14 = .ok (.invokevirtual 150, 3) := by decide +kernel
theorem dX5_read_17 : decode cX5_read 17 = .ok (.aload_n 0, 1) := by decide +kernel
theorem dX5_read_18 : decode cX5_read 18 = .ok (.getfield 39, 3) := by decide +kernel
theorem dX5_read_21 : decode cX5_read 21 = .ok (.invokevirtual 143, 3) := by decide +kernel
theorem dX5_read_24 : decode cX5_read 24 = .ok (.if_icmp .ge 13, 3) := by decide +kernel
theorem dX5_read_27 : decode cX5_read 27 = .ok (.new 97, 3) := by decide +kernel
theorem dX5_read_30 : decode cX5_read 30 = .ok (.dup, 1) := by decide +kernel
theorem dX5_read_31 : decode cX5_read 31 = .ok (.ldc 153, 2) := by decide +kernel
theorem dX5_read_33 : decode cX5_read 33 = .ok (.invokespecial 101, 3) := by decide +kernel
theorem dX5_read_36 : decode cX5_read 36 = .ok (.athrow, 1) := by decide +kernel
theorem dX5_read_37 : decode cX5_read 37 = .ok (.aload_n 0, 1) := by decide +kernel
theorem dX5_read_38 : decode cX5_read 38 = .ok (.invokevirtual 105, 3) := by decide +kernel
theorem dX5_read_41 : decode cX5_read 41 = .ok (.aload_n 0, 1) := by decide +kernel
theorem dX5_read_42 : decode cX5_read 42 = .ok (.getfield 39, 3) := by decide +kernel
theorem dX5_read_45 : decode cX5_read 45 = .ok (.aload_n 0, 1) := by decide +kernel
theorem dX5_read_46 : decode cX5_read 46 = .ok (.getfield 10, 3) := by decide +kernel
theorem dX5_read_49 : decode cX5_read 49 = .ok (.invokevirtual 155, 3) := by decide +kernel
theorem dX5_read_52 : decode cX5_read 52 = .ok (.aload_n 0, 1) := by decide +kernel
theorem dX5_read_53 : decode cX5_read 53 = .ok (.getfield 39, 3) := by decide +kernel
theorem dX5_read_56 : decode cX5_read 56 = .ok (.invokevirtual 147, 3) := by decide +kernel
theorem dX5_read_59 : decode cX5_read 59 = .ok (.aload_n 0, 1) := by decide +kernel
theorem dX5_read_60 : decode cX5_read 60 = .ok (.aload_n 0, 1) := by decide +kernel
theorem dX5_read_61 : decode cX5_read 61 = .ok (.getfield 10, 3) := by decide +kernel
theorem dX5_read_64 : decode cX5_read 64 = .ok (.invokevirtual 57, 3) := by decide +kernel
theorem dX5_read_67 : decode cX5_read 67 = .ok (.ireturn, 1) := by decide +kernel
theorem dX5_undo_0 : decode cX5_undo 0 = .ok (.aload_n 0, 1) := by decide +kernel
theorem dX5_undo_1 : decode cX5_undo 1 = .ok (.getfield 46, 3) := by decide +kernel
theorem dX5_undo_4 : decode cX5_undo 4 = .ok (.invokevirtual 159, 3) := by decide +kernel
theorem dX5_undo_7 : decode cX5_undo 7 = .ok (.ifCond .ne 13, 3) := by decide +kernel
theorem dX5_undo_10 : decode cX5_undo 10 = .ok (.new 69, 3) := by decide +kernel
theorem dX5_undo_13 : decode cX5_undo 13 = .ok (.dup, 1) := by decide +kernel
theorem dX5_undo_14 : decode cX5_undo 14 = .ok (.ldc 162, 2) := by decide +kernel
theorem dX5_undo_16 : decode cX5_undo 16 = .ok (.invokespecial 73, 3) := by decide +kernel
theorem dX5_undo_19 : decode cX5_undo 19 = .ok (.athrow, 1) := by decide +kernel
theorem dX5_undo_20 : decode cX5_undo 20 = .ok (.aload_n 0, 1) := by decide +kernel
theorem dX5_undo_21 : decode cX5_undo 21 = .ok (.aload_n 0, 1) := by decide +kernel
theorem dX5_undo_22 : decode cX5_undo 22 = .ok (.getfield 46, 3) := by decide +kernel
theorem dX5_undo_25 : decode cX5_undo 25 = .ok (.aload_n 0, 1) := by decide +kernel
theorem dX5_undo_26 : decode cX5_undo 26 = .ok (.getfield 10, 3) := by decide +kernel
theorem dX5_undo_29 : decode cX5_undo 29 = .ok (.invokevirtual 164, 3) := by decide +kernel
theorem dX5_undo_32 : decode cX5_undo 32 = .ok (.putfield 167, 3) := by decide +kernel
theorem dX5_undo_35 : decode cX5_undo 35 = .ok (.aload_n 0, 1) := by decide +kernel
theorem dX5_undo_36 : decode cX5_undo 36 = .ok (.getfield 46, 3) := by decide +kernel
theorem dX5_undo_39 : decode cX5_undo 39 = .ok (.invokevirtual 159, 3) := by decide +kernel
theorem dX5_undo_42 : decode cX5_undo 42 = .ok (.ireturn, 1) := by decide +kernel
theorem dX5_sign_0 : decode cX5_sign 0 = .ok (.aload_n 0, 1) := by decide +kernel
theorem dX5_sign_1 : decode cX5_sign 1 = .ok (.iload_n 1, 1) := by decide +kernel
theorem dX5_sign_2 : decode cX5_sign 2 = .ok (.invokevirtual 102, 3) := by decide +kernel
theorem dX5_sign_5 : decode cX5_sign 5 = .ok (.aload_n 0, 1) := by decide +kernel
theorem dX5_sign_6 : decode cX5_sign 6 = .ok (.getfield 10, 3) := by decide +kernel
theorem dX5_sign_9 : decode cX5_sign 9 = .ok (.iload_n 1, 1) := by decide +kernel
theorem dX5_sign_10 : decode cX5_sign 10 = .ok (.invokevirtual 137, 3) := by decide +kernel
theorem dX5_sign_13 : decode cX5_sign 13 = .ok (.ireturn, 1) := by decide +kernel
theorem dX5_digit_0 : decode cX5_digit 0 = .ok (.aload_n 0, 1) := by decide +kernel
theorem dX5_digit_1 : decode cX5_digit 1 = .ok (.iload_n 1, 1) := by decide +kernel
theorem dX5_digit_2 : decode cX5_digit 2 = .ok (.invokevirtual 102, 3) := by decide +kernel
theorem dX5_digit_5 : decode cX5_digit 5 = .ok (.aload_n 0, 1) := by decide +kernel
theorem dX5_digit_6 : decode cX5_digit 6 = .ok (.getfield 25, 3) := by decide +kernel
theorem dX5_digit_9 : decode cX5_digit 9 = .ok (.aload_n 0, 1) := by decide +kernel
theorem dX5_digit_10 : decode cX5_digit 10 = .ok (.getfield 10, 3) := by decide +kernel
theorem dX5_digit_13 : decode cX5_digit 13 = .ok (.iload_n 1, 1) := by decide +kernel
theorem dX5_digit_14 : decode cX5_digit 14 = .ok (.invokevirtual 171, 3) := by decide +kernel
theorem dX5_digit_17 : decode cX5_digit 17 = .ok (.aload_n 0, 1) := by decide +kernel
theorem dX5_digit_18 : decode cX5_digit 18 = .ok (.getfield 25, 3) := by decide +kernel
theorem dX5_digit_21 : decode cX5_digit 21 = .ok (.aload_n 0, 1) := by decide +kernel
theorem dX5_digit_22 : decode cX5_digit 22 = .ok (.getfield 10, 3) := by decide +kernel
theorem dX5_digit_25 : decode cX5_digit 25 = .ok (.iload_n 1, 1) := by decide +kernel
theorem dX5_digit_26 : decode cX5_digit 26 = .ok (.invokevirtual 137, 3) := by decide +kernel
theorem dX5_digit_29 : decode cX5_digit 29 = .ok (.invokevirtual 175, 3) := by decide +kernel
theorem dX5_digit_32 : decode cX5_digit 32 = .ok (.ireturn, 1) := by decide +kernel
theorem dX5_many_0 : decode cX5_many 0 = .ok (.iload_n 1, 1) := by decide +kernel
theorem dX5_many_1 : decode cX5_many 1 = .ok (.invokestatic 127, 3) := by decide +kernel
theorem dX5_many_4 : decode cX5_many 4 = .ok (.aload_n 0, 1) := by decide +kernel
theorem dX5_many_5 : decode cX5_many 5 = .ok (.getfield 25, 3) := by decide +kernel
theorem dX5_many_8 : decode cX5_many 8 = .ok (.aload_n 0, 1) := by decide +kernel
theorem dX5_many_9 : decode cX5_many 9 = .ok (.getfield 10, 3) := by decide +kernel
theorem dX5_many_12 : decode cX5_many 12 = .ok (.iconst 0, 1) := by decide +kernel
theorem dX5_many_13 : decode cX5_many 13 = .ok (.invokevirtual 171, 3) := by decide +kernel
theorem dX5_many_16 : decode cX5_many 16 = .ok (.aload_n 0, 1) := by decide +kernel
theorem dX5_many_17 : decode cX5_many 17 = .ok (.getfield 25, 3) := by decide +kernel
theorem dX5_many_20 : decode cX5_many 20 = .ok (.iload_n 1, 1) := by decide +kernel
theorem dX5_many_21 : decode cX5_many 21 = .ok (.invokevirtual 178, 3) := by decide +kernel
theorem dX5_many_24 : decode cX5_many 24 = .ok (.ireturn, 1) := by decide +kernel
theorem dX5_block_0 : decode cX5_block 0 = .ok (.iload_n 1, 1) := by decide +kernel
theorem dX5_block_1 : decode cX5_block 1 = .ok (.ifCond .lt 27, 3) := by decide +kernel
theorem dX5_block_4 : decode cX5_block 4 = .ok (.iload_n 1, 1) := by decide +kernel
theorem dX5_block_5 : decode cX5_block 5 = .ok (.aload_n 0, 1) := by decide +kernel
theorem dX5_block_6 : decode cX5_block 6 = .ok (.getfield 10, 3) := by decide +kernel
theorem dX5_block_9 : decode cX5_block 9 = .ok (.invokevirtual 79, 3) := by decide +kernel
theorem dX5_block_12 : decode cX5_block 12 = .ok (.if_icmp .gt 16, 3) := by decide +kernel
theorem dX5_block_15 : decode cX5_block 15 = .ok (.iload_n 2, 1) := by decide +kernel
theorem dX5_block_16 : decode cX5_block 16 = .ok (.ifCond .lt 12, 3) := by decide +kernel
theorem dX5_block_19 : decode cX5_block 19 = .ok (.iload_n 2, 1) := by decide +kernel
theorem dX5_block_20 : decode cX5_block 20 = .ok (.iconst 3, 1) := by decide +kernel
theorem dX5_block_21 : decode cX5_block 21 = .ok (.if_icmp .ge 7, 3) := by decide +kernel
theorem dX5_block_24 : decode cX5_block 24 = .ok (.iconst 1, 1) := by decide +kernel
theorem dX5_block_25 : decode cX5_block 25 = .ok (.goto 4, 3) := by decide +kernel
theorem dX5_block_28 : decode cX5_block 28 = .ok (.iconst 0, 1) := by decide +kernel
theorem dX5_block_29 : decode cX5_block 29 = .ok (.invokestatic 112, 3) := by decide +kernel
theorem dX5_block_32 : decode cX5_block 32 = .ok (.iload_n 2, 1) := by decide +kernel
theorem dX5_block_33 : decode cX5_block 33 = .ok (.lookupswitch 43 #[(0, 27), (1, 37)], 27) := by decide +kernel
theorem dX5_block_60 : decode cX5_block 60 = .ok (.aload_n 0, 1) := by decide +kernel
theorem dX5_block_61 : decode cX5_block 61 = .ok (.aload_n 0, 1) := by decide +kernel
theorem dX5_block_62 : decode cX5_block 62 = .ok (.getfield 10, 3) := by decide +kernel
theorem dX5_block_65 : decode cX5_block 65 = .ok (.iload_n 1, 1) := by decide +kernel
theorem dX5_block_66 : decode cX5_block 66 = .ok (.invokevirtual 181, 3) := by decide +kernel
theorem dX5_block_69 : decode cX5_block 69 = .ok (.ireturn, 1) := by decide +kernel
theorem dX5_block_70 : decode cX5_block 70 = .ok (.aload_n 0, 1) := by decide +kernel
theorem dX5_block_71 : decode cX5_block 71 = .ok (.iload_n 1, 1) := by decide +kernel
theorem dX5_block_72 : decode cX5_block 72 = .ok (.invokevirtual 185, 3) := by decide +kernel
theorem dX5_block_75 : decode cX5_block 75 = .ok (.ireturn, 1) := by decide +kernel
theorem dX5_block_76 : decode cX5_block 76 = .ok (.aload_n 0, 1) := by decide +kernel
theorem dX5_block_77 : decode cX5_block 77 = .ok (.iload_n 1, 1) := by decide +kernel
theorem dX5_block_78 : decode cX5_block 78 = .ok (.invokevirtual 188, 3) := by decide +kernel
theorem dX5_block_81 : decode cX5_block 81 = .ok (.ireturn, 1) := by decide +kernel
theorem dX5_count_0 : decode cX5_count 0 = .ok (.iload_n 1, 1) := by decide +kernel
theorem dX5_count_1 : decode cX5_count 1 = .ok (.ifCond .lt 13, 3) := by decide +kernel
theorem dX5_count_4 : decode cX5_count 4 = .ok (.iload_n 1, 1) := by decide +kernel
theorem dX5_count_5 : decode cX5_count 5 = .ok (.bipush 14, 2) := by decide +kernel
theorem dX5_count_7 : decode cX5_count 7 = .ok (.if_icmp .ge 7, 3) := by decide +kernel
theorem dX5_count_10 : decode cX5_count 10 = .ok (.iconst 1, 1) := by decide +kernel
theorem dX5_count_11 : decode cX5_count 11 = .ok (.goto 4, 3) := by decide +kernel
theorem dX5_count_14 : decode cX5_count 14 = .ok (.iconst 0, 1) := by decide +kernel
theorem dX5_count_15 : decode cX5_count 15 = .ok (.invokestatic 112, 3) := by decide +kernel
theorem dX5_count_18 : decode cX5_count 18 = .ok (.iload_n 1, 1) := by decide +kernel
theorem dX5_count_19 : decode cX5_count 19 = .ok (.tableswitch 164 0 12 #[65, 73, 78, 83, 92, 97, 102, 125, 133, 141, 149, 154, 159], 65) := by decide +kernel
theorem dX5_count_84 : decode cX5_count 84 = .ok (.aload_n 0, 1) := by decide +kernel
theorem dX5_count_85 : decode cX5_count 85 = .ok (.getfield 10, 3) := by decide +kernel
theorem dX5_count_88 : decode cX5_count 88 = .ok (.invokevirtual 79, 3) := by decide +kernel
theorem dX5_count_91 : decode cX5_count 91 = .ok (.ireturn, 1) := by decide +kernel
theorem dX5_count_92 : decode cX5_count 92 = .ok (.aload_n 0, 1) := by decide +kernel
theorem dX5_count_93 : decode cX5_count 93 = .ok (.invokevirtual 191, 3) := by decide +kernel
theorem dX5_count_96 : decode cX5_count 96 = .ok (.ireturn, 1) := by decide +kernel
theorem dX5_count_97 : decode cX5_count 97 = .ok (.aload_n 0, 1) := by decide +kernel
theorem dX5_count_98 : decode cX5_count 98 = .ok (.invokevirtual 65, 3) := by decide +kernel
theorem dX5_count_101 : decode cX5_count 101 = .ok (.ireturn, 1) := by decide +kernel
theorem dX5_count_102 : decode cX5_count 102 = .ok (.aload_n 0, 1) := by decide +kernel
theorem dX5_count_103 : decode cX5_count 103 = .ok (.aload_n 0, 1) := by decide +kernel
theorem dX5_count_104 : decode cX5_count 104 = .ok (.getfield 10, 3) := by decide +kernel
theorem dX5_count_107 : decode cX5_count 107 = .ok (.invokevirtual 57, 3) := by decide +kernel
theorem dX5_count_110 : decode cX5_count 110 = .ok (.ireturn, 1) := by decide +kernel
theorem dX5_count_111 : decode cX5_count 111 = .ok (.aload_n 0, 1) := by decide +kernel
theorem dX5_count_112 : decode cX5_count 112 = .ok (.invokevirtual 86, 3) := by decide +kernel
theorem dX5_count_115 : decode cX5_count 115 = .ok (.ireturn, 1) := by decide +kernel
theorem dX5_count_116 : decode cX5_count 116 = .ok (.aload_n 0, 1) := by decide +kernel
theorem dX5_count_117 : decode cX5_count 117 = .ok (.invokevirtual 76, 3) := by decide +kernel
theorem dX5_count_120 : decode cX5_count 120 = .ok (.ireturn, 1) := by decide +kernel
theorem dX5_count_121 : decode cX5_count 121 = .ok (.aload_n 0, 1) := by decide +kernel
theorem dX5_count_122 : decode cX5_count 122 = .ok (.getfield 10, 3) := by decide +kernel
theorem dX5_count_125 : decode cX5_count 125 = .ok (.aload_n 0, 1) := by decide +kernel
theorem dX5_count_126 : decode cX5_count 126 = .ok (.getfield 10, 3) := by decide +kernel
theorem dX5_count_129 : decode cX5_count 129 = .ok (.invokevirtual 79, 3) := by decide +kernel
theorem dX5_count_132 : decode cX5_count 132 = .ok (.invokevirtual 82, 3) := by decide +kernel
theorem dX5_count_135 : decode cX5_count 135 = .ok (.ifCond .eq 7, 3) := by decide +kernel
theorem dX5_count_138 : decode cX5_count 138 = .ok (.iconst 1, 1) := by decide +kernel
theorem dX5_count_139 : decode cX5_count 139 = .ok (.goto 4, 3) := by decide +kernel
theorem dX5_count_142 : decode cX5_count 142 = .ok (.iconst 0, 1) := by decide +kernel
theorem dX5_count_143 : decode cX5_count 143 = .ok (.ireturn, 1) := by decide +kernel
theorem dX5_count_144 : decode cX5_count 144 = .ok (.aload_n 0, 1) := by decide +kernel
theorem dX5_count_145 : decode cX5_count 145 = .ok (.getfield 10, 3) := by decide +kernel
theorem dX5_count_148 : decode cX5_count 148 = .ok (.invokevirtual 194, 3) := by decide +kernel
theorem dX5_count_151 : decode cX5_count 151 = .ok (.ireturn, 1) := by decide +kernel
theorem dX5_count_152 : decode cX5_count 152 = .ok (.aload_n 0, 1) := by decide +kernel
theorem dX5_count_153 : decode cX5_count 153 = .ok (.getfield 10, 3) := by decide +kernel
theorem dX5_count_156 : decode cX5_count 156 = .ok (.invokevirtual 197, 3) := by decide +kernel
theorem dX5_count_159 : decode cX5_count 159 = .ok (.ireturn, 1) := by decide +kernel
theorem dX5_count_160 : decode cX5_count 160 = .ok (.aload_n 0, 1) := by decide +kernel
theorem dX5_count_161 : decode cX5_count 161 = .ok (.getfield 10, 3) := by decide +kernel
theorem dX5_count_164 : decode cX5_count 164 = .ok (.invokevirtual 200, 3) := by decide +kernel
theorem dX5_count_167 : decode cX5_count 167 = .ok (.ireturn, 1) := by decide +kernel
theorem dX5_count_168 : decode cX5_count 168 = .ok (.aload_n 0, 1) := by decide +kernel
theorem dX5_count_169 : decode cX5_count 169 = .ok (.invokevirtual 203, 3) := by decide +kernel
theorem dX5_count_172 : decode cX5_count 172 = .ok (.ireturn, 1) := by decide +kernel
theorem dX5_count_173 : decode cX5_count 173 = .ok (.aload_n 0, 1) := by decide +kernel
theorem dX5_count_174 : decode cX5_count 174 = .ok (.invokevirtual 206, 3) := by decide +kernel
theorem dX5_count_177 : decode cX5_count 177 = .ok (.ireturn, 1) := by decide +kernel
theorem dX5_count_178 : decode cX5_count 178 = .ok (.aload_n 0, 1) := by decide +kernel
theorem dX5_count_179 : decode cX5_count 179 = .ok (.getfield 167, 3) := by decide +kernel
theorem dX5_count_182 : decode cX5_count 182 = .ok (.ireturn, 1) := by decide +kernel
theorem dX5_count_183 : decode cX5_count 183 = .ok (.aload_n 0, 1) := by decide +kernel
theorem dX5_count_184 : decode cX5_count 184 = .ok (.getfield 46, 3) := by decide +kernel
theorem dX5_count_187 : decode cX5_count 187 = .ok (.invokevirtual 159, 3) := by decide +kernel
theorem dX5_count_190 : decode cX5_count 190 = .ok (.ireturn, 1) := by decide +kernel
theorem dX5_ifSwapped_0 : decode cX5_ifSwapped 0 = .ok (.aload_n 0, 1) := by decide +kernel
theorem dX5_ifSwapped_1 : decode cX5_ifSwapped 1 = .ok (.iload_n 1, 1) := by decide +kernel
theorem dX5_ifSwapped_2 : decode cX5_ifSwapped 2 = .ok (.invokevirtual 102, 3) := by decide +kernel
theorem dX5_ifSwapped_5 : decode cX5_ifSwapped 5 = .ok (.aload_n 0, 1) := by decide +kernel
theorem dX5_ifSwapped_6 : decode cX5_ifSwapped 6 = .ok (.iload_n 2, 1) := by decide +kernel
theorem dX5_ifSwapped_7 : decode cX5_ifSwapped 7 = .ok (.invokevirtual 102, 3) := by decide +kernel
theorem dX5_ifSwapped_10 : decode cX5_ifSwapped 10 = .ok (.aload_n 0, 1) := by decide +kernel
theorem dX5_ifSwapped_11 : decode cX5_ifSwapped 11 = .ok (.iload_n 1, 1) := by decide +kernel
theorem dX5_ifSwapped_12 : decode cX5_ifSwapped 12 = .ok (.iload_n 2, 1) := by decide +kernel
theorem dX5_ifSwapped_13 : decode cX5_ifSwapped 13 = .ok (.invokevirtual 209, 3) := by decide +kernel
theorem dX5_ifSwapped_16 : decode cX5_ifSwapped 16 = .ok (.ireturn, 1) := by decide +kernel
theorem dX5_signOf_0 : decode cX5_signOf 0 = .ok (.aload_n 0, 1) := by decide +kernel
theorem dX5_signOf_1 : decode cX5_signOf 1 = .ok (.iload_n 2, 1) := by decide +kernel
theorem dX5_signOf_2 : decode cX5_signOf 2 = .ok (.invokevirtual 102, 3) := by decide +kernel
theorem dX5_signOf_5 : decode cX5_signOf 5 = .ok (.aload_n 0, 1) := by decide +kernel
theorem dX5_signOf_6 : decode cX5_signOf 6 = .ok (.iload_n 1, 1) := by decide +kernel
theorem dX5_signOf_7 : decode cX5_signOf 7 = .ok (.invokevirtual 54, 3) := by decide +kernel
theorem dX5_signOf_10 : decode cX5_signOf 10 = .ok (.aload_n 0, 1) := by decide +kernel
theorem dX5_signOf_11 : decode cX5_signOf 11 = .ok (.iload_n 1, 1) := by decide +kernel
theorem dX5_signOf_12 : decode cX5_signOf 12 = .ok (.invokevirtual 213, 3) := by decide +kernel
theorem dX5_signOf_15 : decode cX5_signOf 15 = .ok (.aload_n 0, 1) := by decide +kernel
theorem dX5_signOf_16 : decode cX5_signOf 16 = .ok (.getfield 16, 3) := by decide +kernel
theorem dX5_signOf_19 : decode cX5_signOf 19 = .ok (.iload_n 2, 1) := by decide +kernel
theorem dX5_signOf_20 : decode cX5_signOf 20 = .ok (.invokevirtual 137, 3) := by decide +kernel
theorem dX5_signOf_23 : decode cX5_signOf 23 = .ok (.ireturn, 1) := by decide +kernel
theorem dX5_having_0 : decode cX5_having 0 = .ok (.aload_n 0, 1) := by decide +kernel
theorem dX5_having_1 : decode cX5_having 1 = .ok (.iload_n 3, 1) := by decide +kernel
theorem dX5_having_2 : decode cX5_having 2 = .ok (.invokevirtual 102, 3) := by decide +kernel
theorem dX5_having_5 : decode cX5_having 5 = .ok (.iload_n 1, 1) := by decide +kernel
theorem dX5_having_6 : decode cX5_having 6 = .ok (.ifCond .lt 20, 3) := by decide +kernel
theorem dX5_having_9 : decode cX5_having 9 = .ok (.iload_n 1, 1) := by decide +kernel
theorem dX5_having_10 : decode cX5_having 10 = .ok (.iload_n 2, 1) := by decide +kernel
theorem dX5_having_11 : decode cX5_having 11 = .ok (.if_icmp .gt 15, 3) := by decide +kernel
theorem dX5_having_14 : decode cX5_having 14 = .ok (.iload_n 2, 1) := by decide +kernel
theorem dX5_having_15 : decode cX5_having 15 = .ok (.aload_n 0, 1) := by decide +kernel
theorem dX5_having_16 : decode cX5_having 16 = .ok (.invokevirtual 65, 3) := by decide +kernel
theorem dX5_having_19 : decode cX5_having 19 = .ok (.if_icmp .gt 7, 3) := by decide +kernel
theorem dX5_having_22 : decode cX5_having 22 = .ok (.iconst 1, 1) := by decide +kernel
theorem dX5_having_23 : decode cX5_having 23 = .ok (.goto 4, 3) := by decide +kernel
theorem dX5_having_26 : decode cX5_having 26 = .ok (.iconst 0, 1) := by decide +kernel
theorem dX5_having_27 : decode cX5_having 27 = .ok (.invokestatic 112, 3) := by decide +kernel
theorem dX5_having_30 : decode cX5_having 30 = .ok (.iload 4, 2) := by decide +kernel
theorem dX5_having_32 : decode cX5_having 32 = .ok (.invokestatic 127, 3) := by decide +kernel
theorem dX5_having_35 : decode cX5_having 35 = .ok (.aload_n 0, 1) := by decide +kernel
theorem dX5_having_36 : decode cX5_having 36 = .ok (.iload_n 2, 1) := by decide +kernel
theorem dX5_having_37 : decode cX5_having 37 = .ok (.iload_n 3, 1) := by decide +kernel
theorem dX5_having_38 : decode cX5_having 38 = .ok (.iload 4, 2) := by decide +kernel
theorem dX5_having_40 : decode cX5_having 40 = .ok (.invokevirtual 216, 3) := by decide +kernel
theorem dX5_having_43 : decode cX5_having 43 = .ok (.aload_n 0, 1) := by decide +kernel
theorem dX5_having_44 : decode cX5_having 44 = .ok (.iload_n 1, 1) := by decide +kernel
theorem dX5_having_45 : decode cX5_having 45 = .ok (.iload_n 3, 1) := by decide +kernel
theorem dX5_having_46 : decode cX5_having 46 = .ok (.iload 4, 2) := by decide +kernel
theorem dX5_having_48 : decode cX5_having 48 = .ok (.invokevirtual 216, 3) := by decide +kernel
theorem dX5_having_51 : decode cX5_having 51 = .ok (.isub, 1) := by decide +kernel
theorem dX5_having_52 : decode cX5_having 52 = .ok (.ireturn, 1) := by decide +kernel
theorem dX5_stepsTo_0 : decode cX5_stepsTo 0 = .ok (.aload_n 0, 1) := by decide +kernel
theorem dX5_stepsTo_1 : decode cX5_stepsTo 1 = .ok (.iload_n 1, 1) := by decide +kernel
theorem dX5_stepsTo_2 : decode cX5_stepsTo 2 = .ok (.invokevirtual 54, 3) := by decide +kernel
theorem dX5_stepsTo_5 : decode cX5_stepsTo 5 = .ok (.aload_n 0, 1) := by decide +kernel
theorem dX5_stepsTo_6 : decode cX5_stepsTo 6 = .ok (.iload_n 1, 1) := by decide +kernel
theorem dX5_stepsTo_7 : decode cX5_stepsTo 7 = .ok (.invokevirtual 213, 3) := by decide +kernel
theorem dX5_stepsTo_10 : decode cX5_stepsTo 10 = .ok (.aload_n 0, 1) := by decide +kernel
theorem dX5_stepsTo_11 : decode cX5_stepsTo 11 = .ok (.getfield 19, 3) := by decide +kernel
theorem dX5_stepsTo_14 : decode cX5_stepsTo 14 = .ok (.aload_n 0, 1) := by decide +kernel
theorem dX5_stepsTo_15 : decode cX5_stepsTo 15 = .ok (.getfield 10, 3) := by decide +kernel
theorem dX5_stepsTo_18 : decode cX5_stepsTo 18 = .ok (.invokevirtual 220, 3) := by decide +kernel
theorem dX5_stepsTo_21 : decode cX5_stepsTo 21 = .ok (.iconst 0, 1) := by decide +kernel
theorem dX5_stepsTo_22 : decode cX5_stepsTo 22 = .ok (.istore_n 2, 1) := by decide +kernel
theorem dX5_stepsTo_23 : decode cX5_stepsTo 23 = .ok (.iconst 0, 1) := by decide +kernel
theorem dX5_stepsTo_24 : decode cX5_stepsTo 24 = .ok (.istore_n 3, 1) := by decide +kernel
theorem dX5_stepsTo_25 : decode cX5_stepsTo 25 = .ok (.iload_n 3, 1) := by decide +kernel
theorem dX5_stepsTo_26 : decode cX5_stepsTo 26 = .ok (.aload_n 0, 1) := by decide +kernel
theorem dX5_stepsTo_27 : decode cX5_stepsTo 27 = .ok (.getfield 16, 3) := by decide +kernel
theorem dX5_stepsTo_30 : decode cX5_stepsTo 30 = .ok (.invokevirtual 79, 3) := by decide +kernel
theorem dX5_stepsTo_33 : decode cX5_stepsTo 33 = .ok (.if_icmp .ge 44, 3) := by decide +kernel
theorem dX5_stepsTo_36 : decode cX5_stepsTo 36 = .ok (.aload_n 0, 1) := by decide +kernel
theorem dX5_stepsTo_37 : decode cX5_stepsTo 37 = .ok (.getfield 19, 3) := by decide +kernel
theorem dX5_stepsTo_40 : decode cX5_stepsTo 40 = .ok (.aload_n 0, 1) := by decide +kernel
theorem dX5_stepsTo_41 : decode cX5_stepsTo 41 = .ok (.getfield 16, 3) := by decide +kernel
theorem dX5_stepsTo_44 : decode cX5_stepsTo 44 = .ok (.iload_n 3, 1) := by decide +kernel
theorem dX5_stepsTo_45 : decode cX5_stepsTo 45 = .ok (.invokevirtual 137, 3) := by decide +kernel
theorem dX5_stepsTo_48 : decode cX5_stepsTo 48 = .ok (.iload_n 3, 1) := by decide +kernel
theorem dX5_stepsTo_49 : decode cX5_stepsTo 49 = .ok (.invokevirtual 223, 3) := by decide +kernel
theorem dX5_stepsTo_52 : decode cX5_stepsTo 52 = .ok (.istore 4, 2) := by decide +kernel
theorem dX5_stepsTo_54 : decode cX5_stepsTo 54 = .ok (.aload_n 0, 1) := by decide +kernel
theorem dX5_stepsTo_55 : decode cX5_stepsTo 55 = .ok (.getfield 19, 3) := by decide +kernel
theorem dX5_stepsTo_58 : decode cX5_stepsTo 58 = .ok (.iload 4, 2) := by decide +kernel
theorem dX5_stepsTo_60 : decode cX5_stepsTo 60 = .ok (.iload_n 3, 1) := by decide +kernel
theorem dX5_stepsTo_61 : decode cX5_stepsTo 61 = .ok (.invokevirtual 226, 3) := by decide +kernel
theorem dX5_stepsTo_64 : decode cX5_stepsTo 64 = .ok (.iload_n 2, 1) := by decide +kernel
theorem dX5_stepsTo_65 : decode cX5_stepsTo 65 = .ok (.iload 4, 2) := by decide +kernel
theorem dX5_stepsTo_67 : decode cX5_stepsTo 67 = .ok (.iload_n 3, 1) := by decide +kernel
theorem dX5_stepsTo_68 : decode cX5_stepsTo 68 = .ok (.isub, 1) := by decide +kernel
theorem dX5_stepsTo_69 : decode cX5_stepsTo 69 = .ok (.iadd, 1) := by decide +kernel
theorem dX5_stepsTo_70 : decode cX5_stepsTo 70 = .ok (.istore_n 2, 1) := by decide +kernel
theorem dX5_stepsTo_71 : decode cX5_stepsTo 71 = .ok (.iinc 3 1, 3) := by decide +kernel
theorem dX5_stepsTo_74 : decode cX5_stepsTo 74 = .ok (.goto (-49), 3) := by decide +kernel
theorem dX5_stepsTo_77 : decode cX5_stepsTo 77 = .ok (.iload_n 2, 1) := by decide +kernel
theorem dX5_stepsTo_78 : decode cX5_stepsTo 78 = .ok (.ireturn, 1) := by decide +kernel
theorem dX5_bestSwap_0 : decode cX5_bestSwap 0 = .ok (.iload_n 1, 1) := by decide +kernel
theorem dX5_bestSwap_1 : decode cX5_bestSwap 1 = .ok (.ifCond .lt 12, 3) := by decide +kernel
theorem dX5_bestSwap_4 : decode cX5_bestSwap 4 = .ok (.iload_n 1, 1) := by decide +kernel
theorem dX5_bestSwap_5 : decode cX5_bestSwap 5 = .ok (.iconst 3, 1) := by decide +kernel
theorem dX5_bestSwap_6 : decode cX5_bestSwap 6 = .ok (.if_icmp .ge 7, 3) := by decide +kernel
theorem dX5_bestSwap_9 : decode cX5_bestSwap 9 = .ok (.iconst 1, 1) := by decide +kernel
theorem dX5_bestSwap_10 : decode cX5_bestSwap 10 = .ok (.goto 4, 3) := by decide +kernel
theorem dX5_bestSwap_13 : decode cX5_bestSwap 13 = .ok (.iconst 0, 1) := by decide +kernel
theorem dX5_bestSwap_14 : decode cX5_bestSwap 14 = .ok (.invokestatic 112, 3) := by decide +kernel
theorem dX5_bestSwap_17 : decode cX5_bestSwap 17 = .ok (.iconst (-1), 1) := by decide +kernel
theorem dX5_bestSwap_18 : decode cX5_bestSwap 18 = .ok (.istore_n 2, 1) := by decide +kernel
theorem dX5_bestSwap_19 : decode cX5_bestSwap 19 = .ok (.iconst (-1), 1) := by decide +kernel
theorem dX5_bestSwap_20 : decode cX5_bestSwap 20 = .ok (.istore_n 3, 1) := by decide +kernel
theorem dX5_bestSwap_21 : decode cX5_bestSwap 21 = .ok (.iconst (-1), 1) := by decide +kernel
theorem dX5_bestSwap_22 : decode cX5_bestSwap 22 = .ok (.istore 4, 2) := by decide +kernel
theorem dX5_bestSwap_24 : decode cX5_bestSwap 24 = .ok (.iconst 0, 1) := by decide +kernel
theorem dX5_bestSwap_25 : decode cX5_bestSwap 25 = .ok (.istore 5, 2) := by decide +kernel
theorem dX5_bestSwap_27 : decode cX5_bestSwap 27 = .ok (.iload 5, 2) := by decide +kernel
theorem dX5_bestSwap_29 : decode cX5_bestSwap 29 = .ok (.aload_n 0, 1) := by decide +kernel
theorem dX5_bestSwap_30 : decode cX5_bestSwap 30 = .ok (.getfield 10, 3) := by decide +kernel
theorem dX5_bestSwap_33 : decode cX5_bestSwap 33 = .ok (.invokevirtual 79, 3) := by decide +kernel
theorem dX5_bestSwap_36 : decode cX5_bestSwap 36 = .ok (.if_icmp .ge 59, 3) := by decide +kernel
theorem dX5_bestSwap_39 : decode cX5_bestSwap 39 = .ok (.iload 5, 2) := by decide +kernel
theorem dX5_bestSwap_41 : decode cX5_bestSwap 41 = .ok (.iconst 1, 1) := by decide +kernel
theorem dX5_bestSwap_42 : decode cX5_bestSwap 42 = .ok (.iadd, 1) := by decide +kernel
theorem dX5_bestSwap_43 : decode cX5_bestSwap 43 = .ok (.istore 6, 2) := by decide +kernel
theorem dX5_bestSwap_45 : decode cX5_bestSwap 45 = .ok (.iload 6, 2) := by decide +kernel
theorem dX5_bestSwap_47 : decode cX5_bestSwap 47 = .ok (.aload_n 0, 1) := by decide +kernel
theorem dX5_bestSwap_48 : decode cX5_bestSwap 48 = .ok (.getfield 10, 3) := by decide +kernel
theorem dX5_bestSwap_51 : decode cX5_bestSwap 51 = .ok (.invokevirtual 79, 3) := by decide +kernel
theorem dX5_bestSwap_54 : decode cX5_bestSwap 54 = .ok (.if_icmp .ge 35, 3) := by decide +kernel
theorem dX5_bestSwap_57 : decode cX5_bestSwap 57 = .ok (.aload_n 0, 1) := by decide +kernel
theorem dX5_bestSwap_58 : decode cX5_bestSwap 58 = .ok (.iload 5, 2) := by decide +kernel
theorem dX5_bestSwap_60 : decode cX5_bestSwap 60 = .ok (.iload 6, 2) := by decide +kernel
theorem dX5_bestSwap_62 : decode cX5_bestSwap 62 = .ok (.invokevirtual 209, 3) := by decide +kernel
theorem dX5_bestSwap_65 : decode cX5_bestSwap 65 = .ok (.istore 7, 2) := by decide +kernel
theorem dX5_bestSwap_67 : decode cX5_bestSwap 67 = .ok (.iload 7, 2) := by decide +kernel
theorem dX5_bestSwap_69 : decode cX5_bestSwap 69 = .ok (.iload_n 2, 1) := by decide +kernel
theorem dX5_bestSwap_70 : decode cX5_bestSwap 70 = .ok (.if_icmp .le 13, 3) := by decide +kernel
theorem dX5_bestSwap_73 : decode cX5_bestSwap 73 = .ok (.iload 7, 2) := by decide +kernel
theorem dX5_bestSwap_75 : decode cX5_bestSwap 75 = .ok (.istore_n 2, 1) := by decide +kernel
theorem dX5_bestSwap_76 : decode cX5_bestSwap 76 = .ok (.iload 5, 2) := by decide +kernel
theorem dX5_bestSwap_78 : decode cX5_bestSwap 78 = .ok (.istore_n 3, 1) := by decide +kernel
theorem dX5_bestSwap_79 : decode cX5_bestSwap 79 = .ok (.iload 6, 2) := by decide +kernel
theorem dX5_bestSwap_81 : decode cX5_bestSwap 81 = .ok (.istore 4, 2) := by decide +kernel
theorem dX5_bestSwap_83 : decode cX5_bestSwap 83 = .ok (.iinc 6 1, 3) := by decide +kernel
theorem dX5_bestSwap_86 : decode cX5_bestSwap 86 = .ok (.goto (-41), 3) := by decide +kernel
theorem dX5_bestSwap_89 : decode cX5_bestSwap 89 = .ok (.iinc 5 1, 3) := by decide +kernel
theorem dX5_bestSwap_92 : decode cX5_bestSwap 92 = .ok (.goto (-65), 3) := by decide +kernel
theorem dX5_bestSwap_95 : decode cX5_bestSwap 95 = .ok (.iload_n 1, 1) := by decide +kernel
theorem dX5_bestSwap_96 : decode cX5_bestSwap 96 = .ok (.ifCond .ne 7, 3) := by decide +kernel
theorem dX5_bestSwap_99 : decode cX5_bestSwap 99 = .ok (.iload_n 2, 1) := by decide +kernel
theorem dX5_bestSwap_100 : decode cX5_bestSwap 100 = .ok (.goto 14, 3) := by decide +kernel
theorem dX5_bestSwap_103 : decode cX5_bestSwap 103 = .ok (.iload_n 1, 1) := by decide +kernel
theorem dX5_bestSwap_104 : decode cX5_bestSwap 104 = .ok (.iconst 1, 1) := by decide +kernel
theorem dX5_bestSwap_105 : decode cX5_bestSwap 105 = .ok (.if_icmp .ne 7, 3) := by decide +kernel
theorem dX5_bestSwap_108 : decode cX5_bestSwap 108 = .ok (.iload_n 3, 1) := by decide +kernel
theorem dX5_bestSwap_109 : decode cX5_bestSwap 109 = .ok (.goto 5, 3) := by decide +kernel
theorem dX5_bestSwap_112 : decode cX5_bestSwap 112 = .ok (.iload 4, 2) := by decide +kernel
theorem dX5_bestSwap_114 : decode cX5_bestSwap 114 = .ok (.ireturn, 1) := by decide +kernel
theorem dX5_share_0 : decode cX5_share 0 = .ok (.aload_n 0, 1) := by decide +kernel
theorem dX5_share_1 : decode cX5_share 1 = .ok (.invokevirtual 65, 3) := by decide +kernel
theorem dX5_share_4 : decode cX5_share 4 = .ok (.istore_n 1, 1) := by decide +kernel
theorem dX5_share_5 : decode cX5_share 5 = .ok (.iload_n 1, 1) := by decide +kernel
theorem dX5_share_6 : decode cX5_share 6 = .ok (.ifCond .le 18, 3) := by decide +kernel
theorem dX5_share_9 : decode cX5_share 9 = .ok (.aload_n 0, 1) := by decide +kernel
theorem dX5_share_10 : decode cX5_share 10 = .ok (.aload_n 0, 1) := by decide +kernel
theorem dX5_share_11 : decode cX5_share 11 = .ok (.getfield 10, 3) := by decide +kernel
theorem dX5_share_14 : decode cX5_share 14 = .ok (.invokevirtual 57, 3) := by decide +kernel
theorem dX5_share_17 : decode cX5_share 17 = .ok (.i2d, 1) := by decide +kernel
theorem dX5_share_18 : decode cX5_share 18 = .ok (.iload_n 1, 1) := by decide +kernel
theorem dX5_share_19 : decode cX5_share 19 = .ok (.i2d, 1) := by decide +kernel
theorem dX5_share_20 : decode cX5_share 20 = .ok (.ddiv, 1) := by decide +kernel
theorem dX5_share_21 : decode cX5_share 21 = .ok (.goto 4, 3) := by decide +kernel
theorem dX5_share_24 : decode cX5_share 24 = .ok (.dconst 0, 1) := by decide +kernel
theorem dX5_share_25 : decode cX5_share 25 = .ok (.dreturn, 1) := by decide +kernel
theorem dX5_digest_0 : decode cX5_digest 0 = .ok (.ldc2_w 229, 3) := by decide +kernel
theorem dX5_digest_3 : decode cX5_digest 3 = .ok (.lstore_n 1, 1) := by decide +kernel
theorem dX5_digest_4 : decode cX5_digest 4 = .ok (.iconst 0, 1) := by decide +kernel
theorem dX5_digest_5 : decode cX5_digest 5 = .ok (.istore_n 3, 1) := by decide +kernel
theorem dX5_digest_6 : decode cX5_digest 6 = .ok (.iload_n 3, 1) := by decide +kernel
theorem dX5_digest_7 : decode cX5_digest 7 = .ok (.bipush 14, 2) := by decide +kernel
theorem dX5_digest_9 : decode cX5_digest 9 = .ok (.if_icmp .ge 20, 3) := by decide +kernel
theorem dX5_digest_12 : decode cX5_digest 12 = .ok (.lload_n 1, 1) := by decide +kernel
theorem dX5_digest_13 : decode cX5_digest 13 = .ok (.aload_n 0, 1) := by decide +kernel
theorem dX5_digest_14 : decode cX5_digest 14 = .ok (.iload_n 3, 1) := by decide +kernel
theorem dX5_digest_15 : decode cX5_digest 15 = .ok (.invokevirtual 231, 3) := by decide +kernel
theorem dX5_digest_18 : decode cX5_digest 18 = .ok (.i2l, 1) := by decide +kernel
theorem dX5_digest_19 : decode cX5_digest 19 = .ok (.invokestatic 234, 3) := by decide +kernel
theorem dX5_digest_22 : decode cX5_digest 22 = .ok (.lstore_n 1, 1) := by decide +kernel
theorem dX5_digest_23 : decode cX5_digest 23 = .ok (.iinc 3 1, 3) := by decide +kernel
theorem dX5_digest_26 : decode cX5_digest 26 = .ok (.goto (-20), 3) := by decide +kernel
theorem dX5_digest_29 : decode cX5_digest 29 = .ok (.aload_n 0, 1) := by decide +kernel
theorem dX5_digest_30 : decode cX5_digest 30 = .ok (.aload_n 0, 1) := by decide +kernel
theorem dX5_digest_31 : decode cX5_digest 31 = .ok (.getfield 10, 3) := by decide +kernel
theorem dX5_digest_34 : decode cX5_digest 34 = .ok (.invokevirtual 57, 3) := by decide +kernel
theorem dX5_digest_37 : decode cX5_digest 37 = .ok (.istore_n 3, 1) := by decide +kernel
theorem dX5_digest_38 : decode cX5_digest 38 = .ok (.iconst 0, 1) := by decide +kernel
theorem dX5_digest_39 : decode cX5_digest 39 = .ok (.istore 4, 2) := by decide +kernel
theorem dX5_digest_41 : decode cX5_digest 41 = .ok (.iload 4, 2) := by decide +kernel
theorem dX5_digest_43 : decode cX5_digest 43 = .ok (.aload_n 0, 1) := by decide +kernel
theorem dX5_digest_44 : decode cX5_digest 44 = .ok (.getfield 10, 3) := by decide +kernel
theorem dX5_digest_47 : decode cX5_digest 47 = .ok (.invokevirtual 79, 3) := by decide +kernel
theorem dX5_digest_50 : decode cX5_digest 50 = .ok (.if_icmp .ge 90, 3) := by decide +kernel
theorem dX5_digest_53 : decode cX5_digest 53 = .ok (.lload_n 1, 1) := by decide +kernel
theorem dX5_digest_54 : decode cX5_digest 54 = .ok (.aload_n 0, 1) := by decide +kernel
theorem dX5_digest_55 : decode cX5_digest 55 = .ok (.iload 4, 2) := by decide +kernel
theorem dX5_digest_57 : decode cX5_digest 57 = .ok (.invokevirtual 238, 3) := by decide +kernel
theorem dX5_digest_60 : decode cX5_digest 60 = .ok (.i2l, 1) := by decide +kernel
theorem dX5_digest_61 : decode cX5_digest 61 = .ok (.invokestatic 234, 3) := by decide +kernel
theorem dX5_digest_64 : decode cX5_digest 64 = .ok (.lstore_n 1, 1) := by decide +kernel
theorem dX5_digest_65 : decode cX5_digest 65 = .ok (.lload_n 1, 1) := by decide +kernel
theorem dX5_digest_66 : decode cX5_digest 66 = .ok (.aload_n 0, 1) := by decide +kernel
theorem dX5_digest_67 : decode cX5_digest 67 = .ok (.iload 4, 2) := by decide +kernel
theorem dX5_digest_69 : decode cX5_digest 69 = .ok (.invokevirtual 241, 3) := by decide +kernel
theorem dX5_digest_72 : decode cX5_digest 72 = .ok (.i2l, 1) := by decide +kernel
theorem dX5_digest_73 : decode cX5_digest 73 = .ok (.invokestatic 234, 3) := by decide +kernel
theorem dX5_digest_76 : decode cX5_digest 76 = .ok (.lstore_n 1, 1) := by decide +kernel
theorem dX5_digest_77 : decode cX5_digest 77 = .ok (.iconst 0, 1) := by decide +kernel
theorem dX5_digest_78 : decode cX5_digest 78 = .ok (.istore 5, 2) := by decide +kernel
theorem dX5_digest_80 : decode cX5_digest 80 = .ok (.iload 5, 2) := by decide +kernel
theorem dX5_digest_82 : decode cX5_digest 82 = .ok (.iconst 3, 1) := by decide +kernel
theorem dX5_digest_83 : decode cX5_digest 83 = .ok (.if_icmp .ge 23, 3) := by decide +kernel
theorem dX5_digest_86 : decode cX5_digest 86 = .ok (.lload_n 1, 1) := by decide +kernel
theorem dX5_digest_87 : decode cX5_digest 87 = .ok (.aload_n 0, 1) := by decide +kernel
theorem dX5_digest_88 : decode cX5_digest 88 = .ok (.iload 4, 2) := by decide +kernel
theorem dX5_digest_90 : decode cX5_digest 90 = .ok (.iload 5, 2) := by decide +kernel
theorem dX5_digest_92 : decode cX5_digest 92 = .ok (.invokevirtual 244, 3) := by decide +kernel
theorem dX5_digest_95 : decode cX5_digest 95 = .ok (.i2l, 1) := by decide +kernel
theorem dX5_digest_96 : decode cX5_digest 96 = .ok (.invokestatic 234, 3) := by decide +kernel
theorem dX5_digest_99 : decode cX5_digest 99 = .ok (.lstore_n 1, 1) := by decide +kernel
theorem dX5_digest_100 : decode cX5_digest 100 = .ok (.iinc 5 1, 3) := by decide +kernel
theorem dX5_digest_103 : decode cX5_digest 103 = .ok (.goto (-23), 3) := by decide +kernel
theorem dX5_digest_106 : decode cX5_digest 106 = .ok (.lload_n 1, 1) := by decide +kernel
theorem dX5_digest_107 : decode cX5_digest 107 = .ok (.aload_n 0, 1) := by decide +kernel
theorem dX5_digest_108 : decode cX5_digest 108 = .ok (.iload 4, 2) := by decide +kernel
theorem dX5_digest_110 : decode cX5_digest 110 = .ok (.iconst 0, 1) := by decide +kernel
theorem dX5_digest_111 : decode cX5_digest 111 = .ok (.invokevirtual 247, 3) := by decide +kernel
theorem dX5_digest_114 : decode cX5_digest 114 = .ok (.i2l, 1) := by decide +kernel
theorem dX5_digest_115 : decode cX5_digest 115 = .ok (.invokestatic 234, 3) := by decide +kernel
theorem dX5_digest_118 : decode cX5_digest 118 = .ok (.lstore_n 1, 1) := by decide +kernel
theorem dX5_digest_119 : decode cX5_digest 119 = .ok (.lload_n 1, 1) := by decide +kernel
theorem dX5_digest_120 : decode cX5_digest 120 = .ok (.aload_n 0, 1) := by decide +kernel
theorem dX5_digest_121 : decode cX5_digest 121 = .ok (.iconst 0, 1) := by decide +kernel
theorem dX5_digest_122 : decode cX5_digest 122 = .ok (.iload_n 3, 1) := by decide +kernel
theorem dX5_digest_123 : decode cX5_digest 123 = .ok (.iload 4, 2) := by decide +kernel
theorem dX5_digest_125 : decode cX5_digest 125 = .ok (.iconst 0, 1) := by decide +kernel
theorem dX5_digest_126 : decode cX5_digest 126 = .ok (.invokevirtual 250, 3) := by decide +kernel
theorem dX5_digest_129 : decode cX5_digest 129 = .ok (.i2l, 1) := by decide +kernel
theorem dX5_digest_130 : decode cX5_digest 130 = .ok (.invokestatic 234, 3) := by decide +kernel
theorem dX5_digest_133 : decode cX5_digest 133 = .ok (.lstore_n 1, 1) := by decide +kernel
theorem dX5_digest_134 : decode cX5_digest 134 = .ok (.iinc 4 1, 3) := by decide +kernel
theorem dX5_digest_137 : decode cX5_digest 137 = .ok (.goto (-96), 3) := by decide +kernel
theorem dX5_digest_140 : decode cX5_digest 140 = .ok (.iconst 0, 1) := by decide +kernel
theorem dX5_digest_141 : decode cX5_digest 141 = .ok (.istore 4, 2) := by decide +kernel
theorem dX5_digest_143 : decode cX5_digest 143 = .ok (.iload 4, 2) := by decide +kernel
theorem dX5_digest_145 : decode cX5_digest 145 = .ok (.bipush 6, 2) := by decide +kernel
theorem dX5_digest_147 : decode cX5_digest 147 = .ok (.if_icmp .ge 21, 3) := by decide +kernel
theorem dX5_digest_150 : decode cX5_digest 150 = .ok (.lload_n 1, 1) := by decide +kernel
theorem dX5_digest_151 : decode cX5_digest 151 = .ok (.aload_n 0, 1) := by decide +kernel
theorem dX5_digest_152 : decode cX5_digest 152 = .ok (.iload 4, 2) := by decide +kernel
theorem dX5_digest_154 : decode cX5_digest 154 = .ok (.invokevirtual 254, 3) := by decide +kernel
theorem dX5_digest_157 : decode cX5_digest 157 = .ok (.i2l, 1) := by decide +kernel
theorem dX5_digest_158 : decode cX5_digest 158 = .ok (.invokestatic 234, 3) := by decide +kernel
theorem dX5_digest_161 : decode cX5_digest 161 = .ok (.lstore_n 1, 1) := by decide +kernel
theorem dX5_digest_162 : decode cX5_digest 162 = .ok (.iinc 4 1, 3) := by decide +kernel
theorem dX5_digest_165 : decode cX5_digest 165 = .ok (.goto (-22), 3) := by decide +kernel
theorem dX5_digest_168 : decode cX5_digest 168 = .ok (.aload_n 0, 1) := by decide +kernel
theorem dX5_digest_169 : decode cX5_digest 169 = .ok (.invokevirtual 65, 3) := by decide +kernel
theorem dX5_digest_172 : decode cX5_digest 172 = .ok (.iconst 2, 1) := by decide +kernel
theorem dX5_digest_173 : decode cX5_digest 173 = .ok (.idiv, 1) := by decide +kernel
theorem dX5_digest_174 : decode cX5_digest 174 = .ok (.istore 4, 2) := by decide +kernel
theorem dX5_digest_176 : decode cX5_digest 176 = .ok (.iconst 0, 1) := by decide +kernel
theorem dX5_digest_177 : decode cX5_digest 177 = .ok (.istore 5, 2) := by decide +kernel
theorem dX5_digest_179 : decode cX5_digest 179 = .ok (.iload 5, 2) := by decide +kernel
theorem dX5_digest_181 : decode cX5_digest 181 = .ok (.aload_n 0, 1) := by decide +kernel
theorem dX5_digest_182 : decode cX5_digest 182 = .ok (.getfield 10, 3) := by decide +kernel
theorem dX5_digest_185 : decode cX5_digest 185 = .ok (.invokevirtual 79, 3) := by decide +kernel
theorem dX5_digest_188 : decode cX5_digest 188 = .ok (.if_icmp .ge 23, 3) := by decide +kernel
theorem dX5_digest_191 : decode cX5_digest 191 = .ok (.lload_n 1, 1) := by decide +kernel
theorem dX5_digest_192 : decode cX5_digest 192 = .ok (.aload_n 0, 1) := by decide +kernel
theorem dX5_digest_193 : decode cX5_digest 193 = .ok (.iload 4, 2) := by decide +kernel
theorem dX5_digest_195 : decode cX5_digest 195 = .ok (.iload 5, 2) := by decide +kernel
theorem dX5_digest_197 : decode cX5_digest 197 = .ok (.invokevirtual 257, 3) := by decide +kernel
theorem dX5_digest_200 : decode cX5_digest 200 = .ok (.i2l, 1) := by decide +kernel
theorem dX5_digest_201 : decode cX5_digest 201 = .ok (.invokestatic 234, 3) := by decide +kernel
theorem dX5_digest_204 : decode cX5_digest 204 = .ok (.lstore_n 1, 1) := by decide +kernel
theorem dX5_digest_205 : decode cX5_digest 205 = .ok (.iinc 5 1, 3) := by decide +kernel
theorem dX5_digest_208 : decode cX5_digest 208 = .ok (.goto (-29), 3) := by decide +kernel
theorem dX5_digest_211 : decode cX5_digest 211 = .ok (.lload_n 1, 1) := by decide +kernel
theorem dX5_digest_212 : decode cX5_digest 212 = .ok (.aload_n 0, 1) := by decide +kernel
theorem dX5_digest_213 : decode cX5_digest 213 = .ok (.iload 4, 2) := by decide +kernel
theorem dX5_digest_215 : decode cX5_digest 215 = .ok (.invokevirtual 260, 3) := by decide +kernel
theorem dX5_digest_218 : decode cX5_digest 218 = .ok (.i2l, 1) := by decide +kernel
theorem dX5_digest_219 : decode cX5_digest 219 = .ok (.invokestatic 234, 3) := by decide +kernel
theorem dX5_digest_222 : decode cX5_digest 222 = .ok (.lstore_n 1, 1) := by decide +kernel
theorem dX5_digest_223 : decode cX5_digest 223 = .ok (.iconst 0, 1) := by decide +kernel
theorem dX5_digest_224 : decode cX5_digest 224 = .ok (.istore 5, 2) := by decide +kernel
theorem dX5_digest_226 : decode cX5_digest 226 = .ok (.iload 5, 2) := by decide +kernel
theorem dX5_digest_228 : decode cX5_digest 228 = .ok (.iconst 3, 1) := by decide +kernel
theorem dX5_digest_229 : decode cX5_digest 229 = .ok (.if_icmp .ge 21, 3) := by decide +kernel
theorem dX5_digest_232 : decode cX5_digest 232 = .ok (.lload_n 1, 1) := by decide +kernel
theorem dX5_digest_233 : decode cX5_digest 233 = .ok (.aload_n 0, 1) := by decide +kernel
theorem dX5_digest_234 : decode cX5_digest 234 = .ok (.iload 5, 2) := by decide +kernel
theorem dX5_digest_236 : decode cX5_digest 236 = .ok (.invokevirtual 263, 3) := by decide +kernel
theorem dX5_digest_239 : decode cX5_digest 239 = .ok (.i2l, 1) := by decide +kernel
theorem dX5_digest_240 : decode cX5_digest 240 = .ok (.invokestatic 234, 3) := by decide +kernel
theorem dX5_digest_243 : decode cX5_digest 243 = .ok (.lstore_n 1, 1) := by decide +kernel
theorem dX5_digest_244 : decode cX5_digest 244 = .ok (.iinc 5 1, 3) := by decide +kernel
theorem dX5_digest_247 : decode cX5_digest 247 = .ok (.goto (-21), 3) := by decide +kernel
theorem dX5_digest_250 : decode cX5_digest 250 = .ok (.lload_n 1, 1) := by decide +kernel
theorem dX5_digest_251 : decode cX5_digest 251 = .ok (.aload_n 0, 1) := by decide +kernel
theorem dX5_digest_252 : decode cX5_digest 252 = .ok (.invokevirtual 266, 3) := by decide +kernel
theorem dX5_digest_255 : decode cX5_digest 255 = .ok (.invokestatic 270, 3) := by decide +kernel
theorem dX5_digest_258 : decode cX5_digest 258 = .ok (.invokestatic 234, 3) := by decide +kernel
theorem dX5_digest_261 : decode cX5_digest 261 = .ok (.lstore_n 1, 1) := by decide +kernel
theorem dX5_digest_262 : decode cX5_digest 262 = .ok (.lload_n 1, 1) := by decide +kernel
theorem dX5_digest_263 : decode cX5_digest 263 = .ok (.aload_n 0, 1) := by decide +kernel
theorem dX5_digest_264 : decode cX5_digest 264 = .ok (.getfield 39, 3) := by decide +kernel
theorem dX5_digest_267 : decode cX5_digest 267 = .ok (.invokevirtual 143, 3) := by decide +kernel
theorem dX5_digest_270 : decode cX5_digest 270 = .ok (.i2l, 1) := by decide +kernel
theorem dX5_digest_271 : decode cX5_digest 271 = .ok (.invokestatic 234, 3) := by decide +kernel
theorem dX5_digest_274 : decode cX5_digest 274 = .ok (.lstore_n 1, 1) := by decide +kernel
theorem dX5_digest_275 : decode cX5_digest 275 = .ok (.iconst 0, 1) := by decide +kernel
theorem dX5_digest_276 : decode cX5_digest 276 = .ok (.istore 5, 2) := by decide +kernel
theorem dX5_digest_278 : decode cX5_digest 278 = .ok (.iload 5, 2) := by decide +kernel
theorem dX5_digest_280 : decode cX5_digest 280 = .ok (.aload_n 0, 1) := by decide +kernel
theorem dX5_digest_281 : decode cX5_digest 281 = .ok (.getfield 39, 3) := by decide +kernel
theorem dX5_digest_284 : decode cX5_digest 284 = .ok (.invokevirtual 143, 3) := by decide +kernel
theorem dX5_digest_287 : decode cX5_digest 287 = .ok (.if_icmp .ge 24, 3) := by decide +kernel
theorem dX5_digest_290 : decode cX5_digest 290 = .ok (.lload_n 1, 1) := by decide +kernel
theorem dX5_digest_291 : decode cX5_digest 291 = .ok (.aload_n 0, 1) := by decide +kernel
theorem dX5_digest_292 : decode cX5_digest 292 = .ok (.getfield 39, 3) := by decide +kernel
theorem dX5_digest_295 : decode cX5_digest 295 = .ok (.iload 5, 2) := by decide +kernel
theorem dX5_digest_297 : decode cX5_digest 297 = .ok (.invokevirtual 274, 3) := by decide +kernel
theorem dX5_digest_300 : decode cX5_digest 300 = .ok (.i2l, 1) := by decide +kernel
theorem dX5_digest_301 : decode cX5_digest 301 = .ok (.invokestatic 234, 3) := by decide +kernel
theorem dX5_digest_304 : decode cX5_digest 304 = .ok (.lstore_n 1, 1) := by decide +kernel
theorem dX5_digest_305 : decode cX5_digest 305 = .ok (.iinc 5 1, 3) := by decide +kernel
theorem dX5_digest_308 : decode cX5_digest 308 = .ok (.goto (-30), 3) := by decide +kernel
theorem dX5_digest_311 : decode cX5_digest 311 = .ok (.lload_n 1, 1) := by decide +kernel
theorem dX5_digest_312 : decode cX5_digest 312 = .ok (.lreturn, 1) := by decide +kernel
theorem dX5_need_0 : decode cX5_need 0 = .ok (.iload_n 0, 1) := by decide +kernel
theorem dX5_need_1 : decode cX5_need 1 = .ok (.ifCond .ne 14, 3) := by decide +kernel
theorem dX5_need_4 : decode cX5_need 4 = .ok (.new 97, 3) := by decide +kernel
theorem dX5_need_7 : decode cX5_need 7 = .ok (.dup, 1) := by decide +kernel
theorem dX5_need_8 : decode cX5_need 8 = .ok (.ldc_w 275, 3) := by decide +kernel
theorem dX5_need_11 : decode cX5_need 11 = .ok (.invokespecial 101, 3) := by decide +kernel
theorem dX5_need_14 : decode cX5_need 14 = .ok (.athrow, 1) := by decide +kernel
theorem dX5_need_15 : decode cX5_need 15 = .ok (.return_, 1) := by decide +kernel
theorem dX5_needPlace_0 : decode cX5_needPlace 0 = .ok (.aload_n 0, 1) := by decide +kernel
theorem dX5_needPlace_1 : decode cX5_needPlace 1 = .ok (.getfield 10, 3) := by decide +kernel
theorem dX5_needPlace_4 : decode cX5_needPlace 4 = .ok (.iload_n 1, 1) := by decide +kernel
theorem dX5_needPlace_5 : decode cX5_needPlace 5 = .ok (.invokevirtual 277, 3) := by decide +kernel
theorem dX5_needPlace_8 : decode cX5_needPlace 8 = .ok (.ifCond .ne 13, 3) := by decide +kernel
theorem dX5_needPlace_11 : decode cX5_needPlace 11 = .ok (.new 122, 3) := by decide +kernel
theorem dX5_needPlace_14 : decode cX5_needPlace 14 = .ok (.dup, 1) := by decide +kernel
theorem dX5_needPlace_15 : decode cX5_needPlace 15 = .ok (.ldc 124, 2) := by decide +kernel
theorem dX5_needPlace_17 : decode cX5_needPlace 17 = .ok (.invokespecial 126, 3) := by decide +kernel
theorem dX5_needPlace_20 : decode cX5_needPlace 20 = .ok (.athrow, 1) := by decide +kernel
theorem dX5_needPlace_21 : decode cX5_needPlace 21 = .ok (.return_, 1) := by decide +kernel
theorem dX5_needSign_0 : decode cX5_needSign 0 = .ok (.iload_n 0, 1) := by decide +kernel
theorem dX5_needSign_1 : decode cX5_needSign 1 = .ok (.ifCond .lt 13, 3) := by decide +kernel
theorem dX5_needSign_4 : decode cX5_needSign 4 = .ok (.iload_n 0, 1) := by decide +kernel
theorem dX5_needSign_5 : decode cX5_needSign 5 = .ok (.bipush 6, 2) := by decide +kernel
theorem dX5_needSign_7 : decode cX5_needSign 7 = .ok (.if_icmp .ge 7, 3) := by decide +kernel
theorem dX5_needSign_10 : decode cX5_needSign 10 = .ok (.iconst 1, 1) := by decide +kernel
theorem dX5_needSign_11 : decode cX5_needSign 11 = .ok (.goto 4, 3) := by decide +kernel
theorem dX5_needSign_14 : decode cX5_needSign 14 = .ok (.iconst 0, 1) := by decide +kernel
theorem dX5_needSign_15 : decode cX5_needSign 15 = .ok (.invokestatic 112, 3) := by decide +kernel
theorem dX5_needSign_18 : decode cX5_needSign 18 = .ok (.return_, 1) := by decide +kernel
theorem dX5_needRank_0 : decode cX5_needRank 0 = .ok (.iload_n 1, 1) := by decide +kernel
theorem dX5_needRank_1 : decode cX5_needRank 1 = .ok (.ifCond .lt 15, 3) := by decide +kernel
theorem dX5_needRank_4 : decode cX5_needRank 4 = .ok (.iload_n 1, 1) := by decide +kernel
theorem dX5_needRank_5 : decode cX5_needRank 5 = .ok (.aload_n 0, 1) := by decide +kernel
theorem dX5_needRank_6 : decode cX5_needRank 6 = .ok (.invokevirtual 65, 3) := by decide +kernel
theorem dX5_needRank_9 : decode cX5_needRank 9 = .ok (.if_icmp .ge 7, 3) := by decide +kernel
theorem dX5_needRank_12 : decode cX5_needRank 12 = .ok (.iconst 1, 1) := by decide +kernel
theorem dX5_needRank_13 : decode cX5_needRank 13 = .ok (.goto 4, 3) := by decide +kernel
theorem dX5_needRank_16 : decode cX5_needRank 16 = .ok (.iconst 0, 1) := by decide +kernel
theorem dX5_needRank_17 : decode cX5_needRank 17 = .ok (.invokestatic 112, 3) := by decide +kernel
theorem dX5_needRank_20 : decode cX5_needRank 20 = .ok (.return_, 1) := by decide +kernel
theorem dX5_save_0 : decode cX5_save 0 = .ok (.aload_n 0, 1) := by decide +kernel
theorem dX5_save_1 : decode cX5_save 1 = .ok (.getfield 46, 3) := by decide +kernel
theorem dX5_save_4 : decode cX5_save 4 = .ok (.aload_n 0, 1) := by decide +kernel
theorem dX5_save_5 : decode cX5_save 5 = .ok (.getfield 10, 3) := by decide +kernel
theorem dX5_save_8 : decode cX5_save 8 = .ok (.aload_n 0, 1) := by decide +kernel
theorem dX5_save_9 : decode cX5_save 9 = .ok (.getfield 167, 3) := by decide +kernel
theorem dX5_save_12 : decode cX5_save 12 = .ok (.invokevirtual 280, 3) := by decide +kernel
theorem dX5_save_15 : decode cX5_save 15 = .ok (.return_, 1) := by decide +kernel
theorem dX5_goToRank_0 : decode cX5_goToRank 0 = .ok (.aload_n 0, 1) := by decide +kernel
theorem dX5_goToRank_1 : decode cX5_goToRank 1 = .ok (.iload_n 1, 1) := by decide +kernel
theorem dX5_goToRank_2 : decode cX5_goToRank 2 = .ok (.invokevirtual 213, 3) := by decide +kernel
theorem dX5_goToRank_5 : decode cX5_goToRank 5 = .ok (.aload_n 0, 1) := by decide +kernel
theorem dX5_goToRank_6 : decode cX5_goToRank 6 = .ok (.getfield 10, 3) := by decide +kernel
theorem dX5_goToRank_9 : decode cX5_goToRank 9 = .ok (.aload_n 0, 1) := by decide +kernel
theorem dX5_goToRank_10 : decode cX5_goToRank 10 = .ok (.getfield 16, 3) := by decide +kernel
theorem dX5_goToRank_13 : decode cX5_goToRank 13 = .ok (.invokevirtual 283, 3) := by decide +kernel
theorem dX5_goToRank_16 : decode cX5_goToRank 16 = .ok (.istore_n 2, 1) := by decide +kernel
theorem dX5_goToRank_17 : decode cX5_goToRank 17 = .ok (.aload_n 0, 1) := by decide +kernel
theorem dX5_goToRank_18 : decode cX5_goToRank 18 = .ok (.invokevirtual 94, 3) := by decide +kernel
theorem dX5_goToRank_21 : decode cX5_goToRank 21 = .ok (.pop, 1) := by decide +kernel
theorem dX5_goToRank_22 : decode cX5_goToRank 22 = .ok (.iload_n 2, 1) := by decide +kernel
theorem dX5_goToRank_23 : decode cX5_goToRank 23 = .ok (.ireturn, 1) := by decide +kernel
theorem dX5_arrive_0 : decode cX5_arrive 0 = .ok (.aload_n 0, 1) := by decide +kernel
theorem dX5_arrive_1 : decode cX5_arrive 1 = .ok (.invokevirtual 105, 3) := by decide +kernel
theorem dX5_arrive_4 : decode cX5_arrive 4 = .ok (.aload_n 0, 1) := by decide +kernel
theorem dX5_arrive_5 : decode cX5_arrive 5 = .ok (.getfield 10, 3) := by decide +kernel
theorem dX5_arrive_8 : decode cX5_arrive 8 = .ok (.aload_n 0, 1) := by decide +kernel
theorem dX5_arrive_9 : decode cX5_arrive 9 = .ok (.getfield 16, 3) := by decide +kernel
theorem dX5_arrive_12 : decode cX5_arrive 12 = .ok (.invokevirtual 220, 3) := by decide +kernel
theorem dX5_arrive_15 : decode cX5_arrive 15 = .ok (.aload_n 0, 1) := by decide +kernel
theorem dX5_arrive_16 : decode cX5_arrive 16 = .ok (.dup, 1) := by decide +kernel
theorem dX5_arrive_17 : decode cX5_arrive 17 = .ok (.getfield 167, 3) := by decide +kernel
theorem dX5_arrive_20 : decode cX5_arrive 20 = .ok (.iconst 1, 1) := by decide +kernel
theorem dX5_arrive_21 : decode cX5_arrive 21 = .ok (.iadd, 1) := by decide +kernel
theorem dX5_arrive_22 : decode cX5_arrive 22 = .ok (.putfield 167, 3) := by decide +kernel
theorem dX5_arrive_25 : decode cX5_arrive 25 = .ok (.aload_n 0, 1) := by decide +kernel
theorem dX5_arrive_26 : decode cX5_arrive 26 = .ok (.aload_n 0, 1) := by decide +kernel
theorem dX5_arrive_27 : decode cX5_arrive 27 = .ok (.getfield 10, 3) := by decide +kernel
theorem dX5_arrive_30 : decode cX5_arrive 30 = .ok (.invokevirtual 57, 3) := by decide +kernel
theorem dX5_arrive_33 : decode cX5_arrive 33 = .ok (.ireturn, 1) := by decide +kernel
theorem dX5_carryOne_0 : decode cX5_carryOne 0 = .ok (.iload_n 1, 1) := by decide +kernel
theorem dX5_carryOne_1 : decode cX5_carryOne 1 = .ok (.aload_n 0, 1) := by decide +kernel
theorem dX5_carryOne_2 : decode cX5_carryOne 2 = .ok (.getfield 10, 3) := by decide +kernel
theorem dX5_carryOne_5 : decode cX5_carryOne 5 = .ok (.invokevirtual 79, 3) := by decide +kernel
theorem dX5_carryOne_8 : decode cX5_carryOne 8 = .ok (.iconst 1, 1) := by decide +kernel
theorem dX5_carryOne_9 : decode cX5_carryOne 9 = .ok (.isub, 1) := by decide +kernel
theorem dX5_carryOne_10 : decode cX5_carryOne 10 = .ok (.if_icmp .ge 18, 3) := by decide +kernel
theorem dX5_carryOne_13 : decode cX5_carryOne 13 = .ok (.aload_n 0, 1) := by decide +kernel
theorem dX5_carryOne_14 : decode cX5_carryOne 14 = .ok (.getfield 10, 3) := by decide +kernel
theorem dX5_carryOne_17 : decode cX5_carryOne 17 = .ok (.iload_n 1, 1) := by decide +kernel
theorem dX5_carryOne_18 : decode cX5_carryOne 18 = .ok (.iload_n 1, 1) := by decide +kernel
theorem dX5_carryOne_19 : decode cX5_carryOne 19 = .ok (.iconst 1, 1) := by decide +kernel
theorem dX5_carryOne_20 : decode cX5_carryOne 20 = .ok (.iadd, 1) := by decide +kernel
theorem dX5_carryOne_21 : decode cX5_carryOne 21 = .ok (.invokevirtual 108, 3) := by decide +kernel
theorem dX5_carryOne_24 : decode cX5_carryOne 24 = .ok (.iload_n 1, 1) := by decide +kernel
theorem dX5_carryOne_25 : decode cX5_carryOne 25 = .ok (.iconst 1, 1) := by decide +kernel
theorem dX5_carryOne_26 : decode cX5_carryOne 26 = .ok (.iadd, 1) := by decide +kernel
theorem dX5_carryOne_27 : decode cX5_carryOne 27 = .ok (.ireturn, 1) := by decide +kernel
theorem dX5_carryOne_28 : decode cX5_carryOne 28 = .ok (.aload_n 0, 1) := by decide +kernel
theorem dX5_carryOne_29 : decode cX5_carryOne 29 = .ok (.getfield 10, 3) := by decide +kernel
theorem dX5_carryOne_32 : decode cX5_carryOne 32 = .ok (.invokevirtual 286, 3) := by decide +kernel
theorem dX5_carryOne_35 : decode cX5_carryOne 35 = .ok (.iconst 0, 1) := by decide +kernel
theorem dX5_carryOne_36 : decode cX5_carryOne 36 = .ok (.ireturn, 1) := by decide +kernel
theorem dX5_all_0 : decode cX5_all 0 = .ok (.aload_n 0, 1) := by decide +kernel
theorem dX5_all_1 : decode cX5_all 1 = .ok (.iconst 0, 1) := by decide +kernel
theorem dX5_all_2 : decode cX5_all 2 = .ok (.invokevirtual 185, 3) := by decide +kernel
theorem dX5_all_5 : decode cX5_all 5 = .ok (.ireturn, 1) := by decide +kernel
theorem dX5_unlikeSigns_0 : decode cX5_unlikeSigns 0 = .ok (.aload_n 0, 1) := by decide +kernel
theorem dX5_unlikeSigns_1 : decode cX5_unlikeSigns 1 = .ok (.getfield 25, 3) := by decide +kernel
theorem dX5_unlikeSigns_4 : decode cX5_unlikeSigns 4 = .ok (.aload_n 0, 1) := by decide +kernel
theorem dX5_unlikeSigns_5 : decode cX5_unlikeSigns 5 = .ok (.getfield 10, 3) := by decide +kernel
theorem dX5_unlikeSigns_8 : decode cX5_unlikeSigns 8 = .ok (.iconst 0, 1) := by decide +kernel
theorem dX5_unlikeSigns_9 : decode cX5_unlikeSigns 9 = .ok (.invokevirtual 171, 3) := by decide +kernel
theorem dX5_unlikeSigns_12 : decode cX5_unlikeSigns 12 = .ok (.aload_n 0, 1) := by decide +kernel
theorem dX5_unlikeSigns_13 : decode cX5_unlikeSigns 13 = .ok (.getfield 25, 3) := by decide +kernel
theorem dX5_unlikeSigns_16 : decode cX5_unlikeSigns 16 = .ok (.bipush 6, 2) := by decide +kernel
theorem dX5_unlikeSigns_18 : decode cX5_unlikeSigns 18 = .ok (.invokevirtual 175, 3) := by decide +kernel
theorem dX5_unlikeSigns_21 : decode cX5_unlikeSigns 21 = .ok (.ireturn, 1) := by decide +kernel
theorem dX5_blockSize_0 : decode cX5_blockSize 0 = .ok (.aload_n 0, 1) := by decide +kernel
theorem dX5_blockSize_1 : decode cX5_blockSize 1 = .ok (.getfield 25, 3) := by decide +kernel
theorem dX5_blockSize_4 : decode cX5_blockSize 4 = .ok (.aload_n 0, 1) := by decide +kernel
theorem dX5_blockSize_5 : decode cX5_blockSize 5 = .ok (.getfield 10, 3) := by decide +kernel
theorem dX5_blockSize_8 : decode cX5_blockSize 8 = .ok (.iload_n 1, 1) := by decide +kernel
theorem dX5_blockSize_9 : decode cX5_blockSize 9 = .ok (.invokevirtual 171, 3) := by decide +kernel
theorem dX5_blockSize_12 : decode cX5_blockSize 12 = .ok (.aload_n 0, 1) := by decide +kernel
theorem dX5_blockSize_13 : decode cX5_blockSize 13 = .ok (.getfield 25, 3) := by decide +kernel
theorem dX5_blockSize_16 : decode cX5_blockSize 16 = .ok (.invokevirtual 289, 3) := by decide +kernel
theorem dX5_blockSize_19 : decode cX5_blockSize 19 = .ok (.ireturn, 1) := by decide +kernel
theorem dX5_rankOf_0 : decode cX5_rankOf 0 = .ok (.aload_n 0, 1) := by decide +kernel
theorem dX5_rankOf_1 : decode cX5_rankOf 1 = .ok (.aload_n 1, 1) := by decide +kernel
theorem dX5_rankOf_2 : decode cX5_rankOf 2 = .ok (.aload_n 1, 1) := by decide +kernel
theorem dX5_rankOf_3 : decode cX5_rankOf 3 = .ok (.invokevirtual 79, 3) := by decide +kernel
theorem dX5_rankOf_6 : decode cX5_rankOf 6 = .ok (.invokevirtual 181, 3) := by decide +kernel
theorem dX5_rankOf_9 : decode cX5_rankOf 9 = .ok (.ireturn, 1) := by decide +kernel
theorem dX5_lowestRank_0 : decode cX5_lowestRank 0 = .ok (.aload_n 0, 1) := by decide +kernel
theorem dX5_lowestRank_1 : decode cX5_lowestRank 1 = .ok (.getfield 25, 3) := by decide +kernel
theorem dX5_lowestRank_4 : decode cX5_lowestRank 4 = .ok (.aload_n 1, 1) := by decide +kernel
theorem dX5_lowestRank_5 : decode cX5_lowestRank 5 = .ok (.iconst 0, 1) := by decide +kernel
theorem dX5_lowestRank_6 : decode cX5_lowestRank 6 = .ok (.invokevirtual 171, 3) := by decide +kernel
theorem dX5_lowestRank_9 : decode cX5_lowestRank 9 = .ok (.aload_n 0, 1) := by decide +kernel
theorem dX5_lowestRank_10 : decode cX5_lowestRank 10 = .ok (.getfield 25, 3) := by decide +kernel
theorem dX5_lowestRank_13 : decode cX5_lowestRank 13 = .ok (.invokevirtual 289, 3) := by decide +kernel
theorem dX5_lowestRank_16 : decode cX5_lowestRank 16 = .ok (.istore_n 3, 1) := by decide +kernel
theorem dX5_lowestRank_17 : decode cX5_lowestRank 17 = .ok (.iconst 0, 1) := by decide +kernel
theorem dX5_lowestRank_18 : decode cX5_lowestRank 18 = .ok (.istore 4, 2) := by decide +kernel
theorem dX5_lowestRank_20 : decode cX5_lowestRank 20 = .ok (.iconst 0, 1) := by decide +kernel
theorem dX5_lowestRank_21 : decode cX5_lowestRank 21 = .ok (.istore 5, 2) := by decide +kernel
theorem dX5_lowestRank_23 : decode cX5_lowestRank 23 = .ok (.iload 5, 2) := by decide +kernel
theorem dX5_lowestRank_25 : decode cX5_lowestRank 25 = .ok (.iload_n 2, 1) := by decide +kernel
theorem dX5_lowestRank_26 : decode cX5_lowestRank 26 = .ok (.if_icmp .ge 72, 3) := by decide +kernel
theorem dX5_lowestRank_29 : decode cX5_lowestRank 29 = .ok (.aload_n 1, 1) := by decide +kernel
theorem dX5_lowestRank_30 : decode cX5_lowestRank 30 = .ok (.iload 5, 2) := by decide +kernel
theorem dX5_lowestRank_32 : decode cX5_lowestRank 32 = .ok (.invokevirtual 137, 3) := by decide +kernel
theorem dX5_lowestRank_35 : decode cX5_lowestRank 35 = .ok (.istore 6, 2) := by decide +kernel
theorem dX5_lowestRank_37 : decode cX5_lowestRank 37 = .ok (.iload 4, 2) := by decide +kernel
theorem dX5_lowestRank_39 : decode cX5_lowestRank 39 = .ok (.iload_n 3, 1) := by decide +kernel
theorem dX5_lowestRank_40 : decode cX5_lowestRank 40 = .ok (.aload_n 0, 1) := by decide +kernel
theorem dX5_lowestRank_41 : decode cX5_lowestRank 41 = .ok (.getfield 25, 3) := by decide +kernel
theorem dX5_lowestRank_44 : decode cX5_lowestRank 44 = .ok (.iload 6, 2) := by decide +kernel
theorem dX5_lowestRank_46 : decode cX5_lowestRank 46 = .ok (.invokevirtual 292, 3) := by decide +kernel
theorem dX5_lowestRank_49 : decode cX5_lowestRank 49 = .ok (.aload_n 0, 1) := by decide +kernel
theorem dX5_lowestRank_50 : decode cX5_lowestRank 50 = .ok (.getfield 25, 3) := by decide +kernel
theorem dX5_lowestRank_53 : decode cX5_lowestRank 53 = .ok (.invokevirtual 295, 3) := by decide +kernel
theorem dX5_lowestRank_56 : decode cX5_lowestRank 56 = .ok (.invokestatic 298, 3) := by decide +kernel
theorem dX5_lowestRank_59 : decode cX5_lowestRank 59 = .ok (.iadd, 1) := by decide +kernel
theorem dX5_lowestRank_60 : decode cX5_lowestRank 60 = .ok (.istore 4, 2) := by decide +kernel
theorem dX5_lowestRank_62 : decode cX5_lowestRank 62 = .ok (.iload_n 3, 1) := by decide +kernel
theorem dX5_lowestRank_63 : decode cX5_lowestRank 63 = .ok (.aload_n 0, 1) := by decide +kernel
theorem dX5_lowestRank_64 : decode cX5_lowestRank 64 = .ok (.getfield 25, 3) := by decide +kernel
theorem dX5_lowestRank_67 : decode cX5_lowestRank 67 = .ok (.iload 6, 2) := by decide +kernel
theorem dX5_lowestRank_69 : decode cX5_lowestRank 69 = .ok (.invokevirtual 178, 3) := by decide +kernel
theorem dX5_lowestRank_72 : decode cX5_lowestRank 72 = .ok (.aload_n 0, 1) := by decide +kernel
theorem dX5_lowestRank_73 : decode cX5_lowestRank 73 = .ok (.getfield 25, 3) := by decide +kernel
theorem dX5_lowestRank_76 : decode cX5_lowestRank 76 = .ok (.invokevirtual 295, 3) := by decide +kernel
theorem dX5_lowestRank_79 : decode cX5_lowestRank 79 = .ok (.invokestatic 298, 3) := by decide +kernel
theorem dX5_lowestRank_82 : decode cX5_lowestRank 82 = .ok (.istore_n 3, 1) := by decide +kernel
theorem dX5_lowestRank_83 : decode cX5_lowestRank 83 = .ok (.aload_n 0, 1) := by decide +kernel
theorem dX5_lowestRank_84 : decode cX5_lowestRank 84 = .ok (.getfield 25, 3) := by decide +kernel
theorem dX5_lowestRank_87 : decode cX5_lowestRank 87 = .ok (.iload 6, 2) := by decide +kernel
theorem dX5_lowestRank_89 : decode cX5_lowestRank 89 = .ok (.invokevirtual 301, 3) := by decide +kernel
theorem dX5_lowestRank_92 : decode cX5_lowestRank 92 = .ok (.iinc 5 1, 3) := by decide +kernel
theorem dX5_lowestRank_95 : decode cX5_lowestRank 95 = .ok (.goto (-72), 3) := by decide +kernel
theorem dX5_lowestRank_98 : decode cX5_lowestRank 98 = .ok (.iload 4, 2) := by decide +kernel
theorem dX5_lowestRank_100 : decode cX5_lowestRank 100 = .ok (.ireturn, 1) := by decide +kernel
theorem dX5_rankBySecondWay_0 : decode cX5_rankBySecondWay 0 = .ok (.iconst 0, 1) := by decide +kernel
theorem dX5_rankBySecondWay_1 : decode cX5_rankBySecondWay 1 = .ok (.istore_n 1, 1) := by decide +kernel
theorem dX5_rankBySecondWay_2 : decode cX5_rankBySecondWay 2 = .ok (.iconst 0, 1) := by decide +kernel
theorem dX5_rankBySecondWay_3 : decode cX5_rankBySecondWay 3 = .ok (.istore_n 2, 1) := by decide +kernel
theorem dX5_rankBySecondWay_4 : decode cX5_rankBySecondWay 4 = .ok (.iload_n 2, 1) := by decide +kernel
theorem dX5_rankBySecondWay_5 : decode cX5_rankBySecondWay 5 = .ok (.aload_n 0, 1) := by decide +kernel
theorem dX5_rankBySecondWay_6 : decode cX5_rankBySecondWay 6 = .ok (.getfield 10, 3) := by decide +kernel
theorem dX5_rankBySecondWay_9 : decode cX5_rankBySecondWay 9 = .ok (.invokevirtual 79, 3) := by decide +kernel
theorem dX5_rankBySecondWay_12 : decode cX5_rankBySecondWay 12 = .ok (.if_icmp .ge 52, 3) := by decide +kernel
theorem dX5_rankBySecondWay_15 : decode cX5_rankBySecondWay 15 = .ok (.aload_n 0, 1) := by decide +kernel
theorem dX5_rankBySecondWay_16 : decode cX5_rankBySecondWay 16 = .ok (.getfield 25, 3) := by decide +kernel
theorem dX5_rankBySecondWay_19 : decode cX5_rankBySecondWay 19 = .ok (.aload_n 0, 1) := by decide +kernel
theorem dX5_rankBySecondWay_20 : decode cX5_rankBySecondWay 20 = .ok (.getfield 10, 3) := by decide +kernel
theorem dX5_rankBySecondWay_23 : decode cX5_rankBySecondWay 23 = .ok (.iload_n 2, 1) := by decide +kernel
theorem dX5_rankBySecondWay_24 : decode cX5_rankBySecondWay 24 = .ok (.invokevirtual 171, 3) := by decide +kernel
theorem dX5_rankBySecondWay_27 : decode cX5_rankBySecondWay 27 = .ok (.iconst 0, 1) := by decide +kernel
theorem dX5_rankBySecondWay_28 : decode cX5_rankBySecondWay 28 = .ok (.istore_n 3, 1) := by decide +kernel
theorem dX5_rankBySecondWay_29 : decode cX5_rankBySecondWay 29 = .ok (.iload_n 3, 1) := by decide +kernel
theorem dX5_rankBySecondWay_30 : decode cX5_rankBySecondWay 30 = .ok (.aload_n 0, 1) := by decide +kernel
theorem dX5_rankBySecondWay_31 : decode cX5_rankBySecondWay 31 = .ok (.getfield 10, 3) := by decide +kernel
theorem dX5_rankBySecondWay_34 : decode cX5_rankBySecondWay 34 = .ok (.iload_n 2, 1) := by decide +kernel
theorem dX5_rankBySecondWay_35 : decode cX5_rankBySecondWay 35 = .ok (.invokevirtual 137, 3) := by decide +kernel
theorem dX5_rankBySecondWay_38 : decode cX5_rankBySecondWay 38 = .ok (.if_icmp .ge 20, 3) := by decide +kernel
theorem dX5_rankBySecondWay_41 : decode cX5_rankBySecondWay 41 = .ok (.iload_n 1, 1) := by decide +kernel
theorem dX5_rankBySecondWay_42 : decode cX5_rankBySecondWay 42 = .ok (.aload_n 0, 1) := by decide +kernel
theorem dX5_rankBySecondWay_43 : decode cX5_rankBySecondWay 43 = .ok (.getfield 25, 3) := by decide +kernel
theorem dX5_rankBySecondWay_46 : decode cX5_rankBySecondWay 46 = .ok (.iload_n 3, 1) := by decide +kernel
theorem dX5_rankBySecondWay_47 : decode cX5_rankBySecondWay 47 = .ok (.invokevirtual 304, 3) := by decide +kernel
theorem dX5_rankBySecondWay_50 : decode cX5_rankBySecondWay 50 = .ok (.iadd, 1) := by decide +kernel
theorem dX5_rankBySecondWay_51 : decode cX5_rankBySecondWay 51 = .ok (.istore_n 1, 1) := by decide +kernel
theorem dX5_rankBySecondWay_52 : decode cX5_rankBySecondWay 52 = .ok (.iinc 3 1, 3) := by decide +kernel
theorem dX5_rankBySecondWay_55 : decode cX5_rankBySecondWay 55 = .ok (.goto (-26), 3) := by decide +kernel
theorem dX5_rankBySecondWay_58 : decode cX5_rankBySecondWay 58 = .ok (.iinc 2 1, 3) := by decide +kernel
theorem dX5_rankBySecondWay_61 : decode cX5_rankBySecondWay 61 = .ok (.goto (-57), 3) := by decide +kernel
theorem dX5_rankBySecondWay_64 : decode cX5_rankBySecondWay 64 = .ok (.iload_n 1, 1) := by decide +kernel
theorem dX5_rankBySecondWay_65 : decode cX5_rankBySecondWay 65 = .ok (.ireturn, 1) := by decide +kernel
theorem dX5_rankTurnedAround_0 : decode cX5_rankTurnedAround 0 = .ok (.aload_n 0, 1) := by decide +kernel
theorem dX5_rankTurnedAround_1 : decode cX5_rankTurnedAround 1 = .ok (.getfield 16, 3) := by decide +kernel
theorem dX5_rankTurnedAround_4 : decode cX5_rankTurnedAround 4 = .ok (.aload_n 0, 1) := by decide +kernel
theorem dX5_rankTurnedAround_5 : decode cX5_rankTurnedAround 5 = .ok (.getfield 10, 3) := by decide +kernel
theorem dX5_rankTurnedAround_8 : decode cX5_rankTurnedAround 8 = .ok (.invokevirtual 220, 3) := by decide +kernel
theorem dX5_rankTurnedAround_11 : decode cX5_rankTurnedAround 11 = .ok (.aload_n 0, 1) := by decide +kernel
theorem dX5_rankTurnedAround_12 : decode cX5_rankTurnedAround 12 = .ok (.getfield 16, 3) := by decide +kernel
theorem dX5_rankTurnedAround_15 : decode cX5_rankTurnedAround 15 = .ok (.iconst 0, 1) := by decide +kernel
theorem dX5_rankTurnedAround_16 : decode cX5_rankTurnedAround 16 = .ok (.aload_n 0, 1) := by decide +kernel
theorem dX5_rankTurnedAround_17 : decode cX5_rankTurnedAround 17 = .ok (.getfield 16, 3) := by decide +kernel
theorem dX5_rankTurnedAround_20 : decode cX5_rankTurnedAround 20 = .ok (.invokevirtual 79, 3) := by decide +kernel
theorem dX5_rankTurnedAround_23 : decode cX5_rankTurnedAround 23 = .ok (.iconst 1, 1) := by decide +kernel
theorem dX5_rankTurnedAround_24 : decode cX5_rankTurnedAround 24 = .ok (.isub, 1) := by decide +kernel
theorem dX5_rankTurnedAround_25 : decode cX5_rankTurnedAround 25 = .ok (.invokevirtual 116, 3) := by decide +kernel
theorem dX5_rankTurnedAround_28 : decode cX5_rankTurnedAround 28 = .ok (.aload_n 0, 1) := by decide +kernel
theorem dX5_rankTurnedAround_29 : decode cX5_rankTurnedAround 29 = .ok (.aload_n 0, 1) := by decide +kernel
theorem dX5_rankTurnedAround_30 : decode cX5_rankTurnedAround 30 = .ok (.getfield 16, 3) := by decide +kernel
theorem dX5_rankTurnedAround_33 : decode cX5_rankTurnedAround 33 = .ok (.invokevirtual 57, 3) := by decide +kernel
theorem dX5_rankTurnedAround_36 : decode cX5_rankTurnedAround 36 = .ok (.ireturn, 1) := by decide +kernel
theorem dX5_rankIfExchanged_0 : decode cX5_rankIfExchanged 0 = .ok (.aload_n 0, 1) := by decide +kernel
theorem dX5_rankIfExchanged_1 : decode cX5_rankIfExchanged 1 = .ok (.getfield 16, 3) := by decide +kernel
theorem dX5_rankIfExchanged_4 : decode cX5_rankIfExchanged 4 = .ok (.aload_n 0, 1) := by decide +kernel
theorem dX5_rankIfExchanged_5 : decode cX5_rankIfExchanged 5 = .ok (.getfield 10, 3) := by decide +kernel
theorem dX5_rankIfExchanged_8 : decode cX5_rankIfExchanged 8 = .ok (.invokevirtual 220, 3) := by decide +kernel
theorem dX5_rankIfExchanged_11 : decode cX5_rankIfExchanged 11 = .ok (.aload_n 0, 1) := by decide +kernel
theorem dX5_rankIfExchanged_12 : decode cX5_rankIfExchanged 12 = .ok (.getfield 16, 3) := by decide +kernel
theorem dX5_rankIfExchanged_15 : decode cX5_rankIfExchanged 15 = .ok (.iload_n 1, 1) := by decide +kernel
theorem dX5_rankIfExchanged_16 : decode cX5_rankIfExchanged 16 = .ok (.iload_n 2, 1) := by decide +kernel
theorem dX5_rankIfExchanged_17 : decode cX5_rankIfExchanged 17 = .ok (.invokevirtual 108, 3) := by decide +kernel
theorem dX5_rankIfExchanged_20 : decode cX5_rankIfExchanged 20 = .ok (.aload_n 0, 1) := by decide +kernel
theorem dX5_rankIfExchanged_21 : decode cX5_rankIfExchanged 21 = .ok (.aload_n 0, 1) := by decide +kernel
theorem dX5_rankIfExchanged_22 : decode cX5_rankIfExchanged 22 = .ok (.getfield 16, 3) := by decide +kernel
theorem dX5_rankIfExchanged_25 : decode cX5_rankIfExchanged 25 = .ok (.invokevirtual 57, 3) := by decide +kernel
theorem dX5_rankIfExchanged_28 : decode cX5_rankIfExchanged 28 = .ok (.ireturn, 1) := by decide +kernel
theorem dX5_layOut_0 : decode cX5_layOut 0 = .ok (.aload_n 0, 1) := by decide +kernel
theorem dX5_layOut_1 : decode cX5_layOut 1 = .ok (.getfield 16, 3) := by decide +kernel
theorem dX5_layOut_4 : decode cX5_layOut 4 = .ok (.invokevirtual 307, 3) := by decide +kernel
theorem dX5_layOut_7 : decode cX5_layOut 7 = .ok (.aload_n 0, 1) := by decide +kernel
theorem dX5_layOut_8 : decode cX5_layOut 8 = .ok (.getfield 25, 3) := by decide +kernel
theorem dX5_layOut_11 : decode cX5_layOut 11 = .ok (.aload_n 0, 1) := by decide +kernel
theorem dX5_layOut_12 : decode cX5_layOut 12 = .ok (.getfield 10, 3) := by decide +kernel
theorem dX5_layOut_15 : decode cX5_layOut 15 = .ok (.iconst 0, 1) := by decide +kernel
theorem dX5_layOut_16 : decode cX5_layOut 16 = .ok (.invokevirtual 171, 3) := by decide +kernel
theorem dX5_layOut_19 : decode cX5_layOut 19 = .ok (.aload_n 0, 1) := by decide +kernel
theorem dX5_layOut_20 : decode cX5_layOut 20 = .ok (.getfield 25, 3) := by decide +kernel
theorem dX5_layOut_23 : decode cX5_layOut 23 = .ok (.invokevirtual 289, 3) := by decide +kernel
theorem dX5_layOut_26 : decode cX5_layOut 26 = .ok (.istore_n 2, 1) := by decide +kernel
theorem dX5_layOut_27 : decode cX5_layOut 27 = .ok (.iload_n 1, 1) := by decide +kernel
theorem dX5_layOut_28 : decode cX5_layOut 28 = .ok (.istore_n 3, 1) := by decide +kernel
theorem dX5_layOut_29 : decode cX5_layOut 29 = .ok (.iconst 0, 1) := by decide +kernel
theorem dX5_layOut_30 : decode cX5_layOut 30 = .ok (.istore 4, 2) := by decide +kernel
theorem dX5_layOut_32 : decode cX5_layOut 32 = .ok (.iload 4, 2) := by decide +kernel
theorem dX5_layOut_34 : decode cX5_layOut 34 = .ok (.aload_n 0, 1) := by decide +kernel
theorem dX5_layOut_35 : decode cX5_layOut 35 = .ok (.getfield 10, 3) := by decide +kernel
theorem dX5_layOut_38 : decode cX5_layOut 38 = .ok (.invokevirtual 79, 3) := by decide +kernel
theorem dX5_layOut_41 : decode cX5_layOut 41 = .ok (.if_icmp .ge 100, 3) := by decide +kernel
theorem dX5_layOut_44 : decode cX5_layOut 44 = .ok (.iconst 0, 1) := by decide +kernel
theorem dX5_layOut_45 : decode cX5_layOut 45 = .ok (.istore 5, 2) := by decide +kernel
theorem dX5_layOut_47 : decode cX5_layOut 47 = .ok (.iload_n 2, 1) := by decide +kernel
theorem dX5_layOut_48 : decode cX5_layOut 48 = .ok (.aload_n 0, 1) := by decide +kernel
theorem dX5_layOut_49 : decode cX5_layOut 49 = .ok (.getfield 25, 3) := by decide +kernel
theorem dX5_layOut_52 : decode cX5_layOut 52 = .ok (.iload 5, 2) := by decide +kernel
theorem dX5_layOut_54 : decode cX5_layOut 54 = .ok (.invokevirtual 178, 3) := by decide +kernel
theorem dX5_layOut_57 : decode cX5_layOut 57 = .ok (.aload_n 0, 1) := by decide +kernel
theorem dX5_layOut_58 : decode cX5_layOut 58 = .ok (.getfield 25, 3) := by decide +kernel
theorem dX5_layOut_61 : decode cX5_layOut 61 = .ok (.invokevirtual 295, 3) := by decide +kernel
theorem dX5_layOut_64 : decode cX5_layOut 64 = .ok (.invokestatic 298, 3) := by decide +kernel
theorem dX5_layOut_67 : decode cX5_layOut 67 = .ok (.istore 6, 2) := by decide +kernel
theorem dX5_layOut_69 : decode cX5_layOut 69 = .ok (.iload 5, 2) := by decide +kernel
theorem dX5_layOut_71 : decode cX5_layOut 71 = .ok (.iconst 5, 1) := by decide +kernel
theorem dX5_layOut_72 : decode cX5_layOut 72 = .ok (.if_icmp .ge 42, 3) := by decide +kernel
theorem dX5_layOut_75 : decode cX5_layOut 75 = .ok (.iload_n 3, 1) := by decide +kernel
theorem dX5_layOut_76 : decode cX5_layOut 76 = .ok (.iload 6, 2) := by decide +kernel
theorem dX5_layOut_78 : decode cX5_layOut 78 = .ok (.if_icmp .lt 36, 3) := by decide +kernel
theorem dX5_layOut_81 : decode cX5_layOut 81 = .ok (.iload_n 3, 1) := by decide +kernel
theorem dX5_layOut_82 : decode cX5_layOut 82 = .ok (.iload 6, 2) := by decide +kernel
theorem dX5_layOut_84 : decode cX5_layOut 84 = .ok (.isub, 1) := by decide +kernel
theorem dX5_layOut_85 : decode cX5_layOut 85 = .ok (.istore_n 3, 1) := by decide +kernel
theorem dX5_layOut_86 : decode cX5_layOut 86 = .ok (.iinc 5 1, 3) := by decide +kernel
theorem dX5_layOut_89 : decode cX5_layOut 89 = .ok (.iload_n 2, 1) := by decide +kernel
theorem dX5_layOut_90 : decode cX5_layOut 90 = .ok (.aload_n 0, 1) := by decide +kernel
theorem dX5_layOut_91 : decode cX5_layOut 91 = .ok (.getfield 25, 3) := by decide +kernel
theorem dX5_layOut_94 : decode cX5_layOut 94 = .ok (.iload 5, 2) := by decide +kernel
theorem dX5_layOut_96 : decode cX5_layOut 96 = .ok (.invokevirtual 178, 3) := by decide +kernel
theorem dX5_layOut_99 : decode cX5_layOut 99 = .ok (.aload_n 0, 1) := by decide +kernel
theorem dX5_layOut_100 : decode cX5_layOut 100 = .ok (.getfield 25, 3) := by decide +kernel
theorem dX5_layOut_103 : decode cX5_layOut 103 = .ok (.invokevirtual 295, 3) := by decide +kernel
theorem dX5_layOut_106 : decode cX5_layOut 106 = .ok (.invokestatic 298, 3) := by decide +kernel
theorem dX5_layOut_109 : decode cX5_layOut 109 = .ok (.istore 6, 2) := by decide +kernel
theorem dX5_layOut_111 : decode cX5_layOut 111 = .ok (.goto (-42), 3) := by decide +kernel
theorem dX5_layOut_114 : decode cX5_layOut 114 = .ok (.iload 6, 2) := by decide +kernel
theorem dX5_layOut_116 : decode cX5_layOut 116 = .ok (.istore_n 2, 1) := by decide +kernel
theorem dX5_layOut_117 : decode cX5_layOut 117 = .ok (.aload_n 0, 1) := by decide +kernel
theorem dX5_layOut_118 : decode cX5_layOut 118 = .ok (.getfield 16, 3) := by decide +kernel
theorem dX5_layOut_121 : decode cX5_layOut 121 = .ok (.iload 5, 2) := by decide +kernel
theorem dX5_layOut_123 : decode cX5_layOut 123 = .ok (.invokevirtual 50, 3) := by decide +kernel
theorem dX5_layOut_126 : decode cX5_layOut 126 = .ok (.aload_n 0, 1) := by decide +kernel
theorem dX5_layOut_127 : decode cX5_layOut 127 = .ok (.getfield 25, 3) := by decide +kernel
theorem dX5_layOut_130 : decode cX5_layOut 130 = .ok (.iload 5, 2) := by decide +kernel
theorem dX5_layOut_132 : decode cX5_layOut 132 = .ok (.invokevirtual 301, 3) := by decide +kernel
theorem dX5_layOut_135 : decode cX5_layOut 135 = .ok (.iinc 4 1, 3) := by decide +kernel
theorem dX5_layOut_138 : decode cX5_layOut 138 = .ok (.goto (-106), 3) := by decide +kernel
theorem dX5_layOut_141 : decode cX5_layOut 141 = .ok (.return_, 1) := by decide +kernel
theorem dX5_part_0 : decode cX5_part 0 = .ok (.iload_n 2, 1) := by decide +kernel
theorem dX5_part_1 : decode cX5_part 1 = .ok (.ifCond .le 11, 3) := by decide +kernel
theorem dX5_part_4 : decode cX5_part 4 = .ok (.iload_n 0, 1) := by decide +kernel
theorem dX5_part_5 : decode cX5_part 5 = .ok (.iload_n 1, 1) := by decide +kernel
theorem dX5_part_6 : decode cX5_part 6 = .ok (.imul, 1) := by decide +kernel
theorem dX5_part_7 : decode cX5_part 7 = .ok (.iload_n 2, 1) := by decide +kernel
theorem dX5_part_8 : decode cX5_part 8 = .ok (.idiv, 1) := by decide +kernel
theorem dX5_part_9 : decode cX5_part 9 = .ok (.goto 4, 3) := by decide +kernel
theorem dX5_part_12 : decode cX5_part 12 = .ok (.iconst 0, 1) := by decide +kernel
theorem dX5_part_13 : decode cX5_part 13 = .ok (.ireturn, 1) := by decide +kernel
theorem dX5_havingBelow_0 : decode cX5_havingBelow 0 = .ok (.aload_n 0, 1) := by decide +kernel
theorem dX5_havingBelow_1 : decode cX5_havingBelow 1 = .ok (.getfield 25, 3) := by decide +kernel
theorem dX5_havingBelow_4 : decode cX5_havingBelow 4 = .ok (.aload_n 0, 1) := by decide +kernel
theorem dX5_havingBelow_5 : decode cX5_havingBelow 5 = .ok (.getfield 10, 3) := by decide +kernel
theorem dX5_havingBelow_8 : decode cX5_havingBelow 8 = .ok (.iconst 0, 1) := by decide +kernel
theorem dX5_havingBelow_9 : decode cX5_havingBelow 9 = .ok (.invokevirtual 171, 3) := by decide +kernel
theorem dX5_havingBelow_12 : decode cX5_havingBelow 12 = .ok (.aload_n 0, 1) := by decide +kernel
theorem dX5_havingBelow_13 : decode cX5_havingBelow 13 = .ok (.getfield 25, 3) := by decide +kernel
theorem dX5_havingBelow_16 : decode cX5_havingBelow 16 = .ok (.invokevirtual 289, 3) := by decide +kernel
theorem dX5_havingBelow_19 : decode cX5_havingBelow 19 = .ok (.istore 4, 2) := by decide +kernel
theorem dX5_havingBelow_21 : decode cX5_havingBelow 21 = .ok (.iload_n 1, 1) := by decide +kernel
theorem dX5_havingBelow_22 : decode cX5_havingBelow 22 = .ok (.iload 4, 2) := by decide +kernel
theorem dX5_havingBelow_24 : decode cX5_havingBelow 24 = .ok (.if_icmp .lt 24, 3) := by decide +kernel
theorem dX5_havingBelow_27 : decode cX5_havingBelow 27 = .ok (.iload 4, 2) := by decide +kernel
theorem dX5_havingBelow_29 : decode cX5_havingBelow 29 = .ok (.aload_n 0, 1) := by decide +kernel
theorem dX5_havingBelow_30 : decode cX5_havingBelow 30 = .ok (.getfield 25, 3) := by decide +kernel
theorem dX5_havingBelow_33 : decode cX5_havingBelow 33 = .ok (.iload_n 3, 1) := by decide +kernel
theorem dX5_havingBelow_34 : decode cX5_havingBelow 34 = .ok (.invokevirtual 178, 3) := by decide +kernel
theorem dX5_havingBelow_37 : decode cX5_havingBelow 37 = .ok (.aload_n 0, 1) := by decide +kernel
theorem dX5_havingBelow_38 : decode cX5_havingBelow 38 = .ok (.getfield 25, 3) := by decide +kernel
theorem dX5_havingBelow_41 : decode cX5_havingBelow 41 = .ok (.invokevirtual 295, 3) := by decide +kernel
theorem dX5_havingBelow_44 : decode cX5_havingBelow 44 = .ok (.invokestatic 298, 3) := by decide +kernel
theorem dX5_havingBelow_47 : decode cX5_havingBelow 47 = .ok (.ireturn, 1) := by decide +kernel
theorem dX5_havingBelow_48 : decode cX5_havingBelow 48 = .ok (.aload_n 0, 1) := by decide +kernel
theorem dX5_havingBelow_49 : decode cX5_havingBelow 49 = .ok (.iload_n 1, 1) := by decide +kernel
theorem dX5_havingBelow_50 : decode cX5_havingBelow 50 = .ok (.invokevirtual 213, 3) := by decide +kernel
theorem dX5_havingBelow_53 : decode cX5_havingBelow 53 = .ok (.iconst 0, 1) := by decide +kernel
theorem dX5_havingBelow_54 : decode cX5_havingBelow 54 = .ok (.istore 5, 2) := by decide +kernel
theorem dX5_havingBelow_56 : decode cX5_havingBelow 56 = .ok (.iconst 0, 1) := by decide +kernel
theorem dX5_havingBelow_57 : decode cX5_havingBelow 57 = .ok (.istore 6, 2) := by decide +kernel
theorem dX5_havingBelow_59 : decode cX5_havingBelow 59 = .ok (.iload 6, 2) := by decide +kernel
theorem dX5_havingBelow_61 : decode cX5_havingBelow 61 = .ok (.aload_n 0, 1) := by decide +kernel
theorem dX5_havingBelow_62 : decode cX5_havingBelow 62 = .ok (.getfield 16, 3) := by decide +kernel
theorem dX5_havingBelow_65 : decode cX5_havingBelow 65 = .ok (.invokevirtual 79, 3) := by decide +kernel
theorem dX5_havingBelow_68 : decode cX5_havingBelow 68 = .ok (.if_icmp .ge 47, 3) := by decide +kernel
theorem dX5_havingBelow_71 : decode cX5_havingBelow 71 = .ok (.iconst 0, 1) := by decide +kernel
theorem dX5_havingBelow_72 : decode cX5_havingBelow 72 = .ok (.istore 7, 2) := by decide +kernel
theorem dX5_havingBelow_74 : decode cX5_havingBelow 74 = .ok (.iload 7, 2) := by decide +kernel
theorem dX5_havingBelow_76 : decode cX5_havingBelow 76 = .ok (.aload_n 0, 1) := by decide +kernel
theorem dX5_havingBelow_77 : decode cX5_havingBelow 77 = .ok (.getfield 16, 3) := by decide +kernel
theorem dX5_havingBelow_80 : decode cX5_havingBelow 80 = .ok (.iload 6, 2) := by decide +kernel
theorem dX5_havingBelow_82 : decode cX5_havingBelow 82 = .ok (.invokevirtual 137, 3) := by decide +kernel
theorem dX5_havingBelow_85 : decode cX5_havingBelow 85 = .ok (.if_icmp .ge 24, 3) := by decide +kernel
theorem dX5_havingBelow_88 : decode cX5_havingBelow 88 = .ok (.iload 5, 2) := by decide +kernel
theorem dX5_havingBelow_90 : decode cX5_havingBelow 90 = .ok (.aload_n 0, 1) := by decide +kernel
theorem dX5_havingBelow_91 : decode cX5_havingBelow 91 = .ok (.iload 6, 2) := by decide +kernel
theorem dX5_havingBelow_93 : decode cX5_havingBelow 93 = .ok (.iload 7, 2) := by decide +kernel
theorem dX5_havingBelow_95 : decode cX5_havingBelow 95 = .ok (.iload_n 2, 1) := by decide +kernel
theorem dX5_havingBelow_96 : decode cX5_havingBelow 96 = .ok (.iload_n 3, 1) := by decide +kernel
theorem dX5_havingBelow_97 : decode cX5_havingBelow 97 = .ok (.invokevirtual 308, 3) := by decide +kernel
theorem dX5_havingBelow_100 : decode cX5_havingBelow 100 = .ok (.iadd, 1) := by decide +kernel
theorem dX5_havingBelow_101 : decode cX5_havingBelow 101 = .ok (.istore 5, 2) := by decide +kernel
theorem dX5_havingBelow_103 : decode cX5_havingBelow 103 = .ok (.iinc 7 1, 3) := by decide +kernel
theorem dX5_havingBelow_106 : decode cX5_havingBelow 106 = .ok (.goto (-32), 3) := by decide +kernel
theorem dX5_havingBelow_109 : decode cX5_havingBelow 109 = .ok (.iinc 6 1, 3) := by decide +kernel
theorem dX5_havingBelow_112 : decode cX5_havingBelow 112 = .ok (.goto (-53), 3) := by decide +kernel
theorem dX5_havingBelow_115 : decode cX5_havingBelow 115 = .ok (.iload 5, 2) := by decide +kernel
theorem dX5_havingBelow_117 : decode cX5_havingBelow 117 = .ok (.ireturn, 1) := by decide +kernel
theorem dX5_havingBehind_0 : decode cX5_havingBehind 0 = .ok (.aload_n 0, 1) := by decide +kernel
theorem dX5_havingBehind_1 : decode cX5_havingBehind 1 = .ok (.getfield 25, 3) := by decide +kernel
theorem dX5_havingBehind_4 : decode cX5_havingBehind 4 = .ok (.aload_n 0, 1) := by decide +kernel
theorem dX5_havingBehind_5 : decode cX5_havingBehind 5 = .ok (.getfield 16, 3) := by decide +kernel
theorem dX5_havingBehind_8 : decode cX5_havingBehind 8 = .ok (.iload_n 1, 1) := by decide +kernel
theorem dX5_havingBehind_9 : decode cX5_havingBehind 9 = .ok (.invokevirtual 171, 3) := by decide +kernel
theorem dX5_havingBehind_12 : decode cX5_havingBehind 12 = .ok (.aload_n 0, 1) := by decide +kernel
theorem dX5_havingBehind_13 : decode cX5_havingBehind 13 = .ok (.getfield 25, 3) := by decide +kernel
theorem dX5_havingBehind_16 : decode cX5_havingBehind 16 = .ok (.iload_n 2, 1) := by decide +kernel
theorem dX5_havingBehind_17 : decode cX5_havingBehind 17 = .ok (.invokevirtual 304, 3) := by decide +kernel
theorem dX5_havingBehind_20 : decode cX5_havingBehind 20 = .ok (.istore 5, 2) := by decide +kernel
theorem dX5_havingBehind_22 : decode cX5_havingBehind 22 = .ok (.iload_n 3, 1) := by decide +kernel
theorem dX5_havingBehind_23 : decode cX5_havingBehind 23 = .ok (.iload_n 1, 1) := by decide +kernel
theorem dX5_havingBehind_24 : decode cX5_havingBehind 24 = .ok (.if_icmp .le 33, 3) := by decide +kernel
theorem dX5_havingBehind_27 : decode cX5_havingBehind 27 = .ok (.aload_n 0, 1) := by decide +kernel
theorem dX5_havingBehind_28 : decode cX5_havingBehind 28 = .ok (.getfield 25, 3) := by decide +kernel
theorem dX5_havingBehind_31 : decode cX5_havingBehind 31 = .ok (.iload_n 2, 1) := by decide +kernel
theorem dX5_havingBehind_32 : decode cX5_havingBehind 32 = .ok (.invokevirtual 301, 3) := by decide +kernel
theorem dX5_havingBehind_35 : decode cX5_havingBehind 35 = .ok (.iload 5, 2) := by decide +kernel
theorem dX5_havingBehind_37 : decode cX5_havingBehind 37 = .ok (.aload_n 0, 1) := by decide +kernel
theorem dX5_havingBehind_38 : decode cX5_havingBehind 38 = .ok (.getfield 25, 3) := by decide +kernel
theorem dX5_havingBehind_41 : decode cX5_havingBehind 41 = .ok (.iload 4, 2) := by decide +kernel
theorem dX5_havingBehind_43 : decode cX5_havingBehind 43 = .ok (.invokevirtual 178, 3) := by decide +kernel
theorem dX5_havingBehind_46 : decode cX5_havingBehind 46 = .ok (.aload_n 0, 1) := by decide +kernel
theorem dX5_havingBehind_47 : decode cX5_havingBehind 47 = .ok (.getfield 25, 3) := by decide +kernel
theorem dX5_havingBehind_50 : decode cX5_havingBehind 50 = .ok (.invokevirtual 295, 3) := by decide +kernel
theorem dX5_havingBehind_53 : decode cX5_havingBehind 53 = .ok (.invokestatic 298, 3) := by decide +kernel
theorem dX5_havingBehind_56 : decode cX5_havingBehind 56 = .ok (.ireturn, 1) := by decide +kernel
theorem dX5_havingBehind_57 : decode cX5_havingBehind 57 = .ok (.iload_n 3, 1) := by decide +kernel
theorem dX5_havingBehind_58 : decode cX5_havingBehind 58 = .ok (.iload_n 1, 1) := by decide +kernel
theorem dX5_havingBehind_59 : decode cX5_havingBehind 59 = .ok (.if_icmp .ge 14, 3) := by decide +kernel
theorem dX5_havingBehind_62 : decode cX5_havingBehind 62 = .ok (.aload_n 0, 1) := by decide +kernel
theorem dX5_havingBehind_63 : decode cX5_havingBehind 63 = .ok (.getfield 16, 3) := by decide +kernel
theorem dX5_havingBehind_66 : decode cX5_havingBehind 66 = .ok (.iload_n 3, 1) := by decide +kernel
theorem dX5_havingBehind_67 : decode cX5_havingBehind 67 = .ok (.invokevirtual 137, 3) := by decide +kernel
theorem dX5_havingBehind_70 : decode cX5_havingBehind 70 = .ok (.goto 4, 3) := by decide +kernel
theorem dX5_havingBehind_73 : decode cX5_havingBehind 73 = .ok (.iload_n 2, 1) := by decide +kernel
theorem dX5_havingBehind_74 : decode cX5_havingBehind 74 = .ok (.istore 6, 2) := by decide +kernel
theorem dX5_havingBehind_76 : decode cX5_havingBehind 76 = .ok (.iload 6, 2) := by decide +kernel
theorem dX5_havingBehind_78 : decode cX5_havingBehind 78 = .ok (.iload 4, 2) := by decide +kernel
theorem dX5_havingBehind_80 : decode cX5_havingBehind 80 = .ok (.if_icmp .ne 8, 3) := by decide +kernel
theorem dX5_havingBehind_83 : decode cX5_havingBehind 83 = .ok (.iload 5, 2) := by decide +kernel
theorem dX5_havingBehind_85 : decode cX5_havingBehind 85 = .ok (.goto 4, 3) := by decide +kernel
theorem dX5_havingBehind_88 : decode cX5_havingBehind 88 = .ok (.iconst 0, 1) := by decide +kernel
theorem dX5_havingBehind_89 : decode cX5_havingBehind 89 = .ok (.ireturn, 1) := by decide +kernel
theorem dX5_allSmooth_0 : decode cX5_allSmooth 0 = .ok (.aload_n 0, 1) := by decide +kernel
theorem dX5_allSmooth_1 : decode cX5_allSmooth 1 = .ok (.iconst 0, 1) := by decide +kernel
theorem dX5_allSmooth_2 : decode cX5_allSmooth 2 = .ok (.invokevirtual 188, 3) := by decide +kernel
theorem dX5_allSmooth_5 : decode cX5_allSmooth 5 = .ok (.ireturn, 1) := by decide +kernel
theorem dX5_smoothInBlock_0 : decode cX5_smoothInBlock 0 = .ok (.aload_n 0, 1) := by decide +kernel
theorem dX5_smoothInBlock_1 : decode cX5_smoothInBlock 1 = .ok (.getfield 10, 3) := by decide +kernel
theorem dX5_smoothInBlock_4 : decode cX5_smoothInBlock 4 = .ok (.iload_n 1, 1) := by decide +kernel
theorem dX5_smoothInBlock_5 : decode cX5_smoothInBlock 5 = .ok (.invokevirtual 82, 3) := by decide +kernel
theorem dX5_smoothInBlock_8 : decode cX5_smoothInBlock 8 = .ok (.ifCond .ne 5, 3) := by decide +kernel
theorem dX5_smoothInBlock_11 : decode cX5_smoothInBlock 11 = .ok (.iconst 0, 1) := by decide +kernel
theorem dX5_smoothInBlock_12 : decode cX5_smoothInBlock 12 = .ok (.ireturn, 1) := by decide +kernel
theorem dX5_smoothInBlock_13 : decode cX5_smoothInBlock 13 = .ok (.aload_n 0, 1) := by decide +kernel
theorem dX5_smoothInBlock_14 : decode cX5_smoothInBlock 14 = .ok (.invokevirtual 311, 3) := by decide +kernel
theorem dX5_smoothInBlock_17 : decode cX5_smoothInBlock 17 = .ok (.aload_n 0, 1) := by decide +kernel
theorem dX5_smoothInBlock_18 : decode cX5_smoothInBlock 18 = .ok (.getfield 25, 3) := by decide +kernel
theorem dX5_smoothInBlock_21 : decode cX5_smoothInBlock 21 = .ok (.aload_n 0, 1) := by decide +kernel
theorem dX5_smoothInBlock_22 : decode cX5_smoothInBlock 22 = .ok (.getfield 10, 3) := by decide +kernel
theorem dX5_smoothInBlock_25 : decode cX5_smoothInBlock 25 = .ok (.iload_n 1, 1) := by decide +kernel
theorem dX5_smoothInBlock_26 : decode cX5_smoothInBlock 26 = .ok (.invokevirtual 171, 3) := by decide +kernel
theorem dX5_smoothInBlock_29 : decode cX5_smoothInBlock 29 = .ok (.aload_n 0, 1) := by decide +kernel
theorem dX5_smoothInBlock_30 : decode cX5_smoothInBlock 30 = .ok (.getfield 32, 3) := by decide +kernel
theorem dX5_smoothInBlock_33 : decode cX5_smoothInBlock 33 = .ok (.aload_n 0, 1) := by decide +kernel
theorem dX5_smoothInBlock_34 : decode cX5_smoothInBlock 34 = .ok (.getfield 25, 3) := by decide +kernel
theorem dX5_smoothInBlock_37 : decode cX5_smoothInBlock 37 = .ok (.iload_n 1, 1) := by decide +kernel
theorem dX5_smoothInBlock_38 : decode cX5_smoothInBlock 38 = .ok (.ifCond .le 16, 3) := by decide +kernel
theorem dX5_smoothInBlock_41 : decode cX5_smoothInBlock 41 = .ok (.aload_n 0, 1) := by decide +kernel
theorem dX5_smoothInBlock_42 : decode cX5_smoothInBlock 42 = .ok (.getfield 10, 3) := by decide +kernel
theorem dX5_smoothInBlock_45 : decode cX5_smoothInBlock 45 = .ok (.iload_n 1, 1) := by decide +kernel
theorem dX5_smoothInBlock_46 : decode cX5_smoothInBlock 46 = .ok (.iconst 1, 1) := by decide +kernel
theorem dX5_smoothInBlock_47 : decode cX5_smoothInBlock 47 = .ok (.isub, 1) := by decide +kernel
theorem dX5_smoothInBlock_48 : decode cX5_smoothInBlock 48 = .ok (.invokevirtual 137, 3) := by decide +kernel
theorem dX5_smoothInBlock_51 : decode cX5_smoothInBlock 51 = .ok (.goto 4, 3) := by decide +kernel
theorem dX5_smoothInBlock_54 : decode cX5_smoothInBlock 54 = .ok (.iconst (-1), 1) := by decide +kernel
theorem dX5_smoothInBlock_55 : decode cX5_smoothInBlock 55 = .ok (.invokevirtual 314, 3) := by decide +kernel
theorem dX5_smoothInBlock_58 : decode cX5_smoothInBlock 58 = .ok (.ireturn, 1) := by decide +kernel
theorem dX5_smoothRank_0 : decode cX5_smoothRank 0 = .ok (.aload_n 0, 1) := by decide +kernel
theorem dX5_smoothRank_1 : decode cX5_smoothRank 1 = .ok (.invokevirtual 311, 3) := by decide +kernel
theorem dX5_smoothRank_4 : decode cX5_smoothRank 4 = .ok (.iconst 0, 1) := by decide +kernel
theorem dX5_smoothRank_5 : decode cX5_smoothRank 5 = .ok (.istore_n 1, 1) := by decide +kernel
theorem dX5_smoothRank_6 : decode cX5_smoothRank 6 = .ok (.iconst (-1), 1) := by decide +kernel
theorem dX5_smoothRank_7 : decode cX5_smoothRank 7 = .ok (.istore_n 2, 1) := by decide +kernel
theorem dX5_smoothRank_8 : decode cX5_smoothRank 8 = .ok (.iconst 0, 1) := by decide +kernel
theorem dX5_smoothRank_9 : decode cX5_smoothRank 9 = .ok (.istore_n 3, 1) := by decide +kernel
theorem dX5_smoothRank_10 : decode cX5_smoothRank 10 = .ok (.iload_n 3, 1) := by decide +kernel
theorem dX5_smoothRank_11 : decode cX5_smoothRank 11 = .ok (.aload_n 0, 1) := by decide +kernel
theorem dX5_smoothRank_12 : decode cX5_smoothRank 12 = .ok (.getfield 10, 3) := by decide +kernel
theorem dX5_smoothRank_15 : decode cX5_smoothRank 15 = .ok (.invokevirtual 79, 3) := by decide +kernel
theorem dX5_smoothRank_18 : decode cX5_smoothRank 18 = .ok (.if_icmp .ge 81, 3) := by decide +kernel
theorem dX5_smoothRank_21 : decode cX5_smoothRank 21 = .ok (.aload_n 0, 1) := by decide +kernel
theorem dX5_smoothRank_22 : decode cX5_smoothRank 22 = .ok (.getfield 10, 3) := by decide +kernel
theorem dX5_smoothRank_25 : decode cX5_smoothRank 25 = .ok (.iload_n 3, 1) := by decide +kernel
theorem dX5_smoothRank_26 : decode cX5_smoothRank 26 = .ok (.invokevirtual 137, 3) := by decide +kernel
theorem dX5_smoothRank_29 : decode cX5_smoothRank 29 = .ok (.istore 4, 2) := by decide +kernel
theorem dX5_smoothRank_31 : decode cX5_smoothRank 31 = .ok (.iconst 0, 1) := by decide +kernel
theorem dX5_smoothRank_32 : decode cX5_smoothRank 32 = .ok (.istore 5, 2) := by decide +kernel
theorem dX5_smoothRank_34 : decode cX5_smoothRank 34 = .ok (.iload 5, 2) := by decide +kernel
theorem dX5_smoothRank_36 : decode cX5_smoothRank 36 = .ok (.iload 4, 2) := by decide +kernel
theorem dX5_smoothRank_38 : decode cX5_smoothRank 38 = .ok (.if_icmp .ge 35, 3) := by decide +kernel
theorem dX5_smoothRank_41 : decode cX5_smoothRank 41 = .ok (.iload_n 1, 1) := by decide +kernel
theorem dX5_smoothRank_42 : decode cX5_smoothRank 42 = .ok (.iload 5, 2) := by decide +kernel
theorem dX5_smoothRank_44 : decode cX5_smoothRank 44 = .ok (.iload_n 2, 1) := by decide +kernel
theorem dX5_smoothRank_45 : decode cX5_smoothRank 45 = .ok (.if_icmp .ne 7, 3) := by decide +kernel
theorem dX5_smoothRank_48 : decode cX5_smoothRank 48 = .ok (.iconst 0, 1) := by decide +kernel
theorem dX5_smoothRank_49 : decode cX5_smoothRank 49 = .ok (.goto 16, 3) := by decide +kernel
theorem dX5_smoothRank_52 : decode cX5_smoothRank 52 = .ok (.aload_n 0, 1) := by decide +kernel
theorem dX5_smoothRank_53 : decode cX5_smoothRank 53 = .ok (.getfield 32, 3) := by decide +kernel
theorem dX5_smoothRank_56 : decode cX5_smoothRank 56 = .ok (.aload_n 0, 1) := by decide +kernel
theorem dX5_smoothRank_57 : decode cX5_smoothRank 57 = .ok (.getfield 25, 3) := by decide +kernel
theorem dX5_smoothRank_60 : decode cX5_smoothRank 60 = .ok (.iload 5, 2) := by decide +kernel
theorem dX5_smoothRank_62 : decode cX5_smoothRank 62 = .ok (.invokevirtual 318, 3) := by decide +kernel
theorem dX5_smoothRank_65 : decode cX5_smoothRank 65 = .ok (.iadd, 1) := by decide +kernel
theorem dX5_smoothRank_66 : decode cX5_smoothRank 66 = .ok (.istore_n 1, 1) := by decide +kernel
theorem dX5_smoothRank_67 : decode cX5_smoothRank 67 = .ok (.iinc 5 1, 3) := by decide +kernel
theorem dX5_smoothRank_70 : decode cX5_smoothRank 70 = .ok (.goto (-36), 3) := by decide +kernel
theorem dX5_smoothRank_73 : decode cX5_smoothRank 73 = .ok (.iload 4, 2) := by decide +kernel
theorem dX5_smoothRank_75 : decode cX5_smoothRank 75 = .ok (.iload_n 2, 1) := by decide +kernel
theorem dX5_smoothRank_76 : decode cX5_smoothRank 76 = .ok (.if_icmp .ne 5, 3) := by decide +kernel
theorem dX5_smoothRank_79 : decode cX5_smoothRank 79 = .ok (.iload_n 1, 1) := by decide +kernel
theorem dX5_smoothRank_80 : decode cX5_smoothRank 80 = .ok (.ireturn, 1) := by decide +kernel
theorem dX5_smoothRank_81 : decode cX5_smoothRank 81 = .ok (.aload_n 0, 1) := by decide +kernel
theorem dX5_smoothRank_82 : decode cX5_smoothRank 82 = .ok (.getfield 25, 3) := by decide +kernel
theorem dX5_smoothRank_85 : decode cX5_smoothRank 85 = .ok (.iload 4, 2) := by decide +kernel
theorem dX5_smoothRank_87 : decode cX5_smoothRank 87 = .ok (.invokevirtual 301, 3) := by decide +kernel
theorem dX5_smoothRank_90 : decode cX5_smoothRank 90 = .ok (.iload 4, 2) := by decide +kernel
theorem dX5_smoothRank_92 : decode cX5_smoothRank 92 = .ok (.istore_n 2, 1) := by decide +kernel
theorem dX5_smoothRank_93 : decode cX5_smoothRank 93 = .ok (.iinc 3 1, 3) := by decide +kernel
theorem dX5_smoothRank_96 : decode cX5_smoothRank 96 = .ok (.goto (-86), 3) := by decide +kernel
theorem dX5_smoothRank_99 : decode cX5_smoothRank 99 = .ok (.iload_n 1, 1) := by decide +kernel
theorem dX5_smoothRank_100 : decode cX5_smoothRank 100 = .ok (.ireturn, 1) := by decide +kernel
theorem dX5_layOutSmooth_0 : decode cX5_layOutSmooth 0 = .ok (.aload_n 0, 1) := by decide +kernel
theorem dX5_layOutSmooth_1 : decode cX5_layOutSmooth 1 = .ok (.invokevirtual 311, 3) := by decide +kernel
theorem dX5_layOutSmooth_4 : decode cX5_layOutSmooth 4 = .ok (.aload_n 0, 1) := by decide +kernel
theorem dX5_layOutSmooth_5 : decode cX5_layOutSmooth 5 = .ok (.getfield 16, 3) := by decide +kernel
theorem dX5_layOutSmooth_8 : decode cX5_layOutSmooth 8 = .ok (.invokevirtual 307, 3) := by decide +kernel
theorem dX5_layOutSmooth_11 : decode cX5_layOutSmooth 11 = .ok (.iload_n 1, 1) := by decide +kernel
theorem dX5_layOutSmooth_12 : decode cX5_layOutSmooth 12 = .ok (.istore_n 2, 1) := by decide +kernel
theorem dX5_layOutSmooth_13 : decode cX5_layOutSmooth 13 = .ok (.iconst (-1), 1) := by decide +kernel
theorem dX5_layOutSmooth_14 : decode cX5_layOutSmooth 14 = .ok (.istore_n 3, 1) := by decide +kernel
theorem dX5_layOutSmooth_15 : decode cX5_layOutSmooth 15 = .ok (.iconst 0, 1) := by decide +kernel
theorem dX5_layOutSmooth_16 : decode cX5_layOutSmooth 16 = .ok (.istore 4, 2) := by decide +kernel
theorem dX5_layOutSmooth_18 : decode cX5_layOutSmooth 18 = .ok (.iload 4, 2) := by decide +kernel
theorem dX5_layOutSmooth_20 : decode cX5_layOutSmooth 20 = .ok (.aload_n 0, 1) := by decide +kernel
theorem dX5_layOutSmooth_21 : decode cX5_layOutSmooth 21 = .ok (.getfield 10, 3) := by decide +kernel
theorem dX5_layOutSmooth_24 : decode cX5_layOutSmooth 24 = .ok (.invokevirtual 79, 3) := by decide +kernel
theorem dX5_layOutSmooth_27 : decode cX5_layOutSmooth 27 = .ok (.if_icmp .ge 106, 3) := by decide +kernel
theorem dX5_layOutSmooth_30 : decode cX5_layOutSmooth 30 = .ok (.iconst 0, 1) := by decide +kernel
theorem dX5_layOutSmooth_31 : decode cX5_layOutSmooth 31 = .ok (.istore 5, 2) := by decide +kernel
theorem dX5_layOutSmooth_33 : decode cX5_layOutSmooth 33 = .ok (.iload_n 3, 1) := by decide +kernel
theorem dX5_layOutSmooth_34 : decode cX5_layOutSmooth 34 = .ok (.iload 5, 2) := by decide +kernel
theorem dX5_layOutSmooth_36 : decode cX5_layOutSmooth 36 = .ok (.if_icmp .ne 7, 3) := by decide +kernel
theorem dX5_layOutSmooth_39 : decode cX5_layOutSmooth 39 = .ok (.iconst 0, 1) := by decide +kernel
theorem dX5_layOutSmooth_40 : decode cX5_layOutSmooth 40 = .ok (.goto 16, 3) := by decide +kernel
theorem dX5_layOutSmooth_43 : decode cX5_layOutSmooth 43 = .ok (.aload_n 0, 1) := by decide +kernel
theorem dX5_layOutSmooth_44 : decode cX5_layOutSmooth 44 = .ok (.getfield 32, 3) := by decide +kernel
theorem dX5_layOutSmooth_47 : decode cX5_layOutSmooth 47 = .ok (.aload_n 0, 1) := by decide +kernel
theorem dX5_layOutSmooth_48 : decode cX5_layOutSmooth 48 = .ok (.getfield 25, 3) := by decide +kernel
theorem dX5_layOutSmooth_51 : decode cX5_layOutSmooth 51 = .ok (.iload 5, 2) := by decide +kernel
theorem dX5_layOutSmooth_53 : decode cX5_layOutSmooth 53 = .ok (.invokevirtual 318, 3) := by decide +kernel
theorem dX5_layOutSmooth_56 : decode cX5_layOutSmooth 56 = .ok (.istore 6, 2) := by decide +kernel
theorem dX5_layOutSmooth_58 : decode cX5_layOutSmooth 58 = .ok (.iload 5, 2) := by decide +kernel
theorem dX5_layOutSmooth_60 : decode cX5_layOutSmooth 60 = .ok (.iconst 5, 1) := by decide +kernel
theorem dX5_layOutSmooth_61 : decode cX5_layOutSmooth 61 = .ok (.if_icmp .ge 45, 3) := by decide +kernel
theorem dX5_layOutSmooth_64 : decode cX5_layOutSmooth 64 = .ok (.iload_n 2, 1) := by decide +kernel
theorem dX5_layOutSmooth_65 : decode cX5_layOutSmooth 65 = .ok (.iload 6, 2) := by decide +kernel
theorem dX5_layOutSmooth_67 : decode cX5_layOutSmooth 67 = .ok (.if_icmp .lt 39, 3) := by decide +kernel
theorem dX5_layOutSmooth_70 : decode cX5_layOutSmooth 70 = .ok (.iload_n 2, 1) := by decide +kernel
theorem dX5_layOutSmooth_71 : decode cX5_layOutSmooth 71 = .ok (.iload 6, 2) := by decide +kernel
theorem dX5_layOutSmooth_73 : decode cX5_layOutSmooth 73 = .ok (.isub, 1) := by decide +kernel
theorem dX5_layOutSmooth_74 : decode cX5_layOutSmooth 74 = .ok (.istore_n 2, 1) := by decide +kernel
theorem dX5_layOutSmooth_75 : decode cX5_layOutSmooth 75 = .ok (.iinc 5 1, 3) := by decide +kernel
theorem dX5_layOutSmooth_78 : decode cX5_layOutSmooth 78 = .ok (.iload_n 3, 1) := by decide +kernel
theorem dX5_layOutSmooth_79 : decode cX5_layOutSmooth 79 = .ok (.iload 5, 2) := by decide +kernel
theorem dX5_layOutSmooth_81 : decode cX5_layOutSmooth 81 = .ok (.if_icmp .ne 7, 3) := by decide +kernel
theorem dX5_layOutSmooth_84 : decode cX5_layOutSmooth 84 = .ok (.iconst 0, 1) := by decide +kernel
theorem dX5_layOutSmooth_85 : decode cX5_layOutSmooth 85 = .ok (.goto 16, 3) := by decide +kernel
theorem dX5_layOutSmooth_88 : decode cX5_layOutSmooth 88 = .ok (.aload_n 0, 1) := by decide +kernel
theorem dX5_layOutSmooth_89 : decode cX5_layOutSmooth 89 = .ok (.getfield 32, 3) := by decide +kernel
theorem dX5_layOutSmooth_92 : decode cX5_layOutSmooth 92 = .ok (.aload_n 0, 1) := by decide +kernel
theorem dX5_layOutSmooth_93 : decode cX5_layOutSmooth 93 = .ok (.getfield 25, 3) := by decide +kernel
theorem dX5_layOutSmooth_96 : decode cX5_layOutSmooth 96 = .ok (.iload 5, 2) := by decide +kernel
theorem dX5_layOutSmooth_98 : decode cX5_layOutSmooth 98 = .ok (.invokevirtual 318, 3) := by decide +kernel
theorem dX5_layOutSmooth_101 : decode cX5_layOutSmooth 101 = .ok (.istore 6, 2) := by decide +kernel
theorem dX5_layOutSmooth_103 : decode cX5_layOutSmooth 103 = .ok (.goto (-45), 3) := by decide +kernel
theorem dX5_layOutSmooth_106 : decode cX5_layOutSmooth 106 = .ok (.aload_n 0, 1) := by decide +kernel
theorem dX5_layOutSmooth_107 : decode cX5_layOutSmooth 107 = .ok (.getfield 16, 3) := by decide +kernel
theorem dX5_layOutSmooth_110 : decode cX5_layOutSmooth 110 = .ok (.iload 5, 2) := by decide +kernel
theorem dX5_layOutSmooth_112 : decode cX5_layOutSmooth 112 = .ok (.invokevirtual 50, 3) := by decide +kernel
theorem dX5_layOutSmooth_115 : decode cX5_layOutSmooth 115 = .ok (.aload_n 0, 1) := by decide +kernel
theorem dX5_layOutSmooth_116 : decode cX5_layOutSmooth 116 = .ok (.getfield 25, 3) := by decide +kernel
theorem dX5_layOutSmooth_119 : decode cX5_layOutSmooth 119 = .ok (.iload 5, 2) := by decide +kernel
theorem dX5_layOutSmooth_121 : decode cX5_layOutSmooth 121 = .ok (.invokevirtual 301, 3) := by decide +kernel
theorem dX5_layOutSmooth_124 : decode cX5_layOutSmooth 124 = .ok (.iload 5, 2) := by decide +kernel
theorem dX5_layOutSmooth_126 : decode cX5_layOutSmooth 126 = .ok (.istore_n 3, 1) := by decide +kernel
theorem dX5_layOutSmooth_127 : decode cX5_layOutSmooth 127 = .ok (.iinc 4 1, 3) := by decide +kernel
theorem dX5_layOutSmooth_130 : decode cX5_layOutSmooth 130 = .ok (.goto (-112), 3) := by decide +kernel
theorem dX5_layOutSmooth_133 : decode cX5_layOutSmooth 133 = .ok (.return_, 1) := by decide +kernel
theorem dX5_prepareSmooth_0 : decode cX5_prepareSmooth 0 = .ok (.aload_n 0, 1) := by decide +kernel
theorem dX5_prepareSmooth_1 : decode cX5_prepareSmooth 1 = .ok (.getfield 25, 3) := by decide +kernel
theorem dX5_prepareSmooth_4 : decode cX5_prepareSmooth 4 = .ok (.aload_n 0, 1) := by decide +kernel
theorem dX5_prepareSmooth_5 : decode cX5_prepareSmooth 5 = .ok (.getfield 10, 3) := by decide +kernel
theorem dX5_prepareSmooth_8 : decode cX5_prepareSmooth 8 = .ok (.iconst 0, 1) := by decide +kernel
theorem dX5_prepareSmooth_9 : decode cX5_prepareSmooth 9 = .ok (.invokevirtual 171, 3) := by decide +kernel
theorem dX5_prepareSmooth_12 : decode cX5_prepareSmooth 12 = .ok (.aload_n 0, 1) := by decide +kernel
theorem dX5_prepareSmooth_13 : decode cX5_prepareSmooth 13 = .ok (.getfield 32, 3) := by decide +kernel
theorem dX5_prepareSmooth_16 : decode cX5_prepareSmooth 16 = .ok (.aload_n 0, 1) := by decide +kernel
theorem dX5_prepareSmooth_17 : decode cX5_prepareSmooth 17 = .ok (.getfield 25, 3) := by decide +kernel
theorem dX5_prepareSmooth_20 : decode cX5_prepareSmooth 20 = .ok (.invokevirtual 321, 3) := by decide +kernel
theorem dX5_prepareSmooth_23 : decode cX5_prepareSmooth 23 = .ok (.return_, 1) := by decide +kernel
theorem dX5_mixed_0 : decode cX5_mixed 0 = .ok (.ldc2_w 325, 3) := by decide +kernel
theorem dX5_mixed_3 : decode cX5_mixed 3 = .ok (.lload_n 0, 1) := by decide +kernel
theorem dX5_mixed_4 : decode cX5_mixed 4 = .ok (.lmul, 1) := by decide +kernel
theorem dX5_mixed_5 : decode cX5_mixed 5 = .ok (.lload_n 2, 1) := by decide +kernel
theorem dX5_mixed_6 : decode cX5_mixed 6 = .ok (.ladd, 1) := by decide +kernel
theorem dX5_mixed_7 : decode cX5_mixed 7 = .ok (.lreturn, 1) := by decide +kernel
theorem dX5_bitsOf_0 : decode cX5_bitsOf 0 = .ok (.dload_n 0, 1) := by decide +kernel
theorem dX5_bitsOf_1 : decode cX5_bitsOf 1 = .ok (.dconst 0, 1) := by decide +kernel
theorem dX5_bitsOf_2 : decode cX5_bitsOf 2 = .ok (.dcmp .g, 1) := by decide +kernel
theorem dX5_bitsOf_3 : decode cX5_bitsOf 3 = .ok (.ifCond .gt 5, 3) := by decide +kernel
theorem dX5_bitsOf_6 : decode cX5_bitsOf 6 = .ok (.lconst 0, 1) := by decide +kernel
theorem dX5_bitsOf_7 : decode cX5_bitsOf 7 = .ok (.lreturn, 1) := by decide +kernel
theorem dX5_bitsOf_8 : decode cX5_bitsOf 8 = .ok (.dload_n 0, 1) := by decide +kernel
theorem dX5_bitsOf_9 : decode cX5_bitsOf 9 = .ok (.dstore_n 2, 1) := by decide +kernel
theorem dX5_bitsOf_10 : decode cX5_bitsOf 10 = .ok (.sipush 1023, 3) := by decide +kernel
theorem dX5_bitsOf_13 : decode cX5_bitsOf 13 = .ok (.istore 4, 2) := by decide +kernel
theorem dX5_bitsOf_15 : decode cX5_bitsOf 15 = .ok (.dload_n 2, 1) := by decide +kernel
theorem dX5_bitsOf_16 : decode cX5_bitsOf 16 = .ok (.dconst 1, 1) := by decide +kernel
theorem dX5_bitsOf_17 : decode cX5_bitsOf 17 = .ok (.dcmp .g, 1) := by decide +kernel
theorem dX5_bitsOf_18 : decode cX5_bitsOf 18 = .ok (.ifCond .ge 21, 3) := by decide +kernel
theorem dX5_bitsOf_21 : decode cX5_bitsOf 21 = .ok (.iload 4, 2) := by decide +kernel
theorem dX5_bitsOf_23 : decode cX5_bitsOf 23 = .ok (.iconst 1, 1) := by decide +kernel
theorem dX5_bitsOf_24 : decode cX5_bitsOf 24 = .ok (.if_icmp .le 15, 3) := by decide +kernel
theorem dX5_bitsOf_27 : decode cX5_bitsOf 27 = .ok (.dload_n 2, 1) := by decide +kernel
theorem dX5_bitsOf_28 : decode cX5_bitsOf 28 = .ok (.ldc2_w 327, 3) := by decide +kernel
theorem dX5_bitsOf_31 : decode cX5_bitsOf 31 = .ok (.dmul, 1) := by decide +kernel
theorem dX5_bitsOf_32 : decode cX5_bitsOf 32 = .ok (.dstore_n 2, 1) := by decide +kernel
theorem dX5_bitsOf_33 : decode cX5_bitsOf 33 = .ok (.iinc 4 (-1), 3) := by decide +kernel
theorem dX5_bitsOf_36 : decode cX5_bitsOf 36 = .ok (.goto (-21), 3) := by decide +kernel
theorem dX5_bitsOf_39 : decode cX5_bitsOf 39 = .ok (.dload_n 2, 1) := by decide +kernel
theorem dX5_bitsOf_40 : decode cX5_bitsOf 40 = .ok (.dconst 1, 1) := by decide +kernel
theorem dX5_bitsOf_41 : decode cX5_bitsOf 41 = .ok (.dsub, 1) := by decide +kernel
theorem dX5_bitsOf_42 : decode cX5_bitsOf 42 = .ok (.ldc2_w 329, 3) := by decide +kernel
theorem dX5_bitsOf_45 : decode cX5_bitsOf 45 = .ok (.dmul, 1) := by decide +kernel
theorem dX5_bitsOf_46 : decode cX5_bitsOf 46 = .ok (.d2l, 1) := by decide +kernel
theorem dX5_bitsOf_47 : decode cX5_bitsOf 47 = .ok (.lstore 5, 2) := by decide +kernel
theorem dX5_bitsOf_49 : decode cX5_bitsOf 49 = .ok (.iload 4, 2) := by decide +kernel
theorem dX5_bitsOf_51 : decode cX5_bitsOf 51 = .ok (.i2l, 1) := by decide +kernel
theorem dX5_bitsOf_52 : decode cX5_bitsOf 52 = .ok (.bipush 52, 2) := by decide +kernel
theorem dX5_bitsOf_54 : decode cX5_bitsOf 54 = .ok (.lshl, 1) := by decide +kernel
theorem dX5_bitsOf_55 : decode cX5_bitsOf 55 = .ok (.lload 5, 2) := by decide +kernel
theorem dX5_bitsOf_57 : decode cX5_bitsOf 57 = .ok (.ladd, 1) := by decide +kernel
theorem dX5_bitsOf_58 : decode cX5_bitsOf 58 = .ok (.lreturn, 1) := by decide +kernel
