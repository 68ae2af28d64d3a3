theorem dX0_init_0 : decode cX0_init 0 = .ok (.aload_n 0, 1) := by decide +kernel
theorem dX0_init_1 : decode cX0_init 1 = .ok (.invokespecial 3, 3) := by decide +kernel
theorem dX0_init_4 : decode cX0_init 4 = .ok (.aload_n 0, 1) := by decide +kernel
theorem dX0_init_5 : decode cX0_init 5 = .ok (.bipush 6, 2) := by decide +kernel
theorem dX0_init_7 : decode cX0_init 7 = .ok (.newarray .int, 2) := by decide +kernel
theorem dX0_init_9 : decode cX0_init 9 = .ok (.putfield 9, 3) := by decide +kernel
theorem dX0_init_12 : decode cX0_init 12 = .ok (.return_, 1) := by decide +kernel
theorem dX0_total_0 : decode cX0_total 0 = .ok (.aload_n 0, 1) := by decide +kernel
theorem dX0_total_1 : decode cX0_total 1 = .ok (.getfield 15, 3) := by decide +kernel
theorem dX0_total_4 : decode cX0_total 4 = .ok (.ireturn, 1) := by decide +kernel
theorem dX0_of_0 : decode cX0_of 0 = .ok (.iload_n 1, 1) := by decide +kernel
theorem dX0_of_1 : decode cX0_of 1 = .ok (.ifCond .lt 18, 3) := by decide +kernel
theorem dX0_of_4 : decode cX0_of 4 = .ok (.iload_n 1, 1) := by decide +kernel
theorem dX0_of_5 : decode cX0_of 5 = .ok (.bipush 6, 2) := by decide +kernel
theorem dX0_of_7 : decode cX0_of 7 = .ok (.if_icmp .ge 12, 3) := by decide +kernel
theorem dX0_of_10 : decode cX0_of 10 = .ok (.aload_n 0, 1) := by decide +kernel
theorem dX0_of_11 : decode cX0_of 11 = .ok (.getfield 9, 3) := by decide +kernel
theorem dX0_of_14 : decode cX0_of 14 = .ok (.iload_n 1, 1) := by decide +kernel
theorem dX0_of_15 : decode cX0_of 15 = .ok (.iaload, 1) := by decide +kernel
theorem dX0_of_16 : decode cX0_of 16 = .ok (.goto 4, 3) := by decide +kernel
theorem dX0_of_19 : decode cX0_of 19 = .ok (.iconst 0, 1) := by decide +kernel
theorem dX0_of_20 : decode cX0_of 20 = .ok (.ireturn, 1) := by decide +kernel
theorem dX0_add_0 : decode cX0_add 0 = .ok (.iload_n 1, 1) := by decide +kernel
theorem dX0_add_1 : decode cX0_add 1 = .ok (.ifCond .lt 29, 3) := by decide +kernel
theorem dX0_add_4 : decode cX0_add 4 = .ok (.iload_n 1, 1) := by decide +kernel
theorem dX0_add_5 : decode cX0_add 5 = .ok (.bipush 6, 2) := by decide +kernel
theorem dX0_add_7 : decode cX0_add 7 = .ok (.if_icmp .ge 23, 3) := by decide +kernel
theorem dX0_add_10 : decode cX0_add 10 = .ok (.aload_n 0, 1) := by decide +kernel
theorem dX0_add_11 : decode cX0_add 11 = .ok (.getfield 9, 3) := by decide +kernel
theorem dX0_add_14 : decode cX0_add 14 = .ok (.iload_n 1, 1) := by decide +kernel
theorem dX0_add_15 : decode cX0_add 15 = .ok (.dup2, 1) := by decide +kernel
theorem dX0_add_16 : decode cX0_add 16 = .ok (.iaload, 1) := by decide +kernel
theorem dX0_add_17 : decode cX0_add 17 = .ok (.iconst 1, 1) := by decide +kernel
theorem dX0_add_18 : decode cX0_add 18 = .ok (.iadd, 1) := by decide +kernel
theorem dX0_add_19 : decode cX0_add 19 = .ok (.iastore, 1) := by decide +kernel
theorem dX0_add_20 : decode cX0_add 20 = .ok (.aload_n 0, 1) := by decide +kernel
theorem dX0_add_21 : decode cX0_add 21 = .ok (.dup, 1) := by decide +kernel
theorem dX0_add_22 : decode cX0_add 22 = .ok (.getfield 15, 3) := by decide +kernel
theorem dX0_add_25 : decode cX0_add 25 = .ok (.iconst 1, 1) := by decide +kernel
theorem dX0_add_26 : decode cX0_add 26 = .ok (.iadd, 1) := by decide +kernel
theorem dX0_add_27 : decode cX0_add 27 = .ok (.putfield 15, 3) := by decide +kernel
theorem dX0_add_30 : decode cX0_add 30 = .ok (.return_, 1) := by decide +kernel
theorem dX0_drop_0 : decode cX0_drop 0 = .ok (.iload_n 1, 1) := by decide +kernel
theorem dX0_drop_1 : decode cX0_drop 1 = .ok (.ifCond .lt 38, 3) := by decide +kernel
theorem dX0_drop_4 : decode cX0_drop 4 = .ok (.iload_n 1, 1) := by decide +kernel
theorem dX0_drop_5 : decode cX0_drop 5 = .ok (.bipush 6, 2) := by decide +kernel
theorem dX0_drop_7 : decode cX0_drop 7 = .ok (.if_icmp .ge 32, 3) := by decide +kernel
theorem dX0_drop_10 : decode cX0_drop 10 = .ok (.aload_n 0, 1) := by decide +kernel
theorem dX0_drop_11 : decode cX0_drop 11 = .ok (.getfield 9, 3) := by decide +kernel
theorem dX0_drop_14 : decode cX0_drop 14 = .ok (.iload_n 1, 1) := by decide +kernel
theorem dX0_drop_15 : decode cX0_drop 15 = .ok (.iaload, 1) := by decide +kernel
theorem dX0_drop_16 : decode cX0_drop 16 = .ok (.ifCond .le 23, 3) := by decide +kernel
theorem dX0_drop_19 : decode cX0_drop 19 = .ok (.aload_n 0, 1) := by decide +kernel
theorem dX0_drop_20 : decode cX0_drop 20 = .ok (.getfield 9, 3) := by decide +kernel
theorem dX0_drop_23 : decode cX0_drop 23 = .ok (.iload_n 1, 1) := by decide +kernel
theorem dX0_drop_24 : decode cX0_drop 24 = .ok (.dup2, 1) := by decide +kernel
theorem dX0_drop_25 : decode cX0_drop 25 = .ok (.iaload, 1) := by decide +kernel
theorem dX0_drop_26 : decode cX0_drop 26 = .ok (.iconst 1, 1) := by decide +kernel
theorem dX0_drop_27 : decode cX0_drop 27 = .ok (.isub, 1) := by decide +kernel
theorem dX0_drop_28 : decode cX0_drop 28 = .ok (.iastore, 1) := by decide +kernel
theorem dX0_drop_29 : decode cX0_drop 29 = .ok (.aload_n 0, 1) := by decide +kernel
theorem dX0_drop_30 : decode cX0_drop 30 = .ok (.dup, 1) := by decide +kernel
theorem dX0_drop_31 : decode cX0_drop 31 = .ok (.getfield 15, 3) := by decide +kernel
theorem dX0_drop_34 : decode cX0_drop 34 = .ok (.iconst 1, 1) := by decide +kernel
theorem dX0_drop_35 : decode cX0_drop 35 = .ok (.isub, 1) := by decide +kernel
theorem dX0_drop_36 : decode cX0_drop 36 = .ok (.putfield 15, 3) := by decide +kernel
theorem dX0_drop_39 : decode cX0_drop 39 = .ok (.return_, 1) := by decide +kernel
theorem dX0_fill_0 : decode cX0_fill 0 = .ok (.aload_n 0, 1) := by decide +kernel
theorem dX0_fill_1 : decode cX0_fill 1 = .ok (.iconst 0, 1) := by decide +kernel
theorem dX0_fill_2 : decode cX0_fill 2 = .ok (.putfield 15, 3) := by decide +kernel
theorem dX0_fill_5 : decode cX0_fill 5 = .ok (.iconst 0, 1) := by decide +kernel
theorem dX0_fill_6 : decode cX0_fill 6 = .ok (.istore_n 3, 1) := by decide +kernel
theorem dX0_fill_7 : decode cX0_fill 7 = .ok (.iload_n 3, 1) := by decide +kernel
theorem dX0_fill_8 : decode cX0_fill 8 = .ok (.bipush 6, 2) := by decide +kernel
theorem dX0_fill_10 : decode cX0_fill 10 = .ok (.if_icmp .ge 16, 3) := by decide +kernel
theorem dX0_fill_13 : decode cX0_fill 13 = .ok (.aload_n 0, 1) := by decide +kernel
theorem dX0_fill_14 : decode cX0_fill 14 = .ok (.getfield 9, 3) := by decide +kernel
theorem dX0_fill_17 : decode cX0_fill 17 = .ok (.iload_n 3, 1) := by decide +kernel
theorem dX0_fill_18 : decode cX0_fill 18 = .ok (.iconst 0, 1) := by decide +kernel
theorem dX0_fill_19 : decode cX0_fill 19 = .ok (.iastore, 1) := by decide +kernel
theorem dX0_fill_20 : decode cX0_fill 20 = .ok (.iinc 3 1, 3) := by decide +kernel
theorem dX0_fill_23 : decode cX0_fill 23 = .ok (.goto (-16), 3) := by decide +kernel
theorem dX0_fill_26 : decode cX0_fill 26 = .ok (.iload_n 2, 1) := by decide +kernel
theorem dX0_fill_27 : decode cX0_fill 27 = .ok (.istore_n 3, 1) := by decide +kernel
theorem dX0_fill_28 : decode cX0_fill 28 = .ok (.iload_n 3, 1) := by decide +kernel
theorem dX0_fill_29 : decode cX0_fill 29 = .ok (.aload_n 1, 1) := by decide +kernel
theorem dX0_fill_30 : decode cX0_fill 30 = .ok (.invokevirtual 19, 3) := by decide +kernel
theorem dX0_fill_33 : decode cX0_fill 33 = .ok (.if_icmp .ge 18, 3) := by decide +kernel
theorem dX0_fill_36 : decode cX0_fill 36 = .ok (.aload_n 0, 1) := by decide +kernel
theorem dX0_fill_37 : decode cX0_fill 37 = .ok (.aload_n 1, 1) := by decide +kernel
theorem dX0_fill_38 : decode cX0_fill 38 = .ok (.iload_n 3, 1) := by decide +kernel
theorem dX0_fill_39 : decode cX0_fill 39 = .ok (.invokevirtual 25, 3) := by decide +kernel
theorem dX0_fill_42 : decode cX0_fill 42 = .ok (.invokevirtual 29, 3) := by decide +kernel
theorem dX0_fill_45 : decode cX0_fill 45 = .ok (.iinc 3 1, 3) := by decide +kernel
theorem dX0_fill_48 : decode cX0_fill 48 = .ok (.goto (-20), 3) := by decide +kernel
theorem dX0_fill_51 : decode cX0_fill 51 = .ok (.return_, 1) := by decide +kernel
theorem dX0_below_0 : decode cX0_below 0 = .ok (.iconst 0, 1) := by decide +kernel
theorem dX0_below_1 : decode cX0_below 1 = .ok (.istore_n 2, 1) := by decide +kernel
theorem dX0_below_2 : decode cX0_below 2 = .ok (.iconst 0, 1) := by decide +kernel
theorem dX0_below_3 : decode cX0_below 3 = .ok (.istore_n 3, 1) := by decide +kernel
theorem dX0_below_4 : decode cX0_below 4 = .ok (.iload_n 3, 1) := by decide +kernel
theorem dX0_below_5 : decode cX0_below 5 = .ok (.iload_n 1, 1) := by decide +kernel
theorem dX0_below_6 : decode cX0_below 6 = .ok (.if_icmp .ge 17, 3) := by decide +kernel
theorem dX0_below_9 : decode cX0_below 9 = .ok (.iload_n 2, 1) := by decide +kernel
theorem dX0_below_10 : decode cX0_below 10 = .ok (.aload_n 0, 1) := by decide +kernel
theorem dX0_below_11 : decode cX0_below 11 = .ok (.iload_n 3, 1) := by decide +kernel
theorem dX0_below_12 : decode cX0_below 12 = .ok (.invokevirtual 33, 3) := by decide +kernel
theorem dX0_below_15 : decode cX0_below 15 = .ok (.iadd, 1) := by decide +kernel
theorem dX0_below_16 : decode cX0_below 16 = .ok (.istore_n 2, 1) := by decide +kernel
theorem dX0_below_17 : decode cX0_below 17 = .ok (.iinc 3 1, 3) := by decide +kernel
theorem dX0_below_20 : decode cX0_below 20 = .ok (.goto (-16), 3) := by decide +kernel
theorem dX0_below_23 : decode cX0_below 23 = .ok (.iload_n 2, 1) := by decide +kernel
theorem dX0_below_24 : decode cX0_below 24 = .ok (.ireturn, 1) := by decide +kernel
theorem dX0_unlikeBelow_0 : decode cX0_unlikeBelow 0 = .ok (.iconst 0, 1) := by decide +kernel
theorem dX0_unlikeBelow_1 : decode cX0_unlikeBelow 1 = .ok (.istore_n 2, 1) := by decide +kernel
theorem dX0_unlikeBelow_2 : decode cX0_unlikeBelow 2 = .ok (.iconst 0, 1) := by decide +kernel
theorem dX0_unlikeBelow_3 : decode cX0_unlikeBelow 3 = .ok (.istore_n 3, 1) := by decide +kernel
theorem dX0_unlikeBelow_4 : decode cX0_unlikeBelow 4 = .ok (.iload_n 3, 1) := by decide +kernel
theorem dX0_unlikeBelow_5 : decode cX0_unlikeBelow 5 = .ok (.iload_n 1, 1) := by decide +kernel
theorem dX0_unlikeBelow_6 : decode cX0_unlikeBelow 6 = .ok (.if_icmp .ge 25, 3) := by decide +kernel
theorem dX0_unlikeBelow_9 : decode cX0_unlikeBelow 9 = .ok (.iload_n 2, 1) := by decide +kernel
theorem dX0_unlikeBelow_10 : decode cX0_unlikeBelow 10 = .ok (.aload_n 0, 1) := by decide +kernel
theorem dX0_unlikeBelow_11 : decode cX0_unlikeBelow 11 = .ok (.iload_n 3, 1) := by decide +kernel
theorem dX0_unlikeBelow_12 : decode cX0_unlikeBelow 12 = .ok (.invokevirtual 33, 3) := by decide +kernel
theorem dX0_unlikeBelow_15 : decode cX0_unlikeBelow 15 = .ok (.ifCond .le 7, 3) := by decide +kernel
theorem dX0_unlikeBelow_18 : decode cX0_unlikeBelow 18 = .ok (.iconst 1, 1) := by decide +kernel
theorem dX0_unlikeBelow_19 : decode cX0_unlikeBelow 19 = .ok (.goto 4, 3) := by decide +kernel
theorem dX0_unlikeBelow_22 : decode cX0_unlikeBelow 22 = .ok (.iconst 0, 1) := by decide +kernel
theorem dX0_unlikeBelow_23 : decode cX0_unlikeBelow 23 = .ok (.iadd, 1) := by decide +kernel
theorem dX0_unlikeBelow_24 : decode cX0_unlikeBelow 24 = .ok (.istore_n 2, 1) := by decide +kernel
theorem dX0_unlikeBelow_25 : decode cX0_unlikeBelow 25 = .ok (.iinc 3 1, 3) := by decide +kernel
theorem dX0_unlikeBelow_28 : decode cX0_unlikeBelow 28 = .ok (.goto (-24), 3) := by decide +kernel
theorem dX0_unlikeBelow_31 : decode cX0_unlikeBelow 31 = .ok (.iload_n 2, 1) := by decide +kernel
theorem dX0_unlikeBelow_32 : decode cX0_unlikeBelow 32 = .ok (.ireturn, 1) := by decide +kernel
theorem dX0_ways_0 : decode cX0_ways 0 = .ok (.aload_n 0, 1) := by decide +kernel
theorem dX0_ways_1 : decode cX0_ways 1 = .ok (.getfield 15, 3) := by decide +kernel
theorem dX0_ways_4 : decode cX0_ways 4 = .ok (.invokestatic 36, 3) := by decide +kernel
theorem dX0_ways_7 : decode cX0_ways 7 = .ok (.istore_n 1, 1) := by decide +kernel
theorem dX0_ways_8 : decode cX0_ways 8 = .ok (.iconst 0, 1) := by decide +kernel
theorem dX0_ways_9 : decode cX0_ways 9 = .ok (.istore_n 2, 1) := by decide +kernel
theorem dX0_ways_10 : decode cX0_ways 10 = .ok (.iload_n 2, 1) := by decide +kernel
theorem dX0_ways_11 : decode cX0_ways 11 = .ok (.bipush 6, 2) := by decide +kernel
theorem dX0_ways_13 : decode cX0_ways 13 = .ok (.if_icmp .ge 31, 3) := by decide +kernel
theorem dX0_ways_16 : decode cX0_ways 16 = .ok (.aload_n 0, 1) := by decide +kernel
theorem dX0_ways_17 : decode cX0_ways 17 = .ok (.getfield 9, 3) := by decide +kernel
theorem dX0_ways_20 : decode cX0_ways 20 = .ok (.iload_n 2, 1) := by decide +kernel
theorem dX0_ways_21 : decode cX0_ways 21 = .ok (.iaload, 1) := by decide +kernel
theorem dX0_ways_22 : decode cX0_ways 22 = .ok (.invokestatic 36, 3) := by decide +kernel
theorem dX0_ways_25 : decode cX0_ways 25 = .ok (.istore_n 3, 1) := by decide +kernel
theorem dX0_ways_26 : decode cX0_ways 26 = .ok (.iload_n 3, 1) := by decide +kernel
theorem dX0_ways_27 : decode cX0_ways 27 = .ok (.ifCond .le 9, 3) := by decide +kernel
theorem dX0_ways_30 : decode cX0_ways 30 = .ok (.iload_n 1, 1) := by decide +kernel
theorem dX0_ways_31 : decode cX0_ways 31 = .ok (.iload_n 3, 1) := by decide +kernel
theorem dX0_ways_32 : decode cX0_ways 32 = .ok (.idiv, 1) := by decide +kernel
theorem dX0_ways_33 : decode cX0_ways 33 = .ok (.goto 4, 3) := by decide +kernel
theorem dX0_ways_36 : decode cX0_ways 36 = .ok (.iconst 0, 1) := by decide +kernel
theorem dX0_ways_37 : decode cX0_ways 37 = .ok (.istore_n 1, 1) := by decide +kernel
theorem dX0_ways_38 : decode cX0_ways 38 = .ok (.iinc 2 1, 3) := by decide +kernel
theorem dX0_ways_41 : decode cX0_ways 41 = .ok (.goto (-31), 3) := by decide +kernel
theorem dX0_ways_44 : decode cX0_ways 44 = .ok (.iload_n 1, 1) := by decide +kernel
theorem dX0_ways_45 : decode cX0_ways 45 = .ok (.ireturn, 1) := by decide +kernel
theorem dX0_waysBehind_0 : decode cX0_waysBehind 0 = .ok (.aload_n 0, 1) := by decide +kernel
theorem dX0_waysBehind_1 : decode cX0_waysBehind 1 = .ok (.iload_n 1, 1) := by decide +kernel
theorem dX0_waysBehind_2 : decode cX0_waysBehind 2 = .ok (.invokevirtual 33, 3) := by decide +kernel
theorem dX0_waysBehind_5 : decode cX0_waysBehind 5 = .ok (.ifCond .ne 5, 3) := by decide +kernel
theorem dX0_waysBehind_8 : decode cX0_waysBehind 8 = .ok (.iconst 0, 1) := by decide +kernel
theorem dX0_waysBehind_9 : decode cX0_waysBehind 9 = .ok (.ireturn, 1) := by decide +kernel
theorem dX0_waysBehind_10 : decode cX0_waysBehind 10 = .ok (.aload_n 0, 1) := by decide +kernel
theorem dX0_waysBehind_11 : decode cX0_waysBehind 11 = .ok (.iload_n 1, 1) := by decide +kernel
theorem dX0_waysBehind_12 : decode cX0_waysBehind 12 = .ok (.invokevirtual 39, 3) := by decide +kernel
theorem dX0_waysBehind_15 : decode cX0_waysBehind 15 = .ok (.aload_n 0, 1) := by decide +kernel
theorem dX0_waysBehind_16 : decode cX0_waysBehind 16 = .ok (.invokevirtual 42, 3) := by decide +kernel
theorem dX0_waysBehind_19 : decode cX0_waysBehind 19 = .ok (.istore_n 2, 1) := by decide +kernel
theorem dX0_waysBehind_20 : decode cX0_waysBehind 20 = .ok (.aload_n 0, 1) := by decide +kernel
theorem dX0_waysBehind_21 : decode cX0_waysBehind 21 = .ok (.iload_n 1, 1) := by decide +kernel
theorem dX0_waysBehind_22 : decode cX0_waysBehind 22 = .ok (.invokevirtual 29, 3) := by decide +kernel
theorem dX0_waysBehind_25 : decode cX0_waysBehind 25 = .ok (.iload_n 2, 1) := by decide +kernel
theorem dX0_waysBehind_26 : decode cX0_waysBehind 26 = .ok (.ireturn, 1) := by decide +kernel
theorem dX0_factorial_0 : decode cX0_factorial 0 = .ok (.iload_n 0, 1) := by decide +kernel
theorem dX0_factorial_1 : decode cX0_factorial 1 = .ok (.ifCond .lt 19, 3) := by decide +kernel
theorem dX0_factorial_4 : decode cX0_factorial 4 = .ok (.iload_n 0, 1) := by decide +kernel
theorem dX0_factorial_5 : decode cX0_factorial 5 = .ok (.getstatic 45, 3) := by decide +kernel
theorem dX0_factorial_8 : decode cX0_factorial 8 = .ok (.arraylength, 1) := by decide +kernel
theorem dX0_factorial_9 : decode cX0_factorial 9 = .ok (.if_icmp .ge 11, 3) := by decide +kernel
theorem dX0_factorial_12 : decode cX0_factorial 12 = .ok (.getstatic 45, 3) := by decide +kernel
theorem dX0_factorial_15 : decode cX0_factorial 15 = .ok (.iload_n 0, 1) := by decide +kernel
theorem dX0_factorial_16 : decode cX0_factorial 16 = .ok (.iaload, 1) := by decide +kernel
theorem dX0_factorial_17 : decode cX0_factorial 17 = .ok (.goto 4, 3) := by decide +kernel
theorem dX0_factorial_20 : decode cX0_factorial 20 = .ok (.iconst 0, 1) := by decide +kernel
theorem dX0_factorial_21 : decode cX0_factorial 21 = .ok (.ireturn, 1) := by decide +kernel
theorem dX1_init_0 : decode cX1_init 0 = .ok (.aload_n 0, 1) := by decide +kernel
theorem dX1_init_1 : decode cX1_init 1 = .ok (.invokespecial 3, 3) := by decide +kernel
theorem dX1_init_4 : decode cX1_init 4 = .ok (.aload_n 0, 1) := by decide +kernel
theorem dX1_init_5 : decode cX1_init 5 = .ok (.bipush 11, 2) := by decide +kernel
theorem dX1_init_7 : decode cX1_init 7 = .ok (.newarray .int, 2) := by decide +kernel
theorem dX1_init_9 : decode cX1_init 9 = .ok (.putfield 9, 3) := by decide +kernel
theorem dX1_init_12 : decode cX1_init 12 = .ok (.return_, 1) := by decide +kernel
theorem dX1_length_0 : decode cX1_length 0 = .ok (.aload_n 0, 1) := by decide +kernel
theorem dX1_length_1 : decode cX1_length 1 = .ok (.getfield 15, 3) := by decide +kernel
theorem dX1_length_4 : decode cX1_length 4 = .ok (.ireturn, 1) := by decide +kernel
theorem dX1_has_0 : decode cX1_has 0 = .ok (.iload_n 1, 1) := by decide +kernel
theorem dX1_has_1 : decode cX1_has 1 = .ok (.ifCond .lt 21, 3) := by decide +kernel
theorem dX1_has_4 : decode cX1_has 4 = .ok (.iload_n 1, 1) := by decide +kernel
theorem dX1_has_5 : decode cX1_has 5 = .ok (.aload_n 0, 1) := by decide +kernel
theorem dX1_has_6 : decode cX1_has 6 = .ok (.getfield 15, 3) := by decide +kernel
theorem dX1_has_9 : decode cX1_has 9 = .ok (.if_icmp .ge 13, 3) := by decide +kernel
theorem dX1_has_12 : decode cX1_has 12 = .ok (.iload_n 1, 1) := by decide +kernel
theorem dX1_has_13 : decode cX1_has 13 = .ok (.bipush 11, 2) := by decide +kernel
theorem dX1_has_15 : decode cX1_has 15 = .ok (.if_icmp .ge 7, 3) := by decide +kernel
theorem dX1_has_18 : decode cX1_has 18 = .ok (.iconst 1, 1) := by decide +kernel
theorem dX1_has_19 : decode cX1_has 19 = .ok (.goto 4, 3) := by decide +kernel
theorem dX1_has_22 : decode cX1_has 22 = .ok (.iconst 0, 1) := by decide +kernel
theorem dX1_has_23 : decode cX1_has 23 = .ok (.ireturn, 1) := by decide +kernel
theorem dX1_at_0 : decode cX1_at 0 = .ok (.iload_n 1, 1) := by decide +kernel
theorem dX1_at_1 : decode cX1_at 1 = .ok (.ifCond .lt 26, 3) := by decide +kernel
theorem dX1_at_4 : decode cX1_at 4 = .ok (.iload_n 1, 1) := by decide +kernel
theorem dX1_at_5 : decode cX1_at 5 = .ok (.aload_n 0, 1) := by decide +kernel
theorem dX1_at_6 : decode cX1_at 6 = .ok (.getfield 15, 3) := by decide +kernel
theorem dX1_at_9 : decode cX1_at 9 = .ok (.if_icmp .ge 18, 3) := by decide +kernel
theorem dX1_at_12 : decode cX1_at 12 = .ok (.iload_n 1, 1) := by decide +kernel
theorem dX1_at_13 : decode cX1_at 13 = .ok (.bipush 11, 2) := by decide +kernel
theorem dX1_at_15 : decode cX1_at 15 = .ok (.if_icmp .ge 12, 3) := by decide +kernel
theorem dX1_at_18 : decode cX1_at 18 = .ok (.aload_n 0, 1) := by decide +kernel
theorem dX1_at_19 : decode cX1_at 19 = .ok (.getfield 9, 3) := by decide +kernel
theorem dX1_at_22 : decode cX1_at 22 = .ok (.iload_n 1, 1) := by decide +kernel
theorem dX1_at_23 : decode cX1_at 23 = .ok (.iaload, 1) := by decide +kernel
theorem dX1_at_24 : decode cX1_at 24 = .ok (.goto 4, 3) := by decide +kernel
theorem dX1_at_27 : decode cX1_at 27 = .ok (.iconst 0, 1) := by decide +kernel
theorem dX1_at_28 : decode cX1_at 28 = .ok (.ireturn, 1) := by decide +kernel
theorem dX1_set_0 : decode cX1_set 0 = .ok (.iload_n 1, 1) := by decide +kernel
theorem dX1_set_1 : decode cX1_set 1 = .ok (.ifCond .lt 24, 3) := by decide +kernel
theorem dX1_set_4 : decode cX1_set 4 = .ok (.iload_n 1, 1) := by decide +kernel
theorem dX1_set_5 : decode cX1_set 5 = .ok (.aload_n 0, 1) := by decide +kernel
theorem dX1_set_6 : decode cX1_set 6 = .ok (.getfield 15, 3) := by decide +kernel
theorem dX1_set_9 : decode cX1_set 9 = .ok (.if_icmp .ge 16, 3) := by decide +kernel
theorem dX1_set_12 : decode cX1_set 12 = .ok (.iload_n 1, 1) := by decide +kernel
theorem dX1_set_13 : decode cX1_set 13 = .ok (.bipush 11, 2) := by decide +kernel
theorem dX1_set_15 : decode cX1_set 15 = .ok (.if_icmp .ge 10, 3) := by decide +kernel
theorem dX1_set_18 : decode cX1_set 18 = .ok (.aload_n 0, 1) := by decide +kernel
theorem dX1_set_19 : decode cX1_set 19 = .ok (.getfield 9, 3) := by decide +kernel
theorem dX1_set_22 : decode cX1_set 22 = .ok (.iload_n 1, 1) := by decide +kernel
theorem dX1_set_23 : decode cX1_set 23 = .ok (.iload_n 2, 1) := by decide +kernel
theorem dX1_set_24 : decode cX1_set 24 = .ok (.iastore, 1) := by decide +kernel
theorem dX1_set_25 : decode cX1_set 25 = .ok (.return_, 1) := by decide +kernel
theorem dX1_clear_0 : decode cX1_clear 0 = .ok (.aload_n 0, 1) := by decide +kernel
theorem dX1_clear_1 : decode cX1_clear 1 = .ok (.iconst 0, 1) := by decide +kernel
theorem dX1_clear_2 : decode cX1_clear 2 = .ok (.putfield 15, 3) := by decide +kernel
theorem dX1_clear_5 : decode cX1_clear 5 = .ok (.return_, 1) := by decide +kernel
theorem dX1_add_0 : decode cX1_add 0 = .ok (.aload_n 0, 1) := by decide +kernel
theorem dX1_add_1 : decode cX1_add 1 = .ok (.getfield 15, 3) := by decide +kernel
theorem dX1_add_4 : decode cX1_add 4 = .ok (.bipush 11, 2) := by decide +kernel
theorem dX1_add_6 : decode cX1_add 6 = .ok (.if_icmp .ge 24, 3) := by decide +kernel
theorem dX1_add_9 : decode cX1_add 9 = .ok (.aload_n 0, 1) := by decide +kernel
theorem dX1_add_10 : decode cX1_add 10 = .ok (.dup, 1) := by decide +kernel
theorem dX1_add_11 : decode cX1_add 11 = .ok (.getfield 15, 3) := by decide +kernel
theorem dX1_add_14 : decode cX1_add 14 = .ok (.iconst 1, 1) := by decide +kernel
theorem dX1_add_15 : decode cX1_add 15 = .ok (.iadd, 1) := by decide +kernel
theorem dX1_add_16 : decode cX1_add 16 = .ok (.putfield 15, 3) := by decide +kernel
theorem dX1_add_19 : decode cX1_add 19 = .ok (.aload_n 0, 1) := by decide +kernel
theorem dX1_add_20 : decode cX1_add 20 = .ok (.aload_n 0, 1) := by decide +kernel
theorem dX1_add_21 : decode cX1_add 21 = .ok (.getfield 15, 3) := by decide +kernel
theorem dX1_add_24 : decode cX1_add 24 = .ok (.iconst 1, 1) := by decide +kernel
theorem dX1_add_25 : decode cX1_add 25 = .ok (.isub, 1) := by decide +kernel
theorem dX1_add_26 : decode cX1_add 26 = .ok (.iload_n 1, 1) := by decide +kernel
theorem dX1_add_27 : decode cX1_add 27 = .ok (.invokevirtual 19, 3) := by decide +kernel
theorem dX1_add_30 : decode cX1_add 30 = .ok (.return_, 1) := by decide +kernel
theorem dX1_insert_0 : decode cX1_insert 0 = .ok (.aload_n 0, 1) := by decide +kernel
theorem dX1_insert_1 : decode cX1_insert 1 = .ok (.iload_n 2, 1) := by decide +kernel
theorem dX1_insert_2 : decode cX1_insert 2 = .ok (.invokevirtual 23, 3) := by decide +kernel
theorem dX1_insert_5 : decode cX1_insert 5 = .ok (.aload_n 0, 1) := by decide +kernel
theorem dX1_insert_6 : decode cX1_insert 6 = .ok (.aload_n 0, 1) := by decide +kernel
theorem dX1_insert_7 : decode cX1_insert 7 = .ok (.getfield 15, 3) := by decide +kernel
theorem dX1_insert_10 : decode cX1_insert 10 = .ok (.iconst 1, 1) := by decide +kernel
theorem dX1_insert_11 : decode cX1_insert 11 = .ok (.isub, 1) := by decide +kernel
theorem dX1_insert_12 : decode cX1_insert 12 = .ok (.iload_n 1, 1) := by decide +kernel
theorem dX1_insert_13 : decode cX1_insert 13 = .ok (.invokevirtual 27, 3) := by decide +kernel
theorem dX1_insert_16 : decode cX1_insert 16 = .ok (.return_, 1) := by decide +kernel
theorem dX1_remove_0 : decode cX1_remove 0 = .ok (.iload_n 1, 1) := by decide +kernel
theorem dX1_remove_1 : decode cX1_remove 1 = .ok (.istore_n 2, 1) := by decide +kernel
theorem dX1_remove_2 : decode cX1_remove 2 = .ok (.iload_n 2, 1) := by decide +kernel
theorem dX1_remove_3 : decode cX1_remove 3 = .ok (.aload_n 0, 1) := by decide +kernel
theorem dX1_remove_4 : decode cX1_remove 4 = .ok (.getfield 15, 3) := by decide +kernel
theorem dX1_remove_7 : decode cX1_remove 7 = .ok (.iconst 1, 1) := by decide +kernel
theorem dX1_remove_8 : decode cX1_remove 8 = .ok (.isub, 1) := by decide +kernel
theorem dX1_remove_9 : decode cX1_remove 9 = .ok (.if_icmp .ge 21, 3) := by decide +kernel
theorem dX1_remove_12 : decode cX1_remove 12 = .ok (.aload_n 0, 1) := by decide +kernel
theorem dX1_remove_13 : decode cX1_remove 13 = .ok (.iload_n 2, 1) := by decide +kernel
theorem dX1_remove_14 : decode cX1_remove 14 = .ok (.aload_n 0, 1) := by decide +kernel
theorem dX1_remove_15 : decode cX1_remove 15 = .ok (.iload_n 2, 1) := by decide +kernel
theorem dX1_remove_16 : decode cX1_remove 16 = .ok (.iconst 1, 1) := by decide +kernel
theorem dX1_remove_17 : decode cX1_remove 17 = .ok (.iadd, 1) := by decide +kernel
theorem dX1_remove_18 : decode cX1_remove 18 = .ok (.invokevirtual 30, 3) := by decide +kernel
theorem dX1_remove_21 : decode cX1_remove 21 = .ok (.invokevirtual 19, 3) := by decide +kernel
theorem dX1_remove_24 : decode cX1_remove 24 = .ok (.iinc 2 1, 3) := by decide +kernel
theorem dX1_remove_27 : decode cX1_remove 27 = .ok (.goto (-25), 3) := by decide +kernel
theorem dX1_remove_30 : decode cX1_remove 30 = .ok (.aload_n 0, 1) := by decide +kernel
theorem dX1_remove_31 : decode cX1_remove 31 = .ok (.iload_n 1, 1) := by decide +kernel
theorem dX1_remove_32 : decode cX1_remove 32 = .ok (.invokevirtual 34, 3) := by decide +kernel
theorem dX1_remove_35 : decode cX1_remove 35 = .ok (.ifCond .eq 13, 3) := by decide +kernel
theorem dX1_remove_38 : decode cX1_remove 38 = .ok (.aload_n 0, 1) := by decide +kernel
theorem dX1_remove_39 : decode cX1_remove 39 = .ok (.dup, 1) := by decide +kernel
theorem dX1_remove_40 : decode cX1_remove 40 = .ok (.getfield 15, 3) := by decide +kernel
theorem dX1_remove_43 : decode cX1_remove 43 = .ok (.iconst 1, 1) := by decide +kernel
theorem dX1_remove_44 : decode cX1_remove 44 = .ok (.isub, 1) := by decide +kernel
theorem dX1_remove_45 : decode cX1_remove 45 = .ok (.putfield 15, 3) := by decide +kernel
theorem dX1_remove_48 : decode cX1_remove 48 = .ok (.return_, 1) := by decide +kernel
theorem dX1_become_0 : decode cX1_become 0 = .ok (.aload_n 0, 1) := by decide +kernel
theorem dX1_become_1 : decode cX1_become 1 = .ok (.iconst 0, 1) := by decide +kernel
theorem dX1_become_2 : decode cX1_become 2 = .ok (.putfield 15, 3) := by decide +kernel
theorem dX1_become_5 : decode cX1_become 5 = .ok (.iconst 0, 1) := by decide +kernel
theorem dX1_become_6 : decode cX1_become 6 = .ok (.istore_n 2, 1) := by decide +kernel
theorem dX1_become_7 : decode cX1_become 7 = .ok (.iload_n 2, 1) := by decide +kernel
theorem dX1_become_8 : decode cX1_become 8 = .ok (.aload_n 1, 1) := by decide +kernel
theorem dX1_become_9 : decode cX1_become 9 = .ok (.getfield 15, 3) := by decide +kernel
theorem dX1_become_12 : decode cX1_become 12 = .ok (.if_icmp .ge 18, 3) := by decide +kernel
theorem dX1_become_15 : decode cX1_become 15 = .ok (.aload_n 0, 1) := by decide +kernel
theorem dX1_become_16 : decode cX1_become 16 = .ok (.aload_n 1, 1) := by decide +kernel
theorem dX1_become_17 : decode cX1_become 17 = .ok (.iload_n 2, 1) := by decide +kernel
theorem dX1_become_18 : decode cX1_become 18 = .ok (.invokevirtual 30, 3) := by decide +kernel
theorem dX1_become_21 : decode cX1_become 21 = .ok (.invokevirtual 23, 3) := by decide +kernel
theorem dX1_become_24 : decode cX1_become 24 = .ok (.iinc 2 1, 3) := by decide +kernel
theorem dX1_become_27 : decode cX1_become 27 = .ok (.goto (-20), 3) := by decide +kernel
theorem dX1_become_30 : decode cX1_become 30 = .ok (.return_, 1) := by decide +kernel
theorem dX1_exchange_0 : decode cX1_exchange 0 = .ok (.aload_n 0, 1) := by decide +kernel
theorem dX1_exchange_1 : decode cX1_exchange 1 = .ok (.iload_n 1, 1) := by decide +kernel
theorem dX1_exchange_2 : decode cX1_exchange 2 = .ok (.invokevirtual 30, 3) := by decide +kernel
theorem dX1_exchange_5 : decode cX1_exchange 5 = .ok (.istore_n 3, 1) := by decide +kernel
theorem dX1_exchange_6 : decode cX1_exchange 6 = .ok (.aload_n 0, 1) := by decide +kernel
theorem dX1_exchange_7 : decode cX1_exchange 7 = .ok (.iload_n 1, 1) := by decide +kernel
theorem dX1_exchange_8 : decode cX1_exchange 8 = .ok (.aload_n 0, 1) := by decide +kernel
theorem dX1_exchange_9 : decode cX1_exchange 9 = .ok (.iload_n 2, 1) := by decide +kernel
theorem dX1_exchange_10 : decode cX1_exchange 10 = .ok (.invokevirtual 30, 3) := by decide +kernel
theorem dX1_exchange_13 : decode cX1_exchange 13 = .ok (.invokevirtual 19, 3) := by decide +kernel
theorem dX1_exchange_16 : decode cX1_exchange 16 = .ok (.aload_n 0, 1) := by decide +kernel
theorem dX1_exchange_17 : decode cX1_exchange 17 = .ok (.iload_n 2, 1) := by decide +kernel
theorem dX1_exchange_18 : decode cX1_exchange 18 = .ok (.iload_n 3, 1) := by decide +kernel
theorem dX1_exchange_19 : decode cX1_exchange 19 = .ok (.invokevirtual 19, 3) := by decide +kernel
theorem dX1_exchange_22 : decode cX1_exchange 22 = .ok (.return_, 1) := by decide +kernel
theorem dX1_reverse_0 : decode cX1_reverse 0 = .ok (.iload_n 2, 1) := by decide +kernel
theorem dX1_reverse_1 : decode cX1_reverse 1 = .ok (.istore_n 3, 1) := by decide +kernel
theorem dX1_reverse_2 : decode cX1_reverse 2 = .ok (.iload_n 1, 1) := by decide +kernel
theorem dX1_reverse_3 : decode cX1_reverse 3 = .ok (.istore 4, 2) := by decide +kernel
theorem dX1_reverse_5 : decode cX1_reverse 5 = .ok (.iload 4, 2) := by decide +kernel
theorem dX1_reverse_7 : decode cX1_reverse 7 = .ok (.iload_n 3, 1) := by decide +kernel
theorem dX1_reverse_8 : decode cX1_reverse 8 = .ok (.if_icmp .ge 19, 3) := by decide +kernel
theorem dX1_reverse_11 : decode cX1_reverse 11 = .ok (.aload_n 0, 1) := by decide +kernel
theorem dX1_reverse_12 : decode cX1_reverse 12 = .ok (.iload 4, 2) := by decide +kernel
theorem dX1_reverse_14 : decode cX1_reverse 14 = .ok (.iload_n 3, 1) := by decide +kernel
theorem dX1_reverse_15 : decode cX1_reverse 15 = .ok (.invokevirtual 38, 3) := by decide +kernel
theorem dX1_reverse_18 : decode cX1_reverse 18 = .ok (.iinc 3 (-1), 3) := by decide +kernel
theorem dX1_reverse_21 : decode cX1_reverse 21 = .ok (.iinc 4 1, 3) := by decide +kernel
theorem dX1_reverse_24 : decode cX1_reverse 24 = .ok (.goto (-19), 3) := by decide +kernel
theorem dX1_reverse_27 : decode cX1_reverse 27 = .ok (.return_, 1) := by decide +kernel
theorem dX1_roll_0 : decode cX1_roll 0 = .ok (.aload_n 0, 1) := by decide +kernel
theorem dX1_roll_1 : decode cX1_roll 1 = .ok (.aload_n 0, 1) := by decide +kernel
theorem dX1_roll_2 : decode cX1_roll 2 = .ok (.getfield 15, 3) := by decide +kernel
theorem dX1_roll_5 : decode cX1_roll 5 = .ok (.iconst 1, 1) := by decide +kernel
theorem dX1_roll_6 : decode cX1_roll 6 = .ok (.isub, 1) := by decide +kernel
theorem dX1_roll_7 : decode cX1_roll 7 = .ok (.iconst 0, 1) := by decide +kernel
theorem dX1_roll_8 : decode cX1_roll 8 = .ok (.invokevirtual 27, 3) := by decide +kernel
theorem dX1_roll_11 : decode cX1_roll 11 = .ok (.return_, 1) := by decide +kernel
theorem dX1_bringAhead_0 : decode cX1_bringAhead 0 = .ok (.iload_n 1, 1) := by decide +kernel
theorem dX1_bringAhead_1 : decode cX1_bringAhead 1 = .ok (.istore_n 3, 1) := by decide +kernel
theorem dX1_bringAhead_2 : decode cX1_bringAhead 2 = .ok (.iload_n 3, 1) := by decide +kernel
theorem dX1_bringAhead_3 : decode cX1_bringAhead 3 = .ok (.iload_n 2, 1) := by decide +kernel
theorem dX1_bringAhead_4 : decode cX1_bringAhead 4 = .ok (.if_icmp .le 17, 3) := by decide +kernel
theorem dX1_bringAhead_7 : decode cX1_bringAhead 7 = .ok (.aload_n 0, 1) := by decide +kernel
theorem dX1_bringAhead_8 : decode cX1_bringAhead 8 = .ok (.iload_n 3, 1) := by decide +kernel
theorem dX1_bringAhead_9 : decode cX1_bringAhead 9 = .ok (.iload_n 3, 1) := by decide +kernel
theorem dX1_bringAhead_10 : decode cX1_bringAhead 10 = .ok (.iconst 1, 1) := by decide +kernel
theorem dX1_bringAhead_11 : decode cX1_bringAhead 11 = .ok (.isub, 1) := by decide +kernel
theorem dX1_bringAhead_12 : decode cX1_bringAhead 12 = .ok (.invokevirtual 38, 3) := by decide +kernel
theorem dX1_bringAhead_15 : decode cX1_bringAhead 15 = .ok (.iinc 3 (-1), 3) := by decide +kernel
theorem dX1_bringAhead_18 : decode cX1_bringAhead 18 = .ok (.goto (-16), 3) := by decide +kernel
theorem dX1_bringAhead_21 : decode cX1_bringAhead 21 = .ok (.return_, 1) := by decide +kernel
theorem dX1_find_0 : decode cX1_find 0 = .ok (.iload_n 2, 1) := by decide +kernel
theorem dX1_find_1 : decode cX1_find 1 = .ok (.istore_n 3, 1) := by decide +kernel
theorem dX1_find_2 : decode cX1_find 2 = .ok (.iload_n 3, 1) := by decide +kernel
theorem dX1_find_3 : decode cX1_find 3 = .ok (.aload_n 0, 1) := by decide +kernel
theorem dX1_find_4 : decode cX1_find 4 = .ok (.getfield 15, 3) := by decide +kernel
theorem dX1_find_7 : decode cX1_find 7 = .ok (.if_icmp .ge 20, 3) := by decide +kernel
theorem dX1_find_10 : decode cX1_find 10 = .ok (.aload_n 0, 1) := by decide +kernel
theorem dX1_find_11 : decode cX1_find 11 = .ok (.iload_n 3, 1) := by decide +kernel
theorem dX1_find_12 : decode cX1_find 12 = .ok (.invokevirtual 30, 3) := by decide +kernel
theorem dX1_find_15 : decode cX1_find 15 = .ok (.iload_n 1, 1) := by decide +kernel
theorem dX1_find_16 : decode cX1_find 16 = .ok (.if_icmp .ne 5, 3) := by decide +kernel
theorem dX1_find_19 : decode cX1_find 19 = .ok (.iload_n 3, 1) := by decide +kernel
theorem dX1_find_20 : decode cX1_find 20 = .ok (.ireturn, 1) := by decide +kernel
theorem dX1_find_21 : decode cX1_find 21 = .ok (.iinc 3 1, 3) := by decide +kernel
theorem dX1_find_24 : decode cX1_find 24 = .ok (.goto (-22), 3) := by decide +kernel
theorem dX1_find_27 : decode cX1_find 27 = .ok (.iload_n 2, 1) := by decide +kernel
theorem dX1_find_28 : decode cX1_find 28 = .ok (.ireturn, 1) := by decide +kernel
theorem dX1_placesUnlike_0 : decode cX1_placesUnlike 0 = .ok (.iconst 0, 1) := by decide +kernel
theorem dX1_placesUnlike_1 : decode cX1_placesUnlike 1 = .ok (.istore_n 2, 1) := by decide +kernel
theorem dX1_placesUnlike_2 : decode cX1_placesUnlike 2 = .ok (.iconst 0, 1) := by decide +kernel
theorem dX1_placesUnlike_3 : decode cX1_placesUnlike 3 = .ok (.istore_n 3, 1) := by decide +kernel
theorem dX1_placesUnlike_4 : decode cX1_placesUnlike 4 = .ok (.iload_n 3, 1) := by decide +kernel
theorem dX1_placesUnlike_5 : decode cX1_placesUnlike 5 = .ok (.aload_n 0, 1) := by decide +kernel
theorem dX1_placesUnlike_6 : decode cX1_placesUnlike 6 = .ok (.getfield 15, 3) := by decide +kernel
theorem dX1_placesUnlike_9 : decode cX1_placesUnlike 9 = .ok (.if_icmp .ge 30, 3) := by decide +kernel
theorem dX1_placesUnlike_12 : decode cX1_placesUnlike 12 = .ok (.iload_n 2, 1) := by decide +kernel
theorem dX1_placesUnlike_13 : decode cX1_placesUnlike 13 = .ok (.aload_n 0, 1) := by decide +kernel
theorem dX1_placesUnlike_14 : decode cX1_placesUnlike 14 = .ok (.iload_n 3, 1) := by decide +kernel
theorem dX1_placesUnlike_15 : decode cX1_placesUnlike 15 = .ok (.invokevirtual 30, 3) := by decide +kernel
theorem dX1_placesUnlike_18 : decode cX1_placesUnlike 18 = .ok (.aload_n 1, 1) := by decide +kernel
theorem dX1_placesUnlike_19 : decode cX1_placesUnlike 19 = .ok (.iload_n 3, 1) := by decide +kernel
theorem dX1_placesUnlike_20 : decode cX1_placesUnlike 20 = .ok (.invokevirtual 30, 3) := by decide +kernel
theorem dX1_placesUnlike_23 : decode cX1_placesUnlike 23 = .ok (.if_icmp .ne 7, 3) := by decide +kernel
theorem dX1_placesUnlike_26 : decode cX1_placesUnlike 26 = .ok (.iconst 0, 1) := by decide +kernel
theorem dX1_placesUnlike_27 : decode cX1_placesUnlike 27 = .ok (.goto 4, 3) := by decide +kernel
theorem dX1_placesUnlike_30 : decode cX1_placesUnlike 30 = .ok (.iconst 1, 1) := by decide +kernel
theorem dX1_placesUnlike_31 : decode cX1_placesUnlike 31 = .ok (.iadd, 1) := by decide +kernel
theorem dX1_placesUnlike_32 : decode cX1_placesUnlike 32 = .ok (.istore_n 2, 1) := by decide +kernel
theorem dX1_placesUnlike_33 : decode cX1_placesUnlike 33 = .ok (.iinc 3 1, 3) := by decide +kernel
theorem dX1_placesUnlike_36 : decode cX1_placesUnlike 36 = .ok (.goto (-32), 3) := by decide +kernel
theorem dX1_placesUnlike_39 : decode cX1_placesUnlike 39 = .ok (.iload_n 2, 1) := by decide +kernel
theorem dX1_placesUnlike_40 : decode cX1_placesUnlike 40 = .ok (.ireturn, 1) := by decide +kernel
theorem dX1_isSmooth_0 : decode cX1_isSmooth 0 = .ok (.iconst 1, 1) := by decide +kernel
theorem dX1_isSmooth_1 : decode cX1_isSmooth 1 = .ok (.istore_n 2, 1) := by decide +kernel
theorem dX1_isSmooth_2 : decode cX1_isSmooth 2 = .ok (.iload_n 2, 1) := by decide +kernel
theorem dX1_isSmooth_3 : decode cX1_isSmooth 3 = .ok (.iload_n 1, 1) := by decide +kernel
theorem dX1_isSmooth_4 : decode cX1_isSmooth 4 = .ok (.if_icmp .ge 26, 3) := by decide +kernel
theorem dX1_isSmooth_7 : decode cX1_isSmooth 7 = .ok (.aload_n 0, 1) := by decide +kernel
theorem dX1_isSmooth_8 : decode cX1_isSmooth 8 = .ok (.iload_n 2, 1) := by decide +kernel
theorem dX1_isSmooth_9 : decode cX1_isSmooth 9 = .ok (.invokevirtual 30, 3) := by decide +kernel
theorem dX1_isSmooth_12 : decode cX1_isSmooth 12 = .ok (.aload_n 0, 1) := by decide +kernel
theorem dX1_isSmooth_13 : decode cX1_isSmooth 13 = .ok (.iload_n 2, 1) := by decide +kernel
theorem dX1_isSmooth_14 : decode cX1_isSmooth 14 = .ok (.iconst 1, 1) := by decide +kernel
theorem dX1_isSmooth_15 : decode cX1_isSmooth 15 = .ok (.isub, 1) := by decide +kernel
theorem dX1_isSmooth_16 : decode cX1_isSmooth 16 = .ok (.invokevirtual 30, 3) := by decide +kernel
theorem dX1_isSmooth_19 : decode cX1_isSmooth 19 = .ok (.if_icmp .ne 5, 3) := by decide +kernel
theorem dX1_isSmooth_22 : decode cX1_isSmooth 22 = .ok (.iconst 0, 1) := by decide +kernel
theorem dX1_isSmooth_23 : decode cX1_isSmooth 23 = .ok (.ireturn, 1) := by decide +kernel
theorem dX1_isSmooth_24 : decode cX1_isSmooth 24 = .ok (.iinc 2 1, 3) := by decide +kernel
theorem dX1_isSmooth_27 : decode cX1_isSmooth 27 = .ok (.goto (-25), 3) := by decide +kernel
theorem dX1_isSmooth_30 : decode cX1_isSmooth 30 = .ok (.iconst 1, 1) := by decide +kernel
theorem dX1_isSmooth_31 : decode cX1_isSmooth 31 = .ok (.ireturn, 1) := by decide +kernel
theorem dX1_inversions_0 : decode cX1_inversions 0 = .ok (.iconst 0, 1) := by decide +kernel
theorem dX1_inversions_1 : decode cX1_inversions 1 = .ok (.istore_n 1, 1) := by decide +kernel
theorem dX1_inversions_2 : decode cX1_inversions 2 = .ok (.iconst 0, 1) := by decide +kernel
theorem dX1_inversions_3 : decode cX1_inversions 3 = .ok (.istore_n 2, 1) := by decide +kernel
theorem dX1_inversions_4 : decode cX1_inversions 4 = .ok (.iload_n 2, 1) := by decide +kernel
theorem dX1_inversions_5 : decode cX1_inversions 5 = .ok (.aload_n 0, 1) := by decide +kernel
theorem dX1_inversions_6 : decode cX1_inversions 6 = .ok (.getfield 15, 3) := by decide +kernel
theorem dX1_inversions_9 : decode cX1_inversions 9 = .ok (.if_icmp .ge 48, 3) := by decide +kernel
theorem dX1_inversions_12 : decode cX1_inversions 12 = .ok (.iload_n 2, 1) := by decide +kernel
theorem dX1_inversions_13 : decode cX1_inversions 13 = .ok (.iconst 1, 1) := by decide +kernel
theorem dX1_inversions_14 : decode cX1_inversions 14 = .ok (.iadd, 1) := by decide +kernel
theorem dX1_inversions_15 : decode cX1_inversions 15 = .ok (.istore_n 3, 1) := by decide +kernel
theorem dX1_inversions_16 : decode cX1_inversions 16 = .ok (.iload_n 3, 1) := by decide +kernel
theorem dX1_inversions_17 : decode cX1_inversions 17 = .ok (.aload_n 0, 1) := by decide +kernel
theorem dX1_inversions_18 : decode cX1_inversions 18 = .ok (.getfield 15, 3) := by decide +kernel
theorem dX1_inversions_21 : decode cX1_inversions 21 = .ok (.if_icmp .ge 30, 3) := by decide +kernel
theorem dX1_inversions_24 : decode cX1_inversions 24 = .ok (.iload_n 1, 1) := by decide +kernel
theorem dX1_inversions_25 : decode cX1_inversions 25 = .ok (.aload_n 0, 1) := by decide +kernel
theorem dX1_inversions_26 : decode cX1_inversions 26 = .ok (.iload_n 2, 1) := by decide +kernel
theorem dX1_inversions_27 : decode cX1_inversions 27 = .ok (.invokevirtual 30, 3) := by decide +kernel
theorem dX1_inversions_30 : decode cX1_inversions 30 = .ok (.aload_n 0, 1) := by decide +kernel
theorem dX1_inversions_31 : decode cX1_inversions 31 = .ok (.iload_n 3, 1) := by decide +kernel
theorem dX1_inversions_32 : decode cX1_inversions 32 = .ok (.invokevirtual 30, 3) := by decide +kernel
theorem dX1_inversions_35 : decode cX1_inversions 35 = .ok (.if_icmp .le 7, 3) := by decide +kernel
theorem dX1_inversions_38 : decode cX1_inversions 38 = .ok (.iconst 1, 1) := by decide +kernel
theorem dX1_inversions_39 : decode cX1_inversions 39 = .ok (.goto 4, 3) := by decide +kernel
theorem dX1_inversions_42 : decode cX1_inversions 42 = .ok (.iconst 0, 1) := by decide +kernel
theorem dX1_inversions_43 : decode cX1_inversions 43 = .ok (.iadd, 1) := by decide +kernel
theorem dX1_inversions_44 : decode cX1_inversions 44 = .ok (.istore_n 1, 1) := by decide +kernel
theorem dX1_inversions_45 : decode cX1_inversions 45 = .ok (.iinc 3 1, 3) := by decide +kernel
theorem dX1_inversions_48 : decode cX1_inversions 48 = .ok (.goto (-32), 3) := by decide +kernel
theorem dX1_inversions_51 : decode cX1_inversions 51 = .ok (.iinc 2 1, 3) := by decide +kernel
theorem dX1_inversions_54 : decode cX1_inversions 54 = .ok (.goto (-50), 3) := by decide +kernel
theorem dX1_inversions_57 : decode cX1_inversions 57 = .ok (.iload_n 1, 1) := by decide +kernel
theorem dX1_inversions_58 : decode cX1_inversions 58 = .ok (.ireturn, 1) := by decide +kernel
theorem dX1_fallsBehind_0 : decode cX1_fallsBehind 0 = .ok (.iload_n 1, 1) := by decide +kernel
theorem dX1_fallsBehind_1 : decode cX1_fallsBehind 1 = .ok (.aload_n 0, 1) := by decide +kernel
theorem dX1_fallsBehind_2 : decode cX1_fallsBehind 2 = .ok (.getfield 15, 3) := by decide +kernel
theorem dX1_fallsBehind_5 : decode cX1_fallsBehind 5 = .ok (.iconst 1, 1) := by decide +kernel
theorem dX1_fallsBehind_6 : decode cX1_fallsBehind 6 = .ok (.isub, 1) := by decide +kernel
theorem dX1_fallsBehind_7 : decode cX1_fallsBehind 7 = .ok (.if_icmp .ge 22, 3) := by decide +kernel
theorem dX1_fallsBehind_10 : decode cX1_fallsBehind 10 = .ok (.aload_n 0, 1) := by decide +kernel
theorem dX1_fallsBehind_11 : decode cX1_fallsBehind 11 = .ok (.iload_n 1, 1) := by decide +kernel
theorem dX1_fallsBehind_12 : decode cX1_fallsBehind 12 = .ok (.invokevirtual 30, 3) := by decide +kernel
theorem dX1_fallsBehind_15 : decode cX1_fallsBehind 15 = .ok (.aload_n 0, 1) := by decide +kernel
theorem dX1_fallsBehind_16 : decode cX1_fallsBehind 16 = .ok (.iload_n 1, 1) := by decide +kernel
theorem dX1_fallsBehind_17 : decode cX1_fallsBehind 17 = .ok (.iconst 1, 1) := by decide +kernel
theorem dX1_fallsBehind_18 : decode cX1_fallsBehind 18 = .ok (.iadd, 1) := by decide +kernel
theorem dX1_fallsBehind_19 : decode cX1_fallsBehind 19 = .ok (.invokevirtual 30, 3) := by decide +kernel
theorem dX1_fallsBehind_22 : decode cX1_fallsBehind 22 = .ok (.if_icmp .le 7, 3) := by decide +kernel
theorem dX1_fallsBehind_25 : decode cX1_fallsBehind 25 = .ok (.iconst 1, 1) := by decide +kernel
theorem dX1_fallsBehind_26 : decode cX1_fallsBehind 26 = .ok (.goto 4, 3) := by decide +kernel
theorem dX1_fallsBehind_29 : decode cX1_fallsBehind 29 = .ok (.iconst 0, 1) := by decide +kernel
theorem dX1_fallsBehind_30 : decode cX1_fallsBehind 30 = .ok (.ireturn, 1) := by decide +kernel
theorem dX1_descents_0 : decode cX1_descents 0 = .ok (.iconst 0, 1) := by decide +kernel
theorem dX1_descents_1 : decode cX1_descents 1 = .ok (.istore_n 1, 1) := by decide +kernel
theorem dX1_descents_2 : decode cX1_descents 2 = .ok (.iconst 0, 1) := by decide +kernel
theorem dX1_descents_3 : decode cX1_descents 3 = .ok (.istore_n 2, 1) := by decide +kernel
theorem dX1_descents_4 : decode cX1_descents 4 = .ok (.iload_n 2, 1) := by decide +kernel
theorem dX1_descents_5 : decode cX1_descents 5 = .ok (.aload_n 0, 1) := by decide +kernel
theorem dX1_descents_6 : decode cX1_descents 6 = .ok (.getfield 15, 3) := by decide +kernel
theorem dX1_descents_9 : decode cX1_descents 9 = .ok (.if_icmp .ge 25, 3) := by decide +kernel
theorem dX1_descents_12 : decode cX1_descents 12 = .ok (.iload_n 1, 1) := by decide +kernel
theorem dX1_descents_13 : decode cX1_descents 13 = .ok (.aload_n 0, 1) := by decide +kernel
theorem dX1_descents_14 : decode cX1_descents 14 = .ok (.iload_n 2, 1) := by decide +kernel
theorem dX1_descents_15 : decode cX1_descents 15 = .ok (.invokevirtual 41, 3) := by decide +kernel
theorem dX1_descents_18 : decode cX1_descents 18 = .ok (.ifCond .eq 7, 3) := by decide +kernel
theorem dX1_descents_21 : decode cX1_descents 21 = .ok (.iconst 1, 1) := by decide +kernel
theorem dX1_descents_22 : decode cX1_descents 22 = .ok (.goto 4, 3) := by decide +kernel
theorem dX1_descents_25 : decode cX1_descents 25 = .ok (.iconst 0, 1) := by decide +kernel
theorem dX1_descents_26 : decode cX1_descents 26 = .ok (.iadd, 1) := by decide +kernel
theorem dX1_descents_27 : decode cX1_descents 27 = .ok (.istore_n 1, 1) := by decide +kernel
theorem dX1_descents_28 : decode cX1_descents 28 = .ok (.iinc 2 1, 3) := by decide +kernel
theorem dX1_descents_31 : decode cX1_descents 31 = .ok (.goto (-27), 3) := by decide +kernel
theorem dX1_descents_34 : decode cX1_descents 34 = .ok (.iload_n 1, 1) := by decide +kernel
theorem dX1_descents_35 : decode cX1_descents 35 = .ok (.ireturn, 1) := by decide +kernel
theorem dX1_majorIndex_0 : decode cX1_majorIndex 0 = .ok (.iconst 0, 1) := by decide +kernel
theorem dX1_majorIndex_1 : decode cX1_majorIndex 1 = .ok (.istore_n 1, 1) := by decide +kernel
theorem dX1_majorIndex_2 : decode cX1_majorIndex 2 = .ok (.iconst 0, 1) := by decide +kernel
theorem dX1_majorIndex_3 : decode cX1_majorIndex 3 = .ok (.istore_n 2, 1) := by decide +kernel
theorem dX1_majorIndex_4 : decode cX1_majorIndex 4 = .ok (.iload_n 2, 1) := by decide +kernel
theorem dX1_majorIndex_5 : decode cX1_majorIndex 5 = .ok (.aload_n 0, 1) := by decide +kernel
theorem dX1_majorIndex_6 : decode cX1_majorIndex 6 = .ok (.getfield 15, 3) := by decide +kernel
theorem dX1_majorIndex_9 : decode cX1_majorIndex 9 = .ok (.if_icmp .ge 27, 3) := by decide +kernel
theorem dX1_majorIndex_12 : decode cX1_majorIndex 12 = .ok (.iload_n 1, 1) := by decide +kernel
theorem dX1_majorIndex_13 : decode cX1_majorIndex 13 = .ok (.aload_n 0, 1) := by decide +kernel
theorem dX1_majorIndex_14 : decode cX1_majorIndex 14 = .ok (.iload_n 2, 1) := by decide +kernel
theorem dX1_majorIndex_15 : decode cX1_majorIndex 15 = .ok (.invokevirtual 41, 3) := by decide +kernel
theorem dX1_majorIndex_18 : decode cX1_majorIndex 18 = .ok (.ifCond .eq 9, 3) := by decide +kernel
theorem dX1_majorIndex_21 : decode cX1_majorIndex 21 = .ok (.iload_n 2, 1) := by decide +kernel
theorem dX1_majorIndex_22 : decode cX1_majorIndex 22 = .ok (.iconst 1, 1) := by decide +kernel
theorem dX1_majorIndex_23 : decode cX1_majorIndex 23 = .ok (.iadd, 1) := by decide +kernel
theorem dX1_majorIndex_24 : decode cX1_majorIndex 24 = .ok (.goto 4, 3) := by decide +kernel
theorem dX1_majorIndex_27 : decode cX1_majorIndex 27 = .ok (.iconst 0, 1) := by decide +kernel
theorem dX1_majorIndex_28 : decode cX1_majorIndex 28 = .ok (.iadd, 1) := by decide +kernel
theorem dX1_majorIndex_29 : decode cX1_majorIndex 29 = .ok (.istore_n 1, 1) := by decide +kernel
theorem dX1_majorIndex_30 : decode cX1_majorIndex 30 = .ok (.iinc 2 1, 3) := by decide +kernel
theorem dX1_majorIndex_33 : decode cX1_majorIndex 33 = .ok (.goto (-29), 3) := by decide +kernel
theorem dX1_majorIndex_36 : decode cX1_majorIndex 36 = .ok (.iload_n 1, 1) := by decide +kernel
theorem dX1_majorIndex_37 : decode cX1_majorIndex 37 = .ok (.ireturn, 1) := by decide +kernel
theorem dX2_init_0 : decode cX2_init 0 = .ok (.aload_n 0, 1) := by decide +kernel
theorem dX2_init_1 : decode cX2_init 1 = .ok (.invokespecial 3, 3) := by decide +kernel
theorem dX2_init_4 : decode cX2_init 4 = .ok (.aload_n 0, 1) := by decide +kernel
theorem dX2_init_5 : decode cX2_init 5 = .ok (.bipush 78, 2) := by decide +kernel
theorem dX2_init_7 : decode cX2_init 7 = .ok (.newarray .int, 2) := by decide +kernel
theorem dX2_init_9 : decode cX2_init 9 = .ok (.putfield 11, 3) := by decide +kernel
theorem dX2_init_12 : decode cX2_init 12 = .ok (.return_, 1) := by decide +kernel
theorem dX2_held_0 : decode cX2_held 0 = .ok (.aload_n 0, 1) := by decide +kernel
theorem dX2_held_1 : decode cX2_held 1 = .ok (.getfield 15, 3) := by decide +kernel
theorem dX2_held_4 : decode cX2_held 4 = .ok (.ireturn, 1) := by decide +kernel
theorem dX2_slot_0 : decode cX2_slot 0 = .ok (.iload_n 1, 1) := by decide +kernel
theorem dX2_slot_1 : decode cX2_slot 1 = .ok (.ifCond .lt 21, 3) := by decide +kernel
theorem dX2_slot_4 : decode cX2_slot 4 = .ok (.iload_n 1, 1) := by decide +kernel
theorem dX2_slot_5 : decode cX2_slot 5 = .ok (.aload_n 0, 1) := by decide +kernel
theorem dX2_slot_6 : decode cX2_slot 6 = .ok (.getfield 11, 3) := by decide +kernel
theorem dX2_slot_9 : decode cX2_slot 9 = .ok (.arraylength, 1) := by decide +kernel
theorem dX2_slot_10 : decode cX2_slot 10 = .ok (.if_icmp .ge 12, 3) := by decide +kernel
theorem dX2_slot_13 : decode cX2_slot 13 = .ok (.aload_n 0, 1) := by decide +kernel
theorem dX2_slot_14 : decode cX2_slot 14 = .ok (.getfield 11, 3) := by decide +kernel
theorem dX2_slot_17 : decode cX2_slot 17 = .ok (.iload_n 1, 1) := by decide +kernel
theorem dX2_slot_18 : decode cX2_slot 18 = .ok (.iaload, 1) := by decide +kernel
theorem dX2_slot_19 : decode cX2_slot 19 = .ok (.goto 4, 3) := by decide +kernel
theorem dX2_slot_22 : decode cX2_slot 22 = .ok (.iconst 0, 1) := by decide +kernel
theorem dX2_slot_23 : decode cX2_slot 23 = .ok (.ireturn, 1) := by decide +kernel
theorem dX2_setSlot_0 : decode cX2_setSlot 0 = .ok (.iload_n 1, 1) := by decide +kernel
theorem dX2_setSlot_1 : decode cX2_setSlot 1 = .ok (.ifCond .lt 19, 3) := by decide +kernel
theorem dX2_setSlot_4 : decode cX2_setSlot 4 = .ok (.iload_n 1, 1) := by decide +kernel
theorem dX2_setSlot_5 : decode cX2_setSlot 5 = .ok (.aload_n 0, 1) := by decide +kernel
theorem dX2_setSlot_6 : decode cX2_setSlot 6 = .ok (.getfield 11, 3) := by decide +kernel
theorem dX2_setSlot_9 : decode cX2_setSlot 9 = .ok (.arraylength, 1) := by decide +kernel
theorem dX2_setSlot_10 : decode cX2_setSlot 10 = .ok (.if_icmp .ge 10, 3) := by decide +kernel
theorem dX2_setSlot_13 : decode cX2_setSlot 13 = .ok (.aload_n 0, 1) := by decide +kernel
theorem dX2_setSlot_14 : decode cX2_setSlot 14 = .ok (.getfield 11, 3) := by decide +kernel
theorem dX2_setSlot_17 : decode cX2_setSlot 17 = .ok (.iload_n 1, 1) := by decide +kernel
theorem dX2_setSlot_18 : decode cX2_setSlot 18 = .ok (.iload_n 2, 1) := by decide +kernel
theorem dX2_setSlot_19 : decode cX2_setSlot 19 = .ok (.iastore, 1) := by decide +kernel
theorem dX2_setSlot_20 : decode cX2_setSlot 20 = .ok (.return_, 1) := by decide +kernel
theorem dX2_keep_0 : decode cX2_keep 0 = .ok (.aload_n 0, 1) := by decide +kernel
theorem dX2_keep_1 : decode cX2_keep 1 = .ok (.getfield 15, 3) := by decide +kernel
theorem dX2_keep_4 : decode cX2_keep 4 = .ok (.bipush 6, 2) := by decide +kernel
theorem dX2_keep_6 : decode cX2_keep 6 = .ok (.if_icmp .lt 7, 3) := by decide +kernel
theorem dX2_keep_9 : decode cX2_keep 9 = .ok (.aload_n 0, 1) := by decide +kernel
theorem dX2_keep_10 : decode cX2_keep 10 = .ok (.invokevirtual 19, 3) := by decide +kernel
theorem dX2_keep_13 : decode cX2_keep 13 = .ok (.aload_n 0, 1) := by decide +kernel
theorem dX2_keep_14 : decode cX2_keep 14 = .ok (.getfield 15, 3) := by decide +kernel
theorem dX2_keep_17 : decode cX2_keep 17 = .ok (.bipush 13, 2) := by decide +kernel
theorem dX2_keep_19 : decode cX2_keep 19 = .ok (.imul, 1) := by decide +kernel
theorem dX2_keep_20 : decode cX2_keep 20 = .ok (.istore_n 3, 1) := by decide +kernel
theorem dX2_keep_21 : decode cX2_keep 21 = .ok (.aload_n 0, 1) := by decide +kernel
theorem dX2_keep_22 : decode cX2_keep 22 = .ok (.iload_n 3, 1) := by decide +kernel
theorem dX2_keep_23 : decode cX2_keep 23 = .ok (.iload_n 2, 1) := by decide +kernel
theorem dX2_keep_24 : decode cX2_keep 24 = .ok (.invokevirtual 22, 3) := by decide +kernel
theorem dX2_keep_27 : decode cX2_keep 27 = .ok (.aload_n 0, 1) := by decide +kernel
theorem dX2_keep_28 : decode cX2_keep 28 = .ok (.iload_n 3, 1) := by decide +kernel
theorem dX2_keep_29 : decode cX2_keep 29 = .ok (.iconst 1, 1) := by decide +kernel
theorem dX2_keep_30 : decode cX2_keep 30 = .ok (.iadd, 1) := by decide +kernel
theorem dX2_keep_31 : decode cX2_keep 31 = .ok (.aload_n 1, 1) := by decide +kernel
theorem dX2_keep_32 : decode cX2_keep 32 = .ok (.invokevirtual 26, 3) := by decide +kernel
theorem dX2_keep_35 : decode cX2_keep 35 = .ok (.invokevirtual 22, 3) := by decide +kernel
theorem dX2_keep_38 : decode cX2_keep 38 = .ok (.iconst 0, 1) := by decide +kernel
theorem dX2_keep_39 : decode cX2_keep 39 = .ok (.istore 4, 2) := by decide +kernel
theorem dX2_keep_41 : decode cX2_keep 41 = .ok (.iload 4, 2) := by decide +kernel
theorem dX2_keep_43 : decode cX2_keep 43 = .ok (.aload_n 1, 1) := by decide +kernel
theorem dX2_keep_44 : decode cX2_keep 44 = .ok (.invokevirtual 26, 3) := by decide +kernel
theorem dX2_keep_47 : decode cX2_keep 47 = .ok (.if_icmp .ge 25, 3) := by decide +kernel
theorem dX2_keep_50 : decode cX2_keep 50 = .ok (.aload_n 0, 1) := by decide +kernel
theorem dX2_keep_51 : decode cX2_keep 51 = .ok (.iload_n 3, 1) := by decide +kernel
theorem dX2_keep_52 : decode cX2_keep 52 = .ok (.iconst 2, 1) := by decide +kernel
theorem dX2_keep_53 : decode cX2_keep 53 = .ok (.iadd, 1) := by decide +kernel
theorem dX2_keep_54 : decode cX2_keep 54 = .ok (.iload 4, 2) := by decide +kernel
theorem dX2_keep_56 : decode cX2_keep 56 = .ok (.iadd, 1) := by decide +kernel
theorem dX2_keep_57 : decode cX2_keep 57 = .ok (.aload_n 1, 1) := by decide +kernel
theorem dX2_keep_58 : decode cX2_keep 58 = .ok (.iload 4, 2) := by decide +kernel
theorem dX2_keep_60 : decode cX2_keep 60 = .ok (.invokevirtual 32, 3) := by decide +kernel
theorem dX2_keep_63 : decode cX2_keep 63 = .ok (.invokevirtual 22, 3) := by decide +kernel
theorem dX2_keep_66 : decode cX2_keep 66 = .ok (.iinc 4 1, 3) := by decide +kernel
theorem dX2_keep_69 : decode cX2_keep 69 = .ok (.goto (-28), 3) := by decide +kernel
theorem dX2_keep_72 : decode cX2_keep 72 = .ok (.aload_n 0, 1) := by decide +kernel
theorem dX2_keep_73 : decode cX2_keep 73 = .ok (.dup, 1) := by decide +kernel
theorem dX2_keep_74 : decode cX2_keep 74 = .ok (.getfield 15, 3) := by decide +kernel
theorem dX2_keep_77 : decode cX2_keep 77 = .ok (.iconst 1, 1) := by decide +kernel
theorem dX2_keep_78 : decode cX2_keep 78 = .ok (.iadd, 1) := by decide +kernel
theorem dX2_keep_79 : decode cX2_keep 79 = .ok (.putfield 15, 3) := by decide +kernel
theorem dX2_keep_82 : decode cX2_keep 82 = .ok (.return_, 1) := by decide +kernel
theorem dX2_dropOldest_0 : decode cX2_dropOldest 0 = .ok (.bipush 13, 2) := by decide +kernel
theorem dX2_dropOldest_2 : decode cX2_dropOldest 2 = .ok (.istore_n 1, 1) := by decide +kernel
theorem dX2_dropOldest_3 : decode cX2_dropOldest 3 = .ok (.iload_n 1, 1) := by decide +kernel
theorem dX2_dropOldest_4 : decode cX2_dropOldest 4 = .ok (.aload_n 0, 1) := by decide +kernel
theorem dX2_dropOldest_5 : decode cX2_dropOldest 5 = .ok (.getfield 11, 3) := by decide +kernel
theorem dX2_dropOldest_8 : decode cX2_dropOldest 8 = .ok (.arraylength, 1) := by decide +kernel
theorem dX2_dropOldest_9 : decode cX2_dropOldest 9 = .ok (.if_icmp .ge 22, 3) := by decide +kernel
theorem dX2_dropOldest_12 : decode cX2_dropOldest 12 = .ok (.aload_n 0, 1) := by decide +kernel
theorem dX2_dropOldest_13 : decode cX2_dropOldest 13 = .ok (.iload_n 1, 1) := by decide +kernel
theorem dX2_dropOldest_14 : decode cX2_dropOldest 14 = .ok (.bipush 13, 2) := by decide +kernel
theorem dX2_dropOldest_16 : decode cX2_dropOldest 16 = .ok (.isub, 1) := by decide +kernel
theorem dX2_dropOldest_17 : decode cX2_dropOldest 17 = .ok (.aload_n 0, 1) := by decide +kernel
theorem dX2_dropOldest_18 : decode cX2_dropOldest 18 = .ok (.iload_n 1, 1) := by decide +kernel
theorem dX2_dropOldest_19 : decode cX2_dropOldest 19 = .ok (.invokevirtual 36, 3) := by decide +kernel
theorem dX2_dropOldest_22 : decode cX2_dropOldest 22 = .ok (.invokevirtual 22, 3) := by decide +kernel
theorem dX2_dropOldest_25 : decode cX2_dropOldest 25 = .ok (.iinc 1 1, 3) := by decide +kernel
theorem dX2_dropOldest_28 : decode cX2_dropOldest 28 = .ok (.goto (-25), 3) := by decide +kernel
theorem dX2_dropOldest_31 : decode cX2_dropOldest 31 = .ok (.aload_n 0, 1) := by decide +kernel
theorem dX2_dropOldest_32 : decode cX2_dropOldest 32 = .ok (.dup, 1) := by decide +kernel
theorem dX2_dropOldest_33 : decode cX2_dropOldest 33 = .ok (.getfield 15, 3) := by decide +kernel
theorem dX2_dropOldest_36 : decode cX2_dropOldest 36 = .ok (.iconst 1, 1) := by decide +kernel
theorem dX2_dropOldest_37 : decode cX2_dropOldest 37 = .ok (.isub, 1) := by decide +kernel
theorem dX2_dropOldest_38 : decode cX2_dropOldest 38 = .ok (.putfield 15, 3) := by decide +kernel
theorem dX2_dropOldest_41 : decode cX2_dropOldest 41 = .ok (.return_, 1) := by decide +kernel
theorem dX2_restore_0 : decode cX2_restore 0 = .ok (.aload_n 0, 1) := by decide +kernel
theorem dX2_restore_1 : decode cX2_restore 1 = .ok (.getfield 15, 3) := by decide +kernel
theorem dX2_restore_4 : decode cX2_restore 4 = .ok (.ifCond .le 13, 3) := by decide +kernel
theorem dX2_restore_7 : decode cX2_restore 7 = .ok (.aload_n 0, 1) := by decide +kernel
theorem dX2_restore_8 : decode cX2_restore 8 = .ok (.dup, 1) := by decide +kernel
theorem dX2_restore_9 : decode cX2_restore 9 = .ok (.getfield 15, 3) := by decide +kernel
theorem dX2_restore_12 : decode cX2_restore 12 = .ok (.iconst 1, 1) := by decide +kernel
theorem dX2_restore_13 : decode cX2_restore 13 = .ok (.isub, 1) := by decide +kernel
theorem dX2_restore_14 : decode cX2_restore 14 = .ok (.putfield 15, 3) := by decide +kernel
theorem dX2_restore_17 : decode cX2_restore 17 = .ok (.aload_n 0, 1) := by decide +kernel
theorem dX2_restore_18 : decode cX2_restore 18 = .ok (.getfield 15, 3) := by decide +kernel
theorem dX2_restore_21 : decode cX2_restore 21 = .ok (.bipush 13, 2) := by decide +kernel
theorem dX2_restore_23 : decode cX2_restore 23 = .ok (.imul, 1) := by decide +kernel
theorem dX2_restore_24 : decode cX2_restore 24 = .ok (.istore_n 2, 1) := by decide +kernel
theorem dX2_restore_25 : decode cX2_restore 25 = .ok (.aload_n 0, 1) := by decide +kernel
theorem dX2_restore_26 : decode cX2_restore 26 = .ok (.iload_n 2, 1) := by decide +kernel
theorem dX2_restore_27 : decode cX2_restore 27 = .ok (.iconst 1, 1) := by decide +kernel
theorem dX2_restore_28 : decode cX2_restore 28 = .ok (.iadd, 1) := by decide +kernel
theorem dX2_restore_29 : decode cX2_restore 29 = .ok (.invokevirtual 36, 3) := by decide +kernel
theorem dX2_restore_32 : decode cX2_restore 32 = .ok (.istore_n 3, 1) := by decide +kernel
theorem dX2_restore_33 : decode cX2_restore 33 = .ok (.aload_n 1, 1) := by decide +kernel
theorem dX2_restore_34 : decode cX2_restore 34 = .ok (.invokevirtual 39, 3) := by decide +kernel
theorem dX2_restore_37 : decode cX2_restore 37 = .ok (.iconst 0, 1) := by decide +kernel
theorem dX2_restore_38 : decode cX2_restore 38 = .ok (.istore 4, 2) := by decide +kernel
theorem dX2_restore_40 : decode cX2_restore 40 = .ok (.iload 4, 2) := by decide +kernel
theorem dX2_restore_42 : decode cX2_restore 42 = .ok (.iload_n 3, 1) := by decide +kernel
theorem dX2_restore_43 : decode cX2_restore 43 = .ok (.if_icmp .ge 30, 3) := by decide +kernel
theorem dX2_restore_46 : decode cX2_restore 46 = .ok (.iload 4, 2) := by decide +kernel
theorem dX2_restore_48 : decode cX2_restore 48 = .ok (.bipush 11, 2) := by decide +kernel
theorem dX2_restore_50 : decode cX2_restore 50 = .ok (.if_icmp .ge 23, 3) := by decide +kernel
theorem dX2_restore_53 : decode cX2_restore 53 = .ok (.aload_n 1, 1) := by decide +kernel
theorem dX2_restore_54 : decode cX2_restore 54 = .ok (.aload_n 0, 1) := by decide +kernel
theorem dX2_restore_55 : decode cX2_restore 55 = .ok (.iload_n 2, 1) := by decide +kernel
theorem dX2_restore_56 : decode cX2_restore 56 = .ok (.iconst 2, 1) := by decide +kernel
theorem dX2_restore_57 : decode cX2_restore 57 = .ok (.iadd, 1) := by decide +kernel
theorem dX2_restore_58 : decode cX2_restore 58 = .ok (.iload 4, 2) := by decide +kernel
theorem dX2_restore_60 : decode cX2_restore 60 = .ok (.iadd, 1) := by decide +kernel
theorem dX2_restore_61 : decode cX2_restore 61 = .ok (.invokevirtual 36, 3) := by decide +kernel
theorem dX2_restore_64 : decode cX2_restore 64 = .ok (.invokevirtual 42, 3) := by decide +kernel
theorem dX2_restore_67 : decode cX2_restore 67 = .ok (.iinc 4 1, 3) := by decide +kernel
theorem dX2_restore_70 : decode cX2_restore 70 = .ok (.goto (-30), 3) := by decide +kernel
theorem dX2_restore_73 : decode cX2_restore 73 = .ok (.aload_n 0, 1) := by decide +kernel
theorem dX2_restore_74 : decode cX2_restore 74 = .ok (.iload_n 2, 1) := by decide +kernel
theorem dX2_restore_75 : decode cX2_restore 75 = .ok (.invokevirtual 36, 3) := by decide +kernel
theorem dX2_restore_78 : decode cX2_restore 78 = .ok (.ireturn, 1) := by decide +kernel
theorem dX3_init_0 : decode cX3_init 0 = .ok (.aload_n 0, 1) := by decide +kernel
theorem dX3_init_1 : decode cX3_init 1 = .ok (.invokespecial 3, 3) := by decide +kernel
theorem dX3_init_4 : decode cX3_init 4 = .ok (.aload_n 0, 1) := by decide +kernel
theorem dX3_init_5 : decode cX3_init 5 = .ok (.bipush 6, 2) := by decide +kernel
theorem dX3_init_7 : decode cX3_init 7 = .ok (.newarray .int, 2) := by decide +kernel
theorem dX3_init_9 : decode cX3_init 9 = .ok (.putfield 9, 3) := by decide +kernel
theorem dX3_init_12 : decode cX3_init 12 = .ok (.aload_n 0, 1) := by decide +kernel
theorem dX3_init_13 : decode cX3_init 13 = .ok (.bipush 6, 2) := by decide +kernel
theorem dX3_init_15 : decode cX3_init 15 = .ok (.newarray .int, 2) := by decide +kernel
theorem dX3_init_17 : decode cX3_init 17 = .ok (.putfield 15, 3) := by decide +kernel
theorem dX3_init_20 : decode cX3_init 20 = .ok (.aload_n 0, 1) := by decide +kernel
theorem dX3_init_21 : decode cX3_init 21 = .ok (.bipush 6, 2) := by decide +kernel
theorem dX3_init_23 : decode cX3_init 23 = .ok (.newarray .int, 2) := by decide +kernel
theorem dX3_init_25 : decode cX3_init 25 = .ok (.putfield 18, 3) := by decide +kernel
theorem dX3_init_28 : decode cX3_init 28 = .ok (.aload_n 0, 1) := by decide +kernel
theorem dX3_init_29 : decode cX3_init 29 = .ok (.sipush 486, 3) := by decide +kernel
theorem dX3_init_32 : decode cX3_init 32 = .ok (.newarray .int, 2) := by decide +kernel
theorem dX3_init_34 : decode cX3_init 34 = .ok (.putfield 21, 3) := by decide +kernel
theorem dX3_init_37 : decode cX3_init 37 = .ok (.aload_n 0, 1) := by decide +kernel
theorem dX3_init_38 : decode cX3_init 38 = .ok (.sipush 2916, 3) := by decide +kernel
theorem dX3_init_41 : decode cX3_init 41 = .ok (.newarray .int, 2) := by decide +kernel
theorem dX3_init_43 : decode cX3_init 43 = .ok (.putfield 24, 3) := by decide +kernel
theorem dX3_init_46 : decode cX3_init 46 = .ok (.return_, 1) := by decide +kernel
theorem dX3_prepare_0 : decode cX3_prepare 0 = .ok (.iconst 1, 1) := by decide +kernel
theorem dX3_prepare_1 : decode cX3_prepare 1 = .ok (.istore_n 2, 1) := by decide +kernel
theorem dX3_prepare_2 : decode cX3_prepare 2 = .ok (.iconst 0, 1) := by decide +kernel
theorem dX3_prepare_3 : decode cX3_prepare 3 = .ok (.istore_n 3, 1) := by decide +kernel
theorem dX3_prepare_4 : decode cX3_prepare 4 = .ok (.iload_n 3, 1) := by decide +kernel
theorem dX3_prepare_5 : decode cX3_prepare 5 = .ok (.bipush 6, 2) := by decide +kernel
theorem dX3_prepare_7 : decode cX3_prepare 7 = .ok (.if_icmp .ge 51, 3) := by decide +kernel
theorem dX3_prepare_10 : decode cX3_prepare 10 = .ok (.iload_n 2, 1) := by decide +kernel
theorem dX3_prepare_11 : decode cX3_prepare 11 = .ok (.ifCond .eq 21, 3) := by decide +kernel
theorem dX3_prepare_14 : decode cX3_prepare 14 = .ok (.aload_n 0, 1) := by decide +kernel
theorem dX3_prepare_15 : decode cX3_prepare 15 = .ok (.getfield 9, 3) := by decide +kernel
theorem dX3_prepare_18 : decode cX3_prepare 18 = .ok (.iload_n 3, 1) := by decide +kernel
theorem dX3_prepare_19 : decode cX3_prepare 19 = .ok (.iaload, 1) := by decide +kernel
theorem dX3_prepare_20 : decode cX3_prepare 20 = .ok (.aload_n 1, 1) := by decide +kernel
theorem dX3_prepare_21 : decode cX3_prepare 21 = .ok (.iload_n 3, 1) := by decide +kernel
theorem dX3_prepare_22 : decode cX3_prepare 22 = .ok (.invokevirtual 27, 3) := by decide +kernel
theorem dX3_prepare_25 : decode cX3_prepare 25 = .ok (.if_icmp .ne 7, 3) := by decide +kernel
theorem dX3_prepare_28 : decode cX3_prepare 28 = .ok (.iconst 1, 1) := by decide +kernel
theorem dX3_prepare_29 : decode cX3_prepare 29 = .ok (.goto 4, 3) := by decide +kernel
theorem dX3_prepare_32 : decode cX3_prepare 32 = .ok (.iconst 0, 1) := by decide +kernel
theorem dX3_prepare_33 : decode cX3_prepare 33 = .ok (.istore_n 2, 1) := by decide +kernel
theorem dX3_prepare_34 : decode cX3_prepare 34 = .ok (.aload_n 0, 1) := by decide +kernel
theorem dX3_prepare_35 : decode cX3_prepare 35 = .ok (.getfield 9, 3) := by decide +kernel
theorem dX3_prepare_38 : decode cX3_prepare 38 = .ok (.iload_n 3, 1) := by decide +kernel
theorem dX3_prepare_39 : decode cX3_prepare 39 = .ok (.aload_n 1, 1) := by decide +kernel
theorem dX3_prepare_40 : decode cX3_prepare 40 = .ok (.iload_n 3, 1) := by decide +kernel
theorem dX3_prepare_41 : decode cX3_prepare 41 = .ok (.invokevirtual 27, 3) := by decide +kernel
theorem dX3_prepare_44 : decode cX3_prepare 44 = .ok (.iastore, 1) := by decide +kernel
theorem dX3_prepare_45 : decode cX3_prepare 45 = .ok (.aload_n 0, 1) := by decide +kernel
theorem dX3_prepare_46 : decode cX3_prepare 46 = .ok (.getfield 18, 3) := by decide +kernel
theorem dX3_prepare_49 : decode cX3_prepare 49 = .ok (.iload_n 3, 1) := by decide +kernel
theorem dX3_prepare_50 : decode cX3_prepare 50 = .ok (.iconst 0, 1) := by decide +kernel
theorem dX3_prepare_51 : decode cX3_prepare 51 = .ok (.iastore, 1) := by decide +kernel
theorem dX3_prepare_52 : decode cX3_prepare 52 = .ok (.iinc 3 1, 3) := by decide +kernel
theorem dX3_prepare_55 : decode cX3_prepare 55 = .ok (.goto (-51), 3) := by decide +kernel
theorem dX3_prepare_58 : decode cX3_prepare 58 = .ok (.iload_n 2, 1) := by decide +kernel
theorem dX3_prepare_59 : decode cX3_prepare 59 = .ok (.ifCond .eq 4, 3) := by decide +kernel
theorem dX3_prepare_62 : decode cX3_prepare 62 = .ok (.return_, 1) := by decide +kernel
theorem dX3_prepare_63 : decode cX3_prepare 63 = .ok (.aload_n 0, 1) := by decide +kernel
theorem dX3_prepare_64 : decode cX3_prepare 64 = .ok (.invokevirtual 33, 3) := by decide +kernel
theorem dX3_prepare_67 : decode cX3_prepare 67 = .ok (.istore_n 3, 1) := by decide +kernel
theorem dX3_prepare_68 : decode cX3_prepare 68 = .ok (.iconst 0, 1) := by decide +kernel
theorem dX3_prepare_69 : decode cX3_prepare 69 = .ok (.istore 4, 2) := by decide +kernel
theorem dX3_prepare_71 : decode cX3_prepare 71 = .ok (.iload 4, 2) := by decide +kernel
theorem dX3_prepare_73 : decode cX3_prepare 73 = .ok (.iload_n 3, 1) := by decide +kernel
theorem dX3_prepare_74 : decode cX3_prepare 74 = .ok (.if_icmp .ge 27, 3) := by decide +kernel
theorem dX3_prepare_77 : decode cX3_prepare 77 = .ok (.iload 4, 2) := by decide +kernel
theorem dX3_prepare_79 : decode cX3_prepare 79 = .ok (.sipush 486, 3) := by decide +kernel
theorem dX3_prepare_82 : decode cX3_prepare 82 = .ok (.if_icmp .ge 19, 3) := by decide +kernel
theorem dX3_prepare_85 : decode cX3_prepare 85 = .ok (.aload_n 0, 1) := by decide +kernel
theorem dX3_prepare_86 : decode cX3_prepare 86 = .ok (.iload 4, 2) := by decide +kernel
theorem dX3_prepare_88 : decode cX3_prepare 88 = .ok (.invokevirtual 37, 3) := by decide +kernel
theorem dX3_prepare_91 : decode cX3_prepare 91 = .ok (.aload_n 0, 1) := by decide +kernel
theorem dX3_prepare_92 : decode cX3_prepare 92 = .ok (.invokevirtual 41, 3) := by decide +kernel
theorem dX3_prepare_95 : decode cX3_prepare 95 = .ok (.iinc 4 1, 3) := by decide +kernel
theorem dX3_prepare_98 : decode cX3_prepare 98 = .ok (.goto (-27), 3) := by decide +kernel
theorem dX3_prepare_101 : decode cX3_prepare 101 = .ok (.return_, 1) := by decide +kernel
theorem dX3_weigh_0 : decode cX3_weigh 0 = .ok (.iconst 1, 1) := by decide +kernel
theorem dX3_weigh_1 : decode cX3_weigh 1 = .ok (.istore_n 1, 1) := by decide +kernel
theorem dX3_weigh_2 : decode cX3_weigh 2 = .ok (.iconst 0, 1) := by decide +kernel
theorem dX3_weigh_3 : decode cX3_weigh 3 = .ok (.istore_n 2, 1) := by decide +kernel
theorem dX3_weigh_4 : decode cX3_weigh 4 = .ok (.iload_n 2, 1) := by decide +kernel
theorem dX3_weigh_5 : decode cX3_weigh 5 = .ok (.bipush 6, 2) := by decide +kernel
theorem dX3_weigh_7 : decode cX3_weigh 7 = .ok (.if_icmp .ge 27, 3) := by decide +kernel
theorem dX3_weigh_10 : decode cX3_weigh 10 = .ok (.aload_n 0, 1) := by decide +kernel
theorem dX3_weigh_11 : decode cX3_weigh 11 = .ok (.getfield 15, 3) := by decide +kernel
theorem dX3_weigh_14 : decode cX3_weigh 14 = .ok (.iload_n 2, 1) := by decide +kernel
theorem dX3_weigh_15 : decode cX3_weigh 15 = .ok (.iload_n 1, 1) := by decide +kernel
theorem dX3_weigh_16 : decode cX3_weigh 16 = .ok (.iastore, 1) := by decide +kernel
theorem dX3_weigh_17 : decode cX3_weigh 17 = .ok (.iload_n 1, 1) := by decide +kernel
theorem dX3_weigh_18 : decode cX3_weigh 18 = .ok (.aload_n 0, 1) := by decide +kernel
theorem dX3_weigh_19 : decode cX3_weigh 19 = .ok (.getfield 9, 3) := by decide +kernel
theorem dX3_weigh_22 : decode cX3_weigh 22 = .ok (.iload_n 2, 1) := by decide +kernel
theorem dX3_weigh_23 : decode cX3_weigh 23 = .ok (.iaload, 1) := by decide +kernel
theorem dX3_weigh_24 : decode cX3_weigh 24 = .ok (.iconst 1, 1) := by decide +kernel
theorem dX3_weigh_25 : decode cX3_weigh 25 = .ok (.iadd, 1) := by decide +kernel
theorem dX3_weigh_26 : decode cX3_weigh 26 = .ok (.imul, 1) := by decide +kernel
theorem dX3_weigh_27 : decode cX3_weigh 27 = .ok (.istore_n 1, 1) := by decide +kernel
theorem dX3_weigh_28 : decode cX3_weigh 28 = .ok (.iinc 2 1, 3) := by decide +kernel
theorem dX3_weigh_31 : decode cX3_weigh 31 = .ok (.goto (-27), 3) := by decide +kernel
theorem dX3_weigh_34 : decode cX3_weigh 34 = .ok (.iload_n 1, 1) := by decide +kernel
theorem dX3_weigh_35 : decode cX3_weigh 35 = .ok (.ireturn, 1) := by decide +kernel
theorem dX3_goOn_0 : decode cX3_goOn 0 = .ok (.iconst 0, 1) := by decide +kernel
theorem dX3_goOn_1 : decode cX3_goOn 1 = .ok (.istore_n 1, 1) := by decide +kernel
theorem dX3_goOn_2 : decode cX3_goOn 2 = .ok (.iload_n 1, 1) := by decide +kernel
theorem dX3_goOn_3 : decode cX3_goOn 3 = .ok (.iconst 5, 1) := by decide +kernel
theorem dX3_goOn_4 : decode cX3_goOn 4 = .ok (.if_icmp .ge 31, 3) := by decide +kernel
theorem dX3_goOn_7 : decode cX3_goOn 7 = .ok (.aload_n 0, 1) := by decide +kernel
theorem dX3_goOn_8 : decode cX3_goOn 8 = .ok (.getfield 18, 3) := by decide +kernel
theorem dX3_goOn_11 : decode cX3_goOn 11 = .ok (.iload_n 1, 1) := by decide +kernel
theorem dX3_goOn_12 : decode cX3_goOn 12 = .ok (.iaload, 1) := by decide +kernel
theorem dX3_goOn_13 : decode cX3_goOn 13 = .ok (.aload_n 0, 1) := by decide +kernel
theorem dX3_goOn_14 : decode cX3_goOn 14 = .ok (.getfield 9, 3) := by decide +kernel
theorem dX3_goOn_17 : decode cX3_goOn 17 = .ok (.iload_n 1, 1) := by decide +kernel
theorem dX3_goOn_18 : decode cX3_goOn 18 = .ok (.iaload, 1) := by decide +kernel
theorem dX3_goOn_19 : decode cX3_goOn 19 = .ok (.if_icmp .lt 16, 3) := by decide +kernel
theorem dX3_goOn_22 : decode cX3_goOn 22 = .ok (.aload_n 0, 1) := by decide +kernel
theorem dX3_goOn_23 : decode cX3_goOn 23 = .ok (.getfield 18, 3) := by decide +kernel
theorem dX3_goOn_26 : decode cX3_goOn 26 = .ok (.iload_n 1, 1) := by decide +kernel
theorem dX3_goOn_27 : decode cX3_goOn 27 = .ok (.iconst 0, 1) := by decide +kernel
theorem dX3_goOn_28 : decode cX3_goOn 28 = .ok (.iastore, 1) := by decide +kernel
theorem dX3_goOn_29 : decode cX3_goOn 29 = .ok (.iinc 1 1, 3) := by decide +kernel
theorem dX3_goOn_32 : decode cX3_goOn 32 = .ok (.goto (-30), 3) := by decide +kernel
theorem dX3_goOn_35 : decode cX3_goOn 35 = .ok (.aload_n 0, 1) := by decide +kernel
theorem dX3_goOn_36 : decode cX3_goOn 36 = .ok (.getfield 18, 3) := by decide +kernel
theorem dX3_goOn_39 : decode cX3_goOn 39 = .ok (.iload_n 1, 1) := by decide +kernel
theorem dX3_goOn_40 : decode cX3_goOn 40 = .ok (.dup2, 1) := by decide +kernel
theorem dX3_goOn_41 : decode cX3_goOn 41 = .ok (.iaload, 1) := by decide +kernel
theorem dX3_goOn_42 : decode cX3_goOn 42 = .ok (.iconst 1, 1) := by decide +kernel
theorem dX3_goOn_43 : decode cX3_goOn 43 = .ok (.iadd, 1) := by decide +kernel
theorem dX3_goOn_44 : decode cX3_goOn 44 = .ok (.iastore, 1) := by decide +kernel
theorem dX3_goOn_45 : decode cX3_goOn 45 = .ok (.return_, 1) := by decide +kernel
theorem dX3_fillCell_0 : decode cX3_fillCell 0 = .ok (.iload_n 1, 1) := by decide +kernel
theorem dX3_fillCell_1 : decode cX3_fillCell 1 = .ok (.ifCond .ne 7, 3) := by decide +kernel
theorem dX3_fillCell_4 : decode cX3_fillCell 4 = .ok (.iconst 1, 1) := by decide +kernel
theorem dX3_fillCell_5 : decode cX3_fillCell 5 = .ok (.goto 4, 3) := by decide +kernel
theorem dX3_fillCell_8 : decode cX3_fillCell 8 = .ok (.iconst 0, 1) := by decide +kernel
theorem dX3_fillCell_9 : decode cX3_fillCell 9 = .ok (.istore_n 2, 1) := by decide +kernel
theorem dX3_fillCell_10 : decode cX3_fillCell 10 = .ok (.iconst 0, 1) := by decide +kernel
theorem dX3_fillCell_11 : decode cX3_fillCell 11 = .ok (.istore_n 3, 1) := by decide +kernel
theorem dX3_fillCell_12 : decode cX3_fillCell 12 = .ok (.iload_n 3, 1) := by decide +kernel
theorem dX3_fillCell_13 : decode cX3_fillCell 13 = .ok (.bipush 6, 2) := by decide +kernel
theorem dX3_fillCell_15 : decode cX3_fillCell 15 = .ok (.if_icmp .ge 66, 3) := by decide +kernel
theorem dX3_fillCell_18 : decode cX3_fillCell 18 = .ok (.iload_n 1, 1) := by decide +kernel
theorem dX3_fillCell_19 : decode cX3_fillCell 19 = .ok (.aload_n 0, 1) := by decide +kernel
theorem dX3_fillCell_20 : decode cX3_fillCell 20 = .ok (.getfield 15, 3) := by decide +kernel
theorem dX3_fillCell_23 : decode cX3_fillCell 23 = .ok (.iload_n 3, 1) := by decide +kernel
theorem dX3_fillCell_24 : decode cX3_fillCell 24 = .ok (.iaload, 1) := by decide +kernel
theorem dX3_fillCell_25 : decode cX3_fillCell 25 = .ok (.isub, 1) := by decide +kernel
theorem dX3_fillCell_26 : decode cX3_fillCell 26 = .ok (.istore 4, 2) := by decide +kernel
theorem dX3_fillCell_28 : decode cX3_fillCell 28 = .ok (.aload_n 0, 1) := by decide +kernel
theorem dX3_fillCell_29 : decode cX3_fillCell 29 = .ok (.getfield 18, 3) := by decide +kernel
theorem dX3_fillCell_32 : decode cX3_fillCell 32 = .ok (.iload_n 3, 1) := by decide +kernel
theorem dX3_fillCell_33 : decode cX3_fillCell 33 = .ok (.iaload, 1) := by decide +kernel
theorem dX3_fillCell_34 : decode cX3_fillCell 34 = .ok (.ifCond .le 20, 3) := by decide +kernel
theorem dX3_fillCell_37 : decode cX3_fillCell 37 = .ok (.aload_n 0, 1) := by decide +kernel
theorem dX3_fillCell_38 : decode cX3_fillCell 38 = .ok (.iload 4, 2) := by decide +kernel
theorem dX3_fillCell_40 : decode cX3_fillCell 40 = .ok (.invokevirtual 44, 3) := by decide +kernel
theorem dX3_fillCell_43 : decode cX3_fillCell 43 = .ok (.aload_n 0, 1) := by decide +kernel
theorem dX3_fillCell_44 : decode cX3_fillCell 44 = .ok (.iload 4, 2) := by decide +kernel
theorem dX3_fillCell_46 : decode cX3_fillCell 46 = .ok (.iload_n 3, 1) := by decide +kernel
theorem dX3_fillCell_47 : decode cX3_fillCell 47 = .ok (.invokevirtual 47, 3) := by decide +kernel
theorem dX3_fillCell_50 : decode cX3_fillCell 50 = .ok (.isub, 1) := by decide +kernel
theorem dX3_fillCell_51 : decode cX3_fillCell 51 = .ok (.goto 4, 3) := by decide +kernel
theorem dX3_fillCell_54 : decode cX3_fillCell 54 = .ok (.iconst 0, 1) := by decide +kernel
theorem dX3_fillCell_55 : decode cX3_fillCell 55 = .ok (.istore 5, 2) := by decide +kernel
theorem dX3_fillCell_57 : decode cX3_fillCell 57 = .ok (.aload_n 0, 1) := by decide +kernel
theorem dX3_fillCell_58 : decode cX3_fillCell 58 = .ok (.getfield 24, 3) := by decide +kernel
theorem dX3_fillCell_61 : decode cX3_fillCell 61 = .ok (.iload_n 1, 1) := by decide +kernel
theorem dX3_fillCell_62 : decode cX3_fillCell 62 = .ok (.bipush 6, 2) := by decide +kernel
theorem dX3_fillCell_64 : decode cX3_fillCell 64 = .ok (.imul, 1) := by decide +kernel
theorem dX3_fillCell_65 : decode cX3_fillCell 65 = .ok (.iload_n 3, 1) := by decide +kernel
theorem dX3_fillCell_66 : decode cX3_fillCell 66 = .ok (.iadd, 1) := by decide +kernel
theorem dX3_fillCell_67 : decode cX3_fillCell 67 = .ok (.iload 5, 2) := by decide +kernel
theorem dX3_fillCell_69 : decode cX3_fillCell 69 = .ok (.iastore, 1) := by decide +kernel
theorem dX3_fillCell_70 : decode cX3_fillCell 70 = .ok (.iload_n 2, 1) := by decide +kernel
theorem dX3_fillCell_71 : decode cX3_fillCell 71 = .ok (.iload 5, 2) := by decide +kernel
theorem dX3_fillCell_73 : decode cX3_fillCell 73 = .ok (.iadd, 1) := by decide +kernel
theorem dX3_fillCell_74 : decode cX3_fillCell 74 = .ok (.istore_n 2, 1) := by decide +kernel
theorem dX3_fillCell_75 : decode cX3_fillCell 75 = .ok (.iinc 3 1, 3) := by decide +kernel
theorem dX3_fillCell_78 : decode cX3_fillCell 78 = .ok (.goto (-66), 3) := by decide +kernel
theorem dX3_fillCell_81 : decode cX3_fillCell 81 = .ok (.aload_n 0, 1) := by decide +kernel
theorem dX3_fillCell_82 : decode cX3_fillCell 82 = .ok (.getfield 21, 3) := by decide +kernel
theorem dX3_fillCell_85 : decode cX3_fillCell 85 = .ok (.iload_n 1, 1) := by decide +kernel
theorem dX3_fillCell_86 : decode cX3_fillCell 86 = .ok (.iload_n 2, 1) := by decide +kernel
theorem dX3_fillCell_87 : decode cX3_fillCell 87 = .ok (.iastore, 1) := by decide +kernel
theorem dX3_fillCell_88 : decode cX3_fillCell 88 = .ok (.return_, 1) := by decide +kernel
theorem dX3_allOf_0 : decode cX3_allOf 0 = .ok (.iload_n 1, 1) := by decide +kernel
theorem dX3_allOf_1 : decode cX3_allOf 1 = .ok (.ifCond .lt 19, 3) := by decide +kernel
theorem dX3_allOf_4 : decode cX3_allOf 4 = .ok (.iload_n 1, 1) := by decide +kernel
theorem dX3_allOf_5 : decode cX3_allOf 5 = .ok (.sipush 486, 3) := by decide +kernel
theorem dX3_allOf_8 : decode cX3_allOf 8 = .ok (.if_icmp .ge 12, 3) := by decide +kernel
theorem dX3_allOf_11 : decode cX3_allOf 11 = .ok (.aload_n 0, 1) := by decide +kernel
theorem dX3_allOf_12 : decode cX3_allOf 12 = .ok (.getfield 21, 3) := by decide +kernel
theorem dX3_allOf_15 : decode cX3_allOf 15 = .ok (.iload_n 1, 1) := by decide +kernel
theorem dX3_allOf_16 : decode cX3_allOf 16 = .ok (.iaload, 1) := by decide +kernel
theorem dX3_allOf_17 : decode cX3_allOf 17 = .ok (.goto 4, 3) := by decide +kernel
theorem dX3_allOf_20 : decode cX3_allOf 20 = .ok (.iconst 0, 1) := by decide +kernel
theorem dX3_allOf_21 : decode cX3_allOf 21 = .ok (.ireturn, 1) := by decide +kernel
theorem dX3_startingOf_0 : decode cX3_startingOf 0 = .ok (.iload_n 1, 1) := by decide +kernel
theorem dX3_startingOf_1 : decode cX3_startingOf 1 = .ok (.ifCond .lt 24, 3) := by decide +kernel
theorem dX3_startingOf_4 : decode cX3_startingOf 4 = .ok (.iload_n 1, 1) := by decide +kernel
theorem dX3_startingOf_5 : decode cX3_startingOf 5 = .ok (.sipush 486, 3) := by decide +kernel
theorem dX3_startingOf_8 : decode cX3_startingOf 8 = .ok (.if_icmp .ge 17, 3) := by decide +kernel
theorem dX3_startingOf_11 : decode cX3_startingOf 11 = .ok (.iload_n 2, 1) := by decide +kernel
theorem dX3_startingOf_12 : decode cX3_startingOf 12 = .ok (.ifCond .lt 13, 3) := by decide +kernel
theorem dX3_startingOf_15 : decode cX3_startingOf 15 = .ok (.iload_n 2, 1) := by decide +kernel
theorem dX3_startingOf_16 : decode cX3_startingOf 16 = .ok (.bipush 6, 2) := by decide +kernel
theorem dX3_startingOf_18 : decode cX3_startingOf 18 = .ok (.if_icmp .ge 7, 3) := by decide +kernel
theorem dX3_startingOf_21 : decode cX3_startingOf 21 = .ok (.iconst 1, 1) := by decide +kernel
theorem dX3_startingOf_22 : decode cX3_startingOf 22 = .ok (.goto 4, 3) := by decide +kernel
theorem dX3_startingOf_25 : decode cX3_startingOf 25 = .ok (.iconst 0, 1) := by decide +kernel
theorem dX3_startingOf_26 : decode cX3_startingOf 26 = .ok (.istore_n 3, 1) := by decide +kernel
theorem dX3_startingOf_27 : decode cX3_startingOf 27 = .ok (.iload_n 3, 1) := by decide +kernel
theorem dX3_startingOf_28 : decode cX3_startingOf 28 = .ok (.ifCond .eq 17, 3) := by decide +kernel
theorem dX3_startingOf_31 : decode cX3_startingOf 31 = .ok (.aload_n 0, 1) := by decide +kernel
theorem dX3_startingOf_32 : decode cX3_startingOf 32 = .ok (.getfield 24, 3) := by decide +kernel
theorem dX3_startingOf_35 : decode cX3_startingOf 35 = .ok (.iload_n 1, 1) := by decide +kernel
theorem dX3_startingOf_36 : decode cX3_startingOf 36 = .ok (.bipush 6, 2) := by decide +kernel
theorem dX3_startingOf_38 : decode cX3_startingOf 38 = .ok (.imul, 1) := by decide +kernel
theorem dX3_startingOf_39 : decode cX3_startingOf 39 = .ok (.iload_n 2, 1) := by decide +kernel
theorem dX3_startingOf_40 : decode cX3_startingOf 40 = .ok (.iadd, 1) := by decide +kernel
theorem dX3_startingOf_41 : decode cX3_startingOf 41 = .ok (.iaload, 1) := by decide +kernel
theorem dX3_startingOf_42 : decode cX3_startingOf 42 = .ok (.goto 4, 3) := by decide +kernel
theorem dX3_startingOf_45 : decode cX3_startingOf 45 = .ok (.iconst 0, 1) := by decide +kernel
theorem dX3_startingOf_46 : decode cX3_startingOf 46 = .ok (.ireturn, 1) := by decide +kernel
theorem dX3_cellOf_0 : decode cX3_cellOf 0 = .ok (.iconst 0, 1) := by decide +kernel
theorem dX3_cellOf_1 : decode cX3_cellOf 1 = .ok (.istore_n 2, 1) := by decide +kernel
theorem dX3_cellOf_2 : decode cX3_cellOf 2 = .ok (.iconst 0, 1) := by decide +kernel
theorem dX3_cellOf_3 : decode cX3_cellOf 3 = .ok (.istore_n 3, 1) := by decide +kernel
theorem dX3_cellOf_4 : decode cX3_cellOf 4 = .ok (.iload_n 3, 1) := by decide +kernel
theorem dX3_cellOf_5 : decode cX3_cellOf 5 = .ok (.bipush 6, 2) := by decide +kernel
theorem dX3_cellOf_7 : decode cX3_cellOf 7 = .ok (.if_icmp .ge 24, 3) := by decide +kernel
theorem dX3_cellOf_10 : decode cX3_cellOf 10 = .ok (.iload_n 2, 1) := by decide +kernel
theorem dX3_cellOf_11 : decode cX3_cellOf 11 = .ok (.aload_n 1, 1) := by decide +kernel
theorem dX3_cellOf_12 : decode cX3_cellOf 12 = .ok (.iload_n 3, 1) := by decide +kernel
theorem dX3_cellOf_13 : decode cX3_cellOf 13 = .ok (.invokevirtual 27, 3) := by decide +kernel
theorem dX3_cellOf_16 : decode cX3_cellOf 16 = .ok (.aload_n 0, 1) := by decide +kernel
theorem dX3_cellOf_17 : decode cX3_cellOf 17 = .ok (.getfield 15, 3) := by decide +kernel
theorem dX3_cellOf_20 : decode cX3_cellOf 20 = .ok (.iload_n 3, 1) := by decide +kernel
theorem dX3_cellOf_21 : decode cX3_cellOf 21 = .ok (.iaload, 1) := by decide +kernel
theorem dX3_cellOf_22 : decode cX3_cellOf 22 = .ok (.imul, 1) := by decide +kernel
theorem dX3_cellOf_23 : decode cX3_cellOf 23 = .ok (.iadd, 1) := by decide +kernel
theorem dX3_cellOf_24 : decode cX3_cellOf 24 = .ok (.istore_n 2, 1) := by decide +kernel
theorem dX3_cellOf_25 : decode cX3_cellOf 25 = .ok (.iinc 3 1, 3) := by decide +kernel
theorem dX3_cellOf_28 : decode cX3_cellOf 28 = .ok (.goto (-24), 3) := by decide +kernel
theorem dX3_cellOf_31 : decode cX3_cellOf 31 = .ok (.iload_n 2, 1) := by decide +kernel
theorem dX3_cellOf_32 : decode cX3_cellOf 32 = .ok (.ireturn, 1) := by decide +kernel
theorem dX3_startingWith_0 : decode cX3_startingWith 0 = .ok (.aload_n 0, 1) := by decide +kernel
theorem dX3_startingWith_1 : decode cX3_startingWith 1 = .ok (.aload_n 0, 1) := by decide +kernel
theorem dX3_startingWith_2 : decode cX3_startingWith 2 = .ok (.aload_n 1, 1) := by decide +kernel
theorem dX3_startingWith_3 : decode cX3_startingWith 3 = .ok (.invokevirtual 51, 3) := by decide +kernel
theorem dX3_startingWith_6 : decode cX3_startingWith 6 = .ok (.iload_n 2, 1) := by decide +kernel
theorem dX3_startingWith_7 : decode cX3_startingWith 7 = .ok (.invokevirtual 47, 3) := by decide +kernel
theorem dX3_startingWith_10 : decode cX3_startingWith 10 = .ok (.ireturn, 1) := by decide +kernel
theorem dX3_behind_0 : decode cX3_behind 0 = .ok (.aload_n 0, 1) := by decide +kernel
theorem dX3_behind_1 : decode cX3_behind 1 = .ok (.aload_n 1, 1) := by decide +kernel
theorem dX3_behind_2 : decode cX3_behind 2 = .ok (.invokevirtual 51, 3) := by decide +kernel
theorem dX3_behind_5 : decode cX3_behind 5 = .ok (.istore_n 3, 1) := by decide +kernel
theorem dX3_behind_6 : decode cX3_behind 6 = .ok (.aload_n 0, 1) := by decide +kernel
theorem dX3_behind_7 : decode cX3_behind 7 = .ok (.iload_n 3, 1) := by decide +kernel
theorem dX3_behind_8 : decode cX3_behind 8 = .ok (.invokevirtual 44, 3) := by decide +kernel
theorem dX3_behind_11 : decode cX3_behind 11 = .ok (.aload_n 0, 1) := by decide +kernel
theorem dX3_behind_12 : decode cX3_behind 12 = .ok (.iload_n 3, 1) := by decide +kernel
theorem dX3_behind_13 : decode cX3_behind 13 = .ok (.iload_n 2, 1) := by decide +kernel
theorem dX3_behind_14 : decode cX3_behind 14 = .ok (.invokevirtual 47, 3) := by decide +kernel
theorem dX3_behind_17 : decode cX3_behind 17 = .ok (.isub, 1) := by decide +kernel
theorem dX3_behind_18 : decode cX3_behind 18 = .ok (.ireturn, 1) := by decide +kernel
theorem dX4_init_0 : decode cX4_init 0 = .ok (.aload_n 0, 1) := by decide +kernel
theorem dX4_init_1 : decode cX4_init 1 = .ok (.invokespecial 3, 3) := by decide +kernel
theorem dX4_init_4 : decode cX4_init 4 = .ok (.aload_n 0, 1) := by decide +kernel
theorem dX4_init_5 : decode cX4_init 5 = .ok (.bipush 60, 2) := by decide +kernel
theorem dX4_init_7 : decode cX4_init 7 = .ok (.newarray .int, 2) := by decide +kernel
theorem dX4_init_9 : decode cX4_init 9 = .ok (.putfield 9, 3) := by decide +kernel
theorem dX4_init_12 : decode cX4_init 12 = .ok (.return_, 1) := by decide +kernel
theorem dX4_length_0 : decode cX4_length 0 = .ok (.aload_n 0, 1) := by decide +kernel
theorem dX4_length_1 : decode cX4_length 1 = .ok (.getfield 15, 3) := by decide +kernel
theorem dX4_length_4 : decode cX4_length 4 = .ok (.ireturn, 1) := by decide +kernel
theorem dX4_at_0 : decode cX4_at 0 = .ok (.iload_n 1, 1) := by decide +kernel
theorem dX4_at_1 : decode cX4_at 1 = .ok (.ifCond .lt 26, 3) := by decide +kernel
theorem dX4_at_4 : decode cX4_at 4 = .ok (.iload_n 1, 1) := by decide +kernel
theorem dX4_at_5 : decode cX4_at 5 = .ok (.aload_n 0, 1) := by decide +kernel
theorem dX4_at_6 : decode cX4_at 6 = .ok (.getfield 15, 3) := by decide +kernel
theorem dX4_at_9 : decode cX4_at 9 = .ok (.if_icmp .ge 18, 3) := by decide +kernel
theorem dX4_at_12 : decode cX4_at 12 = .ok (.iload_n 1, 1) := by decide +kernel
theorem dX4_at_13 : decode cX4_at 13 = .ok (.bipush 60, 2) := by decide +kernel
theorem dX4_at_15 : decode cX4_at 15 = .ok (.if_icmp .ge 12, 3) := by decide +kernel
theorem dX4_at_18 : decode cX4_at 18 = .ok (.aload_n 0, 1) := by decide +kernel
theorem dX4_at_19 : decode cX4_at 19 = .ok (.getfield 9, 3) := by decide +kernel
theorem dX4_at_22 : decode cX4_at 22 = .ok (.iload_n 1, 1) := by decide +kernel
theorem dX4_at_23 : decode cX4_at 23 = .ok (.iaload, 1) := by decide +kernel
theorem dX4_at_24 : decode cX4_at 24 = .ok (.goto 4, 3) := by decide +kernel
theorem dX4_at_27 : decode cX4_at 27 = .ok (.iconst 0, 1) := by decide +kernel
theorem dX4_at_28 : decode cX4_at 28 = .ok (.ireturn, 1) := by decide +kernel
theorem dX4_add_0 : decode cX4_add 0 = .ok (.aload_n 0, 1) := by decide +kernel
theorem dX4_add_1 : decode cX4_add 1 = .ok (.getfield 15, 3) := by decide +kernel
theorem dX4_add_4 : decode cX4_add 4 = .ok (.ifCond .lt 32, 3) := by decide +kernel
theorem dX4_add_7 : decode cX4_add 7 = .ok (.aload_n 0, 1) := by decide +kernel
theorem dX4_add_8 : decode cX4_add 8 = .ok (.getfield 15, 3) := by decide +kernel
theorem dX4_add_11 : decode cX4_add 11 = .ok (.bipush 60, 2) := by decide +kernel
theorem dX4_add_13 : decode cX4_add 13 = .ok (.if_icmp .ge 23, 3) := by decide +kernel
theorem dX4_add_16 : decode cX4_add 16 = .ok (.aload_n 0, 1) := by decide +kernel
theorem dX4_add_17 : decode cX4_add 17 = .ok (.getfield 9, 3) := by decide +kernel
theorem dX4_add_20 : decode cX4_add 20 = .ok (.aload_n 0, 1) := by decide +kernel
theorem dX4_add_21 : decode cX4_add 21 = .ok (.getfield 15, 3) := by decide +kernel
theorem dX4_add_24 : decode cX4_add 24 = .ok (.iload_n 1, 1) := by decide +kernel
theorem dX4_add_25 : decode cX4_add 25 = .ok (.iastore, 1) := by decide +kernel
theorem dX4_add_26 : decode cX4_add 26 = .ok (.aload_n 0, 1) := by decide +kernel
theorem dX4_add_27 : decode cX4_add 27 = .ok (.dup, 1) := by decide +kernel
theorem dX4_add_28 : decode cX4_add 28 = .ok (.getfield 15, 3) := by decide +kernel
theorem dX4_add_31 : decode cX4_add 31 = .ok (.iconst 1, 1) := by decide +kernel
theorem dX4_add_32 : decode cX4_add 32 = .ok (.iadd, 1) := by decide +kernel
theorem dX4_add_33 : decode cX4_add 33 = .ok (.putfield 15, 3) := by decide +kernel
theorem dX4_add_36 : decode cX4_add 36 = .ok (.return_, 1) := by decide +kernel
theorem dX4_clear_0 : decode cX4_clear 0 = .ok (.aload_n 0, 1) := by decide +kernel
theorem dX4_clear_1 : decode cX4_clear 1 = .ok (.iconst 0, 1) := by decide +kernel
theorem dX4_clear_2 : decode cX4_clear 2 = .ok (.putfield 15, 3) := by decide +kernel
theorem dX4_clear_5 : decode cX4_clear 5 = .ok (.return_, 1) := by decide +kernel
theorem dX4_isLetter_0 : decode cX4_isLetter 0 = .ok (.aload_n 0, 1) := by decide +kernel
theorem dX4_isLetter_1 : decode cX4_isLetter 1 = .ok (.iload_n 1, 1) := by decide +kernel
theorem dX4_isLetter_2 : decode cX4_isLetter 2 = .ok (.invokevirtual 19, 3) := by decide +kernel
theorem dX4_isLetter_5 : decode cX4_isLetter 5 = .ok (.bipush 97, 2) := by decide +kernel
theorem dX4_isLetter_7 : decode cX4_isLetter 7 = .ok (.if_icmp .lt 17, 3) := by decide +kernel
theorem dX4_isLetter_10 : decode cX4_isLetter 10 = .ok (.aload_n 0, 1) := by decide +kernel
theorem dX4_isLetter_11 : decode cX4_isLetter 11 = .ok (.iload_n 1, 1) := by decide +kernel
theorem dX4_isLetter_12 : decode cX4_isLetter 12 = .ok (.invokevirtual 19, 3) := by decide +kernel
theorem dX4_isLetter_15 : decode cX4_isLetter 15 = .ok (.bipush 102, 2) := by decide +kernel
theorem dX4_isLetter_17 : decode cX4_isLetter 17 = .ok (.if_icmp .gt 7, 3) := by decide +kernel
theorem dX4_isLetter_20 : decode cX4_isLetter 20 = .ok (.iconst 1, 1) := by decide +kernel
theorem dX4_isLetter_21 : decode cX4_isLetter 21 = .ok (.goto 4, 3) := by decide +kernel
theorem dX4_isLetter_24 : decode cX4_isLetter 24 = .ok (.iconst 0, 1) := by decide +kernel
theorem dX4_isLetter_25 : decode cX4_isLetter 25 = .ok (.ireturn, 1) := by decide +kernel
theorem dX4_adds_0 : decode cX4_adds 0 = .ok (.aload_n 0, 1) := by decide +kernel
theorem dX4_adds_1 : decode cX4_adds 1 = .ok (.iload_n 1, 1) := by decide +kernel
theorem dX4_adds_2 : decode cX4_adds 2 = .ok (.invokevirtual 23, 3) := by decide +kernel
theorem dX4_adds_5 : decode cX4_adds 5 = .ok (.ifCond .eq 5, 3) := by decide +kernel
theorem dX4_adds_8 : decode cX4_adds 8 = .ok (.iconst 1, 1) := by decide +kernel
theorem dX4_adds_9 : decode cX4_adds 9 = .ok (.ireturn, 1) := by decide +kernel
theorem dX4_adds_10 : decode cX4_adds 10 = .ok (.aload_n 0, 1) := by decide +kernel
theorem dX4_adds_11 : decode cX4_adds 11 = .ok (.iload_n 1, 1) := by decide +kernel
theorem dX4_adds_12 : decode cX4_adds 12 = .ok (.invokevirtual 19, 3) := by decide +kernel
theorem dX4_adds_15 : decode cX4_adds 15 = .ok (.bipush 50, 2) := by decide +kernel
theorem dX4_adds_17 : decode cX4_adds 17 = .ok (.if_icmp .lt 17, 3) := by decide +kernel
theorem dX4_adds_20 : decode cX4_adds 20 = .ok (.aload_n 0, 1) := by decide +kernel
theorem dX4_adds_21 : decode cX4_adds 21 = .ok (.iload_n 1, 1) := by decide +kernel
theorem dX4_adds_22 : decode cX4_adds 22 = .ok (.invokevirtual 19, 3) := by decide +kernel
theorem dX4_adds_25 : decode cX4_adds 25 = .ok (.bipush 57, 2) := by decide +kernel
theorem dX4_adds_27 : decode cX4_adds 27 = .ok (.if_icmp .gt 7, 3) := by decide +kernel
theorem dX4_adds_30 : decode cX4_adds 30 = .ok (.iconst 1, 1) := by decide +kernel
theorem dX4_adds_31 : decode cX4_adds 31 = .ok (.goto 4, 3) := by decide +kernel
theorem dX4_adds_34 : decode cX4_adds 34 = .ok (.iconst 0, 1) := by decide +kernel
theorem dX4_adds_35 : decode cX4_adds 35 = .ok (.istore_n 2, 1) := by decide +kernel
theorem dX4_adds_36 : decode cX4_adds 36 = .ok (.iload_n 2, 1) := by decide +kernel
theorem dX4_adds_37 : decode cX4_adds 37 = .ok (.ifCond .eq 24, 3) := by decide +kernel
theorem dX4_adds_40 : decode cX4_adds 40 = .ok (.aload_n 0, 1) := by decide +kernel
theorem dX4_adds_41 : decode cX4_adds 41 = .ok (.iload_n 1, 1) := by decide +kernel
theorem dX4_adds_42 : decode cX4_adds 42 = .ok (.iconst 1, 1) := by decide +kernel
theorem dX4_adds_43 : decode cX4_adds 43 = .ok (.isub, 1) := by decide +kernel
theorem dX4_adds_44 : decode cX4_adds 44 = .ok (.invokevirtual 23, 3) := by decide +kernel
theorem dX4_adds_47 : decode cX4_adds 47 = .ok (.ifCond .eq 14, 3) := by decide +kernel
theorem dX4_adds_50 : decode cX4_adds 50 = .ok (.aload_n 0, 1) := by decide +kernel
theorem dX4_adds_51 : decode cX4_adds 51 = .ok (.iload_n 1, 1) := by decide +kernel
theorem dX4_adds_52 : decode cX4_adds 52 = .ok (.invokevirtual 19, 3) := by decide +kernel
theorem dX4_adds_55 : decode cX4_adds 55 = .ok (.bipush 49, 2) := by decide +kernel
theorem dX4_adds_57 : decode cX4_adds 57 = .ok (.isub, 1) := by decide +kernel
theorem dX4_adds_58 : decode cX4_adds 58 = .ok (.goto 4, 3) := by decide +kernel
theorem dX4_adds_61 : decode cX4_adds 61 = .ok (.iconst 0, 1) := by decide +kernel
theorem dX4_adds_62 : decode cX4_adds 62 = .ok (.ireturn, 1) := by decide +kernel
theorem dX4_firstBad_0 : decode cX4_firstBad 0 = .ok (.iconst 0, 1) := by decide +kernel
theorem dX4_firstBad_1 : decode cX4_firstBad 1 = .ok (.istore_n 1, 1) := by decide +kernel
theorem dX4_firstBad_2 : decode cX4_firstBad 2 = .ok (.iconst 0, 1) := by decide +kernel
theorem dX4_firstBad_3 : decode cX4_firstBad 3 = .ok (.istore_n 2, 1) := by decide +kernel
theorem dX4_firstBad_4 : decode cX4_firstBad 4 = .ok (.iload_n 2, 1) := by decide +kernel
theorem dX4_firstBad_5 : decode cX4_firstBad 5 = .ok (.aload_n 0, 1) := by decide +kernel
theorem dX4_firstBad_6 : decode cX4_firstBad 6 = .ok (.getfield 15, 3) := by decide +kernel
theorem dX4_firstBad_9 : decode cX4_firstBad 9 = .ok (.if_icmp .ge 31, 3) := by decide +kernel
theorem dX4_firstBad_12 : decode cX4_firstBad 12 = .ok (.aload_n 0, 1) := by decide +kernel
theorem dX4_firstBad_13 : decode cX4_firstBad 13 = .ok (.iload_n 2, 1) := by decide +kernel
theorem dX4_firstBad_14 : decode cX4_firstBad 14 = .ok (.invokevirtual 27, 3) := by decide +kernel
theorem dX4_firstBad_17 : decode cX4_firstBad 17 = .ok (.istore_n 3, 1) := by decide +kernel
theorem dX4_firstBad_18 : decode cX4_firstBad 18 = .ok (.iload_n 1, 1) := by decide +kernel
theorem dX4_firstBad_19 : decode cX4_firstBad 19 = .ok (.iload_n 3, 1) := by decide +kernel
theorem dX4_firstBad_20 : decode cX4_firstBad 20 = .ok (.iadd, 1) := by decide +kernel
theorem dX4_firstBad_21 : decode cX4_firstBad 21 = .ok (.istore_n 1, 1) := by decide +kernel
theorem dX4_firstBad_22 : decode cX4_firstBad 22 = .ok (.iload_n 3, 1) := by decide +kernel
theorem dX4_firstBad_23 : decode cX4_firstBad 23 = .ok (.ifCond .eq 9, 3) := by decide +kernel
theorem dX4_firstBad_26 : decode cX4_firstBad 26 = .ok (.iload_n 1, 1) := by decide +kernel
theorem dX4_firstBad_27 : decode cX4_firstBad 27 = .ok (.bipush 11, 2) := by decide +kernel
theorem dX4_firstBad_29 : decode cX4_firstBad 29 = .ok (.if_icmp .le 5, 3) := by decide +kernel
theorem dX4_firstBad_32 : decode cX4_firstBad 32 = .ok (.iload_n 2, 1) := by decide +kernel
theorem dX4_firstBad_33 : decode cX4_firstBad 33 = .ok (.ireturn, 1) := by decide +kernel
theorem dX4_firstBad_34 : decode cX4_firstBad 34 = .ok (.iinc 2 1, 3) := by decide +kernel
theorem dX4_firstBad_37 : decode cX4_firstBad 37 = .ok (.goto (-33), 3) := by decide +kernel
theorem dX4_firstBad_40 : decode cX4_firstBad 40 = .ok (.aload_n 0, 1) := by decide +kernel
theorem dX4_firstBad_41 : decode cX4_firstBad 41 = .ok (.getfield 15, 3) := by decide +kernel
theorem dX4_firstBad_44 : decode cX4_firstBad 44 = .ok (.ireturn, 1) := by decide +kernel
theorem dX4_writeTo_0 : decode cX4_writeTo 0 = .ok (.aload_n 1, 1) := by decide +kernel
theorem dX4_writeTo_1 : decode cX4_writeTo 1 = .ok (.invokevirtual 30, 3) := by decide +kernel
theorem dX4_writeTo_4 : decode cX4_writeTo 4 = .ok (.iconst 0, 1) := by decide +kernel
theorem dX4_writeTo_5 : decode cX4_writeTo 5 = .ok (.istore_n 2, 1) := by decide +kernel
theorem dX4_writeTo_6 : decode cX4_writeTo 6 = .ok (.iload_n 2, 1) := by decide +kernel
theorem dX4_writeTo_7 : decode cX4_writeTo 7 = .ok (.aload_n 0, 1) := by decide +kernel
theorem dX4_writeTo_8 : decode cX4_writeTo 8 = .ok (.getfield 15, 3) := by decide +kernel
theorem dX4_writeTo_11 : decode cX4_writeTo 11 = .ok (.if_icmp .ge 64, 3) := by decide +kernel
theorem dX4_writeTo_14 : decode cX4_writeTo 14 = .ok (.aload_n 0, 1) := by decide +kernel
theorem dX4_writeTo_15 : decode cX4_writeTo 15 = .ok (.iload_n 2, 1) := by decide +kernel
theorem dX4_writeTo_16 : decode cX4_writeTo 16 = .ok (.invokevirtual 23, 3) := by decide +kernel
theorem dX4_writeTo_19 : decode cX4_writeTo 19 = .ok (.ifCond .eq 11, 3) := by decide +kernel
theorem dX4_writeTo_22 : decode cX4_writeTo 22 = .ok (.aload_n 0, 1) := by decide +kernel
theorem dX4_writeTo_23 : decode cX4_writeTo 23 = .ok (.iload_n 2, 1) := by decide +kernel
theorem dX4_writeTo_24 : decode cX4_writeTo 24 = .ok (.invokevirtual 19, 3) := by decide +kernel
theorem dX4_writeTo_27 : decode cX4_writeTo 27 = .ok (.goto 10, 3) := by decide +kernel
theorem dX4_writeTo_30 : decode cX4_writeTo 30 = .ok (.aload_n 0, 1) := by decide +kernel
theorem dX4_writeTo_31 : decode cX4_writeTo 31 = .ok (.iload_n 2, 1) := by decide +kernel
theorem dX4_writeTo_32 : decode cX4_writeTo 32 = .ok (.iconst 1, 1) := by decide +kernel
theorem dX4_writeTo_33 : decode cX4_writeTo 33 = .ok (.isub, 1) := by decide +kernel
theorem dX4_writeTo_34 : decode cX4_writeTo 34 = .ok (.invokevirtual 19, 3) := by decide +kernel
theorem dX4_writeTo_37 : decode cX4_writeTo 37 = .ok (.istore_n 3, 1) := by decide +kernel
theorem dX4_writeTo_38 : decode cX4_writeTo 38 = .ok (.aload_n 0, 1) := by decide +kernel
theorem dX4_writeTo_39 : decode cX4_writeTo 39 = .ok (.iload_n 2, 1) := by decide +kernel
theorem dX4_writeTo_40 : decode cX4_writeTo 40 = .ok (.invokevirtual 27, 3) := by decide +kernel
theorem dX4_writeTo_43 : decode cX4_writeTo 43 = .ok (.istore 4, 2) := by decide +kernel
theorem dX4_writeTo_45 : decode cX4_writeTo 45 = .ok (.iconst 0, 1) := by decide +kernel
theorem dX4_writeTo_46 : decode cX4_writeTo 46 = .ok (.istore 5, 2) := by decide +kernel
theorem dX4_writeTo_48 : decode cX4_writeTo 48 = .ok (.iload 5, 2) := by decide +kernel
theorem dX4_writeTo_50 : decode cX4_writeTo 50 = .ok (.iload 4, 2) := by decide +kernel
theorem dX4_writeTo_52 : decode cX4_writeTo 52 = .ok (.if_icmp .ge 17, 3) := by decide +kernel
theorem dX4_writeTo_55 : decode cX4_writeTo 55 = .ok (.aload_n 1, 1) := by decide +kernel
theorem dX4_writeTo_56 : decode cX4_writeTo 56 = .ok (.iload_n 3, 1) := by decide +kernel
theorem dX4_writeTo_57 : decode cX4_writeTo 57 = .ok (.bipush 97, 2) := by decide +kernel
theorem dX4_writeTo_59 : decode cX4_writeTo 59 = .ok (.isub, 1) := by decide +kernel
theorem dX4_writeTo_60 : decode cX4_writeTo 60 = .ok (.invokevirtual 35, 3) := by decide +kernel
theorem dX4_writeTo_63 : decode cX4_writeTo 63 = .ok (.iinc 5 1, 3) := by decide +kernel
theorem dX4_writeTo_66 : decode cX4_writeTo 66 = .ok (.goto (-18), 3) := by decide +kernel
theorem dX4_writeTo_69 : decode cX4_writeTo 69 = .ok (.iinc 2 1, 3) := by decide +kernel
theorem dX4_writeTo_72 : decode cX4_writeTo 72 = .ok (.goto (-66), 3) := by decide +kernel
theorem dX4_writeTo_75 : decode cX4_writeTo 75 = .ok (.return_, 1) := by decide +kernel
