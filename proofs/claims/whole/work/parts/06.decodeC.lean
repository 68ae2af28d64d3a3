theorem dX6_init_0 : decode cX6_init 0 = .ok (.aload_n 0, 1) := by decide +kernel
theorem dX6_init_1 : decode cX6_init 1 = .ok (.invokespecial 1, 3) := by decide +kernel
theorem dX6_init_4 : decode cX6_init 4 = .ok (.aload_n 0, 1) := by decide +kernel
theorem dX6_init_5 : decode cX6_init 5 = .ok (.bipush 13, 2) := by decide +kernel
theorem dX6_init_7 : decode cX6_init 7 = .ok (.newarray .int, 2) := by decide +kernel
theorem dX6_init_9 : decode cX6_init 9 = .ok (.putfield 7, 3) := by decide +kernel
theorem dX6_init_12 : decode cX6_init 12 = .ok (.aload_n 0, 1) := by decide +kernel
theorem dX6_init_13 : decode cX6_init 13 = .ok (.bipush 78, 2) := by decide +kernel
theorem dX6_init_15 : decode cX6_init 15 = .ok (.newarray .int, 2) := by decide +kernel
theorem dX6_init_17 : decode cX6_init 17 = .ok (.putfield 13, 3) := by decide +kernel
theorem dX6_init_20 : decode cX6_init 20 = .ok (.aload_n 0, 1) := by decide +kernel
theorem dX6_init_21 : decode cX6_init 21 = .ok (.bipush 60, 2) := by decide +kernel
theorem dX6_init_23 : decode cX6_init 23 = .ok (.newarray .int, 2) := by decide +kernel
theorem dX6_init_25 : decode cX6_init 25 = .ok (.putfield 16, 3) := by decide +kernel
theorem dX6_init_28 : decode cX6_init 28 = .ok (.aload_n 0, 1) := by decide +kernel
theorem dX6_init_29 : decode cX6_init 29 = .ok (.bipush 6, 2) := by decide +kernel
theorem dX6_init_31 : decode cX6_init 31 = .ok (.newarray .int, 2) := by decide +kernel
theorem dX6_init_33 : decode cX6_init 33 = .ok (.putfield 19, 3) := by decide +kernel
theorem dX6_init_36 : decode cX6_init 36 = .ok (.aload_n 0, 1) := by decide +kernel
theorem dX6_init_37 : decode cX6_init 37 = .ok (.bipush 11, 2) := by decide +kernel
theorem dX6_init_39 : decode cX6_init 39 = .ok (.newarray .int, 2) := by decide +kernel
theorem dX6_init_41 : decode cX6_init 41 = .ok (.putfield 22, 3) := by decide +kernel
theorem dX6_init_44 : decode cX6_init 44 = .ok (.aload_n 0, 1) := by decide +kernel
theorem dX6_init_45 : decode cX6_init 45 = .ok (.sipush 4200, 3) := by decide +kernel
theorem dX6_init_48 : decode cX6_init 48 = .ok (.newarray .int, 2) := by decide +kernel
theorem dX6_init_50 : decode cX6_init 50 = .ok (.putfield 25, 3) := by decide +kernel
theorem dX6_init_53 : decode cX6_init 53 = .ok (.aload_n 0, 1) := by decide +kernel
theorem dX6_init_54 : decode cX6_init 54 = .ok (.bipush 6, 2) := by decide +kernel
theorem dX6_init_56 : decode cX6_init 56 = .ok (.newarray .int, 2) := by decide +kernel
theorem dX6_init_58 : decode cX6_init 58 = .ok (.putfield 28, 3) := by decide +kernel
theorem dX6_init_61 : decode cX6_init 61 = .ok (.aload_n 0, 1) := by decide +kernel
theorem dX6_init_62 : decode cX6_init 62 = .ok (.bipush 11, 2) := by decide +kernel
theorem dX6_init_64 : decode cX6_init 64 = .ok (.newarray .int, 2) := by decide +kernel
theorem dX6_init_66 : decode cX6_init 66 = .ok (.putfield 31, 3) := by decide +kernel
theorem dX6_init_69 : decode cX6_init 69 = .ok (.aload_n 0, 1) := by decide +kernel
theorem dX6_init_70 : decode cX6_init 70 = .ok (.bipush 11, 2) := by decide +kernel
theorem dX6_init_72 : decode cX6_init 72 = .ok (.newarray .int, 2) := by decide +kernel
theorem dX6_init_74 : decode cX6_init 74 = .ok (.putfield 34, 3) := by decide +kernel
theorem dX6_init_77 : decode cX6_init 77 = .ok (.aload_n 0, 1) := by decide +kernel
theorem dX6_init_78 : decode cX6_init 78 = .ok (.getfield 7, 3) := by decide +kernel
theorem dX6_init_81 : decode cX6_init 81 = .ok (.iconst 0, 1) := by decide +kernel
theorem dX6_init_82 : decode cX6_init 82 = .ok (.iconst 3, 1) := by decide +kernel
theorem dX6_init_83 : decode cX6_init 83 = .ok (.iastore, 1) := by decide +kernel
theorem dX6_init_84 : decode cX6_init 84 = .ok (.aload_n 0, 1) := by decide +kernel
theorem dX6_init_85 : decode cX6_init 85 = .ok (.getfield 7, 3) := by decide +kernel
theorem dX6_init_88 : decode cX6_init 88 = .ok (.iconst 3, 1) := by decide +kernel
theorem dX6_init_89 : decode cX6_init 89 = .ok (.iconst 1, 1) := by decide +kernel
theorem dX6_init_90 : decode cX6_init 90 = .ok (.iastore, 1) := by decide +kernel
theorem dX6_init_91 : decode cX6_init 91 = .ok (.aload_n 0, 1) := by decide +kernel
theorem dX6_init_92 : decode cX6_init 92 = .ok (.getfield 7, 3) := by decide +kernel
theorem dX6_init_95 : decode cX6_init 95 = .ok (.iconst 4, 1) := by decide +kernel
theorem dX6_init_96 : decode cX6_init 96 = .ok (.iconst 2, 1) := by decide +kernel
theorem dX6_init_97 : decode cX6_init 97 = .ok (.iastore, 1) := by decide +kernel
theorem dX6_init_98 : decode cX6_init 98 = .ok (.return_, 1) := by decide +kernel
theorem dX6_thrown_0 : decode cX6_thrown 0 = .ok (.aload_n 0, 1) := by decide +kernel
theorem dX6_thrown_1 : decode cX6_thrown 1 = .ok (.getfield 37, 3) := by decide +kernel
theorem dX6_thrown_4 : decode cX6_thrown 4 = .ok (.ireturn, 1) := by decide +kernel
theorem dX6_within_0 : decode cX6_within 0 = .ok (.iload_n 0, 1) := by decide +kernel
theorem dX6_within_1 : decode cX6_within 1 = .ok (.iload_n 1, 1) := by decide +kernel
theorem dX6_within_2 : decode cX6_within 2 = .ok (.if_icmp .lt 12, 3) := by decide +kernel
theorem dX6_within_5 : decode cX6_within 5 = .ok (.iload_n 0, 1) := by decide +kernel
theorem dX6_within_6 : decode cX6_within 6 = .ok (.iload_n 2, 1) := by decide +kernel
theorem dX6_within_7 : decode cX6_within 7 = .ok (.if_icmp .gt 7, 3) := by decide +kernel
theorem dX6_within_10 : decode cX6_within 10 = .ok (.iconst 1, 1) := by decide +kernel
theorem dX6_within_11 : decode cX6_within 11 = .ok (.goto 4, 3) := by decide +kernel
theorem dX6_within_14 : decode cX6_within 14 = .ok (.iconst 0, 1) := by decide +kernel
theorem dX6_within_15 : decode cX6_within 15 = .ok (.ireturn, 1) := by decide +kernel
theorem dX6_save_0 : decode cX6_save 0 = .ok (.aload_n 0, 1) := by decide +kernel
theorem dX6_save_1 : decode cX6_save 1 = .ok (.getfield 41, 3) := by decide +kernel
theorem dX6_save_4 : decode cX6_save 4 = .ok (.bipush 6, 2) := by decide +kernel
theorem dX6_save_6 : decode cX6_save 6 = .ok (.if_icmp .ne 43, 3) := by decide +kernel
theorem dX6_save_9 : decode cX6_save 9 = .ok (.bipush 13, 2) := by decide +kernel
theorem dX6_save_11 : decode cX6_save 11 = .ok (.istore_n 1, 1) := by decide +kernel
theorem dX6_save_12 : decode cX6_save 12 = .ok (.iload_n 1, 1) := by decide +kernel
theorem dX6_save_13 : decode cX6_save 13 = .ok (.bipush 78, 2) := by decide +kernel
theorem dX6_save_15 : decode cX6_save 15 = .ok (.if_icmp .ge 24, 3) := by decide +kernel
theorem dX6_save_18 : decode cX6_save 18 = .ok (.aload_n 0, 1) := by decide +kernel
theorem dX6_save_19 : decode cX6_save 19 = .ok (.getfield 13, 3) := by decide +kernel
theorem dX6_save_22 : decode cX6_save 22 = .ok (.iload_n 1, 1) := by decide +kernel
theorem dX6_save_23 : decode cX6_save 23 = .ok (.bipush 13, 2) := by decide +kernel
theorem dX6_save_25 : decode cX6_save 25 = .ok (.isub, 1) := by decide +kernel
theorem dX6_save_26 : decode cX6_save 26 = .ok (.aload_n 0, 1) := by decide +kernel
theorem dX6_save_27 : decode cX6_save 27 = .ok (.getfield 13, 3) := by decide +kernel
theorem dX6_save_30 : decode cX6_save 30 = .ok (.iload_n 1, 1) := by decide +kernel
theorem dX6_save_31 : decode cX6_save 31 = .ok (.iaload, 1) := by decide +kernel
theorem dX6_save_32 : decode cX6_save 32 = .ok (.iastore, 1) := by decide +kernel
theorem dX6_save_33 : decode cX6_save 33 = .ok (.iinc 1 1, 3) := by decide +kernel
theorem dX6_save_36 : decode cX6_save 36 = .ok (.goto (-24), 3) := by decide +kernel
theorem dX6_save_39 : decode cX6_save 39 = .ok (.aload_n 0, 1) := by decide +kernel
theorem dX6_save_40 : decode cX6_save 40 = .ok (.dup, 1) := by decide +kernel
theorem dX6_save_41 : decode cX6_save 41 = .ok (.getfield 41, 3) := by decide +kernel
theorem dX6_save_44 : decode cX6_save 44 = .ok (.iconst 1, 1) := by decide +kernel
theorem dX6_save_45 : decode cX6_save 45 = .ok (.isub, 1) := by decide +kernel
theorem dX6_save_46 : decode cX6_save 46 = .ok (.putfield 41, 3) := by decide +kernel
theorem dX6_save_49 : decode cX6_save 49 = .ok (.iconst 0, 1) := by decide +kernel
theorem dX6_save_50 : decode cX6_save 50 = .ok (.istore_n 1, 1) := by decide +kernel
theorem dX6_save_51 : decode cX6_save 51 = .ok (.iload_n 1, 1) := by decide +kernel
theorem dX6_save_52 : decode cX6_save 52 = .ok (.bipush 13, 2) := by decide +kernel
theorem dX6_save_54 : decode cX6_save 54 = .ok (.if_icmp .ge 29, 3) := by decide +kernel
theorem dX6_save_57 : decode cX6_save 57 = .ok (.aload_n 0, 1) := by decide +kernel
theorem dX6_save_58 : decode cX6_save 58 = .ok (.getfield 13, 3) := by decide +kernel
theorem dX6_save_61 : decode cX6_save 61 = .ok (.bipush 13, 2) := by decide +kernel
theorem dX6_save_63 : decode cX6_save 63 = .ok (.aload_n 0, 1) := by decide +kernel
theorem dX6_save_64 : decode cX6_save 64 = .ok (.getfield 41, 3) := by decide +kernel
theorem dX6_save_67 : decode cX6_save 67 = .ok (.imul, 1) := by decide +kernel
theorem dX6_save_68 : decode cX6_save 68 = .ok (.iload_n 1, 1) := by decide +kernel
theorem dX6_save_69 : decode cX6_save 69 = .ok (.iadd, 1) := by decide +kernel
theorem dX6_save_70 : decode cX6_save 70 = .ok (.aload_n 0, 1) := by decide +kernel
theorem dX6_save_71 : decode cX6_save 71 = .ok (.getfield 7, 3) := by decide +kernel
theorem dX6_save_74 : decode cX6_save 74 = .ok (.iload_n 1, 1) := by decide +kernel
theorem dX6_save_75 : decode cX6_save 75 = .ok (.iaload, 1) := by decide +kernel
theorem dX6_save_76 : decode cX6_save 76 = .ok (.iastore, 1) := by decide +kernel
theorem dX6_save_77 : decode cX6_save 77 = .ok (.iinc 1 1, 3) := by decide +kernel
theorem dX6_save_80 : decode cX6_save 80 = .ok (.goto (-29), 3) := by decide +kernel
theorem dX6_save_83 : decode cX6_save 83 = .ok (.aload_n 0, 1) := by decide +kernel
theorem dX6_save_84 : decode cX6_save 84 = .ok (.dup, 1) := by decide +kernel
theorem dX6_save_85 : decode cX6_save 85 = .ok (.getfield 41, 3) := by decide +kernel
theorem dX6_save_88 : decode cX6_save 88 = .ok (.iconst 1, 1) := by decide +kernel
theorem dX6_save_89 : decode cX6_save 89 = .ok (.iadd, 1) := by decide +kernel
theorem dX6_save_90 : decode cX6_save 90 = .ok (.putfield 41, 3) := by decide +kernel
theorem dX6_save_93 : decode cX6_save 93 = .ok (.return_, 1) := by decide +kernel
theorem dX6_isPlace_0 : decode cX6_isPlace 0 = .ok (.iload_n 1, 1) := by decide +kernel
theorem dX6_isPlace_1 : decode cX6_isPlace 1 = .ok (.iconst 0, 1) := by decide +kernel
theorem dX6_isPlace_2 : decode cX6_isPlace 2 = .ok (.aload_n 0, 1) := by decide +kernel
theorem dX6_isPlace_3 : decode cX6_isPlace 3 = .ok (.getfield 7, 3) := by decide +kernel
theorem dX6_isPlace_6 : decode cX6_isPlace 6 = .ok (.iconst 0, 1) := by decide +kernel
theorem dX6_isPlace_7 : decode cX6_isPlace 7 = .ok (.iaload, 1) := by decide +kernel
theorem dX6_isPlace_8 : decode cX6_isPlace 8 = .ok (.iconst 1, 1) := by decide +kernel
theorem dX6_isPlace_9 : decode cX6_isPlace 9 = .ok (.isub, 1) := by decide +kernel
theorem dX6_isPlace_10 : decode cX6_isPlace 10 = .ok (.invokestatic 44, 3) := by decide +kernel
theorem dX6_isPlace_13 : decode cX6_isPlace 13 = .ok (.ireturn, 1) := by decide +kernel
theorem dX6_isSign_0 : decode cX6_isSign 0 = .ok (.iload_n 0, 1) := by decide +kernel
theorem dX6_isSign_1 : decode cX6_isSign 1 = .ok (.iconst 0, 1) := by decide +kernel
theorem dX6_isSign_2 : decode cX6_isSign 2 = .ok (.iconst 5, 1) := by decide +kernel
theorem dX6_isSign_3 : decode cX6_isSign 3 = .ok (.invokestatic 44, 3) := by decide +kernel
theorem dX6_isSign_6 : decode cX6_isSign 6 = .ok (.ireturn, 1) := by decide +kernel
theorem dX6_countAll_0 : decode cX6_countAll 0 = .ok (.iconst 0, 1) := by decide +kernel
theorem dX6_countAll_1 : decode cX6_countAll 1 = .ok (.istore_n 1, 1) := by decide +kernel
theorem dX6_countAll_2 : decode cX6_countAll 2 = .ok (.iload_n 1, 1) := by decide +kernel
theorem dX6_countAll_3 : decode cX6_countAll 3 = .ok (.bipush 6, 2) := by decide +kernel
theorem dX6_countAll_5 : decode cX6_countAll 5 = .ok (.if_icmp .ge 16, 3) := by decide +kernel
theorem dX6_countAll_8 : decode cX6_countAll 8 = .ok (.aload_n 0, 1) := by decide +kernel
theorem dX6_countAll_9 : decode cX6_countAll 9 = .ok (.getfield 19, 3) := by decide +kernel
theorem dX6_countAll_12 : decode cX6_countAll 12 = .ok (.iload_n 1, 1) := by decide +kernel
theorem dX6_countAll_13 : decode cX6_countAll 13 = .ok (.iconst 0, 1) := by decide +kernel
theorem dX6_countAll_14 : decode cX6_countAll 14 = .ok (.iastore, 1) := by decide +kernel
theorem dX6_countAll_15 : decode cX6_countAll 15 = .ok (.iinc 1 1, 3) := by decide +kernel
theorem dX6_countAll_18 : decode cX6_countAll 18 = .ok (.goto (-16), 3) := by decide +kernel
theorem dX6_countAll_21 : decode cX6_countAll 21 = .ok (.iconst 0, 1) := by decide +kernel
theorem dX6_countAll_22 : decode cX6_countAll 22 = .ok (.istore_n 1, 1) := by decide +kernel
theorem dX6_countAll_23 : decode cX6_countAll 23 = .ok (.iload_n 1, 1) := by decide +kernel
theorem dX6_countAll_24 : decode cX6_countAll 24 = .ok (.aload_n 0, 1) := by decide +kernel
theorem dX6_countAll_25 : decode cX6_countAll 25 = .ok (.getfield 7, 3) := by decide +kernel
theorem dX6_countAll_28 : decode cX6_countAll 28 = .ok (.iconst 0, 1) := by decide +kernel
theorem dX6_countAll_29 : decode cX6_countAll 29 = .ok (.iaload, 1) := by decide +kernel
theorem dX6_countAll_30 : decode cX6_countAll 30 = .ok (.if_icmp .ge 26, 3) := by decide +kernel
theorem dX6_countAll_33 : decode cX6_countAll 33 = .ok (.aload_n 0, 1) := by decide +kernel
theorem dX6_countAll_34 : decode cX6_countAll 34 = .ok (.getfield 19, 3) := by decide +kernel
theorem dX6_countAll_37 : decode cX6_countAll 37 = .ok (.aload_n 0, 1) := by decide +kernel
theorem dX6_countAll_38 : decode cX6_countAll 38 = .ok (.getfield 7, 3) := by decide +kernel
theorem dX6_countAll_41 : decode cX6_countAll 41 = .ok (.iconst 2, 1) := by decide +kernel
theorem dX6_countAll_42 : decode cX6_countAll 42 = .ok (.iload_n 1, 1) := by decide +kernel
theorem dX6_countAll_43 : decode cX6_countAll 43 = .ok (.iadd, 1) := by decide +kernel
theorem dX6_countAll_44 : decode cX6_countAll 44 = .ok (.iaload, 1) := by decide +kernel
theorem dX6_countAll_45 : decode cX6_countAll 45 = .ok (.dup2, 1) := by decide +kernel
theorem dX6_countAll_46 : decode cX6_countAll 46 = .ok (.iaload, 1) := by decide +kernel
theorem dX6_countAll_47 : decode cX6_countAll 47 = .ok (.iconst 1, 1) := by decide +kernel
theorem dX6_countAll_48 : decode cX6_countAll 48 = .ok (.iadd, 1) := by decide +kernel
theorem dX6_countAll_49 : decode cX6_countAll 49 = .ok (.iastore, 1) := by decide +kernel
theorem dX6_countAll_50 : decode cX6_countAll 50 = .ok (.iinc 1 1, 3) := by decide +kernel
theorem dX6_countAll_53 : decode cX6_countAll 53 = .ok (.goto (-30), 3) := by decide +kernel
theorem dX6_countAll_56 : decode cX6_countAll 56 = .ok (.return_, 1) := by decide +kernel
theorem dX6_factorial_0 : decode cX6_factorial 0 = .ok (.iconst 1, 1) := by decide +kernel
theorem dX6_factorial_1 : decode cX6_factorial 1 = .ok (.istore_n 1, 1) := by decide +kernel
theorem dX6_factorial_2 : decode cX6_factorial 2 = .ok (.iconst 2, 1) := by decide +kernel
theorem dX6_factorial_3 : decode cX6_factorial 3 = .ok (.istore_n 2, 1) := by decide +kernel
theorem dX6_factorial_4 : decode cX6_factorial 4 = .ok (.iload_n 2, 1) := by decide +kernel
theorem dX6_factorial_5 : decode cX6_factorial 5 = .ok (.iload_n 0, 1) := by decide +kernel
theorem dX6_factorial_6 : decode cX6_factorial 6 = .ok (.if_icmp .gt 13, 3) := by decide +kernel
theorem dX6_factorial_9 : decode cX6_factorial 9 = .ok (.iload_n 1, 1) := by decide +kernel
theorem dX6_factorial_10 : decode cX6_factorial 10 = .ok (.iload_n 2, 1) := by decide +kernel
theorem dX6_factorial_11 : decode cX6_factorial 11 = .ok (.imul, 1) := by decide +kernel
theorem dX6_factorial_12 : decode cX6_factorial 12 = .ok (.istore_n 1, 1) := by decide +kernel
theorem dX6_factorial_13 : decode cX6_factorial 13 = .ok (.iinc 2 1, 3) := by decide +kernel
theorem dX6_factorial_16 : decode cX6_factorial 16 = .ok (.goto (-12), 3) := by decide +kernel
theorem dX6_factorial_19 : decode cX6_factorial 19 = .ok (.iload_n 1, 1) := by decide +kernel
theorem dX6_factorial_20 : decode cX6_factorial 20 = .ok (.ireturn, 1) := by decide +kernel
theorem dX6_rows_0 : decode cX6_rows 0 = .ok (.iconst 0, 1) := by decide +kernel
theorem dX6_rows_1 : decode cX6_rows 1 = .ok (.istore_n 1, 1) := by decide +kernel
theorem dX6_rows_2 : decode cX6_rows 2 = .ok (.iconst 0, 1) := by decide +kernel
theorem dX6_rows_3 : decode cX6_rows 3 = .ok (.istore_n 2, 1) := by decide +kernel
theorem dX6_rows_4 : decode cX6_rows 4 = .ok (.iload_n 2, 1) := by decide +kernel
theorem dX6_rows_5 : decode cX6_rows 5 = .ok (.bipush 6, 2) := by decide +kernel
theorem dX6_rows_7 : decode cX6_rows 7 = .ok (.if_icmp .ge 18, 3) := by decide +kernel
theorem dX6_rows_10 : decode cX6_rows 10 = .ok (.iload_n 1, 1) := by decide +kernel
theorem dX6_rows_11 : decode cX6_rows 11 = .ok (.aload_n 0, 1) := by decide +kernel
theorem dX6_rows_12 : decode cX6_rows 12 = .ok (.getfield 19, 3) := by decide +kernel
theorem dX6_rows_15 : decode cX6_rows 15 = .ok (.iload_n 2, 1) := by decide +kernel
theorem dX6_rows_16 : decode cX6_rows 16 = .ok (.iaload, 1) := by decide +kernel
theorem dX6_rows_17 : decode cX6_rows 17 = .ok (.iadd, 1) := by decide +kernel
theorem dX6_rows_18 : decode cX6_rows 18 = .ok (.istore_n 1, 1) := by decide +kernel
theorem dX6_rows_19 : decode cX6_rows 19 = .ok (.iinc 2 1, 3) := by decide +kernel
theorem dX6_rows_22 : decode cX6_rows 22 = .ok (.goto (-18), 3) := by decide +kernel
theorem dX6_rows_25 : decode cX6_rows 25 = .ok (.iload_n 1, 1) := by decide +kernel
theorem dX6_rows_26 : decode cX6_rows 26 = .ok (.invokestatic 48, 3) := by decide +kernel
theorem dX6_rows_29 : decode cX6_rows 29 = .ok (.istore_n 2, 1) := by decide +kernel
theorem dX6_rows_30 : decode cX6_rows 30 = .ok (.iconst 0, 1) := by decide +kernel
theorem dX6_rows_31 : decode cX6_rows 31 = .ok (.istore_n 3, 1) := by decide +kernel
theorem dX6_rows_32 : decode cX6_rows 32 = .ok (.iload_n 3, 1) := by decide +kernel
theorem dX6_rows_33 : decode cX6_rows 33 = .ok (.bipush 6, 2) := by decide +kernel
theorem dX6_rows_35 : decode cX6_rows 35 = .ok (.if_icmp .ge 21, 3) := by decide +kernel
theorem dX6_rows_38 : decode cX6_rows 38 = .ok (.iload_n 2, 1) := by decide +kernel
theorem dX6_rows_39 : decode cX6_rows 39 = .ok (.aload_n 0, 1) := by decide +kernel
theorem dX6_rows_40 : decode cX6_rows 40 = .ok (.getfield 19, 3) := by decide +kernel
theorem dX6_rows_43 : decode cX6_rows 43 = .ok (.iload_n 3, 1) := by decide +kernel
theorem dX6_rows_44 : decode cX6_rows 44 = .ok (.iaload, 1) := by decide +kernel
theorem dX6_rows_45 : decode cX6_rows 45 = .ok (.invokestatic 48, 3) := by decide +kernel
theorem dX6_rows_48 : decode cX6_rows 48 = .ok (.idiv, 1) := by decide +kernel
theorem dX6_rows_49 : decode cX6_rows 49 = .ok (.istore_n 2, 1) := by decide +kernel
theorem dX6_rows_50 : decode cX6_rows 50 = .ok (.iinc 3 1, 3) := by decide +kernel
theorem dX6_rows_53 : decode cX6_rows 53 = .ok (.goto (-21), 3) := by decide +kernel
theorem dX6_rows_56 : decode cX6_rows 56 = .ok (.iload_n 2, 1) := by decide +kernel
theorem dX6_rows_57 : decode cX6_rows 57 = .ok (.ireturn, 1) := by decide +kernel
theorem dX6_rowsWith_0 : decode cX6_rowsWith 0 = .ok (.aload_n 0, 1) := by decide +kernel
theorem dX6_rowsWith_1 : decode cX6_rowsWith 1 = .ok (.getfield 19, 3) := by decide +kernel
theorem dX6_rowsWith_4 : decode cX6_rowsWith 4 = .ok (.iload_n 1, 1) := by decide +kernel
theorem dX6_rowsWith_5 : decode cX6_rowsWith 5 = .ok (.iaload, 1) := by decide +kernel
theorem dX6_rowsWith_6 : decode cX6_rowsWith 6 = .ok (.ifCond .ne 5, 3) := by decide +kernel
theorem dX6_rowsWith_9 : decode cX6_rowsWith 9 = .ok (.iconst 0, 1) := by decide +kernel
theorem dX6_rowsWith_10 : decode cX6_rowsWith 10 = .ok (.ireturn, 1) := by decide +kernel
theorem dX6_rowsWith_11 : decode cX6_rowsWith 11 = .ok (.aload_n 0, 1) := by decide +kernel
theorem dX6_rowsWith_12 : decode cX6_rowsWith 12 = .ok (.getfield 19, 3) := by decide +kernel
theorem dX6_rowsWith_15 : decode cX6_rowsWith 15 = .ok (.iload_n 1, 1) := by decide +kernel
theorem dX6_rowsWith_16 : decode cX6_rowsWith 16 = .ok (.dup2, 1) := by decide +kernel
theorem dX6_rowsWith_17 : decode cX6_rowsWith 17 = .ok (.iaload, 1) := by decide +kernel
theorem dX6_rowsWith_18 : decode cX6_rowsWith 18 = .ok (.iconst 1, 1) := by decide +kernel
theorem dX6_rowsWith_19 : decode cX6_rowsWith 19 = .ok (.isub, 1) := by decide +kernel
theorem dX6_rowsWith_20 : decode cX6_rowsWith 20 = .ok (.iastore, 1) := by decide +kernel
theorem dX6_rowsWith_21 : decode cX6_rowsWith 21 = .ok (.aload_n 0, 1) := by decide +kernel
theorem dX6_rowsWith_22 : decode cX6_rowsWith 22 = .ok (.invokevirtual 52, 3) := by decide +kernel
theorem dX6_rowsWith_25 : decode cX6_rowsWith 25 = .ok (.istore_n 2, 1) := by decide +kernel
theorem dX6_rowsWith_26 : decode cX6_rowsWith 26 = .ok (.aload_n 0, 1) := by decide +kernel
theorem dX6_rowsWith_27 : decode cX6_rowsWith 27 = .ok (.getfield 19, 3) := by decide +kernel
theorem dX6_rowsWith_30 : decode cX6_rowsWith 30 = .ok (.iload_n 1, 1) := by decide +kernel
theorem dX6_rowsWith_31 : decode cX6_rowsWith 31 = .ok (.dup2, 1) := by decide +kernel
theorem dX6_rowsWith_32 : decode cX6_rowsWith 32 = .ok (.iaload, 1) := by decide +kernel
theorem dX6_rowsWith_33 : decode cX6_rowsWith 33 = .ok (.iconst 1, 1) := by decide +kernel
theorem dX6_rowsWith_34 : decode cX6_rowsWith 34 = .ok (.iadd, 1) := by decide +kernel
theorem dX6_rowsWith_35 : decode cX6_rowsWith 35 = .ok (.iastore, 1) := by decide +kernel
theorem dX6_rowsWith_36 : decode cX6_rowsWith 36 = .ok (.iload_n 2, 1) := by decide +kernel
theorem dX6_rowsWith_37 : decode cX6_rowsWith 37 = .ok (.ireturn, 1) := by decide +kernel
theorem dX6_allRows_0 : decode cX6_allRows 0 = .ok (.aload_n 0, 1) := by decide +kernel
theorem dX6_allRows_1 : decode cX6_allRows 1 = .ok (.invokevirtual 56, 3) := by decide +kernel
theorem dX6_allRows_4 : decode cX6_allRows 4 = .ok (.aload_n 0, 1) := by decide +kernel
theorem dX6_allRows_5 : decode cX6_allRows 5 = .ok (.invokevirtual 52, 3) := by decide +kernel
theorem dX6_allRows_8 : decode cX6_allRows 8 = .ok (.ireturn, 1) := by decide +kernel
theorem dX6_copyRow_0 : decode cX6_copyRow 0 = .ok (.iconst 0, 1) := by decide +kernel
theorem dX6_copyRow_1 : decode cX6_copyRow 1 = .ok (.istore_n 1, 1) := by decide +kernel
theorem dX6_copyRow_2 : decode cX6_copyRow 2 = .ok (.iload_n 1, 1) := by decide +kernel
theorem dX6_copyRow_3 : decode cX6_copyRow 3 = .ok (.aload_n 0, 1) := by decide +kernel
theorem dX6_copyRow_4 : decode cX6_copyRow 4 = .ok (.getfield 7, 3) := by decide +kernel
theorem dX6_copyRow_7 : decode cX6_copyRow 7 = .ok (.iconst 0, 1) := by decide +kernel
theorem dX6_copyRow_8 : decode cX6_copyRow 8 = .ok (.iaload, 1) := by decide +kernel
theorem dX6_copyRow_9 : decode cX6_copyRow 9 = .ok (.if_icmp .ge 23, 3) := by decide +kernel
theorem dX6_copyRow_12 : decode cX6_copyRow 12 = .ok (.aload_n 0, 1) := by decide +kernel
theorem dX6_copyRow_13 : decode cX6_copyRow 13 = .ok (.getfield 22, 3) := by decide +kernel
theorem dX6_copyRow_16 : decode cX6_copyRow 16 = .ok (.iload_n 1, 1) := by decide +kernel
theorem dX6_copyRow_17 : decode cX6_copyRow 17 = .ok (.aload_n 0, 1) := by decide +kernel
theorem dX6_copyRow_18 : decode cX6_copyRow 18 = .ok (.getfield 7, 3) := by decide +kernel
theorem dX6_copyRow_21 : decode cX6_copyRow 21 = .ok (.iconst 2, 1) := by decide +kernel
theorem dX6_copyRow_22 : decode cX6_copyRow 22 = .ok (.iload_n 1, 1) := by decide +kernel
theorem dX6_copyRow_23 : decode cX6_copyRow 23 = .ok (.iadd, 1) := by decide +kernel
theorem dX6_copyRow_24 : decode cX6_copyRow 24 = .ok (.iaload, 1) := by decide +kernel
theorem dX6_copyRow_25 : decode cX6_copyRow 25 = .ok (.iastore, 1) := by decide +kernel
theorem dX6_copyRow_26 : decode cX6_copyRow 26 = .ok (.iinc 1 1, 3) := by decide +kernel
theorem dX6_copyRow_29 : decode cX6_copyRow 29 = .ok (.goto (-27), 3) := by decide +kernel
theorem dX6_copyRow_32 : decode cX6_copyRow 32 = .ok (.return_, 1) := by decide +kernel
theorem dX6_lowestRank_0 : decode cX6_lowestRank 0 = .ok (.aload_n 0, 1) := by decide +kernel
theorem dX6_lowestRank_1 : decode cX6_lowestRank 1 = .ok (.invokevirtual 56, 3) := by decide +kernel
theorem dX6_lowestRank_4 : decode cX6_lowestRank 4 = .ok (.iconst 0, 1) := by decide +kernel
theorem dX6_lowestRank_5 : decode cX6_lowestRank 5 = .ok (.istore_n 2, 1) := by decide +kernel
theorem dX6_lowestRank_6 : decode cX6_lowestRank 6 = .ok (.iconst 0, 1) := by decide +kernel
theorem dX6_lowestRank_7 : decode cX6_lowestRank 7 = .ok (.istore_n 3, 1) := by decide +kernel
theorem dX6_lowestRank_8 : decode cX6_lowestRank 8 = .ok (.iload_n 3, 1) := by decide +kernel
theorem dX6_lowestRank_9 : decode cX6_lowestRank 9 = .ok (.iload_n 1, 1) := by decide +kernel
theorem dX6_lowestRank_10 : decode cX6_lowestRank 10 = .ok (.if_icmp .ge 53, 3) := by decide +kernel
theorem dX6_lowestRank_13 : decode cX6_lowestRank 13 = .ok (.iconst 0, 1) := by decide +kernel
theorem dX6_lowestRank_14 : decode cX6_lowestRank 14 = .ok (.istore 4, 2) := by decide +kernel
theorem dX6_lowestRank_16 : decode cX6_lowestRank 16 = .ok (.iload 4, 2) := by decide +kernel
theorem dX6_lowestRank_18 : decode cX6_lowestRank 18 = .ok (.aload_n 0, 1) := by decide +kernel
theorem dX6_lowestRank_19 : decode cX6_lowestRank 19 = .ok (.getfield 22, 3) := by decide +kernel
theorem dX6_lowestRank_22 : decode cX6_lowestRank 22 = .ok (.iload_n 3, 1) := by decide +kernel
theorem dX6_lowestRank_23 : decode cX6_lowestRank 23 = .ok (.iaload, 1) := by decide +kernel
theorem dX6_lowestRank_24 : decode cX6_lowestRank 24 = .ok (.if_icmp .ge 18, 3) := by decide +kernel
theorem dX6_lowestRank_27 : decode cX6_lowestRank 27 = .ok (.iload_n 2, 1) := by decide +kernel
theorem dX6_lowestRank_28 : decode cX6_lowestRank 28 = .ok (.aload_n 0, 1) := by decide +kernel
theorem dX6_lowestRank_29 : decode cX6_lowestRank 29 = .ok (.iload 4, 2) := by decide +kernel
theorem dX6_lowestRank_31 : decode cX6_lowestRank 31 = .ok (.invokevirtual 59, 3) := by decide +kernel
theorem dX6_lowestRank_34 : decode cX6_lowestRank 34 = .ok (.iadd, 1) := by decide +kernel
theorem dX6_lowestRank_35 : decode cX6_lowestRank 35 = .ok (.istore_n 2, 1) := by decide +kernel
theorem dX6_lowestRank_36 : decode cX6_lowestRank 36 = .ok (.iinc 4 1, 3) := by decide +kernel
theorem dX6_lowestRank_39 : decode cX6_lowestRank 39 = .ok (.goto (-23), 3) := by decide +kernel
theorem dX6_lowestRank_42 : decode cX6_lowestRank 42 = .ok (.aload_n 0, 1) := by decide +kernel
theorem dX6_lowestRank_43 : decode cX6_lowestRank 43 = .ok (.getfield 19, 3) := by decide +kernel
theorem dX6_lowestRank_46 : decode cX6_lowestRank 46 = .ok (.aload_n 0, 1) := by decide +kernel
theorem dX6_lowestRank_47 : decode cX6_lowestRank 47 = .ok (.getfield 22, 3) := by decide +kernel
theorem dX6_lowestRank_50 : decode cX6_lowestRank 50 = .ok (.iload_n 3, 1) := by decide +kernel
theorem dX6_lowestRank_51 : decode cX6_lowestRank 51 = .ok (.iaload, 1) := by decide +kernel
theorem dX6_lowestRank_52 : decode cX6_lowestRank 52 = .ok (.dup2, 1) := by decide +kernel
theorem dX6_lowestRank_53 : decode cX6_lowestRank 53 = .ok (.iaload, 1) := by decide +kernel
theorem dX6_lowestRank_54 : decode cX6_lowestRank 54 = .ok (.iconst 1, 1) := by decide +kernel
theorem dX6_lowestRank_55 : decode cX6_lowestRank 55 = .ok (.isub, 1) := by decide +kernel
theorem dX6_lowestRank_56 : decode cX6_lowestRank 56 = .ok (.iastore, 1) := by decide +kernel
theorem dX6_lowestRank_57 : decode cX6_lowestRank 57 = .ok (.iinc 3 1, 3) := by decide +kernel
theorem dX6_lowestRank_60 : decode cX6_lowestRank 60 = .ok (.goto (-52), 3) := by decide +kernel
theorem dX6_lowestRank_63 : decode cX6_lowestRank 63 = .ok (.iload_n 2, 1) := by decide +kernel
theorem dX6_lowestRank_64 : decode cX6_lowestRank 64 = .ok (.ireturn, 1) := by decide +kernel
theorem dX6_rankOfOther_0 : decode cX6_rankOfOther 0 = .ok (.aload_n 0, 1) := by decide +kernel
theorem dX6_rankOfOther_1 : decode cX6_rankOfOther 1 = .ok (.aload_n 0, 1) := by decide +kernel
theorem dX6_rankOfOther_2 : decode cX6_rankOfOther 2 = .ok (.getfield 7, 3) := by decide +kernel
theorem dX6_rankOfOther_5 : decode cX6_rankOfOther 5 = .ok (.iconst 0, 1) := by decide +kernel
theorem dX6_rankOfOther_6 : decode cX6_rankOfOther 6 = .ok (.iaload, 1) := by decide +kernel
theorem dX6_rankOfOther_7 : decode cX6_rankOfOther 7 = .ok (.invokevirtual 62, 3) := by decide +kernel
theorem dX6_rankOfOther_10 : decode cX6_rankOfOther 10 = .ok (.ireturn, 1) := by decide +kernel
theorem dX6_rankNow_0 : decode cX6_rankNow 0 = .ok (.aload_n 0, 1) := by decide +kernel
theorem dX6_rankNow_1 : decode cX6_rankNow 1 = .ok (.invokevirtual 65, 3) := by decide +kernel
theorem dX6_rankNow_4 : decode cX6_rankNow 4 = .ok (.aload_n 0, 1) := by decide +kernel
theorem dX6_rankNow_5 : decode cX6_rankNow 5 = .ok (.invokevirtual 68, 3) := by decide +kernel
theorem dX6_rankNow_8 : decode cX6_rankNow 8 = .ok (.ireturn, 1) := by decide +kernel
theorem dX6_layRank_0 : decode cX6_layRank 0 = .ok (.aload_n 0, 1) := by decide +kernel
theorem dX6_layRank_1 : decode cX6_layRank 1 = .ok (.invokevirtual 56, 3) := by decide +kernel
theorem dX6_layRank_4 : decode cX6_layRank 4 = .ok (.iload_n 1, 1) := by decide +kernel
theorem dX6_layRank_5 : decode cX6_layRank 5 = .ok (.istore_n 2, 1) := by decide +kernel
theorem dX6_layRank_6 : decode cX6_layRank 6 = .ok (.iconst 0, 1) := by decide +kernel
theorem dX6_layRank_7 : decode cX6_layRank 7 = .ok (.istore_n 3, 1) := by decide +kernel
theorem dX6_layRank_8 : decode cX6_layRank 8 = .ok (.iload_n 3, 1) := by decide +kernel
theorem dX6_layRank_9 : decode cX6_layRank 9 = .ok (.aload_n 0, 1) := by decide +kernel
theorem dX6_layRank_10 : decode cX6_layRank 10 = .ok (.getfield 7, 3) := by decide +kernel
theorem dX6_layRank_13 : decode cX6_layRank 13 = .ok (.iconst 0, 1) := by decide +kernel
theorem dX6_layRank_14 : decode cX6_layRank 14 = .ok (.iaload, 1) := by decide +kernel
theorem dX6_layRank_15 : decode cX6_layRank 15 = .ok (.if_icmp .ge 56, 3) := by decide +kernel
theorem dX6_layRank_18 : decode cX6_layRank 18 = .ok (.iconst 0, 1) := by decide +kernel
theorem dX6_layRank_19 : decode cX6_layRank 19 = .ok (.istore 4, 2) := by decide +kernel
theorem dX6_layRank_21 : decode cX6_layRank 21 = .ok (.iload_n 2, 1) := by decide +kernel
theorem dX6_layRank_22 : decode cX6_layRank 22 = .ok (.aload_n 0, 1) := by decide +kernel
theorem dX6_layRank_23 : decode cX6_layRank 23 = .ok (.iload 4, 2) := by decide +kernel
theorem dX6_layRank_25 : decode cX6_layRank 25 = .ok (.invokevirtual 59, 3) := by decide +kernel
theorem dX6_layRank_28 : decode cX6_layRank 28 = .ok (.if_icmp .lt 18, 3) := by decide +kernel
theorem dX6_layRank_31 : decode cX6_layRank 31 = .ok (.iload_n 2, 1) := by decide +kernel
theorem dX6_layRank_32 : decode cX6_layRank 32 = .ok (.aload_n 0, 1) := by decide +kernel
theorem dX6_layRank_33 : decode cX6_layRank 33 = .ok (.iload 4, 2) := by decide +kernel
theorem dX6_layRank_35 : decode cX6_layRank 35 = .ok (.invokevirtual 59, 3) := by decide +kernel
theorem dX6_layRank_38 : decode cX6_layRank 38 = .ok (.isub, 1) := by decide +kernel
theorem dX6_layRank_39 : decode cX6_layRank 39 = .ok (.istore_n 2, 1) := by decide +kernel
theorem dX6_layRank_40 : decode cX6_layRank 40 = .ok (.iinc 4 1, 3) := by decide +kernel
theorem dX6_layRank_43 : decode cX6_layRank 43 = .ok (.goto (-22), 3) := by decide +kernel
theorem dX6_layRank_46 : decode cX6_layRank 46 = .ok (.aload_n 0, 1) := by decide +kernel
theorem dX6_layRank_47 : decode cX6_layRank 47 = .ok (.getfield 22, 3) := by decide +kernel
theorem dX6_layRank_50 : decode cX6_layRank 50 = .ok (.iload_n 3, 1) := by decide +kernel
theorem dX6_layRank_51 : decode cX6_layRank 51 = .ok (.iload 4, 2) := by decide +kernel
theorem dX6_layRank_53 : decode cX6_layRank 53 = .ok (.iastore, 1) := by decide +kernel
theorem dX6_layRank_54 : decode cX6_layRank 54 = .ok (.aload_n 0, 1) := by decide +kernel
theorem dX6_layRank_55 : decode cX6_layRank 55 = .ok (.getfield 19, 3) := by decide +kernel
theorem dX6_layRank_58 : decode cX6_layRank 58 = .ok (.iload 4, 2) := by decide +kernel
theorem dX6_layRank_60 : decode cX6_layRank 60 = .ok (.dup2, 1) := by decide +kernel
theorem dX6_layRank_61 : decode cX6_layRank 61 = .ok (.iaload, 1) := by decide +kernel
theorem dX6_layRank_62 : decode cX6_layRank 62 = .ok (.iconst 1, 1) := by decide +kernel
theorem dX6_layRank_63 : decode cX6_layRank 63 = .ok (.isub, 1) := by decide +kernel
theorem dX6_layRank_64 : decode cX6_layRank 64 = .ok (.iastore, 1) := by decide +kernel
theorem dX6_layRank_65 : decode cX6_layRank 65 = .ok (.iinc 3 1, 3) := by decide +kernel
theorem dX6_layRank_68 : decode cX6_layRank 68 = .ok (.goto (-60), 3) := by decide +kernel
theorem dX6_layRank_71 : decode cX6_layRank 71 = .ok (.return_, 1) := by decide +kernel
theorem dX6_takeOther_0 : decode cX6_takeOther 0 = .ok (.iconst 0, 1) := by decide +kernel
theorem dX6_takeOther_1 : decode cX6_takeOther 1 = .ok (.istore_n 1, 1) := by decide +kernel
theorem dX6_takeOther_2 : decode cX6_takeOther 2 = .ok (.iconst 0, 1) := by decide +kernel
theorem dX6_takeOther_3 : decode cX6_takeOther 3 = .ok (.istore_n 2, 1) := by decide +kernel
theorem dX6_takeOther_4 : decode cX6_takeOther 4 = .ok (.iload_n 2, 1) := by decide +kernel
theorem dX6_takeOther_5 : decode cX6_takeOther 5 = .ok (.aload_n 0, 1) := by decide +kernel
theorem dX6_takeOther_6 : decode cX6_takeOther 6 = .ok (.getfield 7, 3) := by decide +kernel
theorem dX6_takeOther_9 : decode cX6_takeOther 9 = .ok (.iconst 0, 1) := by decide +kernel
theorem dX6_takeOther_10 : decode cX6_takeOther 10 = .ok (.iaload, 1) := by decide +kernel
theorem dX6_takeOther_11 : decode cX6_takeOther 11 = .ok (.if_icmp .ge 48, 3) := by decide +kernel
theorem dX6_takeOther_14 : decode cX6_takeOther 14 = .ok (.iload_n 1, 1) := by decide +kernel
theorem dX6_takeOther_15 : decode cX6_takeOther 15 = .ok (.aload_n 0, 1) := by decide +kernel
theorem dX6_takeOther_16 : decode cX6_takeOther 16 = .ok (.getfield 7, 3) := by decide +kernel
theorem dX6_takeOther_19 : decode cX6_takeOther 19 = .ok (.iconst 2, 1) := by decide +kernel
theorem dX6_takeOther_20 : decode cX6_takeOther 20 = .ok (.iload_n 2, 1) := by decide +kernel
theorem dX6_takeOther_21 : decode cX6_takeOther 21 = .ok (.iadd, 1) := by decide +kernel
theorem dX6_takeOther_22 : decode cX6_takeOther 22 = .ok (.iaload, 1) := by decide +kernel
theorem dX6_takeOther_23 : decode cX6_takeOther 23 = .ok (.aload_n 0, 1) := by decide +kernel
theorem dX6_takeOther_24 : decode cX6_takeOther 24 = .ok (.getfield 22, 3) := by decide +kernel
theorem dX6_takeOther_27 : decode cX6_takeOther 27 = .ok (.iload_n 2, 1) := by decide +kernel
theorem dX6_takeOther_28 : decode cX6_takeOther 28 = .ok (.iaload, 1) := by decide +kernel
theorem dX6_takeOther_29 : decode cX6_takeOther 29 = .ok (.if_icmp .ne 7, 3) := by decide +kernel
theorem dX6_takeOther_32 : decode cX6_takeOther 32 = .ok (.iconst 0, 1) := by decide +kernel
theorem dX6_takeOther_33 : decode cX6_takeOther 33 = .ok (.goto 4, 3) := by decide +kernel
theorem dX6_takeOther_36 : decode cX6_takeOther 36 = .ok (.iconst 1, 1) := by decide +kernel
theorem dX6_takeOther_37 : decode cX6_takeOther 37 = .ok (.iadd, 1) := by decide +kernel
theorem dX6_takeOther_38 : decode cX6_takeOther 38 = .ok (.istore_n 1, 1) := by decide +kernel
theorem dX6_takeOther_39 : decode cX6_takeOther 39 = .ok (.aload_n 0, 1) := by decide +kernel
theorem dX6_takeOther_40 : decode cX6_takeOther 40 = .ok (.getfield 7, 3) := by decide +kernel
theorem dX6_takeOther_43 : decode cX6_takeOther 43 = .ok (.iconst 2, 1) := by decide +kernel
theorem dX6_takeOther_44 : decode cX6_takeOther 44 = .ok (.iload_n 2, 1) := by decide +kernel
theorem dX6_takeOther_45 : decode cX6_takeOther 45 = .ok (.iadd, 1) := by decide +kernel
theorem dX6_takeOther_46 : decode cX6_takeOther 46 = .ok (.aload_n 0, 1) := by decide +kernel
theorem dX6_takeOther_47 : decode cX6_takeOther 47 = .ok (.getfield 22, 3) := by decide +kernel
theorem dX6_takeOther_50 : decode cX6_takeOther 50 = .ok (.iload_n 2, 1) := by decide +kernel
theorem dX6_takeOther_51 : decode cX6_takeOther 51 = .ok (.iaload, 1) := by decide +kernel
theorem dX6_takeOther_52 : decode cX6_takeOther 52 = .ok (.iastore, 1) := by decide +kernel
theorem dX6_takeOther_53 : decode cX6_takeOther 53 = .ok (.iinc 2 1, 3) := by decide +kernel
theorem dX6_takeOther_56 : decode cX6_takeOther 56 = .ok (.goto (-52), 3) := by decide +kernel
theorem dX6_takeOther_59 : decode cX6_takeOther 59 = .ok (.iload_n 1, 1) := by decide +kernel
theorem dX6_takeOther_60 : decode cX6_takeOther 60 = .ok (.ireturn, 1) := by decide +kernel
theorem dX6_isRank_0 : decode cX6_isRank 0 = .ok (.iload_n 1, 1) := by decide +kernel
theorem dX6_isRank_1 : decode cX6_isRank 1 = .ok (.ifCond .lt 15, 3) := by decide +kernel
theorem dX6_isRank_4 : decode cX6_isRank 4 = .ok (.iload_n 1, 1) := by decide +kernel
theorem dX6_isRank_5 : decode cX6_isRank 5 = .ok (.aload_n 0, 1) := by decide +kernel
theorem dX6_isRank_6 : decode cX6_isRank 6 = .ok (.invokevirtual 71, 3) := by decide +kernel
theorem dX6_isRank_9 : decode cX6_isRank 9 = .ok (.if_icmp .ge 7, 3) := by decide +kernel
theorem dX6_isRank_12 : decode cX6_isRank 12 = .ok (.iconst 1, 1) := by decide +kernel
theorem dX6_isRank_13 : decode cX6_isRank 13 = .ok (.goto 4, 3) := by decide +kernel
theorem dX6_isRank_16 : decode cX6_isRank 16 = .ok (.iconst 0, 1) := by decide +kernel
theorem dX6_isRank_17 : decode cX6_isRank 17 = .ok (.ireturn, 1) := by decide +kernel
theorem dX6_laySmooth_0 : decode cX6_laySmooth 0 = .ok (.aload_n 0, 1) := by decide +kernel
theorem dX6_laySmooth_1 : decode cX6_laySmooth 1 = .ok (.invokevirtual 56, 3) := by decide +kernel
theorem dX6_laySmooth_4 : decode cX6_laySmooth 4 = .ok (.aload_n 0, 1) := by decide +kernel
theorem dX6_laySmooth_5 : decode cX6_laySmooth 5 = .ok (.iconst 1, 1) := by decide +kernel
theorem dX6_laySmooth_6 : decode cX6_laySmooth 6 = .ok (.putfield 74, 3) := by decide +kernel
theorem dX6_laySmooth_9 : decode cX6_laySmooth 9 = .ok (.iconst 0, 1) := by decide +kernel
theorem dX6_laySmooth_10 : decode cX6_laySmooth 10 = .ok (.istore_n 1, 1) := by decide +kernel
theorem dX6_laySmooth_11 : decode cX6_laySmooth 11 = .ok (.iload_n 1, 1) := by decide +kernel
theorem dX6_laySmooth_12 : decode cX6_laySmooth 12 = .ok (.bipush 6, 2) := by decide +kernel
theorem dX6_laySmooth_14 : decode cX6_laySmooth 14 = .ok (.if_icmp .ge 36, 3) := by decide +kernel
theorem dX6_laySmooth_17 : decode cX6_laySmooth 17 = .ok (.aload_n 0, 1) := by decide +kernel
theorem dX6_laySmooth_18 : decode cX6_laySmooth 18 = .ok (.getfield 28, 3) := by decide +kernel
theorem dX6_laySmooth_21 : decode cX6_laySmooth 21 = .ok (.iload_n 1, 1) := by decide +kernel
theorem dX6_laySmooth_22 : decode cX6_laySmooth 22 = .ok (.aload_n 0, 1) := by decide +kernel
theorem dX6_laySmooth_23 : decode cX6_laySmooth 23 = .ok (.getfield 74, 3) := by decide +kernel
theorem dX6_laySmooth_26 : decode cX6_laySmooth 26 = .ok (.iastore, 1) := by decide +kernel
theorem dX6_laySmooth_27 : decode cX6_laySmooth 27 = .ok (.aload_n 0, 1) := by decide +kernel
theorem dX6_laySmooth_28 : decode cX6_laySmooth 28 = .ok (.dup, 1) := by decide +kernel
theorem dX6_laySmooth_29 : decode cX6_laySmooth 29 = .ok (.getfield 74, 3) := by decide +kernel
theorem dX6_laySmooth_32 : decode cX6_laySmooth 32 = .ok (.aload_n 0, 1) := by decide +kernel
theorem dX6_laySmooth_33 : decode cX6_laySmooth 33 = .ok (.getfield 19, 3) := by decide +kernel
theorem dX6_laySmooth_36 : decode cX6_laySmooth 36 = .ok (.iload_n 1, 1) := by decide +kernel
theorem dX6_laySmooth_37 : decode cX6_laySmooth 37 = .ok (.iaload, 1) := by decide +kernel
theorem dX6_laySmooth_38 : decode cX6_laySmooth 38 = .ok (.iconst 1, 1) := by decide +kernel
theorem dX6_laySmooth_39 : decode cX6_laySmooth 39 = .ok (.iadd, 1) := by decide +kernel
theorem dX6_laySmooth_40 : decode cX6_laySmooth 40 = .ok (.imul, 1) := by decide +kernel
theorem dX6_laySmooth_41 : decode cX6_laySmooth 41 = .ok (.putfield 74, 3) := by decide +kernel
theorem dX6_laySmooth_44 : decode cX6_laySmooth 44 = .ok (.iinc 1 1, 3) := by decide +kernel
theorem dX6_laySmooth_47 : decode cX6_laySmooth 47 = .ok (.goto (-36), 3) := by decide +kernel
theorem dX6_laySmooth_50 : decode cX6_laySmooth 50 = .ok (.iconst 0, 1) := by decide +kernel
theorem dX6_laySmooth_51 : decode cX6_laySmooth 51 = .ok (.istore_n 1, 1) := by decide +kernel
theorem dX6_laySmooth_52 : decode cX6_laySmooth 52 = .ok (.iload_n 1, 1) := by decide +kernel
theorem dX6_laySmooth_53 : decode cX6_laySmooth 53 = .ok (.aload_n 0, 1) := by decide +kernel
theorem dX6_laySmooth_54 : decode cX6_laySmooth 54 = .ok (.getfield 74, 3) := by decide +kernel
theorem dX6_laySmooth_57 : decode cX6_laySmooth 57 = .ok (.if_icmp .ge 128, 3) := by decide +kernel
theorem dX6_laySmooth_60 : decode cX6_laySmooth 60 = .ok (.iconst 0, 1) := by decide +kernel
theorem dX6_laySmooth_61 : decode cX6_laySmooth 61 = .ok (.istore_n 2, 1) := by decide +kernel
theorem dX6_laySmooth_62 : decode cX6_laySmooth 62 = .ok (.iload_n 2, 1) := by decide +kernel
theorem dX6_laySmooth_63 : decode cX6_laySmooth 63 = .ok (.bipush 6, 2) := by decide +kernel
theorem dX6_laySmooth_65 : decode cX6_laySmooth 65 = .ok (.if_icmp .gt 114, 3) := by decide +kernel
theorem dX6_laySmooth_68 : decode cX6_laySmooth 68 = .ok (.iload_n 1, 1) := by decide +kernel
theorem dX6_laySmooth_69 : decode cX6_laySmooth 69 = .ok (.ifCond .ne 7, 3) := by decide +kernel
theorem dX6_laySmooth_72 : decode cX6_laySmooth 72 = .ok (.iconst 1, 1) := by decide +kernel
theorem dX6_laySmooth_73 : decode cX6_laySmooth 73 = .ok (.goto 4, 3) := by decide +kernel
theorem dX6_laySmooth_76 : decode cX6_laySmooth 76 = .ok (.iconst 0, 1) := by decide +kernel
theorem dX6_laySmooth_77 : decode cX6_laySmooth 77 = .ok (.istore_n 3, 1) := by decide +kernel
theorem dX6_laySmooth_78 : decode cX6_laySmooth 78 = .ok (.iconst 0, 1) := by decide +kernel
theorem dX6_laySmooth_79 : decode cX6_laySmooth 79 = .ok (.istore 4, 2) := by decide +kernel
theorem dX6_laySmooth_81 : decode cX6_laySmooth 81 = .ok (.iload 4, 2) := by decide +kernel
theorem dX6_laySmooth_83 : decode cX6_laySmooth 83 = .ok (.bipush 6, 2) := by decide +kernel
theorem dX6_laySmooth_85 : decode cX6_laySmooth 85 = .ok (.if_icmp .ge 76, 3) := by decide +kernel
theorem dX6_laySmooth_88 : decode cX6_laySmooth 88 = .ok (.iload_n 1, 1) := by decide +kernel
theorem dX6_laySmooth_89 : decode cX6_laySmooth 89 = .ok (.aload_n 0, 1) := by decide +kernel
theorem dX6_laySmooth_90 : decode cX6_laySmooth 90 = .ok (.getfield 28, 3) := by decide +kernel
theorem dX6_laySmooth_93 : decode cX6_laySmooth 93 = .ok (.iload 4, 2) := by decide +kernel
theorem dX6_laySmooth_95 : decode cX6_laySmooth 95 = .ok (.iaload, 1) := by decide +kernel
theorem dX6_laySmooth_96 : decode cX6_laySmooth 96 = .ok (.idiv, 1) := by decide +kernel
theorem dX6_laySmooth_97 : decode cX6_laySmooth 97 = .ok (.aload_n 0, 1) := by decide +kernel
theorem dX6_laySmooth_98 : decode cX6_laySmooth 98 = .ok (.getfield 19, 3) := by decide +kernel
theorem dX6_laySmooth_101 : decode cX6_laySmooth 101 = .ok (.iload 4, 2) := by decide +kernel
theorem dX6_laySmooth_103 : decode cX6_laySmooth 103 = .ok (.iaload, 1) := by decide +kernel
theorem dX6_laySmooth_104 : decode cX6_laySmooth 104 = .ok (.iconst 1, 1) := by decide +kernel
theorem dX6_laySmooth_105 : decode cX6_laySmooth 105 = .ok (.iadd, 1) := by decide +kernel
theorem dX6_laySmooth_106 : decode cX6_laySmooth 106 = .ok (.irem, 1) := by decide +kernel
theorem dX6_laySmooth_107 : decode cX6_laySmooth 107 = .ok (.ifCond .le 7, 3) := by decide +kernel
theorem dX6_laySmooth_110 : decode cX6_laySmooth 110 = .ok (.iconst 1, 1) := by decide +kernel
theorem dX6_laySmooth_111 : decode cX6_laySmooth 111 = .ok (.goto 4, 3) := by decide +kernel
theorem dX6_laySmooth_114 : decode cX6_laySmooth 114 = .ok (.iconst 0, 1) := by decide +kernel
theorem dX6_laySmooth_115 : decode cX6_laySmooth 115 = .ok (.istore 5, 2) := by decide +kernel
theorem dX6_laySmooth_117 : decode cX6_laySmooth 117 = .ok (.iload_n 3, 1) := by decide +kernel
theorem dX6_laySmooth_118 : decode cX6_laySmooth 118 = .ok (.iload 5, 2) := by decide +kernel
theorem dX6_laySmooth_120 : decode cX6_laySmooth 120 = .ok (.ifCond .eq 32, 3) := by decide +kernel
theorem dX6_laySmooth_123 : decode cX6_laySmooth 123 = .ok (.iload 4, 2) := by decide +kernel
theorem dX6_laySmooth_125 : decode cX6_laySmooth 125 = .ok (.iload_n 2, 1) := by decide +kernel
theorem dX6_laySmooth_126 : decode cX6_laySmooth 126 = .ok (.if_icmp .eq 26, 3) := by decide +kernel
theorem dX6_laySmooth_129 : decode cX6_laySmooth 129 = .ok (.aload_n 0, 1) := by decide +kernel
theorem dX6_laySmooth_130 : decode cX6_laySmooth 130 = .ok (.getfield 25, 3) := by decide +kernel
theorem dX6_laySmooth_133 : decode cX6_laySmooth 133 = .ok (.bipush 7, 2) := by decide +kernel
theorem dX6_laySmooth_135 : decode cX6_laySmooth 135 = .ok (.iload_n 1, 1) := by decide +kernel
theorem dX6_laySmooth_136 : decode cX6_laySmooth 136 = .ok (.aload_n 0, 1) := by decide +kernel
theorem dX6_laySmooth_137 : decode cX6_laySmooth 137 = .ok (.getfield 28, 3) := by decide +kernel
theorem dX6_laySmooth_140 : decode cX6_laySmooth 140 = .ok (.iload 4, 2) := by decide +kernel
theorem dX6_laySmooth_142 : decode cX6_laySmooth 142 = .ok (.iaload, 1) := by decide +kernel
theorem dX6_laySmooth_143 : decode cX6_laySmooth 143 = .ok (.isub, 1) := by decide +kernel
theorem dX6_laySmooth_144 : decode cX6_laySmooth 144 = .ok (.imul, 1) := by decide +kernel
theorem dX6_laySmooth_145 : decode cX6_laySmooth 145 = .ok (.iload 4, 2) := by decide +kernel
theorem dX6_laySmooth_147 : decode cX6_laySmooth 147 = .ok (.iadd, 1) := by decide +kernel
theorem dX6_laySmooth_148 : decode cX6_laySmooth 148 = .ok (.iaload, 1) := by decide +kernel
theorem dX6_laySmooth_149 : decode cX6_laySmooth 149 = .ok (.goto 4, 3) := by decide +kernel
theorem dX6_laySmooth_152 : decode cX6_laySmooth 152 = .ok (.iconst 0, 1) := by decide +kernel
theorem dX6_laySmooth_153 : decode cX6_laySmooth 153 = .ok (.iadd, 1) := by decide +kernel
theorem dX6_laySmooth_154 : decode cX6_laySmooth 154 = .ok (.istore_n 3, 1) := by decide +kernel
theorem dX6_laySmooth_155 : decode cX6_laySmooth 155 = .ok (.iinc 4 1, 3) := by decide +kernel
theorem dX6_laySmooth_158 : decode cX6_laySmooth 158 = .ok (.goto (-77), 3) := by decide +kernel
theorem dX6_laySmooth_161 : decode cX6_laySmooth 161 = .ok (.aload_n 0, 1) := by decide +kernel
theorem dX6_laySmooth_162 : decode cX6_laySmooth 162 = .ok (.getfield 25, 3) := by decide +kernel
theorem dX6_laySmooth_165 : decode cX6_laySmooth 165 = .ok (.bipush 7, 2) := by decide +kernel
theorem dX6_laySmooth_167 : decode cX6_laySmooth 167 = .ok (.iload_n 1, 1) := by decide +kernel
theorem dX6_laySmooth_168 : decode cX6_laySmooth 168 = .ok (.imul, 1) := by decide +kernel
theorem dX6_laySmooth_169 : decode cX6_laySmooth 169 = .ok (.iload_n 2, 1) := by decide +kernel
theorem dX6_laySmooth_170 : decode cX6_laySmooth 170 = .ok (.iadd, 1) := by decide +kernel
theorem dX6_laySmooth_171 : decode cX6_laySmooth 171 = .ok (.iload_n 3, 1) := by decide +kernel
theorem dX6_laySmooth_172 : decode cX6_laySmooth 172 = .ok (.iastore, 1) := by decide +kernel
theorem dX6_laySmooth_173 : decode cX6_laySmooth 173 = .ok (.iinc 2 1, 3) := by decide +kernel
theorem dX6_laySmooth_176 : decode cX6_laySmooth 176 = .ok (.goto (-114), 3) := by decide +kernel
theorem dX6_laySmooth_179 : decode cX6_laySmooth 179 = .ok (.iinc 1 1, 3) := by decide +kernel
theorem dX6_laySmooth_182 : decode cX6_laySmooth 182 = .ok (.goto (-130), 3) := by decide +kernel
theorem dX6_laySmooth_185 : decode cX6_laySmooth 185 = .ok (.return_, 1) := by decide +kernel
theorem dX6_allSmooth_0 : decode cX6_allSmooth 0 = .ok (.aload_n 0, 1) := by decide +kernel
theorem dX6_allSmooth_1 : decode cX6_allSmooth 1 = .ok (.invokevirtual 77, 3) := by decide +kernel
theorem dX6_allSmooth_4 : decode cX6_allSmooth 4 = .ok (.aload_n 0, 1) := by decide +kernel
theorem dX6_allSmooth_5 : decode cX6_allSmooth 5 = .ok (.getfield 25, 3) := by decide +kernel
theorem dX6_allSmooth_8 : decode cX6_allSmooth 8 = .ok (.bipush 7, 2) := by decide +kernel
theorem dX6_allSmooth_10 : decode cX6_allSmooth 10 = .ok (.aload_n 0, 1) := by decide +kernel
theorem dX6_allSmooth_11 : decode cX6_allSmooth 11 = .ok (.getfield 74, 3) := by decide +kernel
theorem dX6_allSmooth_14 : decode cX6_allSmooth 14 = .ok (.iconst 1, 1) := by decide +kernel
theorem dX6_allSmooth_15 : decode cX6_allSmooth 15 = .ok (.isub, 1) := by decide +kernel
theorem dX6_allSmooth_16 : decode cX6_allSmooth 16 = .ok (.imul, 1) := by decide +kernel
theorem dX6_allSmooth_17 : decode cX6_allSmooth 17 = .ok (.bipush 6, 2) := by decide +kernel
theorem dX6_allSmooth_19 : decode cX6_allSmooth 19 = .ok (.iadd, 1) := by decide +kernel
theorem dX6_allSmooth_20 : decode cX6_allSmooth 20 = .ok (.iaload, 1) := by decide +kernel
theorem dX6_allSmooth_21 : decode cX6_allSmooth 21 = .ok (.ireturn, 1) := by decide +kernel
theorem dX6_smoothAhead_0 : decode cX6_smoothAhead 0 = .ok (.aload_n 0, 1) := by decide +kernel
theorem dX6_smoothAhead_1 : decode cX6_smoothAhead 1 = .ok (.invokevirtual 77, 3) := by decide +kernel
theorem dX6_smoothAhead_4 : decode cX6_smoothAhead 4 = .ok (.aload_n 0, 1) := by decide +kernel
theorem dX6_smoothAhead_5 : decode cX6_smoothAhead 5 = .ok (.getfield 74, 3) := by decide +kernel
theorem dX6_smoothAhead_8 : decode cX6_smoothAhead 8 = .ok (.iconst 1, 1) := by decide +kernel
theorem dX6_smoothAhead_9 : decode cX6_smoothAhead 9 = .ok (.isub, 1) := by decide +kernel
theorem dX6_smoothAhead_10 : decode cX6_smoothAhead 10 = .ok (.istore_n 2, 1) := by decide +kernel
theorem dX6_smoothAhead_11 : decode cX6_smoothAhead 11 = .ok (.iconst 0, 1) := by decide +kernel
theorem dX6_smoothAhead_12 : decode cX6_smoothAhead 12 = .ok (.istore_n 3, 1) := by decide +kernel
theorem dX6_smoothAhead_13 : decode cX6_smoothAhead 13 = .ok (.bipush 6, 2) := by decide +kernel
theorem dX6_smoothAhead_15 : decode cX6_smoothAhead 15 = .ok (.istore 4, 2) := by decide +kernel
theorem dX6_smoothAhead_17 : decode cX6_smoothAhead 17 = .ok (.iconst 0, 1) := by decide +kernel
theorem dX6_smoothAhead_18 : decode cX6_smoothAhead 18 = .ok (.istore 5, 2) := by decide +kernel
theorem dX6_smoothAhead_20 : decode cX6_smoothAhead 20 = .ok (.iload 5, 2) := by decide +kernel
theorem dX6_smoothAhead_22 : decode cX6_smoothAhead 22 = .ok (.iload_n 1, 1) := by decide +kernel
theorem dX6_smoothAhead_23 : decode cX6_smoothAhead 23 = .ok (.if_icmp .ge 133, 3) := by decide +kernel
theorem dX6_smoothAhead_26 : decode cX6_smoothAhead 26 = .ok (.iload_n 2, 1) := by decide +kernel
theorem dX6_smoothAhead_27 : decode cX6_smoothAhead 27 = .ok (.ifCond .lt 129, 3) := by decide +kernel
theorem dX6_smoothAhead_30 : decode cX6_smoothAhead 30 = .ok (.aload_n 0, 1) := by decide +kernel
theorem dX6_smoothAhead_31 : decode cX6_smoothAhead 31 = .ok (.getfield 7, 3) := by decide +kernel
theorem dX6_smoothAhead_34 : decode cX6_smoothAhead 34 = .ok (.iconst 2, 1) := by decide +kernel
theorem dX6_smoothAhead_35 : decode cX6_smoothAhead 35 = .ok (.iload 5, 2) := by decide +kernel
theorem dX6_smoothAhead_37 : decode cX6_smoothAhead 37 = .ok (.iadd, 1) := by decide +kernel
theorem dX6_smoothAhead_38 : decode cX6_smoothAhead 38 = .ok (.iaload, 1) := by decide +kernel
theorem dX6_smoothAhead_39 : decode cX6_smoothAhead 39 = .ok (.istore 6, 2) := by decide +kernel
theorem dX6_smoothAhead_41 : decode cX6_smoothAhead 41 = .ok (.iconst 0, 1) := by decide +kernel
theorem dX6_smoothAhead_42 : decode cX6_smoothAhead 42 = .ok (.istore 7, 2) := by decide +kernel
theorem dX6_smoothAhead_44 : decode cX6_smoothAhead 44 = .ok (.iload 7, 2) := by decide +kernel
theorem dX6_smoothAhead_46 : decode cX6_smoothAhead 46 = .ok (.iload 6, 2) := by decide +kernel
theorem dX6_smoothAhead_48 : decode cX6_smoothAhead 48 = .ok (.if_icmp .ge 77, 3) := by decide +kernel
theorem dX6_smoothAhead_51 : decode cX6_smoothAhead 51 = .ok (.iload_n 2, 1) := by decide +kernel
theorem dX6_smoothAhead_52 : decode cX6_smoothAhead 52 = .ok (.aload_n 0, 1) := by decide +kernel
theorem dX6_smoothAhead_53 : decode cX6_smoothAhead 53 = .ok (.getfield 28, 3) := by decide +kernel
theorem dX6_smoothAhead_56 : decode cX6_smoothAhead 56 = .ok (.iload 7, 2) := by decide +kernel
theorem dX6_smoothAhead_58 : decode cX6_smoothAhead 58 = .ok (.iaload, 1) := by decide +kernel
theorem dX6_smoothAhead_59 : decode cX6_smoothAhead 59 = .ok (.idiv, 1) := by decide +kernel
theorem dX6_smoothAhead_60 : decode cX6_smoothAhead 60 = .ok (.aload_n 0, 1) := by decide +kernel
theorem dX6_smoothAhead_61 : decode cX6_smoothAhead 61 = .ok (.getfield 19, 3) := by decide +kernel
theorem dX6_smoothAhead_64 : decode cX6_smoothAhead 64 = .ok (.iload 7, 2) := by decide +kernel
theorem dX6_smoothAhead_66 : decode cX6_smoothAhead 66 = .ok (.iaload, 1) := by decide +kernel
theorem dX6_smoothAhead_67 : decode cX6_smoothAhead 67 = .ok (.iconst 1, 1) := by decide +kernel
theorem dX6_smoothAhead_68 : decode cX6_smoothAhead 68 = .ok (.iadd, 1) := by decide +kernel
theorem dX6_smoothAhead_69 : decode cX6_smoothAhead 69 = .ok (.irem, 1) := by decide +kernel
theorem dX6_smoothAhead_70 : decode cX6_smoothAhead 70 = .ok (.ifCond .le 7, 3) := by decide +kernel
theorem dX6_smoothAhead_73 : decode cX6_smoothAhead 73 = .ok (.iconst 1, 1) := by decide +kernel
theorem dX6_smoothAhead_74 : decode cX6_smoothAhead 74 = .ok (.goto 4, 3) := by decide +kernel
theorem dX6_smoothAhead_77 : decode cX6_smoothAhead 77 = .ok (.iconst 0, 1) := by decide +kernel
theorem dX6_smoothAhead_78 : decode cX6_smoothAhead 78 = .ok (.istore 8, 2) := by decide +kernel
theorem dX6_smoothAhead_80 : decode cX6_smoothAhead 80 = .ok (.iload_n 3, 1) := by decide +kernel
theorem dX6_smoothAhead_81 : decode cX6_smoothAhead 81 = .ok (.iload 8, 2) := by decide +kernel
theorem dX6_smoothAhead_83 : decode cX6_smoothAhead 83 = .ok (.ifCond .eq 33, 3) := by decide +kernel
theorem dX6_smoothAhead_86 : decode cX6_smoothAhead 86 = .ok (.iload 7, 2) := by decide +kernel
theorem dX6_smoothAhead_88 : decode cX6_smoothAhead 88 = .ok (.iload 4, 2) := by decide +kernel
theorem dX6_smoothAhead_90 : decode cX6_smoothAhead 90 = .ok (.if_icmp .eq 26, 3) := by decide +kernel
theorem dX6_smoothAhead_93 : decode cX6_smoothAhead 93 = .ok (.aload_n 0, 1) := by decide +kernel
theorem dX6_smoothAhead_94 : decode cX6_smoothAhead 94 = .ok (.getfield 25, 3) := by decide +kernel
theorem dX6_smoothAhead_97 : decode cX6_smoothAhead 97 = .ok (.bipush 7, 2) := by decide +kernel
theorem dX6_smoothAhead_99 : decode cX6_smoothAhead 99 = .ok (.iload_n 2, 1) := by decide +kernel
theorem dX6_smoothAhead_100 : decode cX6_smoothAhead 100 = .ok (.aload_n 0, 1) := by decide +kernel
theorem dX6_smoothAhead_101 : decode cX6_smoothAhead 101 = .ok (.getfield 28, 3) := by decide +kernel
theorem dX6_smoothAhead_104 : decode cX6_smoothAhead 104 = .ok (.iload 7, 2) := by decide +kernel
theorem dX6_smoothAhead_106 : decode cX6_smoothAhead 106 = .ok (.iaload, 1) := by decide +kernel
theorem dX6_smoothAhead_107 : decode cX6_smoothAhead 107 = .ok (.isub, 1) := by decide +kernel
theorem dX6_smoothAhead_108 : decode cX6_smoothAhead 108 = .ok (.imul, 1) := by decide +kernel
theorem dX6_smoothAhead_109 : decode cX6_smoothAhead 109 = .ok (.iload 7, 2) := by decide +kernel
theorem dX6_smoothAhead_111 : decode cX6_smoothAhead 111 = .ok (.iadd, 1) := by decide +kernel
theorem dX6_smoothAhead_112 : decode cX6_smoothAhead 112 = .ok (.iaload, 1) := by decide +kernel
theorem dX6_smoothAhead_113 : decode cX6_smoothAhead 113 = .ok (.goto 4, 3) := by decide +kernel
theorem dX6_smoothAhead_116 : decode cX6_smoothAhead 116 = .ok (.iconst 0, 1) := by decide +kernel
theorem dX6_smoothAhead_117 : decode cX6_smoothAhead 117 = .ok (.iadd, 1) := by decide +kernel
theorem dX6_smoothAhead_118 : decode cX6_smoothAhead 118 = .ok (.istore_n 3, 1) := by decide +kernel
theorem dX6_smoothAhead_119 : decode cX6_smoothAhead 119 = .ok (.iinc 7 1, 3) := by decide +kernel
theorem dX6_smoothAhead_122 : decode cX6_smoothAhead 122 = .ok (.goto (-78), 3) := by decide +kernel
theorem dX6_smoothAhead_125 : decode cX6_smoothAhead 125 = .ok (.iload 6, 2) := by decide +kernel
theorem dX6_smoothAhead_127 : decode cX6_smoothAhead 127 = .ok (.iload 4, 2) := by decide +kernel
theorem dX6_smoothAhead_129 : decode cX6_smoothAhead 129 = .ok (.if_icmp .ne 7, 3) := by decide +kernel
theorem dX6_smoothAhead_132 : decode cX6_smoothAhead 132 = .ok (.iconst (-1), 1) := by decide +kernel
theorem dX6_smoothAhead_133 : decode cX6_smoothAhead 133 = .ok (.goto 12, 3) := by decide +kernel
theorem dX6_smoothAhead_136 : decode cX6_smoothAhead 136 = .ok (.iload_n 2, 1) := by decide +kernel
theorem dX6_smoothAhead_137 : decode cX6_smoothAhead 137 = .ok (.aload_n 0, 1) := by decide +kernel
theorem dX6_smoothAhead_138 : decode cX6_smoothAhead 138 = .ok (.getfield 28, 3) := by decide +kernel
theorem dX6_smoothAhead_141 : decode cX6_smoothAhead 141 = .ok (.iload 6, 2) := by decide +kernel
theorem dX6_smoothAhead_143 : decode cX6_smoothAhead 143 = .ok (.iaload, 1) := by decide +kernel
theorem dX6_smoothAhead_144 : decode cX6_smoothAhead 144 = .ok (.isub, 1) := by decide +kernel
theorem dX6_smoothAhead_145 : decode cX6_smoothAhead 145 = .ok (.istore_n 2, 1) := by decide +kernel
theorem dX6_smoothAhead_146 : decode cX6_smoothAhead 146 = .ok (.iload 6, 2) := by decide +kernel
theorem dX6_smoothAhead_148 : decode cX6_smoothAhead 148 = .ok (.istore 4, 2) := by decide +kernel
theorem dX6_smoothAhead_150 : decode cX6_smoothAhead 150 = .ok (.iinc 5 1, 3) := by decide +kernel
theorem dX6_smoothAhead_153 : decode cX6_smoothAhead 153 = .ok (.goto (-133), 3) := by decide +kernel
theorem dX6_smoothAhead_156 : decode cX6_smoothAhead 156 = .ok (.iload_n 3, 1) := by decide +kernel
theorem dX6_smoothAhead_157 : decode cX6_smoothAhead 157 = .ok (.ireturn, 1) := by decide +kernel
theorem dX6_smoothWith_0 : decode cX6_smoothWith 0 = .ok (.aload_n 0, 1) := by decide +kernel
theorem dX6_smoothWith_1 : decode cX6_smoothWith 1 = .ok (.invokevirtual 77, 3) := by decide +kernel
theorem dX6_smoothWith_4 : decode cX6_smoothWith 4 = .ok (.aload_n 0, 1) := by decide +kernel
theorem dX6_smoothWith_5 : decode cX6_smoothWith 5 = .ok (.getfield 74, 3) := by decide +kernel
theorem dX6_smoothWith_8 : decode cX6_smoothWith 8 = .ok (.iconst 1, 1) := by decide +kernel
theorem dX6_smoothWith_9 : decode cX6_smoothWith 9 = .ok (.isub, 1) := by decide +kernel
theorem dX6_smoothWith_10 : decode cX6_smoothWith 10 = .ok (.istore_n 2, 1) := by decide +kernel
theorem dX6_smoothWith_11 : decode cX6_smoothWith 11 = .ok (.bipush 6, 2) := by decide +kernel
theorem dX6_smoothWith_13 : decode cX6_smoothWith 13 = .ok (.istore_n 3, 1) := by decide +kernel
theorem dX6_smoothWith_14 : decode cX6_smoothWith 14 = .ok (.iconst 0, 1) := by decide +kernel
theorem dX6_smoothWith_15 : decode cX6_smoothWith 15 = .ok (.istore 4, 2) := by decide +kernel
theorem dX6_smoothWith_17 : decode cX6_smoothWith 17 = .ok (.iload 4, 2) := by decide +kernel
theorem dX6_smoothWith_19 : decode cX6_smoothWith 19 = .ok (.iload_n 1, 1) := by decide +kernel
theorem dX6_smoothWith_20 : decode cX6_smoothWith 20 = .ok (.if_icmp .ge 47, 3) := by decide +kernel
theorem dX6_smoothWith_23 : decode cX6_smoothWith 23 = .ok (.iload_n 2, 1) := by decide +kernel
theorem dX6_smoothWith_24 : decode cX6_smoothWith 24 = .ok (.ifCond .lt 43, 3) := by decide +kernel
theorem dX6_smoothWith_27 : decode cX6_smoothWith 27 = .ok (.aload_n 0, 1) := by decide +kernel
theorem dX6_smoothWith_28 : decode cX6_smoothWith 28 = .ok (.getfield 7, 3) := by decide +kernel
theorem dX6_smoothWith_31 : decode cX6_smoothWith 31 = .ok (.iconst 2, 1) := by decide +kernel
theorem dX6_smoothWith_32 : decode cX6_smoothWith 32 = .ok (.iload 4, 2) := by decide +kernel
theorem dX6_smoothWith_34 : decode cX6_smoothWith 34 = .ok (.iadd, 1) := by decide +kernel
theorem dX6_smoothWith_35 : decode cX6_smoothWith 35 = .ok (.iaload, 1) := by decide +kernel
theorem dX6_smoothWith_36 : decode cX6_smoothWith 36 = .ok (.istore 5, 2) := by decide +kernel
theorem dX6_smoothWith_38 : decode cX6_smoothWith 38 = .ok (.iload 5, 2) := by decide +kernel
theorem dX6_smoothWith_40 : decode cX6_smoothWith 40 = .ok (.iload_n 3, 1) := by decide +kernel
theorem dX6_smoothWith_41 : decode cX6_smoothWith 41 = .ok (.if_icmp .ne 7, 3) := by decide +kernel
theorem dX6_smoothWith_44 : decode cX6_smoothWith 44 = .ok (.iconst (-1), 1) := by decide +kernel
theorem dX6_smoothWith_45 : decode cX6_smoothWith 45 = .ok (.goto 12, 3) := by decide +kernel
theorem dX6_smoothWith_48 : decode cX6_smoothWith 48 = .ok (.iload_n 2, 1) := by decide +kernel
theorem dX6_smoothWith_49 : decode cX6_smoothWith 49 = .ok (.aload_n 0, 1) := by decide +kernel
theorem dX6_smoothWith_50 : decode cX6_smoothWith 50 = .ok (.getfield 28, 3) := by decide +kernel
theorem dX6_smoothWith_53 : decode cX6_smoothWith 53 = .ok (.iload 5, 2) := by decide +kernel
theorem dX6_smoothWith_55 : decode cX6_smoothWith 55 = .ok (.iaload, 1) := by decide +kernel
theorem dX6_smoothWith_56 : decode cX6_smoothWith 56 = .ok (.isub, 1) := by decide +kernel
theorem dX6_smoothWith_57 : decode cX6_smoothWith 57 = .ok (.istore_n 2, 1) := by decide +kernel
theorem dX6_smoothWith_58 : decode cX6_smoothWith 58 = .ok (.iload 5, 2) := by decide +kernel
theorem dX6_smoothWith_60 : decode cX6_smoothWith 60 = .ok (.istore_n 3, 1) := by decide +kernel
theorem dX6_smoothWith_61 : decode cX6_smoothWith 61 = .ok (.iinc 4 1, 3) := by decide +kernel
theorem dX6_smoothWith_64 : decode cX6_smoothWith 64 = .ok (.goto (-47), 3) := by decide +kernel
theorem dX6_smoothWith_67 : decode cX6_smoothWith 67 = .ok (.iload_n 2, 1) := by decide +kernel
theorem dX6_smoothWith_68 : decode cX6_smoothWith 68 = .ok (.ifCond .ge 7, 3) := by decide +kernel
theorem dX6_smoothWith_71 : decode cX6_smoothWith 71 = .ok (.iconst 0, 1) := by decide +kernel
theorem dX6_smoothWith_72 : decode cX6_smoothWith 72 = .ok (.goto 14, 3) := by decide +kernel
theorem dX6_smoothWith_75 : decode cX6_smoothWith 75 = .ok (.aload_n 0, 1) := by decide +kernel
theorem dX6_smoothWith_76 : decode cX6_smoothWith 76 = .ok (.getfield 25, 3) := by decide +kernel
theorem dX6_smoothWith_79 : decode cX6_smoothWith 79 = .ok (.bipush 7, 2) := by decide +kernel
theorem dX6_smoothWith_81 : decode cX6_smoothWith 81 = .ok (.iload_n 2, 1) := by decide +kernel
theorem dX6_smoothWith_82 : decode cX6_smoothWith 82 = .ok (.imul, 1) := by decide +kernel
theorem dX6_smoothWith_83 : decode cX6_smoothWith 83 = .ok (.iload_n 3, 1) := by decide +kernel
theorem dX6_smoothWith_84 : decode cX6_smoothWith 84 = .ok (.iadd, 1) := by decide +kernel
theorem dX6_smoothWith_85 : decode cX6_smoothWith 85 = .ok (.iaload, 1) := by decide +kernel
theorem dX6_smoothWith_86 : decode cX6_smoothWith 86 = .ok (.ireturn, 1) := by decide +kernel
theorem dX6_smoothRank_0 : decode cX6_smoothRank 0 = .ok (.aload_n 0, 1) := by decide +kernel
theorem dX6_smoothRank_1 : decode cX6_smoothRank 1 = .ok (.aload_n 0, 1) := by decide +kernel
theorem dX6_smoothRank_2 : decode cX6_smoothRank 2 = .ok (.getfield 7, 3) := by decide +kernel
theorem dX6_smoothRank_5 : decode cX6_smoothRank 5 = .ok (.iconst 0, 1) := by decide +kernel
theorem dX6_smoothRank_6 : decode cX6_smoothRank 6 = .ok (.iaload, 1) := by decide +kernel
theorem dX6_smoothRank_7 : decode cX6_smoothRank 7 = .ok (.invokevirtual 80, 3) := by decide +kernel
theorem dX6_smoothRank_10 : decode cX6_smoothRank 10 = .ok (.ireturn, 1) := by decide +kernel
theorem dX6_isSmooth_0 : decode cX6_isSmooth 0 = .ok (.aload_n 0, 1) := by decide +kernel
theorem dX6_isSmooth_1 : decode cX6_isSmooth 1 = .ok (.aload_n 0, 1) := by decide +kernel
theorem dX6_isSmooth_2 : decode cX6_isSmooth 2 = .ok (.getfield 7, 3) := by decide +kernel
theorem dX6_isSmooth_5 : decode cX6_isSmooth 5 = .ok (.iconst 0, 1) := by decide +kernel
theorem dX6_isSmooth_6 : decode cX6_isSmooth 6 = .ok (.iaload, 1) := by decide +kernel
theorem dX6_isSmooth_7 : decode cX6_isSmooth 7 = .ok (.invokevirtual 83, 3) := by decide +kernel
theorem dX6_isSmooth_10 : decode cX6_isSmooth 10 = .ok (.iconst 1, 1) := by decide +kernel
theorem dX6_isSmooth_11 : decode cX6_isSmooth 11 = .ok (.if_icmp .ne 7, 3) := by decide +kernel
theorem dX6_isSmooth_14 : decode cX6_isSmooth 14 = .ok (.iconst 1, 1) := by decide +kernel
theorem dX6_isSmooth_15 : decode cX6_isSmooth 15 = .ok (.goto 4, 3) := by decide +kernel
theorem dX6_isSmooth_18 : decode cX6_isSmooth 18 = .ok (.iconst 0, 1) := by decide +kernel
theorem dX6_isSmooth_19 : decode cX6_isSmooth 19 = .ok (.ireturn, 1) := by decide +kernel
theorem dX6_laySmoothRank_0 : decode cX6_laySmoothRank 0 = .ok (.aload_n 0, 1) := by decide +kernel
theorem dX6_laySmoothRank_1 : decode cX6_laySmoothRank 1 = .ok (.invokevirtual 77, 3) := by decide +kernel
theorem dX6_laySmoothRank_4 : decode cX6_laySmoothRank 4 = .ok (.aload_n 0, 1) := by decide +kernel
theorem dX6_laySmoothRank_5 : decode cX6_laySmoothRank 5 = .ok (.getfield 74, 3) := by decide +kernel
theorem dX6_laySmoothRank_8 : decode cX6_laySmoothRank 8 = .ok (.iconst 1, 1) := by decide +kernel
theorem dX6_laySmoothRank_9 : decode cX6_laySmoothRank 9 = .ok (.isub, 1) := by decide +kernel
theorem dX6_laySmoothRank_10 : decode cX6_laySmoothRank 10 = .ok (.istore_n 2, 1) := by decide +kernel
theorem dX6_laySmoothRank_11 : decode cX6_laySmoothRank 11 = .ok (.bipush 6, 2) := by decide +kernel
theorem dX6_laySmoothRank_13 : decode cX6_laySmoothRank 13 = .ok (.istore_n 3, 1) := by decide +kernel
theorem dX6_laySmoothRank_14 : decode cX6_laySmoothRank 14 = .ok (.iload_n 1, 1) := by decide +kernel
theorem dX6_laySmoothRank_15 : decode cX6_laySmoothRank 15 = .ok (.istore 4, 2) := by decide +kernel
theorem dX6_laySmoothRank_17 : decode cX6_laySmoothRank 17 = .ok (.iconst 0, 1) := by decide +kernel
theorem dX6_laySmoothRank_18 : decode cX6_laySmoothRank 18 = .ok (.istore 5, 2) := by decide +kernel
theorem dX6_laySmoothRank_20 : decode cX6_laySmoothRank 20 = .ok (.iload 5, 2) := by decide +kernel
theorem dX6_laySmoothRank_22 : decode cX6_laySmoothRank 22 = .ok (.aload_n 0, 1) := by decide +kernel
theorem dX6_laySmoothRank_23 : decode cX6_laySmoothRank 23 = .ok (.getfield 7, 3) := by decide +kernel
theorem dX6_laySmoothRank_26 : decode cX6_laySmoothRank 26 = .ok (.iconst 0, 1) := by decide +kernel
theorem dX6_laySmoothRank_27 : decode cX6_laySmoothRank 27 = .ok (.iaload, 1) := by decide +kernel
theorem dX6_laySmoothRank_28 : decode cX6_laySmoothRank 28 = .ok (.if_icmp .ge 74, 3) := by decide +kernel
theorem dX6_laySmoothRank_31 : decode cX6_laySmoothRank 31 = .ok (.iconst 0, 1) := by decide +kernel
theorem dX6_laySmoothRank_32 : decode cX6_laySmoothRank 32 = .ok (.istore 6, 2) := by decide +kernel
theorem dX6_laySmoothRank_34 : decode cX6_laySmoothRank 34 = .ok (.aload_n 0, 1) := by decide +kernel
theorem dX6_laySmoothRank_35 : decode cX6_laySmoothRank 35 = .ok (.iload_n 2, 1) := by decide +kernel
theorem dX6_laySmoothRank_36 : decode cX6_laySmoothRank 36 = .ok (.iload 6, 2) := by decide +kernel
theorem dX6_laySmoothRank_38 : decode cX6_laySmoothRank 38 = .ok (.iload_n 3, 1) := by decide +kernel
theorem dX6_laySmoothRank_39 : decode cX6_laySmoothRank 39 = .ok (.invokevirtual 86, 3) := by decide +kernel
theorem dX6_laySmoothRank_42 : decode cX6_laySmoothRank 42 = .ok (.istore 7, 2) := by decide +kernel
theorem dX6_laySmoothRank_44 : decode cX6_laySmoothRank 44 = .ok (.iload 4, 2) := by decide +kernel
theorem dX6_laySmoothRank_46 : decode cX6_laySmoothRank 46 = .ok (.iload 7, 2) := by decide +kernel
theorem dX6_laySmoothRank_48 : decode cX6_laySmoothRank 48 = .ok (.if_icmp .lt 26, 3) := by decide +kernel
theorem dX6_laySmoothRank_51 : decode cX6_laySmoothRank 51 = .ok (.iload 4, 2) := by decide +kernel
theorem dX6_laySmoothRank_53 : decode cX6_laySmoothRank 53 = .ok (.iload 7, 2) := by decide +kernel
theorem dX6_laySmoothRank_55 : decode cX6_laySmoothRank 55 = .ok (.isub, 1) := by decide +kernel
theorem dX6_laySmoothRank_56 : decode cX6_laySmoothRank 56 = .ok (.istore 4, 2) := by decide +kernel
theorem dX6_laySmoothRank_58 : decode cX6_laySmoothRank 58 = .ok (.iinc 6 1, 3) := by decide +kernel
theorem dX6_laySmoothRank_61 : decode cX6_laySmoothRank 61 = .ok (.aload_n 0, 1) := by decide +kernel
theorem dX6_laySmoothRank_62 : decode cX6_laySmoothRank 62 = .ok (.iload_n 2, 1) := by decide +kernel
theorem dX6_laySmoothRank_63 : decode cX6_laySmoothRank 63 = .ok (.iload 6, 2) := by decide +kernel
theorem dX6_laySmoothRank_65 : decode cX6_laySmoothRank 65 = .ok (.iload_n 3, 1) := by decide +kernel
theorem dX6_laySmoothRank_66 : decode cX6_laySmoothRank 66 = .ok (.invokevirtual 86, 3) := by decide +kernel
theorem dX6_laySmoothRank_69 : decode cX6_laySmoothRank 69 = .ok (.istore 7, 2) := by decide +kernel
theorem dX6_laySmoothRank_71 : decode cX6_laySmoothRank 71 = .ok (.goto (-27), 3) := by decide +kernel
theorem dX6_laySmoothRank_74 : decode cX6_laySmoothRank 74 = .ok (.aload_n 0, 1) := by decide +kernel
theorem dX6_laySmoothRank_75 : decode cX6_laySmoothRank 75 = .ok (.getfield 22, 3) := by decide +kernel
theorem dX6_laySmoothRank_78 : decode cX6_laySmoothRank 78 = .ok (.iload 5, 2) := by decide +kernel
theorem dX6_laySmoothRank_80 : decode cX6_laySmoothRank 80 = .ok (.iload 6, 2) := by decide +kernel
theorem dX6_laySmoothRank_82 : decode cX6_laySmoothRank 82 = .ok (.iastore, 1) := by decide +kernel
theorem dX6_laySmoothRank_83 : decode cX6_laySmoothRank 83 = .ok (.iload_n 2, 1) := by decide +kernel
theorem dX6_laySmoothRank_84 : decode cX6_laySmoothRank 84 = .ok (.aload_n 0, 1) := by decide +kernel
theorem dX6_laySmoothRank_85 : decode cX6_laySmoothRank 85 = .ok (.getfield 28, 3) := by decide +kernel
theorem dX6_laySmoothRank_88 : decode cX6_laySmoothRank 88 = .ok (.iload 6, 2) := by decide +kernel
theorem dX6_laySmoothRank_90 : decode cX6_laySmoothRank 90 = .ok (.iaload, 1) := by decide +kernel
theorem dX6_laySmoothRank_91 : decode cX6_laySmoothRank 91 = .ok (.isub, 1) := by decide +kernel
theorem dX6_laySmoothRank_92 : decode cX6_laySmoothRank 92 = .ok (.istore_n 2, 1) := by decide +kernel
theorem dX6_laySmoothRank_93 : decode cX6_laySmoothRank 93 = .ok (.iload 6, 2) := by decide +kernel
theorem dX6_laySmoothRank_95 : decode cX6_laySmoothRank 95 = .ok (.istore_n 3, 1) := by decide +kernel
theorem dX6_laySmoothRank_96 : decode cX6_laySmoothRank 96 = .ok (.iinc 5 1, 3) := by decide +kernel
theorem dX6_laySmoothRank_99 : decode cX6_laySmoothRank 99 = .ok (.goto (-79), 3) := by decide +kernel
theorem dX6_laySmoothRank_102 : decode cX6_laySmoothRank 102 = .ok (.return_, 1) := by decide +kernel
theorem dX6_smoothBehind_0 : decode cX6_smoothBehind 0 = .ok (.iload_n 1, 1) := by decide +kernel
theorem dX6_smoothBehind_1 : decode cX6_smoothBehind 1 = .ok (.aload_n 0, 1) := by decide +kernel
theorem dX6_smoothBehind_2 : decode cX6_smoothBehind 2 = .ok (.getfield 28, 3) := by decide +kernel
theorem dX6_smoothBehind_5 : decode cX6_smoothBehind 5 = .ok (.iload_n 2, 1) := by decide +kernel
theorem dX6_smoothBehind_6 : decode cX6_smoothBehind 6 = .ok (.iaload, 1) := by decide +kernel
theorem dX6_smoothBehind_7 : decode cX6_smoothBehind 7 = .ok (.idiv, 1) := by decide +kernel
theorem dX6_smoothBehind_8 : decode cX6_smoothBehind 8 = .ok (.aload_n 0, 1) := by decide +kernel
theorem dX6_smoothBehind_9 : decode cX6_smoothBehind 9 = .ok (.getfield 19, 3) := by decide +kernel
theorem dX6_smoothBehind_12 : decode cX6_smoothBehind 12 = .ok (.iload_n 2, 1) := by decide +kernel
theorem dX6_smoothBehind_13 : decode cX6_smoothBehind 13 = .ok (.iaload, 1) := by decide +kernel
theorem dX6_smoothBehind_14 : decode cX6_smoothBehind 14 = .ok (.iconst 1, 1) := by decide +kernel
theorem dX6_smoothBehind_15 : decode cX6_smoothBehind 15 = .ok (.iadd, 1) := by decide +kernel
theorem dX6_smoothBehind_16 : decode cX6_smoothBehind 16 = .ok (.irem, 1) := by decide +kernel
theorem dX6_smoothBehind_17 : decode cX6_smoothBehind 17 = .ok (.ifCond .le 7, 3) := by decide +kernel
theorem dX6_smoothBehind_20 : decode cX6_smoothBehind 20 = .ok (.iconst 1, 1) := by decide +kernel
theorem dX6_smoothBehind_21 : decode cX6_smoothBehind 21 = .ok (.goto 4, 3) := by decide +kernel
theorem dX6_smoothBehind_24 : decode cX6_smoothBehind 24 = .ok (.iconst 0, 1) := by decide +kernel
theorem dX6_smoothBehind_25 : decode cX6_smoothBehind 25 = .ok (.istore 4, 2) := by decide +kernel
theorem dX6_smoothBehind_27 : decode cX6_smoothBehind 27 = .ok (.iload 4, 2) := by decide +kernel
theorem dX6_smoothBehind_29 : decode cX6_smoothBehind 29 = .ok (.ifCond .eq 29, 3) := by decide +kernel
theorem dX6_smoothBehind_32 : decode cX6_smoothBehind 32 = .ok (.iload_n 2, 1) := by decide +kernel
theorem dX6_smoothBehind_33 : decode cX6_smoothBehind 33 = .ok (.iload_n 3, 1) := by decide +kernel
theorem dX6_smoothBehind_34 : decode cX6_smoothBehind 34 = .ok (.if_icmp .eq 24, 3) := by decide +kernel
theorem dX6_smoothBehind_37 : decode cX6_smoothBehind 37 = .ok (.aload_n 0, 1) := by decide +kernel
theorem dX6_smoothBehind_38 : decode cX6_smoothBehind 38 = .ok (.getfield 25, 3) := by decide +kernel
theorem dX6_smoothBehind_41 : decode cX6_smoothBehind 41 = .ok (.bipush 7, 2) := by decide +kernel
theorem dX6_smoothBehind_43 : decode cX6_smoothBehind 43 = .ok (.iload_n 1, 1) := by decide +kernel
theorem dX6_smoothBehind_44 : decode cX6_smoothBehind 44 = .ok (.aload_n 0, 1) := by decide +kernel
theorem dX6_smoothBehind_45 : decode cX6_smoothBehind 45 = .ok (.getfield 28, 3) := by decide +kernel
theorem dX6_smoothBehind_48 : decode cX6_smoothBehind 48 = .ok (.iload_n 2, 1) := by decide +kernel
theorem dX6_smoothBehind_49 : decode cX6_smoothBehind 49 = .ok (.iaload, 1) := by decide +kernel
theorem dX6_smoothBehind_50 : decode cX6_smoothBehind 50 = .ok (.isub, 1) := by decide +kernel
theorem dX6_smoothBehind_51 : decode cX6_smoothBehind 51 = .ok (.imul, 1) := by decide +kernel
theorem dX6_smoothBehind_52 : decode cX6_smoothBehind 52 = .ok (.iload_n 2, 1) := by decide +kernel
theorem dX6_smoothBehind_53 : decode cX6_smoothBehind 53 = .ok (.iadd, 1) := by decide +kernel
theorem dX6_smoothBehind_54 : decode cX6_smoothBehind 54 = .ok (.iaload, 1) := by decide +kernel
theorem dX6_smoothBehind_55 : decode cX6_smoothBehind 55 = .ok (.goto 4, 3) := by decide +kernel
theorem dX6_smoothBehind_58 : decode cX6_smoothBehind 58 = .ok (.iconst 0, 1) := by decide +kernel
theorem dX6_smoothBehind_59 : decode cX6_smoothBehind 59 = .ok (.ireturn, 1) := by decide +kernel
theorem dX6_goes_0 : decode cX6_goes 0 = .ok (.aload_n 0, 1) := by decide +kernel
theorem dX6_goes_1 : decode cX6_goes 1 = .ok (.getfield 7, 3) := by decide +kernel
theorem dX6_goes_4 : decode cX6_goes 4 = .ok (.iconst 1, 1) := by decide +kernel
theorem dX6_goes_5 : decode cX6_goes 5 = .ok (.dup2, 1) := by decide +kernel
theorem dX6_goes_6 : decode cX6_goes 6 = .ok (.iaload, 1) := by decide +kernel
theorem dX6_goes_7 : decode cX6_goes 7 = .ok (.iconst 1, 1) := by decide +kernel
theorem dX6_goes_8 : decode cX6_goes 8 = .ok (.iadd, 1) := by decide +kernel
theorem dX6_goes_9 : decode cX6_goes 9 = .ok (.iastore, 1) := by decide +kernel
theorem dX6_goes_10 : decode cX6_goes 10 = .ok (.aload_n 0, 1) := by decide +kernel
theorem dX6_goes_11 : decode cX6_goes 11 = .ok (.invokevirtual 90, 3) := by decide +kernel
theorem dX6_goes_14 : decode cX6_goes 14 = .ok (.ireturn, 1) := by decide +kernel
theorem dX6_goTo_0 : decode cX6_goTo 0 = .ok (.aload_n 0, 1) := by decide +kernel
theorem dX6_goTo_1 : decode cX6_goTo 1 = .ok (.aload_n 0, 1) := by decide +kernel
theorem dX6_goTo_2 : decode cX6_goTo 2 = .ok (.iload_n 1, 1) := by decide +kernel
theorem dX6_goTo_3 : decode cX6_goTo 3 = .ok (.invokevirtual 93, 3) := by decide +kernel
theorem dX6_goTo_6 : decode cX6_goTo 6 = .ok (.ifCond .eq 7, 3) := by decide +kernel
theorem dX6_goTo_9 : decode cX6_goTo 9 = .ok (.iconst 0, 1) := by decide +kernel
theorem dX6_goTo_10 : decode cX6_goTo 10 = .ok (.goto 4, 3) := by decide +kernel
theorem dX6_goTo_13 : decode cX6_goTo 13 = .ok (.iconst 1, 1) := by decide +kernel
theorem dX6_goTo_14 : decode cX6_goTo 14 = .ok (.putfield 37, 3) := by decide +kernel
theorem dX6_goTo_17 : decode cX6_goTo 17 = .ok (.aload_n 0, 1) := by decide +kernel
theorem dX6_goTo_18 : decode cX6_goTo 18 = .ok (.getfield 37, 3) := by decide +kernel
theorem dX6_goTo_21 : decode cX6_goTo 21 = .ok (.ifCond .le 5, 3) := by decide +kernel
theorem dX6_goTo_24 : decode cX6_goTo 24 = .ok (.iconst 0, 1) := by decide +kernel
theorem dX6_goTo_25 : decode cX6_goTo 25 = .ok (.ireturn, 1) := by decide +kernel
theorem dX6_goTo_26 : decode cX6_goTo 26 = .ok (.aload_n 0, 1) := by decide +kernel
theorem dX6_goTo_27 : decode cX6_goTo 27 = .ok (.invokevirtual 97, 3) := by decide +kernel
theorem dX6_goTo_30 : decode cX6_goTo 30 = .ok (.istore_n 2, 1) := by decide +kernel
theorem dX6_goTo_31 : decode cX6_goTo 31 = .ok (.aload_n 0, 1) := by decide +kernel
theorem dX6_goTo_32 : decode cX6_goTo 32 = .ok (.invokevirtual 100, 3) := by decide +kernel
theorem dX6_goTo_35 : decode cX6_goTo 35 = .ok (.aload_n 0, 1) := by decide +kernel
theorem dX6_goTo_36 : decode cX6_goTo 36 = .ok (.iload_n 1, 1) := by decide +kernel
theorem dX6_goTo_37 : decode cX6_goTo 37 = .ok (.invokevirtual 103, 3) := by decide +kernel
theorem dX6_goTo_40 : decode cX6_goTo 40 = .ok (.aload_n 0, 1) := by decide +kernel
theorem dX6_goTo_41 : decode cX6_goTo 41 = .ok (.invokevirtual 107, 3) := by decide +kernel
theorem dX6_goTo_44 : decode cX6_goTo 44 = .ok (.istore_n 3, 1) := by decide +kernel
theorem dX6_goTo_45 : decode cX6_goTo 45 = .ok (.iload_n 2, 1) := by decide +kernel
theorem dX6_goTo_46 : decode cX6_goTo 46 = .ok (.ireturn, 1) := by decide +kernel
theorem dX6_jump_0 : decode cX6_jump 0 = .ok (.aload_n 0, 1) := by decide +kernel
theorem dX6_jump_1 : decode cX6_jump 1 = .ok (.invokevirtual 97, 3) := by decide +kernel
theorem dX6_jump_4 : decode cX6_jump 4 = .ok (.i2l, 1) := by decide +kernel
theorem dX6_jump_5 : decode cX6_jump 5 = .ok (.iload_n 1, 1) := by decide +kernel
theorem dX6_jump_6 : decode cX6_jump 6 = .ok (.i2l, 1) := by decide +kernel
theorem dX6_jump_7 : decode cX6_jump 7 = .ok (.ladd, 1) := by decide +kernel
theorem dX6_jump_8 : decode cX6_jump 8 = .ok (.lstore_n 2, 1) := by decide +kernel
theorem dX6_jump_9 : decode cX6_jump 9 = .ok (.aload_n 0, 1) := by decide +kernel
theorem dX6_jump_10 : decode cX6_jump 10 = .ok (.lload_n 2, 1) := by decide +kernel
theorem dX6_jump_11 : decode cX6_jump 11 = .ok (.lconst 0, 1) := by decide +kernel
theorem dX6_jump_12 : decode cX6_jump 12 = .ok (.lcmp, 1) := by decide +kernel
theorem dX6_jump_13 : decode cX6_jump 13 = .ok (.ifCond .lt 17, 3) := by decide +kernel
theorem dX6_jump_16 : decode cX6_jump 16 = .ok (.lload_n 2, 1) := by decide +kernel
theorem dX6_jump_17 : decode cX6_jump 17 = .ok (.aload_n 0, 1) := by decide +kernel
theorem dX6_jump_18 : decode cX6_jump 18 = .ok (.invokevirtual 71, 3) := by decide +kernel
theorem dX6_jump_21 : decode cX6_jump 21 = .ok (.i2l, 1) := by decide +kernel
theorem dX6_jump_22 : decode cX6_jump 22 = .ok (.lcmp, 1) := by decide +kernel
theorem dX6_jump_23 : decode cX6_jump 23 = .ok (.ifCond .ge 7, 3) := by decide +kernel
theorem dX6_jump_26 : decode cX6_jump 26 = .ok (.iconst 0, 1) := by decide +kernel
theorem dX6_jump_27 : decode cX6_jump 27 = .ok (.goto 4, 3) := by decide +kernel
theorem dX6_jump_30 : decode cX6_jump 30 = .ok (.iconst 1, 1) := by decide +kernel
theorem dX6_jump_31 : decode cX6_jump 31 = .ok (.putfield 37, 3) := by decide +kernel
theorem dX6_jump_34 : decode cX6_jump 34 = .ok (.aload_n 0, 1) := by decide +kernel
theorem dX6_jump_35 : decode cX6_jump 35 = .ok (.getfield 37, 3) := by decide +kernel
theorem dX6_jump_38 : decode cX6_jump 38 = .ok (.ifCond .le 5, 3) := by decide +kernel
theorem dX6_jump_41 : decode cX6_jump 41 = .ok (.iconst 0, 1) := by decide +kernel
theorem dX6_jump_42 : decode cX6_jump 42 = .ok (.ireturn, 1) := by decide +kernel
theorem dX6_jump_43 : decode cX6_jump 43 = .ok (.aload_n 0, 1) := by decide +kernel
theorem dX6_jump_44 : decode cX6_jump 44 = .ok (.invokevirtual 100, 3) := by decide +kernel
theorem dX6_jump_47 : decode cX6_jump 47 = .ok (.aload_n 0, 1) := by decide +kernel
theorem dX6_jump_48 : decode cX6_jump 48 = .ok (.lload_n 2, 1) := by decide +kernel
theorem dX6_jump_49 : decode cX6_jump 49 = .ok (.l2i, 1) := by decide +kernel
theorem dX6_jump_50 : decode cX6_jump 50 = .ok (.invokevirtual 103, 3) := by decide +kernel
theorem dX6_jump_53 : decode cX6_jump 53 = .ok (.aload_n 0, 1) := by decide +kernel
theorem dX6_jump_54 : decode cX6_jump 54 = .ok (.invokevirtual 107, 3) := by decide +kernel
theorem dX6_jump_57 : decode cX6_jump 57 = .ok (.istore 4, 2) := by decide +kernel
theorem dX6_jump_59 : decode cX6_jump 59 = .ok (.lload_n 2, 1) := by decide +kernel
theorem dX6_jump_60 : decode cX6_jump 60 = .ok (.l2i, 1) := by decide +kernel
theorem dX6_jump_61 : decode cX6_jump 61 = .ok (.ireturn, 1) := by decide +kernel
theorem dX6_goesBy_0 : decode cX6_goesBy 0 = .ok (.aload_n 0, 1) := by decide +kernel
theorem dX6_goesBy_1 : decode cX6_goesBy 1 = .ok (.iconst 0, 1) := by decide +kernel
theorem dX6_goesBy_2 : decode cX6_goesBy 2 = .ok (.putfield 37, 3) := by decide +kernel
theorem dX6_goesBy_5 : decode cX6_goesBy 5 = .ok (.aload_n 0, 1) := by decide +kernel
theorem dX6_goesBy_6 : decode cX6_goesBy 6 = .ok (.invokevirtual 100, 3) := by decide +kernel
theorem dX6_goesBy_9 : decode cX6_goesBy 9 = .ok (.aload_n 0, 1) := by decide +kernel
theorem dX6_goesBy_10 : decode cX6_goesBy 10 = .ok (.invokevirtual 71, 3) := by decide +kernel
theorem dX6_goesBy_13 : decode cX6_goesBy 13 = .ok (.istore_n 2, 1) := by decide +kernel
theorem dX6_goesBy_14 : decode cX6_goesBy 14 = .ok (.aload_n 0, 1) := by decide +kernel
theorem dX6_goesBy_15 : decode cX6_goesBy 15 = .ok (.invokevirtual 97, 3) := by decide +kernel
theorem dX6_goesBy_18 : decode cX6_goesBy 18 = .ok (.iload_n 1, 1) := by decide +kernel
theorem dX6_goesBy_19 : decode cX6_goesBy 19 = .ok (.iadd, 1) := by decide +kernel
theorem dX6_goesBy_20 : decode cX6_goesBy 20 = .ok (.iload_n 2, 1) := by decide +kernel
theorem dX6_goesBy_21 : decode cX6_goesBy 21 = .ok (.iadd, 1) := by decide +kernel
theorem dX6_goesBy_22 : decode cX6_goesBy 22 = .ok (.iload_n 2, 1) := by decide +kernel
theorem dX6_goesBy_23 : decode cX6_goesBy 23 = .ok (.irem, 1) := by decide +kernel
theorem dX6_goesBy_24 : decode cX6_goesBy 24 = .ok (.istore_n 3, 1) := by decide +kernel
theorem dX6_goesBy_25 : decode cX6_goesBy 25 = .ok (.aload_n 0, 1) := by decide +kernel
theorem dX6_goesBy_26 : decode cX6_goesBy 26 = .ok (.iload_n 3, 1) := by decide +kernel
theorem dX6_goesBy_27 : decode cX6_goesBy 27 = .ok (.invokevirtual 103, 3) := by decide +kernel
theorem dX6_goesBy_30 : decode cX6_goesBy 30 = .ok (.aload_n 0, 1) := by decide +kernel
theorem dX6_goesBy_31 : decode cX6_goesBy 31 = .ok (.invokevirtual 107, 3) := by decide +kernel
theorem dX6_goesBy_34 : decode cX6_goesBy 34 = .ok (.ireturn, 1) := by decide +kernel
theorem dX6_next_0 : decode cX6_next 0 = .ok (.aload_n 0, 1) := by decide +kernel
theorem dX6_next_1 : decode cX6_next 1 = .ok (.iconst 1, 1) := by decide +kernel
theorem dX6_next_2 : decode cX6_next 2 = .ok (.invokevirtual 110, 3) := by decide +kernel
theorem dX6_next_5 : decode cX6_next 5 = .ok (.ireturn, 1) := by decide +kernel
theorem dX6_previous_0 : decode cX6_previous 0 = .ok (.aload_n 0, 1) := by decide +kernel
theorem dX6_previous_1 : decode cX6_previous 1 = .ok (.iconst (-1), 1) := by decide +kernel
theorem dX6_previous_2 : decode cX6_previous 2 = .ok (.invokevirtual 110, 3) := by decide +kernel
theorem dX6_previous_5 : decode cX6_previous 5 = .ok (.ireturn, 1) := by decide +kernel
theorem dX6_nextSmooth_0 : decode cX6_nextSmooth 0 = .ok (.aload_n 0, 1) := by decide +kernel
theorem dX6_nextSmooth_1 : decode cX6_nextSmooth 1 = .ok (.invokevirtual 113, 3) := by decide +kernel
theorem dX6_nextSmooth_4 : decode cX6_nextSmooth 4 = .ok (.aload_n 0, 1) := by decide +kernel
theorem dX6_nextSmooth_5 : decode cX6_nextSmooth 5 = .ok (.invokevirtual 116, 3) := by decide +kernel
theorem dX6_nextSmooth_8 : decode cX6_nextSmooth 8 = .ok (.ifCond .eq 7, 3) := by decide +kernel
theorem dX6_nextSmooth_11 : decode cX6_nextSmooth 11 = .ok (.iconst 1, 1) := by decide +kernel
theorem dX6_nextSmooth_12 : decode cX6_nextSmooth 12 = .ok (.goto 4, 3) := by decide +kernel
theorem dX6_nextSmooth_15 : decode cX6_nextSmooth 15 = .ok (.iconst 0, 1) := by decide +kernel
theorem dX6_nextSmooth_16 : decode cX6_nextSmooth 16 = .ok (.iadd, 1) := by decide +kernel
theorem dX6_nextSmooth_17 : decode cX6_nextSmooth 17 = .ok (.istore_n 1, 1) := by decide +kernel
theorem dX6_nextSmooth_18 : decode cX6_nextSmooth 18 = .ok (.aload_n 0, 1) := by decide +kernel
theorem dX6_nextSmooth_19 : decode cX6_nextSmooth 19 = .ok (.iload_n 1, 1) := by decide +kernel
theorem dX6_nextSmooth_20 : decode cX6_nextSmooth 20 = .ok (.aload_n 0, 1) := by decide +kernel
theorem dX6_nextSmooth_21 : decode cX6_nextSmooth 21 = .ok (.invokevirtual 120, 3) := by decide +kernel
theorem dX6_nextSmooth_24 : decode cX6_nextSmooth 24 = .ok (.if_icmp .ge 7, 3) := by decide +kernel
theorem dX6_nextSmooth_27 : decode cX6_nextSmooth 27 = .ok (.iconst 0, 1) := by decide +kernel
theorem dX6_nextSmooth_28 : decode cX6_nextSmooth 28 = .ok (.goto 4, 3) := by decide +kernel
theorem dX6_nextSmooth_31 : decode cX6_nextSmooth 31 = .ok (.iconst 1, 1) := by decide +kernel
theorem dX6_nextSmooth_32 : decode cX6_nextSmooth 32 = .ok (.putfield 37, 3) := by decide +kernel
theorem dX6_nextSmooth_35 : decode cX6_nextSmooth 35 = .ok (.aload_n 0, 1) := by decide +kernel
theorem dX6_nextSmooth_36 : decode cX6_nextSmooth 36 = .ok (.getfield 37, 3) := by decide +kernel
theorem dX6_nextSmooth_39 : decode cX6_nextSmooth 39 = .ok (.ifCond .le 5, 3) := by decide +kernel
theorem dX6_nextSmooth_42 : decode cX6_nextSmooth 42 = .ok (.iconst 0, 1) := by decide +kernel
theorem dX6_nextSmooth_43 : decode cX6_nextSmooth 43 = .ok (.ireturn, 1) := by decide +kernel
theorem dX6_nextSmooth_44 : decode cX6_nextSmooth 44 = .ok (.aload_n 0, 1) := by decide +kernel
theorem dX6_nextSmooth_45 : decode cX6_nextSmooth 45 = .ok (.invokevirtual 100, 3) := by decide +kernel
theorem dX6_nextSmooth_48 : decode cX6_nextSmooth 48 = .ok (.aload_n 0, 1) := by decide +kernel
theorem dX6_nextSmooth_49 : decode cX6_nextSmooth 49 = .ok (.iload_n 1, 1) := by decide +kernel
theorem dX6_nextSmooth_50 : decode cX6_nextSmooth 50 = .ok (.invokevirtual 123, 3) := by decide +kernel
theorem dX6_nextSmooth_53 : decode cX6_nextSmooth 53 = .ok (.aload_n 0, 1) := by decide +kernel
theorem dX6_nextSmooth_54 : decode cX6_nextSmooth 54 = .ok (.invokevirtual 107, 3) := by decide +kernel
theorem dX6_nextSmooth_57 : decode cX6_nextSmooth 57 = .ok (.istore_n 2, 1) := by decide +kernel
theorem dX6_nextSmooth_58 : decode cX6_nextSmooth 58 = .ok (.aload_n 0, 1) := by decide +kernel
theorem dX6_nextSmooth_59 : decode cX6_nextSmooth 59 = .ok (.invokevirtual 97, 3) := by decide +kernel
theorem dX6_nextSmooth_62 : decode cX6_nextSmooth 62 = .ok (.ireturn, 1) := by decide +kernel
theorem dX6_goToSmooth_0 : decode cX6_goToSmooth 0 = .ok (.aload_n 0, 1) := by decide +kernel
theorem dX6_goToSmooth_1 : decode cX6_goToSmooth 1 = .ok (.iload_n 1, 1) := by decide +kernel
theorem dX6_goToSmooth_2 : decode cX6_goToSmooth 2 = .ok (.ifCond .lt 15, 3) := by decide +kernel
theorem dX6_goToSmooth_5 : decode cX6_goToSmooth 5 = .ok (.iload_n 1, 1) := by decide +kernel
theorem dX6_goToSmooth_6 : decode cX6_goToSmooth 6 = .ok (.aload_n 0, 1) := by decide +kernel
theorem dX6_goToSmooth_7 : decode cX6_goToSmooth 7 = .ok (.invokevirtual 120, 3) := by decide +kernel
theorem dX6_goToSmooth_10 : decode cX6_goToSmooth 10 = .ok (.if_icmp .ge 7, 3) := by decide +kernel
theorem dX6_goToSmooth_13 : decode cX6_goToSmooth 13 = .ok (.iconst 0, 1) := by decide +kernel
theorem dX6_goToSmooth_14 : decode cX6_goToSmooth 14 = .ok (.goto 4, 3) := by decide +kernel
theorem dX6_goToSmooth_17 : decode cX6_goToSmooth 17 = .ok (.iconst 1, 1) := by decide +kernel
theorem dX6_goToSmooth_18 : decode cX6_goToSmooth 18 = .ok (.putfield 37, 3) := by decide +kernel
theorem dX6_goToSmooth_21 : decode cX6_goToSmooth 21 = .ok (.aload_n 0, 1) := by decide +kernel
theorem dX6_goToSmooth_22 : decode cX6_goToSmooth 22 = .ok (.getfield 37, 3) := by decide +kernel
theorem dX6_goToSmooth_25 : decode cX6_goToSmooth 25 = .ok (.ifCond .le 5, 3) := by decide +kernel
theorem dX6_goToSmooth_28 : decode cX6_goToSmooth 28 = .ok (.iconst 0, 1) := by decide +kernel
theorem dX6_goToSmooth_29 : decode cX6_goToSmooth 29 = .ok (.ireturn, 1) := by decide +kernel
theorem dX6_goToSmooth_30 : decode cX6_goToSmooth 30 = .ok (.aload_n 0, 1) := by decide +kernel
theorem dX6_goToSmooth_31 : decode cX6_goToSmooth 31 = .ok (.invokevirtual 100, 3) := by decide +kernel
theorem dX6_goToSmooth_34 : decode cX6_goToSmooth 34 = .ok (.aload_n 0, 1) := by decide +kernel
theorem dX6_goToSmooth_35 : decode cX6_goToSmooth 35 = .ok (.iload_n 1, 1) := by decide +kernel
theorem dX6_goToSmooth_36 : decode cX6_goToSmooth 36 = .ok (.invokevirtual 123, 3) := by decide +kernel
theorem dX6_goToSmooth_39 : decode cX6_goToSmooth 39 = .ok (.aload_n 0, 1) := by decide +kernel
theorem dX6_goToSmooth_40 : decode cX6_goToSmooth 40 = .ok (.invokevirtual 107, 3) := by decide +kernel
theorem dX6_goToSmooth_43 : decode cX6_goToSmooth 43 = .ok (.istore_n 2, 1) := by decide +kernel
theorem dX6_goToSmooth_44 : decode cX6_goToSmooth 44 = .ok (.aload_n 0, 1) := by decide +kernel
theorem dX6_goToSmooth_45 : decode cX6_goToSmooth 45 = .ok (.invokevirtual 97, 3) := by decide +kernel
theorem dX6_goToSmooth_48 : decode cX6_goToSmooth 48 = .ok (.ireturn, 1) := by decide +kernel
theorem dX6_exchange_0 : decode cX6_exchange 0 = .ok (.aload_n 0, 1) := by decide +kernel
theorem dX6_exchange_1 : decode cX6_exchange 1 = .ok (.getfield 7, 3) := by decide +kernel
theorem dX6_exchange_4 : decode cX6_exchange 4 = .ok (.iconst 2, 1) := by decide +kernel
theorem dX6_exchange_5 : decode cX6_exchange 5 = .ok (.iload_n 1, 1) := by decide +kernel
theorem dX6_exchange_6 : decode cX6_exchange 6 = .ok (.iadd, 1) := by decide +kernel
theorem dX6_exchange_7 : decode cX6_exchange 7 = .ok (.iaload, 1) := by decide +kernel
theorem dX6_exchange_8 : decode cX6_exchange 8 = .ok (.istore_n 3, 1) := by decide +kernel
theorem dX6_exchange_9 : decode cX6_exchange 9 = .ok (.aload_n 0, 1) := by decide +kernel
theorem dX6_exchange_10 : decode cX6_exchange 10 = .ok (.getfield 7, 3) := by decide +kernel
theorem dX6_exchange_13 : decode cX6_exchange 13 = .ok (.iconst 2, 1) := by decide +kernel
theorem dX6_exchange_14 : decode cX6_exchange 14 = .ok (.iload_n 1, 1) := by decide +kernel
theorem dX6_exchange_15 : decode cX6_exchange 15 = .ok (.iadd, 1) := by decide +kernel
theorem dX6_exchange_16 : decode cX6_exchange 16 = .ok (.aload_n 0, 1) := by decide +kernel
theorem dX6_exchange_17 : decode cX6_exchange 17 = .ok (.getfield 7, 3) := by decide +kernel
theorem dX6_exchange_20 : decode cX6_exchange 20 = .ok (.iconst 2, 1) := by decide +kernel
theorem dX6_exchange_21 : decode cX6_exchange 21 = .ok (.iload_n 2, 1) := by decide +kernel
theorem dX6_exchange_22 : decode cX6_exchange 22 = .ok (.iadd, 1) := by decide +kernel
theorem dX6_exchange_23 : decode cX6_exchange 23 = .ok (.iaload, 1) := by decide +kernel
theorem dX6_exchange_24 : decode cX6_exchange 24 = .ok (.iastore, 1) := by decide +kernel
theorem dX6_exchange_25 : decode cX6_exchange 25 = .ok (.aload_n 0, 1) := by decide +kernel
theorem dX6_exchange_26 : decode cX6_exchange 26 = .ok (.getfield 7, 3) := by decide +kernel
theorem dX6_exchange_29 : decode cX6_exchange 29 = .ok (.iconst 2, 1) := by decide +kernel
theorem dX6_exchange_30 : decode cX6_exchange 30 = .ok (.iload_n 2, 1) := by decide +kernel
theorem dX6_exchange_31 : decode cX6_exchange 31 = .ok (.iadd, 1) := by decide +kernel
theorem dX6_exchange_32 : decode cX6_exchange 32 = .ok (.iload_n 3, 1) := by decide +kernel
theorem dX6_exchange_33 : decode cX6_exchange 33 = .ok (.iastore, 1) := by decide +kernel
theorem dX6_exchange_34 : decode cX6_exchange 34 = .ok (.return_, 1) := by decide +kernel
theorem dX6_swap_0 : decode cX6_swap 0 = .ok (.aload_n 0, 1) := by decide +kernel
theorem dX6_swap_1 : decode cX6_swap 1 = .ok (.aload_n 0, 1) := by decide +kernel
theorem dX6_swap_2 : decode cX6_swap 2 = .ok (.iload_n 1, 1) := by decide +kernel
theorem dX6_swap_3 : decode cX6_swap 3 = .ok (.invokevirtual 126, 3) := by decide +kernel
theorem dX6_swap_6 : decode cX6_swap 6 = .ok (.ifCond .eq 15, 3) := by decide +kernel
theorem dX6_swap_9 : decode cX6_swap 9 = .ok (.aload_n 0, 1) := by decide +kernel
theorem dX6_swap_10 : decode cX6_swap 10 = .ok (.iload_n 2, 1) := by decide +kernel
theorem dX6_swap_11 : decode cX6_swap 11 = .ok (.invokevirtual 126, 3) := by decide +kernel
theorem dX6_swap_14 : decode cX6_swap 14 = .ok (.ifCond .eq 7, 3) := by decide +kernel
theorem dX6_swap_17 : decode cX6_swap 17 = .ok (.iconst 0, 1) := by decide +kernel
theorem dX6_swap_18 : decode cX6_swap 18 = .ok (.goto 4, 3) := by decide +kernel
theorem dX6_swap_21 : decode cX6_swap 21 = .ok (.iconst 1, 1) := by decide +kernel
theorem dX6_swap_22 : decode cX6_swap 22 = .ok (.putfield 37, 3) := by decide +kernel
theorem dX6_swap_25 : decode cX6_swap 25 = .ok (.aload_n 0, 1) := by decide +kernel
theorem dX6_swap_26 : decode cX6_swap 26 = .ok (.getfield 37, 3) := by decide +kernel
theorem dX6_swap_29 : decode cX6_swap 29 = .ok (.ifCond .le 5, 3) := by decide +kernel
theorem dX6_swap_32 : decode cX6_swap 32 = .ok (.iconst 0, 1) := by decide +kernel
theorem dX6_swap_33 : decode cX6_swap 33 = .ok (.ireturn, 1) := by decide +kernel
theorem dX6_swap_34 : decode cX6_swap 34 = .ok (.aload_n 0, 1) := by decide +kernel
theorem dX6_swap_35 : decode cX6_swap 35 = .ok (.invokevirtual 100, 3) := by decide +kernel
theorem dX6_swap_38 : decode cX6_swap 38 = .ok (.aload_n 0, 1) := by decide +kernel
theorem dX6_swap_39 : decode cX6_swap 39 = .ok (.iload_n 1, 1) := by decide +kernel
theorem dX6_swap_40 : decode cX6_swap 40 = .ok (.iload_n 2, 1) := by decide +kernel
theorem dX6_swap_41 : decode cX6_swap 41 = .ok (.invokevirtual 129, 3) := by decide +kernel
theorem dX6_swap_44 : decode cX6_swap 44 = .ok (.aload_n 0, 1) := by decide +kernel
theorem dX6_swap_45 : decode cX6_swap 45 = .ok (.invokevirtual 97, 3) := by decide +kernel
theorem dX6_swap_48 : decode cX6_swap 48 = .ok (.ireturn, 1) := by decide +kernel
theorem dX6_turnAround_0 : decode cX6_turnAround 0 = .ok (.iconst 0, 1) := by decide +kernel
theorem dX6_turnAround_1 : decode cX6_turnAround 1 = .ok (.istore_n 3, 1) := by decide +kernel
theorem dX6_turnAround_2 : decode cX6_turnAround 2 = .ok (.iload_n 1, 1) := by decide +kernel
theorem dX6_turnAround_3 : decode cX6_turnAround 3 = .ok (.iload_n 3, 1) := by decide +kernel
theorem dX6_turnAround_4 : decode cX6_turnAround 4 = .ok (.iadd, 1) := by decide +kernel
theorem dX6_turnAround_5 : decode cX6_turnAround 5 = .ok (.iload_n 2, 1) := by decide +kernel
theorem dX6_turnAround_6 : decode cX6_turnAround 6 = .ok (.iload_n 3, 1) := by decide +kernel
theorem dX6_turnAround_7 : decode cX6_turnAround 7 = .ok (.isub, 1) := by decide +kernel
theorem dX6_turnAround_8 : decode cX6_turnAround 8 = .ok (.if_icmp .ge 19, 3) := by decide +kernel
theorem dX6_turnAround_11 : decode cX6_turnAround 11 = .ok (.aload_n 0, 1) := by decide +kernel
theorem dX6_turnAround_12 : decode cX6_turnAround 12 = .ok (.iload_n 1, 1) := by decide +kernel
theorem dX6_turnAround_13 : decode cX6_turnAround 13 = .ok (.iload_n 3, 1) := by decide +kernel
theorem dX6_turnAround_14 : decode cX6_turnAround 14 = .ok (.iadd, 1) := by decide +kernel
theorem dX6_turnAround_15 : decode cX6_turnAround 15 = .ok (.iload_n 2, 1) := by decide +kernel
theorem dX6_turnAround_16 : decode cX6_turnAround 16 = .ok (.iload_n 3, 1) := by decide +kernel
theorem dX6_turnAround_17 : decode cX6_turnAround 17 = .ok (.isub, 1) := by decide +kernel
theorem dX6_turnAround_18 : decode cX6_turnAround 18 = .ok (.invokevirtual 129, 3) := by decide +kernel
theorem dX6_turnAround_21 : decode cX6_turnAround 21 = .ok (.iinc 3 1, 3) := by decide +kernel
theorem dX6_turnAround_24 : decode cX6_turnAround 24 = .ok (.goto (-22), 3) := by decide +kernel
theorem dX6_turnAround_27 : decode cX6_turnAround 27 = .ok (.return_, 1) := by decide +kernel
theorem dX6_turn_0 : decode cX6_turn 0 = .ok (.aload_n 0, 1) := by decide +kernel
theorem dX6_turn_1 : decode cX6_turn 1 = .ok (.aload_n 0, 1) := by decide +kernel
theorem dX6_turn_2 : decode cX6_turn 2 = .ok (.iload_n 1, 1) := by decide +kernel
theorem dX6_turn_3 : decode cX6_turn 3 = .ok (.invokevirtual 126, 3) := by decide +kernel
theorem dX6_turn_6 : decode cX6_turn 6 = .ok (.ifCond .eq 11, 3) := by decide +kernel
theorem dX6_turn_9 : decode cX6_turn 9 = .ok (.aload_n 0, 1) := by decide +kernel
theorem dX6_turn_10 : decode cX6_turn 10 = .ok (.iload_n 2, 1) := by decide +kernel
theorem dX6_turn_11 : decode cX6_turn 11 = .ok (.invokevirtual 126, 3) := by decide +kernel
theorem dX6_turn_14 : decode cX6_turn 14 = .ok (.ifCond .ne 7, 3) := by decide +kernel
theorem dX6_turn_17 : decode cX6_turn 17 = .ok (.iconst 1, 1) := by decide +kernel
theorem dX6_turn_18 : decode cX6_turn 18 = .ok (.goto 13, 3) := by decide +kernel
theorem dX6_turn_21 : decode cX6_turn 21 = .ok (.iload_n 2, 1) := by decide +kernel
theorem dX6_turn_22 : decode cX6_turn 22 = .ok (.iload_n 1, 1) := by decide +kernel
theorem dX6_turn_23 : decode cX6_turn 23 = .ok (.if_icmp .ge 7, 3) := by decide +kernel
theorem dX6_turn_26 : decode cX6_turn 26 = .ok (.iconst 2, 1) := by decide +kernel
theorem dX6_turn_27 : decode cX6_turn 27 = .ok (.goto 4, 3) := by decide +kernel
theorem dX6_turn_30 : decode cX6_turn 30 = .ok (.iconst 0, 1) := by decide +kernel
theorem dX6_turn_31 : decode cX6_turn 31 = .ok (.putfield 37, 3) := by decide +kernel
theorem dX6_turn_34 : decode cX6_turn 34 = .ok (.aload_n 0, 1) := by decide +kernel
theorem dX6_turn_35 : decode cX6_turn 35 = .ok (.getfield 37, 3) := by decide +kernel
theorem dX6_turn_38 : decode cX6_turn 38 = .ok (.ifCond .le 5, 3) := by decide +kernel
theorem dX6_turn_41 : decode cX6_turn 41 = .ok (.iconst 0, 1) := by decide +kernel
theorem dX6_turn_42 : decode cX6_turn 42 = .ok (.ireturn, 1) := by decide +kernel
theorem dX6_turn_43 : decode cX6_turn 43 = .ok (.aload_n 0, 1) := by decide +kernel
theorem dX6_turn_44 : decode cX6_turn 44 = .ok (.invokevirtual 100, 3) := by decide +kernel
theorem dX6_turn_47 : decode cX6_turn 47 = .ok (.aload_n 0, 1) := by decide +kernel
theorem dX6_turn_48 : decode cX6_turn 48 = .ok (.iload_n 1, 1) := by decide +kernel
theorem dX6_turn_49 : decode cX6_turn 49 = .ok (.iload_n 2, 1) := by decide +kernel
theorem dX6_turn_50 : decode cX6_turn 50 = .ok (.invokevirtual 133, 3) := by decide +kernel
theorem dX6_turn_53 : decode cX6_turn 53 = .ok (.aload_n 0, 1) := by decide +kernel
theorem dX6_turn_54 : decode cX6_turn 54 = .ok (.invokevirtual 97, 3) := by decide +kernel
theorem dX6_turn_57 : decode cX6_turn 57 = .ok (.ireturn, 1) := by decide +kernel
theorem dX6_step_0 : decode cX6_step 0 = .ok (.iload_n 1, 1) := by decide +kernel
theorem dX6_step_1 : decode cX6_step 1 = .ok (.aload_n 0, 1) := by decide +kernel
theorem dX6_step_2 : decode cX6_step 2 = .ok (.getfield 7, 3) := by decide +kernel
theorem dX6_step_5 : decode cX6_step 5 = .ok (.iconst 0, 1) := by decide +kernel
theorem dX6_step_6 : decode cX6_step 6 = .ok (.iaload, 1) := by decide +kernel
theorem dX6_step_7 : decode cX6_step 7 = .ok (.iconst 1, 1) := by decide +kernel
theorem dX6_step_8 : decode cX6_step 8 = .ok (.isub, 1) := by decide +kernel
theorem dX6_step_9 : decode cX6_step 9 = .ok (.if_icmp .ge 15, 3) := by decide +kernel
theorem dX6_step_12 : decode cX6_step 12 = .ok (.aload_n 0, 1) := by decide +kernel
theorem dX6_step_13 : decode cX6_step 13 = .ok (.iload_n 1, 1) := by decide +kernel
theorem dX6_step_14 : decode cX6_step 14 = .ok (.iload_n 1, 1) := by decide +kernel
theorem dX6_step_15 : decode cX6_step 15 = .ok (.iconst 1, 1) := by decide +kernel
theorem dX6_step_16 : decode cX6_step 16 = .ok (.iadd, 1) := by decide +kernel
theorem dX6_step_17 : decode cX6_step 17 = .ok (.invokevirtual 129, 3) := by decide +kernel
theorem dX6_step_20 : decode cX6_step 20 = .ok (.iload_n 1, 1) := by decide +kernel
theorem dX6_step_21 : decode cX6_step 21 = .ok (.iconst 1, 1) := by decide +kernel
theorem dX6_step_22 : decode cX6_step 22 = .ok (.iadd, 1) := by decide +kernel
theorem dX6_step_23 : decode cX6_step 23 = .ok (.ireturn, 1) := by decide +kernel
theorem dX6_step_24 : decode cX6_step 24 = .ok (.aload_n 0, 1) := by decide +kernel
theorem dX6_step_25 : decode cX6_step 25 = .ok (.getfield 7, 3) := by decide +kernel
theorem dX6_step_28 : decode cX6_step 28 = .ok (.iconst 0, 1) := by decide +kernel
theorem dX6_step_29 : decode cX6_step 29 = .ok (.iaload, 1) := by decide +kernel
theorem dX6_step_30 : decode cX6_step 30 = .ok (.iconst 1, 1) := by decide +kernel
theorem dX6_step_31 : decode cX6_step 31 = .ok (.isub, 1) := by decide +kernel
theorem dX6_step_32 : decode cX6_step 32 = .ok (.istore_n 2, 1) := by decide +kernel
theorem dX6_step_33 : decode cX6_step 33 = .ok (.iload_n 2, 1) := by decide +kernel
theorem dX6_step_34 : decode cX6_step 34 = .ok (.ifCond .le 17, 3) := by decide +kernel
theorem dX6_step_37 : decode cX6_step 37 = .ok (.aload_n 0, 1) := by decide +kernel
theorem dX6_step_38 : decode cX6_step 38 = .ok (.iload_n 2, 1) := by decide +kernel
theorem dX6_step_39 : decode cX6_step 39 = .ok (.iload_n 2, 1) := by decide +kernel
theorem dX6_step_40 : decode cX6_step 40 = .ok (.iconst 1, 1) := by decide +kernel
theorem dX6_step_41 : decode cX6_step 41 = .ok (.isub, 1) := by decide +kernel
theorem dX6_step_42 : decode cX6_step 42 = .ok (.invokevirtual 129, 3) := by decide +kernel
theorem dX6_step_45 : decode cX6_step 45 = .ok (.iinc 2 (-1), 3) := by decide +kernel
theorem dX6_step_48 : decode cX6_step 48 = .ok (.goto (-15), 3) := by decide +kernel
theorem dX6_step_51 : decode cX6_step 51 = .ok (.iconst 0, 1) := by decide +kernel
theorem dX6_step_52 : decode cX6_step 52 = .ok (.ireturn, 1) := by decide +kernel
theorem dX6_carry_0 : decode cX6_carry 0 = .ok (.aload_n 0, 1) := by decide +kernel
theorem dX6_carry_1 : decode cX6_carry 1 = .ok (.aload_n 0, 1) := by decide +kernel
theorem dX6_carry_2 : decode cX6_carry 2 = .ok (.iload_n 1, 1) := by decide +kernel
theorem dX6_carry_3 : decode cX6_carry 3 = .ok (.invokevirtual 126, 3) := by decide +kernel
theorem dX6_carry_6 : decode cX6_carry 6 = .ok (.ifCond .ne 7, 3) := by decide +kernel
theorem dX6_carry_9 : decode cX6_carry 9 = .ok (.iconst 1, 1) := by decide +kernel
theorem dX6_carry_10 : decode cX6_carry 10 = .ok (.goto 18, 3) := by decide +kernel
theorem dX6_carry_13 : decode cX6_carry 13 = .ok (.iload_n 2, 1) := by decide +kernel
theorem dX6_carry_14 : decode cX6_carry 14 = .ok (.iconst 0, 1) := by decide +kernel
theorem dX6_carry_15 : decode cX6_carry 15 = .ok (.bipush 20, 2) := by decide +kernel
theorem dX6_carry_17 : decode cX6_carry 17 = .ok (.invokestatic 44, 3) := by decide +kernel
theorem dX6_carry_20 : decode cX6_carry 20 = .ok (.ifCond .eq 7, 3) := by decide +kernel
theorem dX6_carry_23 : decode cX6_carry 23 = .ok (.iconst 0, 1) := by decide +kernel
theorem dX6_carry_24 : decode cX6_carry 24 = .ok (.goto 4, 3) := by decide +kernel
theorem dX6_carry_27 : decode cX6_carry 27 = .ok (.iconst 2, 1) := by decide +kernel
theorem dX6_carry_28 : decode cX6_carry 28 = .ok (.putfield 37, 3) := by decide +kernel
theorem dX6_carry_31 : decode cX6_carry 31 = .ok (.aload_n 0, 1) := by decide +kernel
theorem dX6_carry_32 : decode cX6_carry 32 = .ok (.getfield 37, 3) := by decide +kernel
theorem dX6_carry_35 : decode cX6_carry 35 = .ok (.ifCond .le 5, 3) := by decide +kernel
theorem dX6_carry_38 : decode cX6_carry 38 = .ok (.iconst 0, 1) := by decide +kernel
theorem dX6_carry_39 : decode cX6_carry 39 = .ok (.ireturn, 1) := by decide +kernel
theorem dX6_carry_40 : decode cX6_carry 40 = .ok (.aload_n 0, 1) := by decide +kernel
theorem dX6_carry_41 : decode cX6_carry 41 = .ok (.invokevirtual 100, 3) := by decide +kernel
theorem dX6_carry_44 : decode cX6_carry 44 = .ok (.iload_n 1, 1) := by decide +kernel
theorem dX6_carry_45 : decode cX6_carry 45 = .ok (.istore_n 3, 1) := by decide +kernel
theorem dX6_carry_46 : decode cX6_carry 46 = .ok (.iconst 0, 1) := by decide +kernel
theorem dX6_carry_47 : decode cX6_carry 47 = .ok (.istore 4, 2) := by decide +kernel
theorem dX6_carry_49 : decode cX6_carry 49 = .ok (.iload 4, 2) := by decide +kernel
theorem dX6_carry_51 : decode cX6_carry 51 = .ok (.iload_n 2, 1) := by decide +kernel
theorem dX6_carry_52 : decode cX6_carry 52 = .ok (.if_icmp .ge 15, 3) := by decide +kernel
theorem dX6_carry_55 : decode cX6_carry 55 = .ok (.aload_n 0, 1) := by decide +kernel
theorem dX6_carry_56 : decode cX6_carry 56 = .ok (.iload_n 3, 1) := by decide +kernel
theorem dX6_carry_57 : decode cX6_carry 57 = .ok (.invokevirtual 136, 3) := by decide +kernel
theorem dX6_carry_60 : decode cX6_carry 60 = .ok (.istore_n 3, 1) := by decide +kernel
theorem dX6_carry_61 : decode cX6_carry 61 = .ok (.iinc 4 1, 3) := by decide +kernel
theorem dX6_carry_64 : decode cX6_carry 64 = .ok (.goto (-15), 3) := by decide +kernel
theorem dX6_carry_67 : decode cX6_carry 67 = .ok (.iload_n 3, 1) := by decide +kernel
theorem dX6_carry_68 : decode cX6_carry 68 = .ok (.ireturn, 1) := by decide +kernel
theorem dX6_put_0 : decode cX6_put 0 = .ok (.aload_n 0, 1) := by decide +kernel
theorem dX6_put_1 : decode cX6_put 1 = .ok (.iload_n 1, 1) := by decide +kernel
theorem dX6_put_2 : decode cX6_put 2 = .ok (.iconst 0, 1) := by decide +kernel
theorem dX6_put_3 : decode cX6_put 3 = .ok (.aload_n 0, 1) := by decide +kernel
theorem dX6_put_4 : decode cX6_put 4 = .ok (.getfield 7, 3) := by decide +kernel
theorem dX6_put_7 : decode cX6_put 7 = .ok (.iconst 0, 1) := by decide +kernel
theorem dX6_put_8 : decode cX6_put 8 = .ok (.iaload, 1) := by decide +kernel
theorem dX6_put_9 : decode cX6_put 9 = .ok (.invokestatic 44, 3) := by decide +kernel
theorem dX6_put_12 : decode cX6_put 12 = .ok (.ifCond .ne 7, 3) := by decide +kernel
theorem dX6_put_15 : decode cX6_put 15 = .ok (.iconst 1, 1) := by decide +kernel
theorem dX6_put_16 : decode cX6_put 16 = .ok (.goto 30, 3) := by decide +kernel
theorem dX6_put_19 : decode cX6_put 19 = .ok (.iload_n 2, 1) := by decide +kernel
theorem dX6_put_20 : decode cX6_put 20 = .ok (.invokestatic 139, 3) := by decide +kernel
theorem dX6_put_23 : decode cX6_put 23 = .ok (.ifCond .ne 7, 3) := by decide +kernel
theorem dX6_put_26 : decode cX6_put 26 = .ok (.iconst 2, 1) := by decide +kernel
theorem dX6_put_27 : decode cX6_put 27 = .ok (.goto 19, 3) := by decide +kernel
theorem dX6_put_30 : decode cX6_put 30 = .ok (.aload_n 0, 1) := by decide +kernel
theorem dX6_put_31 : decode cX6_put 31 = .ok (.getfield 7, 3) := by decide +kernel
theorem dX6_put_34 : decode cX6_put 34 = .ok (.iconst 0, 1) := by decide +kernel
theorem dX6_put_35 : decode cX6_put 35 = .ok (.iaload, 1) := by decide +kernel
theorem dX6_put_36 : decode cX6_put 36 = .ok (.bipush 11, 2) := by decide +kernel
theorem dX6_put_38 : decode cX6_put 38 = .ok (.if_icmp .ne 7, 3) := by decide +kernel
theorem dX6_put_41 : decode cX6_put 41 = .ok (.iconst 3, 1) := by decide +kernel
theorem dX6_put_42 : decode cX6_put 42 = .ok (.goto 4, 3) := by decide +kernel
theorem dX6_put_45 : decode cX6_put 45 = .ok (.iconst 0, 1) := by decide +kernel
theorem dX6_put_46 : decode cX6_put 46 = .ok (.putfield 37, 3) := by decide +kernel
theorem dX6_put_49 : decode cX6_put 49 = .ok (.aload_n 0, 1) := by decide +kernel
theorem dX6_put_50 : decode cX6_put 50 = .ok (.getfield 37, 3) := by decide +kernel
theorem dX6_put_53 : decode cX6_put 53 = .ok (.ifCond .le 5, 3) := by decide +kernel
theorem dX6_put_56 : decode cX6_put 56 = .ok (.iconst 0, 1) := by decide +kernel
theorem dX6_put_57 : decode cX6_put 57 = .ok (.ireturn, 1) := by decide +kernel
theorem dX6_put_58 : decode cX6_put 58 = .ok (.aload_n 0, 1) := by decide +kernel
theorem dX6_put_59 : decode cX6_put 59 = .ok (.invokevirtual 100, 3) := by decide +kernel
theorem dX6_put_62 : decode cX6_put 62 = .ok (.iconst 2, 1) := by decide +kernel
theorem dX6_put_63 : decode cX6_put 63 = .ok (.aload_n 0, 1) := by decide +kernel
theorem dX6_put_64 : decode cX6_put 64 = .ok (.getfield 7, 3) := by decide +kernel
theorem dX6_put_67 : decode cX6_put 67 = .ok (.iconst 0, 1) := by decide +kernel
theorem dX6_put_68 : decode cX6_put 68 = .ok (.iaload, 1) := by decide +kernel
theorem dX6_put_69 : decode cX6_put 69 = .ok (.iadd, 1) := by decide +kernel
theorem dX6_put_70 : decode cX6_put 70 = .ok (.istore_n 3, 1) := by decide +kernel
theorem dX6_put_71 : decode cX6_put 71 = .ok (.iload_n 3, 1) := by decide +kernel
theorem dX6_put_72 : decode cX6_put 72 = .ok (.iconst 2, 1) := by decide +kernel
theorem dX6_put_73 : decode cX6_put 73 = .ok (.iload_n 1, 1) := by decide +kernel
theorem dX6_put_74 : decode cX6_put 74 = .ok (.iadd, 1) := by decide +kernel
theorem dX6_put_75 : decode cX6_put 75 = .ok (.if_icmp .le 23, 3) := by decide +kernel
theorem dX6_put_78 : decode cX6_put 78 = .ok (.aload_n 0, 1) := by decide +kernel
theorem dX6_put_79 : decode cX6_put 79 = .ok (.getfield 7, 3) := by decide +kernel
theorem dX6_put_82 : decode cX6_put 82 = .ok (.iload_n 3, 1) := by decide +kernel
theorem dX6_put_83 : decode cX6_put 83 = .ok (.aload_n 0, 1) := by decide +kernel
theorem dX6_put_84 : decode cX6_put 84 = .ok (.getfield 7, 3) := by decide +kernel
theorem dX6_put_87 : decode cX6_put 87 = .ok (.iload_n 3, 1) := by decide +kernel
theorem dX6_put_88 : decode cX6_put 88 = .ok (.iconst 1, 1) := by decide +kernel
theorem dX6_put_89 : decode cX6_put 89 = .ok (.isub, 1) := by decide +kernel
theorem dX6_put_90 : decode cX6_put 90 = .ok (.iaload, 1) := by decide +kernel
theorem dX6_put_91 : decode cX6_put 91 = .ok (.iastore, 1) := by decide +kernel
theorem dX6_put_92 : decode cX6_put 92 = .ok (.iinc 3 (-1), 3) := by decide +kernel
theorem dX6_put_95 : decode cX6_put 95 = .ok (.goto (-24), 3) := by decide +kernel
theorem dX6_put_98 : decode cX6_put 98 = .ok (.aload_n 0, 1) := by decide +kernel
theorem dX6_put_99 : decode cX6_put 99 = .ok (.getfield 7, 3) := by decide +kernel
theorem dX6_put_102 : decode cX6_put 102 = .ok (.iconst 2, 1) := by decide +kernel
theorem dX6_put_103 : decode cX6_put 103 = .ok (.iload_n 1, 1) := by decide +kernel
theorem dX6_put_104 : decode cX6_put 104 = .ok (.iadd, 1) := by decide +kernel
theorem dX6_put_105 : decode cX6_put 105 = .ok (.iload_n 2, 1) := by decide +kernel
theorem dX6_put_106 : decode cX6_put 106 = .ok (.iastore, 1) := by decide +kernel
theorem dX6_put_107 : decode cX6_put 107 = .ok (.aload_n 0, 1) := by decide +kernel
theorem dX6_put_108 : decode cX6_put 108 = .ok (.getfield 7, 3) := by decide +kernel
theorem dX6_put_111 : decode cX6_put 111 = .ok (.iconst 0, 1) := by decide +kernel
theorem dX6_put_112 : decode cX6_put 112 = .ok (.dup2, 1) := by decide +kernel
theorem dX6_put_113 : decode cX6_put 113 = .ok (.iaload, 1) := by decide +kernel
theorem dX6_put_114 : decode cX6_put 114 = .ok (.iconst 1, 1) := by decide +kernel
theorem dX6_put_115 : decode cX6_put 115 = .ok (.iadd, 1) := by decide +kernel
theorem dX6_put_116 : decode cX6_put 116 = .ok (.iastore, 1) := by decide +kernel
theorem dX6_put_117 : decode cX6_put 117 = .ok (.aload_n 0, 1) := by decide +kernel
theorem dX6_put_118 : decode cX6_put 118 = .ok (.invokevirtual 71, 3) := by decide +kernel
theorem dX6_put_121 : decode cX6_put 121 = .ok (.ireturn, 1) := by decide +kernel
theorem dX6_take_0 : decode cX6_take 0 = .ok (.aload_n 0, 1) := by decide +kernel
theorem dX6_take_1 : decode cX6_take 1 = .ok (.aload_n 0, 1) := by decide +kernel
theorem dX6_take_2 : decode cX6_take 2 = .ok (.iload_n 1, 1) := by decide +kernel
theorem dX6_take_3 : decode cX6_take 3 = .ok (.invokevirtual 126, 3) := by decide +kernel
theorem dX6_take_6 : decode cX6_take 6 = .ok (.ifCond .ne 7, 3) := by decide +kernel
theorem dX6_take_9 : decode cX6_take 9 = .ok (.iconst 1, 1) := by decide +kernel
theorem dX6_take_10 : decode cX6_take 10 = .ok (.goto 18, 3) := by decide +kernel
theorem dX6_take_13 : decode cX6_take 13 = .ok (.aload_n 0, 1) := by decide +kernel
theorem dX6_take_14 : decode cX6_take 14 = .ok (.getfield 7, 3) := by decide +kernel
theorem dX6_take_17 : decode cX6_take 17 = .ok (.iconst 0, 1) := by decide +kernel
theorem dX6_take_18 : decode cX6_take 18 = .ok (.iaload, 1) := by decide +kernel
theorem dX6_take_19 : decode cX6_take 19 = .ok (.iconst 1, 1) := by decide +kernel
theorem dX6_take_20 : decode cX6_take 20 = .ok (.if_icmp .ne 7, 3) := by decide +kernel
theorem dX6_take_23 : decode cX6_take 23 = .ok (.iconst 2, 1) := by decide +kernel
theorem dX6_take_24 : decode cX6_take 24 = .ok (.goto 4, 3) := by decide +kernel
theorem dX6_take_27 : decode cX6_take 27 = .ok (.iconst 0, 1) := by decide +kernel
theorem dX6_take_28 : decode cX6_take 28 = .ok (.putfield 37, 3) := by decide +kernel
theorem dX6_take_31 : decode cX6_take 31 = .ok (.aload_n 0, 1) := by decide +kernel
theorem dX6_take_32 : decode cX6_take 32 = .ok (.getfield 37, 3) := by decide +kernel
theorem dX6_take_35 : decode cX6_take 35 = .ok (.ifCond .le 5, 3) := by decide +kernel
theorem dX6_take_38 : decode cX6_take 38 = .ok (.iconst 0, 1) := by decide +kernel
theorem dX6_take_39 : decode cX6_take 39 = .ok (.ireturn, 1) := by decide +kernel
theorem dX6_take_40 : decode cX6_take 40 = .ok (.aload_n 0, 1) := by decide +kernel
theorem dX6_take_41 : decode cX6_take 41 = .ok (.invokevirtual 100, 3) := by decide +kernel
theorem dX6_take_44 : decode cX6_take 44 = .ok (.aload_n 0, 1) := by decide +kernel
theorem dX6_take_45 : decode cX6_take 45 = .ok (.getfield 7, 3) := by decide +kernel
theorem dX6_take_48 : decode cX6_take 48 = .ok (.iconst 2, 1) := by decide +kernel
theorem dX6_take_49 : decode cX6_take 49 = .ok (.iload_n 1, 1) := by decide +kernel
theorem dX6_take_50 : decode cX6_take 50 = .ok (.iadd, 1) := by decide +kernel
theorem dX6_take_51 : decode cX6_take 51 = .ok (.iaload, 1) := by decide +kernel
theorem dX6_take_52 : decode cX6_take 52 = .ok (.istore_n 2, 1) := by decide +kernel
theorem dX6_take_53 : decode cX6_take 53 = .ok (.aload_n 0, 1) := by decide +kernel
theorem dX6_take_54 : decode cX6_take 54 = .ok (.getfield 7, 3) := by decide +kernel
theorem dX6_take_57 : decode cX6_take 57 = .ok (.iconst 0, 1) := by decide +kernel
theorem dX6_take_58 : decode cX6_take 58 = .ok (.dup2, 1) := by decide +kernel
theorem dX6_take_59 : decode cX6_take 59 = .ok (.iaload, 1) := by decide +kernel
theorem dX6_take_60 : decode cX6_take 60 = .ok (.iconst 1, 1) := by decide +kernel
theorem dX6_take_61 : decode cX6_take 61 = .ok (.isub, 1) := by decide +kernel
theorem dX6_take_62 : decode cX6_take 62 = .ok (.iastore, 1) := by decide +kernel
theorem dX6_take_63 : decode cX6_take 63 = .ok (.iconst 2, 1) := by decide +kernel
theorem dX6_take_64 : decode cX6_take 64 = .ok (.iload_n 1, 1) := by decide +kernel
theorem dX6_take_65 : decode cX6_take 65 = .ok (.iadd, 1) := by decide +kernel
theorem dX6_take_66 : decode cX6_take 66 = .ok (.istore_n 3, 1) := by decide +kernel
theorem dX6_take_67 : decode cX6_take 67 = .ok (.iload_n 3, 1) := by decide +kernel
theorem dX6_take_68 : decode cX6_take 68 = .ok (.iconst 2, 1) := by decide +kernel
theorem dX6_take_69 : decode cX6_take 69 = .ok (.aload_n 0, 1) := by decide +kernel
theorem dX6_take_70 : decode cX6_take 70 = .ok (.getfield 7, 3) := by decide +kernel
theorem dX6_take_73 : decode cX6_take 73 = .ok (.iconst 0, 1) := by decide +kernel
theorem dX6_take_74 : decode cX6_take 74 = .ok (.iaload, 1) := by decide +kernel
theorem dX6_take_75 : decode cX6_take 75 = .ok (.iadd, 1) := by decide +kernel
theorem dX6_take_76 : decode cX6_take 76 = .ok (.if_icmp .ge 23, 3) := by decide +kernel
theorem dX6_take_79 : decode cX6_take 79 = .ok (.aload_n 0, 1) := by decide +kernel
theorem dX6_take_80 : decode cX6_take 80 = .ok (.getfield 7, 3) := by decide +kernel
theorem dX6_take_83 : decode cX6_take 83 = .ok (.iload_n 3, 1) := by decide +kernel
theorem dX6_take_84 : decode cX6_take 84 = .ok (.aload_n 0, 1) := by decide +kernel
theorem dX6_take_85 : decode cX6_take 85 = .ok (.getfield 7, 3) := by decide +kernel
theorem dX6_take_88 : decode cX6_take 88 = .ok (.iload_n 3, 1) := by decide +kernel
theorem dX6_take_89 : decode cX6_take 89 = .ok (.iconst 1, 1) := by decide +kernel
theorem dX6_take_90 : decode cX6_take 90 = .ok (.iadd, 1) := by decide +kernel
theorem dX6_take_91 : decode cX6_take 91 = .ok (.iaload, 1) := by decide +kernel
theorem dX6_take_92 : decode cX6_take 92 = .ok (.iastore, 1) := by decide +kernel
theorem dX6_take_93 : decode cX6_take 93 = .ok (.iinc 3 1, 3) := by decide +kernel
theorem dX6_take_96 : decode cX6_take 96 = .ok (.goto (-29), 3) := by decide +kernel
theorem dX6_take_99 : decode cX6_take 99 = .ok (.aload_n 0, 1) := by decide +kernel
theorem dX6_take_100 : decode cX6_take 100 = .ok (.getfield 7, 3) := by decide +kernel
theorem dX6_take_103 : decode cX6_take 103 = .ok (.iconst 2, 1) := by decide +kernel
theorem dX6_take_104 : decode cX6_take 104 = .ok (.aload_n 0, 1) := by decide +kernel
theorem dX6_take_105 : decode cX6_take 105 = .ok (.getfield 7, 3) := by decide +kernel
theorem dX6_take_108 : decode cX6_take 108 = .ok (.iconst 0, 1) := by decide +kernel
theorem dX6_take_109 : decode cX6_take 109 = .ok (.iaload, 1) := by decide +kernel
theorem dX6_take_110 : decode cX6_take 110 = .ok (.iadd, 1) := by decide +kernel
theorem dX6_take_111 : decode cX6_take 111 = .ok (.iconst 0, 1) := by decide +kernel
theorem dX6_take_112 : decode cX6_take 112 = .ok (.iastore, 1) := by decide +kernel
theorem dX6_take_113 : decode cX6_take 113 = .ok (.iload_n 2, 1) := by decide +kernel
theorem dX6_take_114 : decode cX6_take 114 = .ok (.ireturn, 1) := by decide +kernel
theorem dX6_append_0 : decode cX6_append 0 = .ok (.aload_n 0, 1) := by decide +kernel
theorem dX6_append_1 : decode cX6_append 1 = .ok (.iload_n 1, 1) := by decide +kernel
theorem dX6_append_2 : decode cX6_append 2 = .ok (.bipush 33, 2) := by decide +kernel
theorem dX6_append_4 : decode cX6_append 4 = .ok (.bipush 126, 2) := by decide +kernel
theorem dX6_append_6 : decode cX6_append 6 = .ok (.invokestatic 44, 3) := by decide +kernel
theorem dX6_append_9 : decode cX6_append 9 = .ok (.ifCond .ne 7, 3) := by decide +kernel
theorem dX6_append_12 : decode cX6_append 12 = .ok (.iconst 1, 1) := by decide +kernel
theorem dX6_append_13 : decode cX6_append 13 = .ok (.goto 17, 3) := by decide +kernel
theorem dX6_append_16 : decode cX6_append 16 = .ok (.aload_n 0, 1) := by decide +kernel
theorem dX6_append_17 : decode cX6_append 17 = .ok (.getfield 142, 3) := by decide +kernel
theorem dX6_append_20 : decode cX6_append 20 = .ok (.bipush 60, 2) := by decide +kernel
theorem dX6_append_22 : decode cX6_append 22 = .ok (.if_icmp .ne 7, 3) := by decide +kernel
theorem dX6_append_25 : decode cX6_append 25 = .ok (.iconst 2, 1) := by decide +kernel
theorem dX6_append_26 : decode cX6_append 26 = .ok (.goto 4, 3) := by decide +kernel
theorem dX6_append_29 : decode cX6_append 29 = .ok (.iconst 0, 1) := by decide +kernel
theorem dX6_append_30 : decode cX6_append 30 = .ok (.putfield 37, 3) := by decide +kernel
theorem dX6_append_33 : decode cX6_append 33 = .ok (.aload_n 0, 1) := by decide +kernel
theorem dX6_append_34 : decode cX6_append 34 = .ok (.getfield 37, 3) := by decide +kernel
theorem dX6_append_37 : decode cX6_append 37 = .ok (.ifCond .le 5, 3) := by decide +kernel
theorem dX6_append_40 : decode cX6_append 40 = .ok (.iconst 0, 1) := by decide +kernel
theorem dX6_append_41 : decode cX6_append 41 = .ok (.ireturn, 1) := by decide +kernel
theorem dX6_append_42 : decode cX6_append 42 = .ok (.aload_n 0, 1) := by decide +kernel
theorem dX6_append_43 : decode cX6_append 43 = .ok (.getfield 16, 3) := by decide +kernel
theorem dX6_append_46 : decode cX6_append 46 = .ok (.aload_n 0, 1) := by decide +kernel
theorem dX6_append_47 : decode cX6_append 47 = .ok (.getfield 142, 3) := by decide +kernel
theorem dX6_append_50 : decode cX6_append 50 = .ok (.iload_n 1, 1) := by decide +kernel
theorem dX6_append_51 : decode cX6_append 51 = .ok (.iastore, 1) := by decide +kernel
theorem dX6_append_52 : decode cX6_append 52 = .ok (.aload_n 0, 1) := by decide +kernel
theorem dX6_append_53 : decode cX6_append 53 = .ok (.dup, 1) := by decide +kernel
theorem dX6_append_54 : decode cX6_append 54 = .ok (.getfield 142, 3) := by decide +kernel
theorem dX6_append_57 : decode cX6_append 57 = .ok (.iconst 1, 1) := by decide +kernel
theorem dX6_append_58 : decode cX6_append 58 = .ok (.iadd, 1) := by decide +kernel
theorem dX6_append_59 : decode cX6_append 59 = .ok (.putfield 142, 3) := by decide +kernel
theorem dX6_append_62 : decode cX6_append 62 = .ok (.aload_n 0, 1) := by decide +kernel
theorem dX6_append_63 : decode cX6_append 63 = .ok (.getfield 142, 3) := by decide +kernel
theorem dX6_append_66 : decode cX6_append 66 = .ok (.ireturn, 1) := by decide +kernel
theorem dX6_clearBuffer_0 : decode cX6_clearBuffer 0 = .ok (.aload_n 0, 1) := by decide +kernel
theorem dX6_clearBuffer_1 : decode cX6_clearBuffer 1 = .ok (.iconst 0, 1) := by decide +kernel
theorem dX6_clearBuffer_2 : decode cX6_clearBuffer 2 = .ok (.putfield 37, 3) := by decide +kernel
theorem dX6_clearBuffer_5 : decode cX6_clearBuffer 5 = .ok (.aload_n 0, 1) := by decide +kernel
theorem dX6_clearBuffer_6 : decode cX6_clearBuffer 6 = .ok (.getfield 142, 3) := by decide +kernel
theorem dX6_clearBuffer_9 : decode cX6_clearBuffer 9 = .ok (.istore_n 1, 1) := by decide +kernel
theorem dX6_clearBuffer_10 : decode cX6_clearBuffer 10 = .ok (.aload_n 0, 1) := by decide +kernel
theorem dX6_clearBuffer_11 : decode cX6_clearBuffer 11 = .ok (.iconst 0, 1) := by decide +kernel
theorem dX6_clearBuffer_12 : decode cX6_clearBuffer 12 = .ok (.putfield 142, 3) := by decide +kernel
theorem dX6_clearBuffer_15 : decode cX6_clearBuffer 15 = .ok (.iload_n 1, 1) := by decide +kernel
theorem dX6_clearBuffer_16 : decode cX6_clearBuffer 16 = .ok (.ireturn, 1) := by decide +kernel
theorem dX6_takes_0 : decode cX6_takes 0 = .ok (.iload_n 1, 1) := by decide +kernel
theorem dX6_takes_1 : decode cX6_takes 1 = .ok (.bipush 97, 2) := by decide +kernel
theorem dX6_takes_3 : decode cX6_takes 3 = .ok (.isub, 1) := by decide +kernel
theorem dX6_takes_4 : decode cX6_takes 4 = .ok (.invokestatic 139, 3) := by decide +kernel
theorem dX6_takes_7 : decode cX6_takes 7 = .ok (.ifCond .eq 42, 3) := by decide +kernel
theorem dX6_takes_10 : decode cX6_takes 10 = .ok (.aload_n 0, 1) := by decide +kernel
theorem dX6_takes_11 : decode cX6_takes 11 = .ok (.getfield 145, 3) := by decide +kernel
theorem dX6_takes_14 : decode cX6_takes 14 = .ok (.bipush 11, 2) := by decide +kernel
theorem dX6_takes_16 : decode cX6_takes 16 = .ok (.if_icmp .ge 33, 3) := by decide +kernel
theorem dX6_takes_19 : decode cX6_takes 19 = .ok (.aload_n 0, 1) := by decide +kernel
theorem dX6_takes_20 : decode cX6_takes 20 = .ok (.getfield 31, 3) := by decide +kernel
theorem dX6_takes_23 : decode cX6_takes 23 = .ok (.aload_n 0, 1) := by decide +kernel
theorem dX6_takes_24 : decode cX6_takes 24 = .ok (.getfield 145, 3) := by decide +kernel
theorem dX6_takes_27 : decode cX6_takes 27 = .ok (.iload_n 1, 1) := by decide +kernel
theorem dX6_takes_28 : decode cX6_takes 28 = .ok (.bipush 97, 2) := by decide +kernel
theorem dX6_takes_30 : decode cX6_takes 30 = .ok (.isub, 1) := by decide +kernel
theorem dX6_takes_31 : decode cX6_takes 31 = .ok (.iastore, 1) := by decide +kernel
theorem dX6_takes_32 : decode cX6_takes 32 = .ok (.aload_n 0, 1) := by decide +kernel
theorem dX6_takes_33 : decode cX6_takes 33 = .ok (.dup, 1) := by decide +kernel
theorem dX6_takes_34 : decode cX6_takes 34 = .ok (.getfield 145, 3) := by decide +kernel
theorem dX6_takes_37 : decode cX6_takes 37 = .ok (.iconst 1, 1) := by decide +kernel
theorem dX6_takes_38 : decode cX6_takes 38 = .ok (.iadd, 1) := by decide +kernel
theorem dX6_takes_39 : decode cX6_takes 39 = .ok (.putfield 145, 3) := by decide +kernel
theorem dX6_takes_42 : decode cX6_takes 42 = .ok (.aload_n 0, 1) := by decide +kernel
theorem dX6_takes_43 : decode cX6_takes 43 = .ok (.iconst 1, 1) := by decide +kernel
theorem dX6_takes_44 : decode cX6_takes 44 = .ok (.putfield 148, 3) := by decide +kernel
theorem dX6_takes_47 : decode cX6_takes 47 = .ok (.iconst 1, 1) := by decide +kernel
theorem dX6_takes_48 : decode cX6_takes 48 = .ok (.ireturn, 1) := by decide +kernel
theorem dX6_takes_49 : decode cX6_takes 49 = .ok (.aload_n 0, 1) := by decide +kernel
theorem dX6_takes_50 : decode cX6_takes 50 = .ok (.getfield 148, 3) := by decide +kernel
theorem dX6_takes_53 : decode cX6_takes 53 = .ok (.ifCond .eq 34, 3) := by decide +kernel
theorem dX6_takes_56 : decode cX6_takes 56 = .ok (.iload_n 1, 1) := by decide +kernel
theorem dX6_takes_57 : decode cX6_takes 57 = .ok (.bipush 50, 2) := by decide +kernel
theorem dX6_takes_59 : decode cX6_takes 59 = .ok (.bipush 57, 2) := by decide +kernel
theorem dX6_takes_61 : decode cX6_takes 61 = .ok (.invokestatic 44, 3) := by decide +kernel
theorem dX6_takes_64 : decode cX6_takes 64 = .ok (.ifCond .eq 23, 3) := by decide +kernel
theorem dX6_takes_67 : decode cX6_takes 67 = .ok (.aload_n 0, 1) := by decide +kernel
theorem dX6_takes_68 : decode cX6_takes 68 = .ok (.getfield 145, 3) := by decide +kernel
theorem dX6_takes_71 : decode cX6_takes 71 = .ok (.iconst 1, 1) := by decide +kernel
theorem dX6_takes_72 : decode cX6_takes 72 = .ok (.isub, 1) := by decide +kernel
theorem dX6_takes_73 : decode cX6_takes 73 = .ok (.iload_n 1, 1) := by decide +kernel
theorem dX6_takes_74 : decode cX6_takes 74 = .ok (.iadd, 1) := by decide +kernel
theorem dX6_takes_75 : decode cX6_takes 75 = .ok (.bipush 48, 2) := by decide +kernel
theorem dX6_takes_77 : decode cX6_takes 77 = .ok (.isub, 1) := by decide +kernel
theorem dX6_takes_78 : decode cX6_takes 78 = .ok (.bipush 11, 2) := by decide +kernel
theorem dX6_takes_80 : decode cX6_takes 80 = .ok (.if_icmp .gt 7, 3) := by decide +kernel
theorem dX6_takes_83 : decode cX6_takes 83 = .ok (.iconst 1, 1) := by decide +kernel
theorem dX6_takes_84 : decode cX6_takes 84 = .ok (.goto 4, 3) := by decide +kernel
theorem dX6_takes_87 : decode cX6_takes 87 = .ok (.iconst 0, 1) := by decide +kernel
theorem dX6_takes_88 : decode cX6_takes 88 = .ok (.istore_n 2, 1) := by decide +kernel
theorem dX6_takes_89 : decode cX6_takes 89 = .ok (.iconst 1, 1) := by decide +kernel
theorem dX6_takes_90 : decode cX6_takes 90 = .ok (.istore_n 3, 1) := by decide +kernel
theorem dX6_takes_91 : decode cX6_takes 91 = .ok (.iload_n 2, 1) := by decide +kernel
theorem dX6_takes_92 : decode cX6_takes 92 = .ok (.ifCond .eq 47, 3) := by decide +kernel
theorem dX6_takes_95 : decode cX6_takes 95 = .ok (.iload_n 3, 1) := by decide +kernel
theorem dX6_takes_96 : decode cX6_takes 96 = .ok (.iload_n 1, 1) := by decide +kernel
theorem dX6_takes_97 : decode cX6_takes 97 = .ok (.bipush 48, 2) := by decide +kernel
theorem dX6_takes_99 : decode cX6_takes 99 = .ok (.isub, 1) := by decide +kernel
theorem dX6_takes_100 : decode cX6_takes 100 = .ok (.if_icmp .ge 39, 3) := by decide +kernel
theorem dX6_takes_103 : decode cX6_takes 103 = .ok (.aload_n 0, 1) := by decide +kernel
theorem dX6_takes_104 : decode cX6_takes 104 = .ok (.getfield 31, 3) := by decide +kernel
theorem dX6_takes_107 : decode cX6_takes 107 = .ok (.aload_n 0, 1) := by decide +kernel
theorem dX6_takes_108 : decode cX6_takes 108 = .ok (.getfield 145, 3) := by decide +kernel
theorem dX6_takes_111 : decode cX6_takes 111 = .ok (.aload_n 0, 1) := by decide +kernel
theorem dX6_takes_112 : decode cX6_takes 112 = .ok (.getfield 31, 3) := by decide +kernel
theorem dX6_takes_115 : decode cX6_takes 115 = .ok (.aload_n 0, 1) := by decide +kernel
theorem dX6_takes_116 : decode cX6_takes 116 = .ok (.getfield 145, 3) := by decide +kernel
theorem dX6_takes_119 : decode cX6_takes 119 = .ok (.iconst 1, 1) := by decide +kernel
theorem dX6_takes_120 : decode cX6_takes 120 = .ok (.isub, 1) := by decide +kernel
theorem dX6_takes_121 : decode cX6_takes 121 = .ok (.iaload, 1) := by decide +kernel
theorem dX6_takes_122 : decode cX6_takes 122 = .ok (.iastore, 1) := by decide +kernel
theorem dX6_takes_123 : decode cX6_takes 123 = .ok (.aload_n 0, 1) := by decide +kernel
theorem dX6_takes_124 : decode cX6_takes 124 = .ok (.dup, 1) := by decide +kernel
theorem dX6_takes_125 : decode cX6_takes 125 = .ok (.getfield 145, 3) := by decide +kernel
theorem dX6_takes_128 : decode cX6_takes 128 = .ok (.iconst 1, 1) := by decide +kernel
theorem dX6_takes_129 : decode cX6_takes 129 = .ok (.iadd, 1) := by decide +kernel
theorem dX6_takes_130 : decode cX6_takes 130 = .ok (.putfield 145, 3) := by decide +kernel
theorem dX6_takes_133 : decode cX6_takes 133 = .ok (.iinc 3 1, 3) := by decide +kernel
theorem dX6_takes_136 : decode cX6_takes 136 = .ok (.goto (-45), 3) := by decide +kernel
theorem dX6_takes_139 : decode cX6_takes 139 = .ok (.aload_n 0, 1) := by decide +kernel
theorem dX6_takes_140 : decode cX6_takes 140 = .ok (.iconst 0, 1) := by decide +kernel
theorem dX6_takes_141 : decode cX6_takes 141 = .ok (.putfield 148, 3) := by decide +kernel
theorem dX6_takes_144 : decode cX6_takes 144 = .ok (.iload_n 2, 1) := by decide +kernel
theorem dX6_takes_145 : decode cX6_takes 145 = .ok (.ireturn, 1) := by decide +kernel
theorem dX6_rightUpTo_0 : decode cX6_rightUpTo 0 = .ok (.aload_n 0, 1) := by decide +kernel
theorem dX6_rightUpTo_1 : decode cX6_rightUpTo 1 = .ok (.iconst 0, 1) := by decide +kernel
theorem dX6_rightUpTo_2 : decode cX6_rightUpTo 2 = .ok (.putfield 145, 3) := by decide +kernel
theorem dX6_rightUpTo_5 : decode cX6_rightUpTo 5 = .ok (.aload_n 0, 1) := by decide +kernel
theorem dX6_rightUpTo_6 : decode cX6_rightUpTo 6 = .ok (.iconst 0, 1) := by decide +kernel
theorem dX6_rightUpTo_7 : decode cX6_rightUpTo 7 = .ok (.putfield 148, 3) := by decide +kernel
theorem dX6_rightUpTo_10 : decode cX6_rightUpTo 10 = .ok (.iconst 0, 1) := by decide +kernel
theorem dX6_rightUpTo_11 : decode cX6_rightUpTo 11 = .ok (.istore_n 1, 1) := by decide +kernel
theorem dX6_rightUpTo_12 : decode cX6_rightUpTo 12 = .ok (.iload_n 1, 1) := by decide +kernel
theorem dX6_rightUpTo_13 : decode cX6_rightUpTo 13 = .ok (.aload_n 0, 1) := by decide +kernel
theorem dX6_rightUpTo_14 : decode cX6_rightUpTo 14 = .ok (.getfield 142, 3) := by decide +kernel
theorem dX6_rightUpTo_17 : decode cX6_rightUpTo 17 = .ok (.if_icmp .ge 22, 3) := by decide +kernel
theorem dX6_rightUpTo_20 : decode cX6_rightUpTo 20 = .ok (.aload_n 0, 1) := by decide +kernel
theorem dX6_rightUpTo_21 : decode cX6_rightUpTo 21 = .ok (.aload_n 0, 1) := by decide +kernel
theorem dX6_rightUpTo_22 : decode cX6_rightUpTo 22 = .ok (.getfield 16, 3) := by decide +kernel
theorem dX6_rightUpTo_25 : decode cX6_rightUpTo 25 = .ok (.iload_n 1, 1) := by decide +kernel
theorem dX6_rightUpTo_26 : decode cX6_rightUpTo 26 = .ok (.iaload, 1) := by decide +kernel
theorem dX6_rightUpTo_27 : decode cX6_rightUpTo 27 = .ok (.invokevirtual 152, 3) := by decide +kernel
theorem dX6_rightUpTo_30 : decode cX6_rightUpTo 30 = .ok (.ifCond .eq 9, 3) := by decide +kernel
theorem dX6_rightUpTo_33 : decode cX6_rightUpTo 33 = .ok (.iinc 1 1, 3) := by decide +kernel
theorem dX6_rightUpTo_36 : decode cX6_rightUpTo 36 = .ok (.goto (-24), 3) := by decide +kernel
theorem dX6_rightUpTo_39 : decode cX6_rightUpTo 39 = .ok (.iload_n 1, 1) := by decide +kernel
theorem dX6_rightUpTo_40 : decode cX6_rightUpTo 40 = .ok (.ireturn, 1) := by decide +kernel
theorem dX6_firstError_0 : decode cX6_firstError 0 = .ok (.aload_n 0, 1) := by decide +kernel
theorem dX6_firstError_1 : decode cX6_firstError 1 = .ok (.iconst 0, 1) := by decide +kernel
theorem dX6_firstError_2 : decode cX6_firstError 2 = .ok (.putfield 37, 3) := by decide +kernel
theorem dX6_firstError_5 : decode cX6_firstError 5 = .ok (.aload_n 0, 1) := by decide +kernel
theorem dX6_firstError_6 : decode cX6_firstError 6 = .ok (.invokevirtual 155, 3) := by decide +kernel
theorem dX6_firstError_9 : decode cX6_firstError 9 = .ok (.ireturn, 1) := by decide +kernel
theorem dX6_read_0 : decode cX6_read 0 = .ok (.aload_n 0, 1) := by decide +kernel
theorem dX6_read_1 : decode cX6_read 1 = .ok (.aload_n 0, 1) := by decide +kernel
theorem dX6_read_2 : decode cX6_read 2 = .ok (.invokevirtual 155, 3) := by decide +kernel
theorem dX6_read_5 : decode cX6_read 5 = .ok (.aload_n 0, 1) := by decide +kernel
theorem dX6_read_6 : decode cX6_read 6 = .ok (.getfield 142, 3) := by decide +kernel
theorem dX6_read_9 : decode cX6_read 9 = .ok (.if_icmp .ne 14, 3) := by decide +kernel
theorem dX6_read_12 : decode cX6_read 12 = .ok (.aload_n 0, 1) := by decide +kernel
theorem dX6_read_13 : decode cX6_read 13 = .ok (.getfield 142, 3) := by decide +kernel
theorem dX6_read_16 : decode cX6_read 16 = .ok (.ifCond .le 7, 3) := by decide +kernel
theorem dX6_read_19 : decode cX6_read 19 = .ok (.iconst 0, 1) := by decide +kernel
theorem dX6_read_20 : decode cX6_read 20 = .ok (.goto 4, 3) := by decide +kernel
theorem dX6_read_23 : decode cX6_read 23 = .ok (.iconst 1, 1) := by decide +kernel
theorem dX6_read_24 : decode cX6_read 24 = .ok (.putfield 37, 3) := by decide +kernel
theorem dX6_read_27 : decode cX6_read 27 = .ok (.aload_n 0, 1) := by decide +kernel
theorem dX6_read_28 : decode cX6_read 28 = .ok (.getfield 37, 3) := by decide +kernel
theorem dX6_read_31 : decode cX6_read 31 = .ok (.ifCond .le 5, 3) := by decide +kernel
theorem dX6_read_34 : decode cX6_read 34 = .ok (.iconst 0, 1) := by decide +kernel
theorem dX6_read_35 : decode cX6_read 35 = .ok (.ireturn, 1) := by decide +kernel
theorem dX6_read_36 : decode cX6_read 36 = .ok (.aload_n 0, 1) := by decide +kernel
theorem dX6_read_37 : decode cX6_read 37 = .ok (.invokevirtual 100, 3) := by decide +kernel
theorem dX6_read_40 : decode cX6_read 40 = .ok (.aload_n 0, 1) := by decide +kernel
theorem dX6_read_41 : decode cX6_read 41 = .ok (.iconst 0, 1) := by decide +kernel
theorem dX6_read_42 : decode cX6_read 42 = .ok (.putfield 142, 3) := by decide +kernel
theorem dX6_read_45 : decode cX6_read 45 = .ok (.aload_n 0, 1) := by decide +kernel
theorem dX6_read_46 : decode cX6_read 46 = .ok (.getfield 7, 3) := by decide +kernel
theorem dX6_read_49 : decode cX6_read 49 = .ok (.iconst 0, 1) := by decide +kernel
theorem dX6_read_50 : decode cX6_read 50 = .ok (.aload_n 0, 1) := by decide +kernel
theorem dX6_read_51 : decode cX6_read 51 = .ok (.getfield 145, 3) := by decide +kernel
theorem dX6_read_54 : decode cX6_read 54 = .ok (.iastore, 1) := by decide +kernel
theorem dX6_read_55 : decode cX6_read 55 = .ok (.iconst 0, 1) := by decide +kernel
theorem dX6_read_56 : decode cX6_read 56 = .ok (.istore_n 1, 1) := by decide +kernel
theorem dX6_read_57 : decode cX6_read 57 = .ok (.iload_n 1, 1) := by decide +kernel
theorem dX6_read_58 : decode cX6_read 58 = .ok (.bipush 11, 2) := by decide +kernel
theorem dX6_read_60 : decode cX6_read 60 = .ok (.if_icmp .ge 35, 3) := by decide +kernel
theorem dX6_read_63 : decode cX6_read 63 = .ok (.aload_n 0, 1) := by decide +kernel
theorem dX6_read_64 : decode cX6_read 64 = .ok (.getfield 7, 3) := by decide +kernel
theorem dX6_read_67 : decode cX6_read 67 = .ok (.iconst 2, 1) := by decide +kernel
theorem dX6_read_68 : decode cX6_read 68 = .ok (.iload_n 1, 1) := by decide +kernel
theorem dX6_read_69 : decode cX6_read 69 = .ok (.iadd, 1) := by decide +kernel
theorem dX6_read_70 : decode cX6_read 70 = .ok (.iload_n 1, 1) := by decide +kernel
theorem dX6_read_71 : decode cX6_read 71 = .ok (.aload_n 0, 1) := by decide +kernel
theorem dX6_read_72 : decode cX6_read 72 = .ok (.getfield 145, 3) := by decide +kernel
theorem dX6_read_75 : decode cX6_read 75 = .ok (.if_icmp .ge 12, 3) := by decide +kernel
theorem dX6_read_78 : decode cX6_read 78 = .ok (.aload_n 0, 1) := by decide +kernel
theorem dX6_read_79 : decode cX6_read 79 = .ok (.getfield 31, 3) := by decide +kernel
theorem dX6_read_82 : decode cX6_read 82 = .ok (.iload_n 1, 1) := by decide +kernel
theorem dX6_read_83 : decode cX6_read 83 = .ok (.iaload, 1) := by decide +kernel
theorem dX6_read_84 : decode cX6_read 84 = .ok (.goto 4, 3) := by decide +kernel
theorem dX6_read_87 : decode cX6_read 87 = .ok (.iconst 0, 1) := by decide +kernel
theorem dX6_read_88 : decode cX6_read 88 = .ok (.iastore, 1) := by decide +kernel
theorem dX6_read_89 : decode cX6_read 89 = .ok (.iinc 1 1, 3) := by decide +kernel
theorem dX6_read_92 : decode cX6_read 92 = .ok (.goto (-35), 3) := by decide +kernel
theorem dX6_read_95 : decode cX6_read 95 = .ok (.aload_n 0, 1) := by decide +kernel
theorem dX6_read_96 : decode cX6_read 96 = .ok (.invokevirtual 97, 3) := by decide +kernel
theorem dX6_read_99 : decode cX6_read 99 = .ok (.ireturn, 1) := by decide +kernel
theorem dX6_undo_0 : decode cX6_undo 0 = .ok (.aload_n 0, 1) := by decide +kernel
theorem dX6_undo_1 : decode cX6_undo 1 = .ok (.aload_n 0, 1) := by decide +kernel
theorem dX6_undo_2 : decode cX6_undo 2 = .ok (.getfield 41, 3) := by decide +kernel
theorem dX6_undo_5 : decode cX6_undo 5 = .ok (.ifCond .le 7, 3) := by decide +kernel
theorem dX6_undo_8 : decode cX6_undo 8 = .ok (.iconst 0, 1) := by decide +kernel
theorem dX6_undo_9 : decode cX6_undo 9 = .ok (.goto 4, 3) := by decide +kernel
theorem dX6_undo_12 : decode cX6_undo 12 = .ok (.iconst 1, 1) := by decide +kernel
theorem dX6_undo_13 : decode cX6_undo 13 = .ok (.putfield 37, 3) := by decide +kernel
theorem dX6_undo_16 : decode cX6_undo 16 = .ok (.aload_n 0, 1) := by decide +kernel
theorem dX6_undo_17 : decode cX6_undo 17 = .ok (.getfield 37, 3) := by decide +kernel
theorem dX6_undo_20 : decode cX6_undo 20 = .ok (.ifCond .le 5, 3) := by decide +kernel
theorem dX6_undo_23 : decode cX6_undo 23 = .ok (.iconst 0, 1) := by decide +kernel
theorem dX6_undo_24 : decode cX6_undo 24 = .ok (.ireturn, 1) := by decide +kernel
theorem dX6_undo_25 : decode cX6_undo 25 = .ok (.aload_n 0, 1) := by decide +kernel
theorem dX6_undo_26 : decode cX6_undo 26 = .ok (.dup, 1) := by decide +kernel
theorem dX6_undo_27 : decode cX6_undo 27 = .ok (.getfield 41, 3) := by decide +kernel
theorem dX6_undo_30 : decode cX6_undo 30 = .ok (.iconst 1, 1) := by decide +kernel
theorem dX6_undo_31 : decode cX6_undo 31 = .ok (.isub, 1) := by decide +kernel
theorem dX6_undo_32 : decode cX6_undo 32 = .ok (.putfield 41, 3) := by decide +kernel
theorem dX6_undo_35 : decode cX6_undo 35 = .ok (.iconst 0, 1) := by decide +kernel
theorem dX6_undo_36 : decode cX6_undo 36 = .ok (.istore_n 1, 1) := by decide +kernel
theorem dX6_undo_37 : decode cX6_undo 37 = .ok (.iload_n 1, 1) := by decide +kernel
theorem dX6_undo_38 : decode cX6_undo 38 = .ok (.bipush 13, 2) := by decide +kernel
theorem dX6_undo_40 : decode cX6_undo 40 = .ok (.if_icmp .ge 29, 3) := by decide +kernel
theorem dX6_undo_43 : decode cX6_undo 43 = .ok (.aload_n 0, 1) := by decide +kernel
theorem dX6_undo_44 : decode cX6_undo 44 = .ok (.getfield 7, 3) := by decide +kernel
theorem dX6_undo_47 : decode cX6_undo 47 = .ok (.iload_n 1, 1) := by decide +kernel
theorem dX6_undo_48 : decode cX6_undo 48 = .ok (.aload_n 0, 1) := by decide +kernel
theorem dX6_undo_49 : decode cX6_undo 49 = .ok (.getfield 13, 3) := by decide +kernel
theorem dX6_undo_52 : decode cX6_undo 52 = .ok (.bipush 13, 2) := by decide +kernel
theorem dX6_undo_54 : decode cX6_undo 54 = .ok (.aload_n 0, 1) := by decide +kernel
theorem dX6_undo_55 : decode cX6_undo 55 = .ok (.getfield 41, 3) := by decide +kernel
theorem dX6_undo_58 : decode cX6_undo 58 = .ok (.imul, 1) := by decide +kernel
theorem dX6_undo_59 : decode cX6_undo 59 = .ok (.iload_n 1, 1) := by decide +kernel
theorem dX6_undo_60 : decode cX6_undo 60 = .ok (.iadd, 1) := by decide +kernel
theorem dX6_undo_61 : decode cX6_undo 61 = .ok (.iaload, 1) := by decide +kernel
theorem dX6_undo_62 : decode cX6_undo 62 = .ok (.iastore, 1) := by decide +kernel
theorem dX6_undo_63 : decode cX6_undo 63 = .ok (.iinc 1 1, 3) := by decide +kernel
theorem dX6_undo_66 : decode cX6_undo 66 = .ok (.goto (-29), 3) := by decide +kernel
theorem dX6_undo_69 : decode cX6_undo 69 = .ok (.aload_n 0, 1) := by decide +kernel
theorem dX6_undo_70 : decode cX6_undo 70 = .ok (.getfield 41, 3) := by decide +kernel
theorem dX6_undo_73 : decode cX6_undo 73 = .ok (.ireturn, 1) := by decide +kernel
theorem dX6_sign_0 : decode cX6_sign 0 = .ok (.aload_n 0, 1) := by decide +kernel
theorem dX6_sign_1 : decode cX6_sign 1 = .ok (.aload_n 0, 1) := by decide +kernel
theorem dX6_sign_2 : decode cX6_sign 2 = .ok (.iload_n 1, 1) := by decide +kernel
theorem dX6_sign_3 : decode cX6_sign 3 = .ok (.invokevirtual 126, 3) := by decide +kernel
theorem dX6_sign_6 : decode cX6_sign 6 = .ok (.ifCond .eq 7, 3) := by decide +kernel
theorem dX6_sign_9 : decode cX6_sign 9 = .ok (.iconst 0, 1) := by decide +kernel
theorem dX6_sign_10 : decode cX6_sign 10 = .ok (.goto 4, 3) := by decide +kernel
theorem dX6_sign_13 : decode cX6_sign 13 = .ok (.iconst 1, 1) := by decide +kernel
theorem dX6_sign_14 : decode cX6_sign 14 = .ok (.putfield 37, 3) := by decide +kernel
theorem dX6_sign_17 : decode cX6_sign 17 = .ok (.aload_n 0, 1) := by decide +kernel
theorem dX6_sign_18 : decode cX6_sign 18 = .ok (.getfield 37, 3) := by decide +kernel
theorem dX6_sign_21 : decode cX6_sign 21 = .ok (.ifCond .le 7, 3) := by decide +kernel
theorem dX6_sign_24 : decode cX6_sign 24 = .ok (.iconst 0, 1) := by decide +kernel
theorem dX6_sign_25 : decode cX6_sign 25 = .ok (.goto 11, 3) := by decide +kernel
theorem dX6_sign_28 : decode cX6_sign 28 = .ok (.aload_n 0, 1) := by decide +kernel
theorem dX6_sign_29 : decode cX6_sign 29 = .ok (.getfield 7, 3) := by decide +kernel
theorem dX6_sign_32 : decode cX6_sign 32 = .ok (.iconst 2, 1) := by decide +kernel
theorem dX6_sign_33 : decode cX6_sign 33 = .ok (.iload_n 1, 1) := by decide +kernel
theorem dX6_sign_34 : decode cX6_sign 34 = .ok (.iadd, 1) := by decide +kernel
theorem dX6_sign_35 : decode cX6_sign 35 = .ok (.iaload, 1) := by decide +kernel
theorem dX6_sign_36 : decode cX6_sign 36 = .ok (.ireturn, 1) := by decide +kernel
theorem dX6_digitAt_0 : decode cX6_digitAt 0 = .ok (.iconst 0, 1) := by decide +kernel
theorem dX6_digitAt_1 : decode cX6_digitAt 1 = .ok (.istore_n 2, 1) := by decide +kernel
theorem dX6_digitAt_2 : decode cX6_digitAt 2 = .ok (.iconst 0, 1) := by decide +kernel
theorem dX6_digitAt_3 : decode cX6_digitAt 3 = .ok (.istore_n 3, 1) := by decide +kernel
theorem dX6_digitAt_4 : decode cX6_digitAt 4 = .ok (.iload_n 1, 1) := by decide +kernel
theorem dX6_digitAt_5 : decode cX6_digitAt 5 = .ok (.istore 4, 2) := by decide +kernel
theorem dX6_digitAt_7 : decode cX6_digitAt 7 = .ok (.iload 4, 2) := by decide +kernel
theorem dX6_digitAt_9 : decode cX6_digitAt 9 = .ok (.aload_n 0, 1) := by decide +kernel
theorem dX6_digitAt_10 : decode cX6_digitAt 10 = .ok (.getfield 7, 3) := by decide +kernel
theorem dX6_digitAt_13 : decode cX6_digitAt 13 = .ok (.iconst 0, 1) := by decide +kernel
theorem dX6_digitAt_14 : decode cX6_digitAt 14 = .ok (.iaload, 1) := by decide +kernel
theorem dX6_digitAt_15 : decode cX6_digitAt 15 = .ok (.if_icmp .ge 57, 3) := by decide +kernel
theorem dX6_digitAt_18 : decode cX6_digitAt 18 = .ok (.aload_n 0, 1) := by decide +kernel
theorem dX6_digitAt_19 : decode cX6_digitAt 19 = .ok (.getfield 7, 3) := by decide +kernel
theorem dX6_digitAt_22 : decode cX6_digitAt 22 = .ok (.iconst 2, 1) := by decide +kernel
theorem dX6_digitAt_23 : decode cX6_digitAt 23 = .ok (.iload 4, 2) := by decide +kernel
theorem dX6_digitAt_25 : decode cX6_digitAt 25 = .ok (.iadd, 1) := by decide +kernel
theorem dX6_digitAt_26 : decode cX6_digitAt 26 = .ok (.iaload, 1) := by decide +kernel
theorem dX6_digitAt_27 : decode cX6_digitAt 27 = .ok (.istore 5, 2) := by decide +kernel
theorem dX6_digitAt_29 : decode cX6_digitAt 29 = .ok (.iload_n 3, 1) := by decide +kernel
theorem dX6_digitAt_30 : decode cX6_digitAt 30 = .ok (.iload 5, 2) := by decide +kernel
theorem dX6_digitAt_32 : decode cX6_digitAt 32 = .ok (.aload_n 0, 1) := by decide +kernel
theorem dX6_digitAt_33 : decode cX6_digitAt 33 = .ok (.getfield 7, 3) := by decide +kernel
theorem dX6_digitAt_36 : decode cX6_digitAt 36 = .ok (.iconst 2, 1) := by decide +kernel
theorem dX6_digitAt_37 : decode cX6_digitAt 37 = .ok (.iload_n 1, 1) := by decide +kernel
theorem dX6_digitAt_38 : decode cX6_digitAt 38 = .ok (.iadd, 1) := by decide +kernel
theorem dX6_digitAt_39 : decode cX6_digitAt 39 = .ok (.iaload, 1) := by decide +kernel
theorem dX6_digitAt_40 : decode cX6_digitAt 40 = .ok (.if_icmp .ge 16, 3) := by decide +kernel
theorem dX6_digitAt_43 : decode cX6_digitAt 43 = .ok (.iload_n 2, 1) := by decide +kernel
theorem dX6_digitAt_44 : decode cX6_digitAt 44 = .ok (.iload 5, 2) := by decide +kernel
theorem dX6_digitAt_46 : decode cX6_digitAt 46 = .ok (.ishr, 1) := by decide +kernel
theorem dX6_digitAt_47 : decode cX6_digitAt 47 = .ok (.iconst 1, 1) := by decide +kernel
theorem dX6_digitAt_48 : decode cX6_digitAt 48 = .ok (.iand, 1) := by decide +kernel
theorem dX6_digitAt_49 : decode cX6_digitAt 49 = .ok (.ifCond .ne 7, 3) := by decide +kernel
theorem dX6_digitAt_52 : decode cX6_digitAt 52 = .ok (.iconst 1, 1) := by decide +kernel
theorem dX6_digitAt_53 : decode cX6_digitAt 53 = .ok (.goto 4, 3) := by decide +kernel
theorem dX6_digitAt_56 : decode cX6_digitAt 56 = .ok (.iconst 0, 1) := by decide +kernel
theorem dX6_digitAt_57 : decode cX6_digitAt 57 = .ok (.iadd, 1) := by decide +kernel
theorem dX6_digitAt_58 : decode cX6_digitAt 58 = .ok (.istore_n 3, 1) := by decide +kernel
theorem dX6_digitAt_59 : decode cX6_digitAt 59 = .ok (.iload_n 2, 1) := by decide +kernel
theorem dX6_digitAt_60 : decode cX6_digitAt 60 = .ok (.iconst 1, 1) := by decide +kernel
theorem dX6_digitAt_61 : decode cX6_digitAt 61 = .ok (.iload 5, 2) := by decide +kernel
theorem dX6_digitAt_63 : decode cX6_digitAt 63 = .ok (.ishl, 1) := by decide +kernel
theorem dX6_digitAt_64 : decode cX6_digitAt 64 = .ok (.ior, 1) := by decide +kernel
theorem dX6_digitAt_65 : decode cX6_digitAt 65 = .ok (.istore_n 2, 1) := by decide +kernel
theorem dX6_digitAt_66 : decode cX6_digitAt 66 = .ok (.iinc 4 1, 3) := by decide +kernel
theorem dX6_digitAt_69 : decode cX6_digitAt 69 = .ok (.goto (-62), 3) := by decide +kernel
theorem dX6_digitAt_72 : decode cX6_digitAt 72 = .ok (.iload_n 3, 1) := by decide +kernel
theorem dX6_digitAt_73 : decode cX6_digitAt 73 = .ok (.ireturn, 1) := by decide +kernel
theorem dX6_digit_0 : decode cX6_digit 0 = .ok (.aload_n 0, 1) := by decide +kernel
theorem dX6_digit_1 : decode cX6_digit 1 = .ok (.aload_n 0, 1) := by decide +kernel
theorem dX6_digit_2 : decode cX6_digit 2 = .ok (.iload_n 1, 1) := by decide +kernel
theorem dX6_digit_3 : decode cX6_digit 3 = .ok (.invokevirtual 126, 3) := by decide +kernel
theorem dX6_digit_6 : decode cX6_digit 6 = .ok (.ifCond .eq 7, 3) := by decide +kernel
theorem dX6_digit_9 : decode cX6_digit 9 = .ok (.iconst 0, 1) := by decide +kernel
theorem dX6_digit_10 : decode cX6_digit 10 = .ok (.goto 4, 3) := by decide +kernel
theorem dX6_digit_13 : decode cX6_digit 13 = .ok (.iconst 1, 1) := by decide +kernel
theorem dX6_digit_14 : decode cX6_digit 14 = .ok (.putfield 37, 3) := by decide +kernel
theorem dX6_digit_17 : decode cX6_digit 17 = .ok (.aload_n 0, 1) := by decide +kernel
theorem dX6_digit_18 : decode cX6_digit 18 = .ok (.getfield 37, 3) := by decide +kernel
theorem dX6_digit_21 : decode cX6_digit 21 = .ok (.ifCond .le 7, 3) := by decide +kernel
theorem dX6_digit_24 : decode cX6_digit 24 = .ok (.iconst 0, 1) := by decide +kernel
theorem dX6_digit_25 : decode cX6_digit 25 = .ok (.goto 8, 3) := by decide +kernel
theorem dX6_digit_28 : decode cX6_digit 28 = .ok (.aload_n 0, 1) := by decide +kernel
theorem dX6_digit_29 : decode cX6_digit 29 = .ok (.iload_n 1, 1) := by decide +kernel
theorem dX6_digit_30 : decode cX6_digit 30 = .ok (.invokevirtual 158, 3) := by decide +kernel
theorem dX6_digit_33 : decode cX6_digit 33 = .ok (.ireturn, 1) := by decide +kernel
theorem dX6_manyOf_0 : decode cX6_manyOf 0 = .ok (.aload_n 0, 1) := by decide +kernel
theorem dX6_manyOf_1 : decode cX6_manyOf 1 = .ok (.invokevirtual 56, 3) := by decide +kernel
theorem dX6_manyOf_4 : decode cX6_manyOf 4 = .ok (.aload_n 0, 1) := by decide +kernel
theorem dX6_manyOf_5 : decode cX6_manyOf 5 = .ok (.getfield 19, 3) := by decide +kernel
theorem dX6_manyOf_8 : decode cX6_manyOf 8 = .ok (.iload_n 1, 1) := by decide +kernel
theorem dX6_manyOf_9 : decode cX6_manyOf 9 = .ok (.iaload, 1) := by decide +kernel
theorem dX6_manyOf_10 : decode cX6_manyOf 10 = .ok (.ireturn, 1) := by decide +kernel
theorem dX6_many_0 : decode cX6_many 0 = .ok (.aload_n 0, 1) := by decide +kernel
theorem dX6_many_1 : decode cX6_many 1 = .ok (.iload_n 1, 1) := by decide +kernel
theorem dX6_many_2 : decode cX6_many 2 = .ok (.invokestatic 139, 3) := by decide +kernel
theorem dX6_many_5 : decode cX6_many 5 = .ok (.ifCond .eq 7, 3) := by decide +kernel
theorem dX6_many_8 : decode cX6_many 8 = .ok (.iconst 0, 1) := by decide +kernel
theorem dX6_many_9 : decode cX6_many 9 = .ok (.goto 4, 3) := by decide +kernel
theorem dX6_many_12 : decode cX6_many 12 = .ok (.iconst 1, 1) := by decide +kernel
theorem dX6_many_13 : decode cX6_many 13 = .ok (.putfield 37, 3) := by decide +kernel
theorem dX6_many_16 : decode cX6_many 16 = .ok (.aload_n 0, 1) := by decide +kernel
theorem dX6_many_17 : decode cX6_many 17 = .ok (.getfield 37, 3) := by decide +kernel
theorem dX6_many_20 : decode cX6_many 20 = .ok (.ifCond .le 7, 3) := by decide +kernel
theorem dX6_many_23 : decode cX6_many 23 = .ok (.iconst 0, 1) := by decide +kernel
theorem dX6_many_24 : decode cX6_many 24 = .ok (.goto 8, 3) := by decide +kernel
theorem dX6_many_27 : decode cX6_many 27 = .ok (.aload_n 0, 1) := by decide +kernel
theorem dX6_many_28 : decode cX6_many 28 = .ok (.iload_n 1, 1) := by decide +kernel
theorem dX6_many_29 : decode cX6_many 29 = .ok (.invokevirtual 161, 3) := by decide +kernel
theorem dX6_many_32 : decode cX6_many 32 = .ok (.ireturn, 1) := by decide +kernel
theorem dX6_blockNow_0 : decode cX6_blockNow 0 = .ok (.iload_n 2, 1) := by decide +kernel
theorem dX6_blockNow_1 : decode cX6_blockNow 1 = .ok (.iconst 2, 1) := by decide +kernel
theorem dX6_blockNow_2 : decode cX6_blockNow 2 = .ok (.if_icmp .ne 9, 3) := by decide +kernel
theorem dX6_blockNow_5 : decode cX6_blockNow 5 = .ok (.aload_n 0, 1) := by decide +kernel
theorem dX6_blockNow_6 : decode cX6_blockNow 6 = .ok (.iload_n 1, 1) := by decide +kernel
theorem dX6_blockNow_7 : decode cX6_blockNow 7 = .ok (.invokevirtual 83, 3) := by decide +kernel
theorem dX6_blockNow_10 : decode cX6_blockNow 10 = .ok (.ireturn, 1) := by decide +kernel
theorem dX6_blockNow_11 : decode cX6_blockNow 11 = .ok (.aload_n 0, 1) := by decide +kernel
theorem dX6_blockNow_12 : decode cX6_blockNow 12 = .ok (.invokevirtual 65, 3) := by decide +kernel
theorem dX6_blockNow_15 : decode cX6_blockNow 15 = .ok (.aload_n 0, 1) := by decide +kernel
theorem dX6_blockNow_16 : decode cX6_blockNow 16 = .ok (.iload_n 1, 1) := by decide +kernel
theorem dX6_blockNow_17 : decode cX6_blockNow 17 = .ok (.invokevirtual 62, 3) := by decide +kernel
theorem dX6_blockNow_20 : decode cX6_blockNow 20 = .ok (.istore_n 3, 1) := by decide +kernel
theorem dX6_blockNow_21 : decode cX6_blockNow 21 = .ok (.iload_n 2, 1) := by decide +kernel
theorem dX6_blockNow_22 : decode cX6_blockNow 22 = .ok (.ifCond .ne 7, 3) := by decide +kernel
theorem dX6_blockNow_25 : decode cX6_blockNow 25 = .ok (.iload_n 3, 1) := by decide +kernel
theorem dX6_blockNow_26 : decode cX6_blockNow 26 = .ok (.goto 7, 3) := by decide +kernel
theorem dX6_blockNow_29 : decode cX6_blockNow 29 = .ok (.aload_n 0, 1) := by decide +kernel
theorem dX6_blockNow_30 : decode cX6_blockNow 30 = .ok (.invokevirtual 52, 3) := by decide +kernel
theorem dX6_blockNow_33 : decode cX6_blockNow 33 = .ok (.ireturn, 1) := by decide +kernel
theorem dX6_block_0 : decode cX6_block 0 = .ok (.aload_n 0, 1) := by decide +kernel
theorem dX6_block_1 : decode cX6_block 1 = .ok (.iload_n 1, 1) := by decide +kernel
theorem dX6_block_2 : decode cX6_block 2 = .ok (.iconst 0, 1) := by decide +kernel
theorem dX6_block_3 : decode cX6_block 3 = .ok (.aload_n 0, 1) := by decide +kernel
theorem dX6_block_4 : decode cX6_block 4 = .ok (.getfield 7, 3) := by decide +kernel
theorem dX6_block_7 : decode cX6_block 7 = .ok (.iconst 0, 1) := by decide +kernel
theorem dX6_block_8 : decode cX6_block 8 = .ok (.iaload, 1) := by decide +kernel
theorem dX6_block_9 : decode cX6_block 9 = .ok (.invokestatic 44, 3) := by decide +kernel
theorem dX6_block_12 : decode cX6_block 12 = .ok (.ifCond .eq 16, 3) := by decide +kernel
theorem dX6_block_15 : decode cX6_block 15 = .ok (.iload_n 2, 1) := by decide +kernel
theorem dX6_block_16 : decode cX6_block 16 = .ok (.iconst 0, 1) := by decide +kernel
theorem dX6_block_17 : decode cX6_block 17 = .ok (.iconst 2, 1) := by decide +kernel
theorem dX6_block_18 : decode cX6_block 18 = .ok (.invokestatic 44, 3) := by decide +kernel
theorem dX6_block_21 : decode cX6_block 21 = .ok (.ifCond .eq 7, 3) := by decide +kernel
theorem dX6_block_24 : decode cX6_block 24 = .ok (.iconst 0, 1) := by decide +kernel
theorem dX6_block_25 : decode cX6_block 25 = .ok (.goto 4, 3) := by decide +kernel
theorem dX6_block_28 : decode cX6_block 28 = .ok (.iconst 1, 1) := by decide +kernel
theorem dX6_block_29 : decode cX6_block 29 = .ok (.putfield 37, 3) := by decide +kernel
theorem dX6_block_32 : decode cX6_block 32 = .ok (.aload_n 0, 1) := by decide +kernel
theorem dX6_block_33 : decode cX6_block 33 = .ok (.getfield 37, 3) := by decide +kernel
theorem dX6_block_36 : decode cX6_block 36 = .ok (.ifCond .le 7, 3) := by decide +kernel
theorem dX6_block_39 : decode cX6_block 39 = .ok (.iconst 0, 1) := by decide +kernel
theorem dX6_block_40 : decode cX6_block 40 = .ok (.goto 9, 3) := by decide +kernel
theorem dX6_block_43 : decode cX6_block 43 = .ok (.aload_n 0, 1) := by decide +kernel
theorem dX6_block_44 : decode cX6_block 44 = .ok (.iload_n 1, 1) := by decide +kernel
theorem dX6_block_45 : decode cX6_block 45 = .ok (.iload_n 2, 1) := by decide +kernel
theorem dX6_block_46 : decode cX6_block 46 = .ok (.invokevirtual 164, 3) := by decide +kernel
theorem dX6_block_49 : decode cX6_block 49 = .ok (.ireturn, 1) := by decide +kernel
theorem dX6_unlike_0 : decode cX6_unlike 0 = .ok (.aload_n 0, 1) := by decide +kernel
theorem dX6_unlike_1 : decode cX6_unlike 1 = .ok (.invokevirtual 56, 3) := by decide +kernel
theorem dX6_unlike_4 : decode cX6_unlike 4 = .ok (.iconst 0, 1) := by decide +kernel
theorem dX6_unlike_5 : decode cX6_unlike 5 = .ok (.istore_n 1, 1) := by decide +kernel
theorem dX6_unlike_6 : decode cX6_unlike 6 = .ok (.iconst 0, 1) := by decide +kernel
theorem dX6_unlike_7 : decode cX6_unlike 7 = .ok (.istore_n 2, 1) := by decide +kernel
theorem dX6_unlike_8 : decode cX6_unlike 8 = .ok (.iload_n 2, 1) := by decide +kernel
theorem dX6_unlike_9 : decode cX6_unlike 9 = .ok (.bipush 6, 2) := by decide +kernel
theorem dX6_unlike_11 : decode cX6_unlike 11 = .ok (.if_icmp .ge 26, 3) := by decide +kernel
theorem dX6_unlike_14 : decode cX6_unlike 14 = .ok (.iload_n 1, 1) := by decide +kernel
theorem dX6_unlike_15 : decode cX6_unlike 15 = .ok (.aload_n 0, 1) := by decide +kernel
theorem dX6_unlike_16 : decode cX6_unlike 16 = .ok (.getfield 19, 3) := by decide +kernel
theorem dX6_unlike_19 : decode cX6_unlike 19 = .ok (.iload_n 2, 1) := by decide +kernel
theorem dX6_unlike_20 : decode cX6_unlike 20 = .ok (.iaload, 1) := by decide +kernel
theorem dX6_unlike_21 : decode cX6_unlike 21 = .ok (.ifCond .le 7, 3) := by decide +kernel
theorem dX6_unlike_24 : decode cX6_unlike 24 = .ok (.iconst 1, 1) := by decide +kernel
theorem dX6_unlike_25 : decode cX6_unlike 25 = .ok (.goto 4, 3) := by decide +kernel
theorem dX6_unlike_28 : decode cX6_unlike 28 = .ok (.iconst 0, 1) := by decide +kernel
theorem dX6_unlike_29 : decode cX6_unlike 29 = .ok (.iadd, 1) := by decide +kernel
theorem dX6_unlike_30 : decode cX6_unlike 30 = .ok (.istore_n 1, 1) := by decide +kernel
theorem dX6_unlike_31 : decode cX6_unlike 31 = .ok (.iinc 2 1, 3) := by decide +kernel
theorem dX6_unlike_34 : decode cX6_unlike 34 = .ok (.goto (-26), 3) := by decide +kernel
theorem dX6_unlike_37 : decode cX6_unlike 37 = .ok (.iload_n 1, 1) := by decide +kernel
theorem dX6_unlike_38 : decode cX6_unlike 38 = .ok (.ireturn, 1) := by decide +kernel
theorem dX6_inversions_0 : decode cX6_inversions 0 = .ok (.iconst 0, 1) := by decide +kernel
theorem dX6_inversions_1 : decode cX6_inversions 1 = .ok (.istore_n 1, 1) := by decide +kernel
theorem dX6_inversions_2 : decode cX6_inversions 2 = .ok (.iconst 0, 1) := by decide +kernel
theorem dX6_inversions_3 : decode cX6_inversions 3 = .ok (.istore_n 2, 1) := by decide +kernel
theorem dX6_inversions_4 : decode cX6_inversions 4 = .ok (.iload_n 2, 1) := by decide +kernel
theorem dX6_inversions_5 : decode cX6_inversions 5 = .ok (.aload_n 0, 1) := by decide +kernel
theorem dX6_inversions_6 : decode cX6_inversions 6 = .ok (.getfield 7, 3) := by decide +kernel
theorem dX6_inversions_9 : decode cX6_inversions 9 = .ok (.iconst 0, 1) := by decide +kernel
theorem dX6_inversions_10 : decode cX6_inversions 10 = .ok (.iaload, 1) := by decide +kernel
theorem dX6_inversions_11 : decode cX6_inversions 11 = .ok (.if_icmp .ge 56, 3) := by decide +kernel
theorem dX6_inversions_14 : decode cX6_inversions 14 = .ok (.iload_n 2, 1) := by decide +kernel
theorem dX6_inversions_15 : decode cX6_inversions 15 = .ok (.iconst 1, 1) := by decide +kernel
theorem dX6_inversions_16 : decode cX6_inversions 16 = .ok (.iadd, 1) := by decide +kernel
theorem dX6_inversions_17 : decode cX6_inversions 17 = .ok (.istore_n 3, 1) := by decide +kernel
theorem dX6_inversions_18 : decode cX6_inversions 18 = .ok (.iload_n 3, 1) := by decide +kernel
theorem dX6_inversions_19 : decode cX6_inversions 19 = .ok (.aload_n 0, 1) := by decide +kernel
theorem dX6_inversions_20 : decode cX6_inversions 20 = .ok (.getfield 7, 3) := by decide +kernel
theorem dX6_inversions_23 : decode cX6_inversions 23 = .ok (.iconst 0, 1) := by decide +kernel
theorem dX6_inversions_24 : decode cX6_inversions 24 = .ok (.iaload, 1) := by decide +kernel
theorem dX6_inversions_25 : decode cX6_inversions 25 = .ok (.if_icmp .ge 36, 3) := by decide +kernel
theorem dX6_inversions_28 : decode cX6_inversions 28 = .ok (.iload_n 1, 1) := by decide +kernel
theorem dX6_inversions_29 : decode cX6_inversions 29 = .ok (.aload_n 0, 1) := by decide +kernel
theorem dX6_inversions_30 : decode cX6_inversions 30 = .ok (.getfield 7, 3) := by decide +kernel
theorem dX6_inversions_33 : decode cX6_inversions 33 = .ok (.iconst 2, 1) := by decide +kernel
theorem dX6_inversions_34 : decode cX6_inversions 34 = .ok (.iload_n 2, 1) := by decide +kernel
theorem dX6_inversions_35 : decode cX6_inversions 35 = .ok (.iadd, 1) := by decide +kernel
theorem dX6_inversions_36 : decode cX6_inversions 36 = .ok (.iaload, 1) := by decide +kernel
theorem dX6_inversions_37 : decode cX6_inversions 37 = .ok (.aload_n 0, 1) := by decide +kernel
theorem dX6_inversions_38 : decode cX6_inversions 38 = .ok (.getfield 7, 3) := by decide +kernel
theorem dX6_inversions_41 : decode cX6_inversions 41 = .ok (.iconst 2, 1) := by decide +kernel
theorem dX6_inversions_42 : decode cX6_inversions 42 = .ok (.iload_n 3, 1) := by decide +kernel
theorem dX6_inversions_43 : decode cX6_inversions 43 = .ok (.iadd, 1) := by decide +kernel
theorem dX6_inversions_44 : decode cX6_inversions 44 = .ok (.iaload, 1) := by decide +kernel
theorem dX6_inversions_45 : decode cX6_inversions 45 = .ok (.if_icmp .le 7, 3) := by decide +kernel
theorem dX6_inversions_48 : decode cX6_inversions 48 = .ok (.iconst 1, 1) := by decide +kernel
theorem dX6_inversions_49 : decode cX6_inversions 49 = .ok (.goto 4, 3) := by decide +kernel
theorem dX6_inversions_52 : decode cX6_inversions 52 = .ok (.iconst 0, 1) := by decide +kernel
theorem dX6_inversions_53 : decode cX6_inversions 53 = .ok (.iadd, 1) := by decide +kernel
theorem dX6_inversions_54 : decode cX6_inversions 54 = .ok (.istore_n 1, 1) := by decide +kernel
theorem dX6_inversions_55 : decode cX6_inversions 55 = .ok (.iinc 3 1, 3) := by decide +kernel
theorem dX6_inversions_58 : decode cX6_inversions 58 = .ok (.goto (-40), 3) := by decide +kernel
theorem dX6_inversions_61 : decode cX6_inversions 61 = .ok (.iinc 2 1, 3) := by decide +kernel
theorem dX6_inversions_64 : decode cX6_inversions 64 = .ok (.goto (-60), 3) := by decide +kernel
theorem dX6_inversions_67 : decode cX6_inversions 67 = .ok (.iload_n 1, 1) := by decide +kernel
theorem dX6_inversions_68 : decode cX6_inversions 68 = .ok (.ireturn, 1) := by decide +kernel
theorem dX6_descents_0 : decode cX6_descents 0 = .ok (.iconst 0, 1) := by decide +kernel
theorem dX6_descents_1 : decode cX6_descents 1 = .ok (.istore_n 2, 1) := by decide +kernel
theorem dX6_descents_2 : decode cX6_descents 2 = .ok (.iconst 0, 1) := by decide +kernel
theorem dX6_descents_3 : decode cX6_descents 3 = .ok (.istore_n 3, 1) := by decide +kernel
theorem dX6_descents_4 : decode cX6_descents 4 = .ok (.iload_n 3, 1) := by decide +kernel
theorem dX6_descents_5 : decode cX6_descents 5 = .ok (.iconst 1, 1) := by decide +kernel
theorem dX6_descents_6 : decode cX6_descents 6 = .ok (.iadd, 1) := by decide +kernel
theorem dX6_descents_7 : decode cX6_descents 7 = .ok (.aload_n 0, 1) := by decide +kernel
theorem dX6_descents_8 : decode cX6_descents 8 = .ok (.getfield 7, 3) := by decide +kernel
theorem dX6_descents_11 : decode cX6_descents 11 = .ok (.iconst 0, 1) := by decide +kernel
theorem dX6_descents_12 : decode cX6_descents 12 = .ok (.iaload, 1) := by decide +kernel
theorem dX6_descents_13 : decode cX6_descents 13 = .ok (.if_icmp .ge 60, 3) := by decide +kernel
theorem dX6_descents_16 : decode cX6_descents 16 = .ok (.aload_n 0, 1) := by decide +kernel
theorem dX6_descents_17 : decode cX6_descents 17 = .ok (.getfield 7, 3) := by decide +kernel
theorem dX6_descents_20 : decode cX6_descents 20 = .ok (.iconst 2, 1) := by decide +kernel
theorem dX6_descents_21 : decode cX6_descents 21 = .ok (.iload_n 3, 1) := by decide +kernel
theorem dX6_descents_22 : decode cX6_descents 22 = .ok (.iadd, 1) := by decide +kernel
theorem dX6_descents_23 : decode cX6_descents 23 = .ok (.iaload, 1) := by decide +kernel
theorem dX6_descents_24 : decode cX6_descents 24 = .ok (.aload_n 0, 1) := by decide +kernel
theorem dX6_descents_25 : decode cX6_descents 25 = .ok (.getfield 7, 3) := by decide +kernel
theorem dX6_descents_28 : decode cX6_descents 28 = .ok (.iconst 2, 1) := by decide +kernel
theorem dX6_descents_29 : decode cX6_descents 29 = .ok (.iload_n 3, 1) := by decide +kernel
theorem dX6_descents_30 : decode cX6_descents 30 = .ok (.iadd, 1) := by decide +kernel
theorem dX6_descents_31 : decode cX6_descents 31 = .ok (.iconst 1, 1) := by decide +kernel
theorem dX6_descents_32 : decode cX6_descents 32 = .ok (.iadd, 1) := by decide +kernel
theorem dX6_descents_33 : decode cX6_descents 33 = .ok (.iaload, 1) := by decide +kernel
theorem dX6_descents_34 : decode cX6_descents 34 = .ok (.if_icmp .le 7, 3) := by decide +kernel
theorem dX6_descents_37 : decode cX6_descents 37 = .ok (.iconst 1, 1) := by decide +kernel
theorem dX6_descents_38 : decode cX6_descents 38 = .ok (.goto 4, 3) := by decide +kernel
theorem dX6_descents_41 : decode cX6_descents 41 = .ok (.iconst 0, 1) := by decide +kernel
theorem dX6_descents_42 : decode cX6_descents 42 = .ok (.istore 4, 2) := by decide +kernel
theorem dX6_descents_44 : decode cX6_descents 44 = .ok (.iload_n 2, 1) := by decide +kernel
theorem dX6_descents_45 : decode cX6_descents 45 = .ok (.iload 4, 2) := by decide +kernel
theorem dX6_descents_47 : decode cX6_descents 47 = .ok (.ifCond .ne 7, 3) := by decide +kernel
theorem dX6_descents_50 : decode cX6_descents 50 = .ok (.iconst 0, 1) := by decide +kernel
theorem dX6_descents_51 : decode cX6_descents 51 = .ok (.goto 14, 3) := by decide +kernel
theorem dX6_descents_54 : decode cX6_descents 54 = .ok (.iload_n 1, 1) := by decide +kernel
theorem dX6_descents_55 : decode cX6_descents 55 = .ok (.ifCond .eq 9, 3) := by decide +kernel
theorem dX6_descents_58 : decode cX6_descents 58 = .ok (.iload_n 3, 1) := by decide +kernel
theorem dX6_descents_59 : decode cX6_descents 59 = .ok (.iconst 1, 1) := by decide +kernel
theorem dX6_descents_60 : decode cX6_descents 60 = .ok (.iadd, 1) := by decide +kernel
theorem dX6_descents_61 : decode cX6_descents 61 = .ok (.goto 4, 3) := by decide +kernel
theorem dX6_descents_64 : decode cX6_descents 64 = .ok (.iconst 1, 1) := by decide +kernel
theorem dX6_descents_65 : decode cX6_descents 65 = .ok (.iadd, 1) := by decide +kernel
theorem dX6_descents_66 : decode cX6_descents 66 = .ok (.istore_n 2, 1) := by decide +kernel
theorem dX6_descents_67 : decode cX6_descents 67 = .ok (.iinc 3 1, 3) := by decide +kernel
theorem dX6_descents_70 : decode cX6_descents 70 = .ok (.goto (-66), 3) := by decide +kernel
theorem dX6_descents_73 : decode cX6_descents 73 = .ok (.iload_n 2, 1) := by decide +kernel
theorem dX6_descents_74 : decode cX6_descents 74 = .ok (.ireturn, 1) := by decide +kernel
theorem dX6_turnedRank_0 : decode cX6_turnedRank 0 = .ok (.iconst 0, 1) := by decide +kernel
theorem dX6_turnedRank_1 : decode cX6_turnedRank 1 = .ok (.istore_n 1, 1) := by decide +kernel
theorem dX6_turnedRank_2 : decode cX6_turnedRank 2 = .ok (.iload_n 1, 1) := by decide +kernel
theorem dX6_turnedRank_3 : decode cX6_turnedRank 3 = .ok (.aload_n 0, 1) := by decide +kernel
theorem dX6_turnedRank_4 : decode cX6_turnedRank 4 = .ok (.getfield 7, 3) := by decide +kernel
theorem dX6_turnedRank_7 : decode cX6_turnedRank 7 = .ok (.iconst 0, 1) := by decide +kernel
theorem dX6_turnedRank_8 : decode cX6_turnedRank 8 = .ok (.iaload, 1) := by decide +kernel
theorem dX6_turnedRank_9 : decode cX6_turnedRank 9 = .ok (.if_icmp .ge 32, 3) := by decide +kernel
theorem dX6_turnedRank_12 : decode cX6_turnedRank 12 = .ok (.aload_n 0, 1) := by decide +kernel
theorem dX6_turnedRank_13 : decode cX6_turnedRank 13 = .ok (.getfield 22, 3) := by decide +kernel
theorem dX6_turnedRank_16 : decode cX6_turnedRank 16 = .ok (.iload_n 1, 1) := by decide +kernel
theorem dX6_turnedRank_17 : decode cX6_turnedRank 17 = .ok (.aload_n 0, 1) := by decide +kernel
theorem dX6_turnedRank_18 : decode cX6_turnedRank 18 = .ok (.getfield 7, 3) := by decide +kernel
theorem dX6_turnedRank_21 : decode cX6_turnedRank 21 = .ok (.iconst 2, 1) := by decide +kernel
theorem dX6_turnedRank_22 : decode cX6_turnedRank 22 = .ok (.aload_n 0, 1) := by decide +kernel
theorem dX6_turnedRank_23 : decode cX6_turnedRank 23 = .ok (.getfield 7, 3) := by decide +kernel
theorem dX6_turnedRank_26 : decode cX6_turnedRank 26 = .ok (.iconst 0, 1) := by decide +kernel
theorem dX6_turnedRank_27 : decode cX6_turnedRank 27 = .ok (.iaload, 1) := by decide +kernel
theorem dX6_turnedRank_28 : decode cX6_turnedRank 28 = .ok (.iadd, 1) := by decide +kernel
theorem dX6_turnedRank_29 : decode cX6_turnedRank 29 = .ok (.iconst 1, 1) := by decide +kernel
theorem dX6_turnedRank_30 : decode cX6_turnedRank 30 = .ok (.isub, 1) := by decide +kernel
theorem dX6_turnedRank_31 : decode cX6_turnedRank 31 = .ok (.iload_n 1, 1) := by decide +kernel
theorem dX6_turnedRank_32 : decode cX6_turnedRank 32 = .ok (.isub, 1) := by decide +kernel
theorem dX6_turnedRank_33 : decode cX6_turnedRank 33 = .ok (.iaload, 1) := by decide +kernel
theorem dX6_turnedRank_34 : decode cX6_turnedRank 34 = .ok (.iastore, 1) := by decide +kernel
theorem dX6_turnedRank_35 : decode cX6_turnedRank 35 = .ok (.iinc 1 1, 3) := by decide +kernel
theorem dX6_turnedRank_38 : decode cX6_turnedRank 38 = .ok (.goto (-36), 3) := by decide +kernel
theorem dX6_turnedRank_41 : decode cX6_turnedRank 41 = .ok (.aload_n 0, 1) := by decide +kernel
theorem dX6_turnedRank_42 : decode cX6_turnedRank 42 = .ok (.invokevirtual 68, 3) := by decide +kernel
theorem dX6_turnedRank_45 : decode cX6_turnedRank 45 = .ok (.ireturn, 1) := by decide +kernel
theorem dX6_counted_0 : decode cX6_counted 0 = .ok (.iload_n 1, 1) := by decide +kernel
theorem dX6_counted_1 : decode cX6_counted 1 = .ok (.tableswitch 145 0 12 #[67, 74, 79, 84, 89, 94, 99, 112, 117, 117, 133, 84, 138], 67) := by decide +kernel
theorem dX6_counted_68 : decode cX6_counted 68 = .ok (.aload_n 0, 1) := by decide +kernel
theorem dX6_counted_69 : decode cX6_counted 69 = .ok (.getfield 7, 3) := by decide +kernel
theorem dX6_counted_72 : decode cX6_counted 72 = .ok (.iconst 0, 1) := by decide +kernel
theorem dX6_counted_73 : decode cX6_counted 73 = .ok (.iaload, 1) := by decide +kernel
theorem dX6_counted_74 : decode cX6_counted 74 = .ok (.ireturn, 1) := by decide +kernel
theorem dX6_counted_75 : decode cX6_counted 75 = .ok (.aload_n 0, 1) := by decide +kernel
theorem dX6_counted_76 : decode cX6_counted 76 = .ok (.invokevirtual 168, 3) := by decide +kernel
theorem dX6_counted_79 : decode cX6_counted 79 = .ok (.ireturn, 1) := by decide +kernel
theorem dX6_counted_80 : decode cX6_counted 80 = .ok (.aload_n 0, 1) := by decide +kernel
theorem dX6_counted_81 : decode cX6_counted 81 = .ok (.invokevirtual 71, 3) := by decide +kernel
theorem dX6_counted_84 : decode cX6_counted 84 = .ok (.ireturn, 1) := by decide +kernel
theorem dX6_counted_85 : decode cX6_counted 85 = .ok (.aload_n 0, 1) := by decide +kernel
theorem dX6_counted_86 : decode cX6_counted 86 = .ok (.invokevirtual 97, 3) := by decide +kernel
theorem dX6_counted_89 : decode cX6_counted 89 = .ok (.ireturn, 1) := by decide +kernel
theorem dX6_counted_90 : decode cX6_counted 90 = .ok (.aload_n 0, 1) := by decide +kernel
theorem dX6_counted_91 : decode cX6_counted 91 = .ok (.invokevirtual 120, 3) := by decide +kernel
theorem dX6_counted_94 : decode cX6_counted 94 = .ok (.ireturn, 1) := by decide +kernel
theorem dX6_counted_95 : decode cX6_counted 95 = .ok (.aload_n 0, 1) := by decide +kernel
theorem dX6_counted_96 : decode cX6_counted 96 = .ok (.invokevirtual 113, 3) := by decide +kernel
theorem dX6_counted_99 : decode cX6_counted 99 = .ok (.ireturn, 1) := by decide +kernel
theorem dX6_counted_100 : decode cX6_counted 100 = .ok (.aload_n 0, 1) := by decide +kernel
theorem dX6_counted_101 : decode cX6_counted 101 = .ok (.invokevirtual 116, 3) := by decide +kernel
theorem dX6_counted_104 : decode cX6_counted 104 = .ok (.ifCond .eq 7, 3) := by decide +kernel
theorem dX6_counted_107 : decode cX6_counted 107 = .ok (.iconst 1, 1) := by decide +kernel
theorem dX6_counted_108 : decode cX6_counted 108 = .ok (.goto 4, 3) := by decide +kernel
theorem dX6_counted_111 : decode cX6_counted 111 = .ok (.iconst 0, 1) := by decide +kernel
theorem dX6_counted_112 : decode cX6_counted 112 = .ok (.ireturn, 1) := by decide +kernel
theorem dX6_counted_113 : decode cX6_counted 113 = .ok (.aload_n 0, 1) := by decide +kernel
theorem dX6_counted_114 : decode cX6_counted 114 = .ok (.invokevirtual 171, 3) := by decide +kernel
theorem dX6_counted_117 : decode cX6_counted 117 = .ok (.ireturn, 1) := by decide +kernel
theorem dX6_counted_118 : decode cX6_counted 118 = .ok (.aload_n 0, 1) := by decide +kernel
theorem dX6_counted_119 : decode cX6_counted 119 = .ok (.iload_n 1, 1) := by decide +kernel
theorem dX6_counted_120 : decode cX6_counted 120 = .ok (.bipush 9, 2) := by decide +kernel
theorem dX6_counted_122 : decode cX6_counted 122 = .ok (.if_icmp .ne 7, 3) := by decide +kernel
theorem dX6_counted_125 : decode cX6_counted 125 = .ok (.iconst 1, 1) := by decide +kernel
theorem dX6_counted_126 : decode cX6_counted 126 = .ok (.goto 4, 3) := by decide +kernel
theorem dX6_counted_129 : decode cX6_counted 129 = .ok (.iconst 0, 1) := by decide +kernel
theorem dX6_counted_130 : decode cX6_counted 130 = .ok (.invokevirtual 174, 3) := by decide +kernel
theorem dX6_counted_133 : decode cX6_counted 133 = .ok (.ireturn, 1) := by decide +kernel
theorem dX6_counted_134 : decode cX6_counted 134 = .ok (.aload_n 0, 1) := by decide +kernel
theorem dX6_counted_135 : decode cX6_counted 135 = .ok (.invokevirtual 178, 3) := by decide +kernel
theorem dX6_counted_138 : decode cX6_counted 138 = .ok (.ireturn, 1) := by decide +kernel
theorem dX6_counted_139 : decode cX6_counted 139 = .ok (.aload_n 0, 1) := by decide +kernel
theorem dX6_counted_140 : decode cX6_counted 140 = .ok (.getfield 7, 3) := by decide +kernel
theorem dX6_counted_143 : decode cX6_counted 143 = .ok (.iconst 1, 1) := by decide +kernel
theorem dX6_counted_144 : decode cX6_counted 144 = .ok (.iaload, 1) := by decide +kernel
theorem dX6_counted_145 : decode cX6_counted 145 = .ok (.ireturn, 1) := by decide +kernel
theorem dX6_counted_146 : decode cX6_counted 146 = .ok (.aload_n 0, 1) := by decide +kernel
theorem dX6_counted_147 : decode cX6_counted 147 = .ok (.getfield 41, 3) := by decide +kernel
theorem dX6_counted_150 : decode cX6_counted 150 = .ok (.ireturn, 1) := by decide +kernel
theorem dX6_count_0 : decode cX6_count 0 = .ok (.aload_n 0, 1) := by decide +kernel
theorem dX6_count_1 : decode cX6_count 1 = .ok (.iload_n 1, 1) := by decide +kernel
theorem dX6_count_2 : decode cX6_count 2 = .ok (.iconst 0, 1) := by decide +kernel
theorem dX6_count_3 : decode cX6_count 3 = .ok (.bipush 13, 2) := by decide +kernel
theorem dX6_count_5 : decode cX6_count 5 = .ok (.invokestatic 44, 3) := by decide +kernel
theorem dX6_count_8 : decode cX6_count 8 = .ok (.ifCond .eq 7, 3) := by decide +kernel
theorem dX6_count_11 : decode cX6_count 11 = .ok (.iconst 0, 1) := by decide +kernel
theorem dX6_count_12 : decode cX6_count 12 = .ok (.goto 4, 3) := by decide +kernel
theorem dX6_count_15 : decode cX6_count 15 = .ok (.iconst 1, 1) := by decide +kernel
theorem dX6_count_16 : decode cX6_count 16 = .ok (.putfield 37, 3) := by decide +kernel
theorem dX6_count_19 : decode cX6_count 19 = .ok (.aload_n 0, 1) := by decide +kernel
theorem dX6_count_20 : decode cX6_count 20 = .ok (.getfield 37, 3) := by decide +kernel
theorem dX6_count_23 : decode cX6_count 23 = .ok (.ifCond .le 7, 3) := by decide +kernel
theorem dX6_count_26 : decode cX6_count 26 = .ok (.iconst 0, 1) := by decide +kernel
theorem dX6_count_27 : decode cX6_count 27 = .ok (.goto 8, 3) := by decide +kernel
theorem dX6_count_30 : decode cX6_count 30 = .ok (.aload_n 0, 1) := by decide +kernel
theorem dX6_count_31 : decode cX6_count 31 = .ok (.iload_n 1, 1) := by decide +kernel
theorem dX6_count_32 : decode cX6_count 32 = .ok (.invokevirtual 181, 3) := by decide +kernel
theorem dX6_count_35 : decode cX6_count 35 = .ok (.ireturn, 1) := by decide +kernel
theorem dX6_swappedRank_0 : decode cX6_swappedRank 0 = .ok (.aload_n 0, 1) := by decide +kernel
theorem dX6_swappedRank_1 : decode cX6_swappedRank 1 = .ok (.invokevirtual 65, 3) := by decide +kernel
theorem dX6_swappedRank_4 : decode cX6_swappedRank 4 = .ok (.aload_n 0, 1) := by decide +kernel
theorem dX6_swappedRank_5 : decode cX6_swappedRank 5 = .ok (.getfield 22, 3) := by decide +kernel
theorem dX6_swappedRank_8 : decode cX6_swappedRank 8 = .ok (.iload_n 1, 1) := by decide +kernel
theorem dX6_swappedRank_9 : decode cX6_swappedRank 9 = .ok (.aload_n 0, 1) := by decide +kernel
theorem dX6_swappedRank_10 : decode cX6_swappedRank 10 = .ok (.getfield 7, 3) := by decide +kernel
theorem dX6_swappedRank_13 : decode cX6_swappedRank 13 = .ok (.iconst 2, 1) := by decide +kernel
theorem dX6_swappedRank_14 : decode cX6_swappedRank 14 = .ok (.iload_n 2, 1) := by decide +kernel
theorem dX6_swappedRank_15 : decode cX6_swappedRank 15 = .ok (.iadd, 1) := by decide +kernel
theorem dX6_swappedRank_16 : decode cX6_swappedRank 16 = .ok (.iaload, 1) := by decide +kernel
theorem dX6_swappedRank_17 : decode cX6_swappedRank 17 = .ok (.iastore, 1) := by decide +kernel
theorem dX6_swappedRank_18 : decode cX6_swappedRank 18 = .ok (.aload_n 0, 1) := by decide +kernel
theorem dX6_swappedRank_19 : decode cX6_swappedRank 19 = .ok (.getfield 22, 3) := by decide +kernel
theorem dX6_swappedRank_22 : decode cX6_swappedRank 22 = .ok (.iload_n 2, 1) := by decide +kernel
theorem dX6_swappedRank_23 : decode cX6_swappedRank 23 = .ok (.aload_n 0, 1) := by decide +kernel
theorem dX6_swappedRank_24 : decode cX6_swappedRank 24 = .ok (.getfield 7, 3) := by decide +kernel
theorem dX6_swappedRank_27 : decode cX6_swappedRank 27 = .ok (.iconst 2, 1) := by decide +kernel
theorem dX6_swappedRank_28 : decode cX6_swappedRank 28 = .ok (.iload_n 1, 1) := by decide +kernel
theorem dX6_swappedRank_29 : decode cX6_swappedRank 29 = .ok (.iadd, 1) := by decide +kernel
theorem dX6_swappedRank_30 : decode cX6_swappedRank 30 = .ok (.iaload, 1) := by decide +kernel
theorem dX6_swappedRank_31 : decode cX6_swappedRank 31 = .ok (.iastore, 1) := by decide +kernel
theorem dX6_swappedRank_32 : decode cX6_swappedRank 32 = .ok (.aload_n 0, 1) := by decide +kernel
theorem dX6_swappedRank_33 : decode cX6_swappedRank 33 = .ok (.invokevirtual 68, 3) := by decide +kernel
theorem dX6_swappedRank_36 : decode cX6_swappedRank 36 = .ok (.ireturn, 1) := by decide +kernel
theorem dX6_ifSwapped_0 : decode cX6_ifSwapped 0 = .ok (.aload_n 0, 1) := by decide +kernel
theorem dX6_ifSwapped_1 : decode cX6_ifSwapped 1 = .ok (.aload_n 0, 1) := by decide +kernel
theorem dX6_ifSwapped_2 : decode cX6_ifSwapped 2 = .ok (.iload_n 1, 1) := by decide +kernel
theorem dX6_ifSwapped_3 : decode cX6_ifSwapped 3 = .ok (.invokevirtual 126, 3) := by decide +kernel
theorem dX6_ifSwapped_6 : decode cX6_ifSwapped 6 = .ok (.ifCond .eq 15, 3) := by decide +kernel
theorem dX6_ifSwapped_9 : decode cX6_ifSwapped 9 = .ok (.aload_n 0, 1) := by decide +kernel
theorem dX6_ifSwapped_10 : decode cX6_ifSwapped 10 = .ok (.iload_n 2, 1) := by decide +kernel
theorem dX6_ifSwapped_11 : decode cX6_ifSwapped 11 = .ok (.invokevirtual 126, 3) := by decide +kernel
theorem dX6_ifSwapped_14 : decode cX6_ifSwapped 14 = .ok (.ifCond .eq 7, 3) := by decide +kernel
theorem dX6_ifSwapped_17 : decode cX6_ifSwapped 17 = .ok (.iconst 0, 1) := by decide +kernel
theorem dX6_ifSwapped_18 : decode cX6_ifSwapped 18 = .ok (.goto 4, 3) := by decide +kernel
theorem dX6_ifSwapped_21 : decode cX6_ifSwapped 21 = .ok (.iconst 1, 1) := by decide +kernel
theorem dX6_ifSwapped_22 : decode cX6_ifSwapped 22 = .ok (.putfield 37, 3) := by decide +kernel
theorem dX6_ifSwapped_25 : decode cX6_ifSwapped 25 = .ok (.aload_n 0, 1) := by decide +kernel
theorem dX6_ifSwapped_26 : decode cX6_ifSwapped 26 = .ok (.getfield 37, 3) := by decide +kernel
theorem dX6_ifSwapped_29 : decode cX6_ifSwapped 29 = .ok (.ifCond .le 7, 3) := by decide +kernel
theorem dX6_ifSwapped_32 : decode cX6_ifSwapped 32 = .ok (.iconst 0, 1) := by decide +kernel
theorem dX6_ifSwapped_33 : decode cX6_ifSwapped 33 = .ok (.goto 9, 3) := by decide +kernel
theorem dX6_ifSwapped_36 : decode cX6_ifSwapped 36 = .ok (.aload_n 0, 1) := by decide +kernel
theorem dX6_ifSwapped_37 : decode cX6_ifSwapped 37 = .ok (.iload_n 1, 1) := by decide +kernel
theorem dX6_ifSwapped_38 : decode cX6_ifSwapped 38 = .ok (.iload_n 2, 1) := by decide +kernel
theorem dX6_ifSwapped_39 : decode cX6_ifSwapped 39 = .ok (.invokevirtual 184, 3) := by decide +kernel
theorem dX6_ifSwapped_42 : decode cX6_ifSwapped 42 = .ok (.ireturn, 1) := by decide +kernel
theorem dX6_signAt_0 : decode cX6_signAt 0 = .ok (.aload_n 0, 1) := by decide +kernel
theorem dX6_signAt_1 : decode cX6_signAt 1 = .ok (.iload_n 1, 1) := by decide +kernel
theorem dX6_signAt_2 : decode cX6_signAt 2 = .ok (.invokevirtual 103, 3) := by decide +kernel
theorem dX6_signAt_5 : decode cX6_signAt 5 = .ok (.aload_n 0, 1) := by decide +kernel
theorem dX6_signAt_6 : decode cX6_signAt 6 = .ok (.getfield 22, 3) := by decide +kernel
theorem dX6_signAt_9 : decode cX6_signAt 9 = .ok (.iload_n 2, 1) := by decide +kernel
theorem dX6_signAt_10 : decode cX6_signAt 10 = .ok (.iaload, 1) := by decide +kernel
theorem dX6_signAt_11 : decode cX6_signAt 11 = .ok (.ireturn, 1) := by decide +kernel
theorem dX6_signOf_0 : decode cX6_signOf 0 = .ok (.aload_n 0, 1) := by decide +kernel
theorem dX6_signOf_1 : decode cX6_signOf 1 = .ok (.aload_n 0, 1) := by decide +kernel
theorem dX6_signOf_2 : decode cX6_signOf 2 = .ok (.iload_n 2, 1) := by decide +kernel
theorem dX6_signOf_3 : decode cX6_signOf 3 = .ok (.invokevirtual 126, 3) := by decide +kernel
theorem dX6_signOf_6 : decode cX6_signOf 6 = .ok (.ifCond .ne 7, 3) := by decide +kernel
theorem dX6_signOf_9 : decode cX6_signOf 9 = .ok (.iconst 1, 1) := by decide +kernel
theorem dX6_signOf_10 : decode cX6_signOf 10 = .ok (.goto 16, 3) := by decide +kernel
theorem dX6_signOf_13 : decode cX6_signOf 13 = .ok (.aload_n 0, 1) := by decide +kernel
theorem dX6_signOf_14 : decode cX6_signOf 14 = .ok (.iload_n 1, 1) := by decide +kernel
theorem dX6_signOf_15 : decode cX6_signOf 15 = .ok (.invokevirtual 93, 3) := by decide +kernel
theorem dX6_signOf_18 : decode cX6_signOf 18 = .ok (.ifCond .eq 7, 3) := by decide +kernel
theorem dX6_signOf_21 : decode cX6_signOf 21 = .ok (.iconst 0, 1) := by decide +kernel
theorem dX6_signOf_22 : decode cX6_signOf 22 = .ok (.goto 4, 3) := by decide +kernel
theorem dX6_signOf_25 : decode cX6_signOf 25 = .ok (.iconst 2, 1) := by decide +kernel
theorem dX6_signOf_26 : decode cX6_signOf 26 = .ok (.putfield 37, 3) := by decide +kernel
theorem dX6_signOf_29 : decode cX6_signOf 29 = .ok (.aload_n 0, 1) := by decide +kernel
theorem dX6_signOf_30 : decode cX6_signOf 30 = .ok (.getfield 37, 3) := by decide +kernel
theorem dX6_signOf_33 : decode cX6_signOf 33 = .ok (.ifCond .le 7, 3) := by decide +kernel
theorem dX6_signOf_36 : decode cX6_signOf 36 = .ok (.iconst 0, 1) := by decide +kernel
theorem dX6_signOf_37 : decode cX6_signOf 37 = .ok (.goto 9, 3) := by decide +kernel
theorem dX6_signOf_40 : decode cX6_signOf 40 = .ok (.aload_n 0, 1) := by decide +kernel
theorem dX6_signOf_41 : decode cX6_signOf 41 = .ok (.iload_n 1, 1) := by decide +kernel
theorem dX6_signOf_42 : decode cX6_signOf 42 = .ok (.iload_n 2, 1) := by decide +kernel
theorem dX6_signOf_43 : decode cX6_signOf 43 = .ok (.invokevirtual 187, 3) := by decide +kernel
theorem dX6_signOf_46 : decode cX6_signOf 46 = .ok (.ireturn, 1) := by decide +kernel
theorem dX6_rowsWithBoth_0 : decode cX6_rowsWithBoth 0 = .ok (.aload_n 0, 1) := by decide +kernel
theorem dX6_rowsWithBoth_1 : decode cX6_rowsWithBoth 1 = .ok (.getfield 19, 3) := by decide +kernel
theorem dX6_rowsWithBoth_4 : decode cX6_rowsWithBoth 4 = .ok (.iload_n 1, 1) := by decide +kernel
theorem dX6_rowsWithBoth_5 : decode cX6_rowsWithBoth 5 = .ok (.iaload, 1) := by decide +kernel
theorem dX6_rowsWithBoth_6 : decode cX6_rowsWithBoth 6 = .ok (.ifCond .ne 5, 3) := by decide +kernel
theorem dX6_rowsWithBoth_9 : decode cX6_rowsWithBoth 9 = .ok (.iconst 0, 1) := by decide +kernel
theorem dX6_rowsWithBoth_10 : decode cX6_rowsWithBoth 10 = .ok (.ireturn, 1) := by decide +kernel
theorem dX6_rowsWithBoth_11 : decode cX6_rowsWithBoth 11 = .ok (.aload_n 0, 1) := by decide +kernel
theorem dX6_rowsWithBoth_12 : decode cX6_rowsWithBoth 12 = .ok (.getfield 19, 3) := by decide +kernel
theorem dX6_rowsWithBoth_15 : decode cX6_rowsWithBoth 15 = .ok (.iload_n 1, 1) := by decide +kernel
theorem dX6_rowsWithBoth_16 : decode cX6_rowsWithBoth 16 = .ok (.dup2, 1) := by decide +kernel
theorem dX6_rowsWithBoth_17 : decode cX6_rowsWithBoth 17 = .ok (.iaload, 1) := by decide +kernel
theorem dX6_rowsWithBoth_18 : decode cX6_rowsWithBoth 18 = .ok (.iconst 1, 1) := by decide +kernel
theorem dX6_rowsWithBoth_19 : decode cX6_rowsWithBoth 19 = .ok (.isub, 1) := by decide +kernel
theorem dX6_rowsWithBoth_20 : decode cX6_rowsWithBoth 20 = .ok (.iastore, 1) := by decide +kernel
theorem dX6_rowsWithBoth_21 : decode cX6_rowsWithBoth 21 = .ok (.aload_n 0, 1) := by decide +kernel
theorem dX6_rowsWithBoth_22 : decode cX6_rowsWithBoth 22 = .ok (.iload_n 2, 1) := by decide +kernel
theorem dX6_rowsWithBoth_23 : decode cX6_rowsWithBoth 23 = .ok (.invokevirtual 59, 3) := by decide +kernel
theorem dX6_rowsWithBoth_26 : decode cX6_rowsWithBoth 26 = .ok (.istore_n 3, 1) := by decide +kernel
theorem dX6_rowsWithBoth_27 : decode cX6_rowsWithBoth 27 = .ok (.aload_n 0, 1) := by decide +kernel
theorem dX6_rowsWithBoth_28 : decode cX6_rowsWithBoth 28 = .ok (.getfield 19, 3) := by decide +kernel
theorem dX6_rowsWithBoth_31 : decode cX6_rowsWithBoth 31 = .ok (.iload_n 1, 1) := by decide +kernel
theorem dX6_rowsWithBoth_32 : decode cX6_rowsWithBoth 32 = .ok (.dup2, 1) := by decide +kernel
theorem dX6_rowsWithBoth_33 : decode cX6_rowsWithBoth 33 = .ok (.iaload, 1) := by decide +kernel
theorem dX6_rowsWithBoth_34 : decode cX6_rowsWithBoth 34 = .ok (.iconst 1, 1) := by decide +kernel
theorem dX6_rowsWithBoth_35 : decode cX6_rowsWithBoth 35 = .ok (.iadd, 1) := by decide +kernel
theorem dX6_rowsWithBoth_36 : decode cX6_rowsWithBoth 36 = .ok (.iastore, 1) := by decide +kernel
theorem dX6_rowsWithBoth_37 : decode cX6_rowsWithBoth 37 = .ok (.iload_n 3, 1) := by decide +kernel
theorem dX6_rowsWithBoth_38 : decode cX6_rowsWithBoth 38 = .ok (.ireturn, 1) := by decide +kernel
theorem dX6_havingBelow_0 : decode cX6_havingBelow 0 = .ok (.iload_n 1, 1) := by decide +kernel
theorem dX6_havingBelow_1 : decode cX6_havingBelow 1 = .ok (.aload_n 0, 1) := by decide +kernel
theorem dX6_havingBelow_2 : decode cX6_havingBelow 2 = .ok (.invokevirtual 71, 3) := by decide +kernel
theorem dX6_havingBelow_5 : decode cX6_havingBelow 5 = .ok (.if_icmp .ne 9, 3) := by decide +kernel
theorem dX6_havingBelow_8 : decode cX6_havingBelow 8 = .ok (.aload_n 0, 1) := by decide +kernel
theorem dX6_havingBelow_9 : decode cX6_havingBelow 9 = .ok (.iload_n 3, 1) := by decide +kernel
theorem dX6_havingBelow_10 : decode cX6_havingBelow 10 = .ok (.invokevirtual 59, 3) := by decide +kernel
theorem dX6_havingBelow_13 : decode cX6_havingBelow 13 = .ok (.ireturn, 1) := by decide +kernel
theorem dX6_havingBelow_14 : decode cX6_havingBelow 14 = .ok (.aload_n 0, 1) := by decide +kernel
theorem dX6_havingBelow_15 : decode cX6_havingBelow 15 = .ok (.iload_n 1, 1) := by decide +kernel
theorem dX6_havingBelow_16 : decode cX6_havingBelow 16 = .ok (.invokevirtual 103, 3) := by decide +kernel
theorem dX6_havingBelow_19 : decode cX6_havingBelow 19 = .ok (.aload_n 0, 1) := by decide +kernel
theorem dX6_havingBelow_20 : decode cX6_havingBelow 20 = .ok (.invokevirtual 56, 3) := by decide +kernel
theorem dX6_havingBelow_23 : decode cX6_havingBelow 23 = .ok (.iconst 0, 1) := by decide +kernel
theorem dX6_havingBelow_24 : decode cX6_havingBelow 24 = .ok (.istore 4, 2) := by decide +kernel
theorem dX6_havingBelow_26 : decode cX6_havingBelow 26 = .ok (.iconst 0, 1) := by decide +kernel
theorem dX6_havingBelow_27 : decode cX6_havingBelow 27 = .ok (.istore 5, 2) := by decide +kernel
theorem dX6_havingBelow_29 : decode cX6_havingBelow 29 = .ok (.iload 5, 2) := by decide +kernel
theorem dX6_havingBelow_31 : decode cX6_havingBelow 31 = .ok (.aload_n 0, 1) := by decide +kernel
theorem dX6_havingBelow_32 : decode cX6_havingBelow 32 = .ok (.getfield 7, 3) := by decide +kernel
theorem dX6_havingBelow_35 : decode cX6_havingBelow 35 = .ok (.iconst 0, 1) := by decide +kernel
theorem dX6_havingBelow_36 : decode cX6_havingBelow 36 = .ok (.iaload, 1) := by decide +kernel
theorem dX6_havingBelow_37 : decode cX6_havingBelow 37 = .ok (.if_icmp .ge 119, 3) := by decide +kernel
theorem dX6_havingBelow_40 : decode cX6_havingBelow 40 = .ok (.iconst 0, 1) := by decide +kernel
theorem dX6_havingBelow_41 : decode cX6_havingBelow 41 = .ok (.istore 6, 2) := by decide +kernel
theorem dX6_havingBelow_43 : decode cX6_havingBelow 43 = .ok (.iload 6, 2) := by decide +kernel
theorem dX6_havingBelow_45 : decode cX6_havingBelow 45 = .ok (.aload_n 0, 1) := by decide +kernel
theorem dX6_havingBelow_46 : decode cX6_havingBelow 46 = .ok (.getfield 22, 3) := by decide +kernel
theorem dX6_havingBelow_49 : decode cX6_havingBelow 49 = .ok (.iload 5, 2) := by decide +kernel
theorem dX6_havingBelow_51 : decode cX6_havingBelow 51 = .ok (.iaload, 1) := by decide +kernel
theorem dX6_havingBelow_52 : decode cX6_havingBelow 52 = .ok (.if_icmp .ge 82, 3) := by decide +kernel
theorem dX6_havingBelow_55 : decode cX6_havingBelow 55 = .ok (.iload 5, 2) := by decide +kernel
theorem dX6_havingBelow_57 : decode cX6_havingBelow 57 = .ok (.iload_n 2, 1) := by decide +kernel
theorem dX6_havingBelow_58 : decode cX6_havingBelow 58 = .ok (.if_icmp .ne 17, 3) := by decide +kernel
theorem dX6_havingBelow_61 : decode cX6_havingBelow 61 = .ok (.iload 6, 2) := by decide +kernel
theorem dX6_havingBelow_63 : decode cX6_havingBelow 63 = .ok (.iload_n 3, 1) := by decide +kernel
theorem dX6_havingBelow_64 : decode cX6_havingBelow 64 = .ok (.if_icmp .ne 7, 3) := by decide +kernel
theorem dX6_havingBelow_67 : decode cX6_havingBelow 67 = .ok (.iconst 1, 1) := by decide +kernel
theorem dX6_havingBelow_68 : decode cX6_havingBelow 68 = .ok (.goto 22, 3) := by decide +kernel
theorem dX6_havingBelow_71 : decode cX6_havingBelow 71 = .ok (.iconst 0, 1) := by decide +kernel
theorem dX6_havingBelow_72 : decode cX6_havingBelow 72 = .ok (.goto 18, 3) := by decide +kernel
theorem dX6_havingBelow_75 : decode cX6_havingBelow 75 = .ok (.aload_n 0, 1) := by decide +kernel
theorem dX6_havingBelow_76 : decode cX6_havingBelow 76 = .ok (.getfield 22, 3) := by decide +kernel
theorem dX6_havingBelow_79 : decode cX6_havingBelow 79 = .ok (.iload_n 2, 1) := by decide +kernel
theorem dX6_havingBelow_80 : decode cX6_havingBelow 80 = .ok (.iaload, 1) := by decide +kernel
theorem dX6_havingBelow_81 : decode cX6_havingBelow 81 = .ok (.iload_n 3, 1) := by decide +kernel
theorem dX6_havingBelow_82 : decode cX6_havingBelow 82 = .ok (.if_icmp .ne 7, 3) := by decide +kernel
theorem dX6_havingBelow_85 : decode cX6_havingBelow 85 = .ok (.iconst 1, 1) := by decide +kernel
theorem dX6_havingBelow_86 : decode cX6_havingBelow 86 = .ok (.goto 4, 3) := by decide +kernel
theorem dX6_havingBelow_89 : decode cX6_havingBelow 89 = .ok (.iconst 0, 1) := by decide +kernel
theorem dX6_havingBelow_90 : decode cX6_havingBelow 90 = .ok (.istore 7, 2) := by decide +kernel
theorem dX6_havingBelow_92 : decode cX6_havingBelow 92 = .ok (.iload 4, 2) := by decide +kernel
theorem dX6_havingBelow_94 : decode cX6_havingBelow 94 = .ok (.iload 5, 2) := by decide +kernel
theorem dX6_havingBelow_96 : decode cX6_havingBelow 96 = .ok (.iload_n 2, 1) := by decide +kernel
theorem dX6_havingBelow_97 : decode cX6_havingBelow 97 = .ok (.if_icmp .ge 13, 3) := by decide +kernel
theorem dX6_havingBelow_100 : decode cX6_havingBelow 100 = .ok (.aload_n 0, 1) := by decide +kernel
theorem dX6_havingBelow_101 : decode cX6_havingBelow 101 = .ok (.iload 6, 2) := by decide +kernel
theorem dX6_havingBelow_103 : decode cX6_havingBelow 103 = .ok (.iload_n 3, 1) := by decide +kernel
theorem dX6_havingBelow_104 : decode cX6_havingBelow 104 = .ok (.invokevirtual 190, 3) := by decide +kernel
theorem dX6_havingBelow_107 : decode cX6_havingBelow 107 = .ok (.goto 18, 3) := by decide +kernel
theorem dX6_havingBelow_110 : decode cX6_havingBelow 110 = .ok (.iload 7, 2) := by decide +kernel
theorem dX6_havingBelow_112 : decode cX6_havingBelow 112 = .ok (.ifCond .eq 12, 3) := by decide +kernel
theorem dX6_havingBelow_115 : decode cX6_havingBelow 115 = .ok (.aload_n 0, 1) := by decide +kernel
theorem dX6_havingBelow_116 : decode cX6_havingBelow 116 = .ok (.iload 6, 2) := by decide +kernel
theorem dX6_havingBelow_118 : decode cX6_havingBelow 118 = .ok (.invokevirtual 59, 3) := by decide +kernel
theorem dX6_havingBelow_121 : decode cX6_havingBelow 121 = .ok (.goto 4, 3) := by decide +kernel
theorem dX6_havingBelow_124 : decode cX6_havingBelow 124 = .ok (.iconst 0, 1) := by decide +kernel
theorem dX6_havingBelow_125 : decode cX6_havingBelow 125 = .ok (.iadd, 1) := by decide +kernel
theorem dX6_havingBelow_126 : decode cX6_havingBelow 126 = .ok (.istore 4, 2) := by decide +kernel
theorem dX6_havingBelow_128 : decode cX6_havingBelow 128 = .ok (.iinc 6 1, 3) := by decide +kernel
theorem dX6_havingBelow_131 : decode cX6_havingBelow 131 = .ok (.goto (-88), 3) := by decide +kernel
theorem dX6_havingBelow_134 : decode cX6_havingBelow 134 = .ok (.aload_n 0, 1) := by decide +kernel
theorem dX6_havingBelow_135 : decode cX6_havingBelow 135 = .ok (.getfield 19, 3) := by decide +kernel
theorem dX6_havingBelow_138 : decode cX6_havingBelow 138 = .ok (.aload_n 0, 1) := by decide +kernel
theorem dX6_havingBelow_139 : decode cX6_havingBelow 139 = .ok (.getfield 22, 3) := by decide +kernel
theorem dX6_havingBelow_142 : decode cX6_havingBelow 142 = .ok (.iload 5, 2) := by decide +kernel
theorem dX6_havingBelow_144 : decode cX6_havingBelow 144 = .ok (.iaload, 1) := by decide +kernel
theorem dX6_havingBelow_145 : decode cX6_havingBelow 145 = .ok (.dup2, 1) := by decide +kernel
theorem dX6_havingBelow_146 : decode cX6_havingBelow 146 = .ok (.iaload, 1) := by decide +kernel
theorem dX6_havingBelow_147 : decode cX6_havingBelow 147 = .ok (.iconst 1, 1) := by decide +kernel
theorem dX6_havingBelow_148 : decode cX6_havingBelow 148 = .ok (.isub, 1) := by decide +kernel
theorem dX6_havingBelow_149 : decode cX6_havingBelow 149 = .ok (.iastore, 1) := by decide +kernel
theorem dX6_havingBelow_150 : decode cX6_havingBelow 150 = .ok (.iinc 5 1, 3) := by decide +kernel
theorem dX6_havingBelow_153 : decode cX6_havingBelow 153 = .ok (.goto (-124), 3) := by decide +kernel
theorem dX6_havingBelow_156 : decode cX6_havingBelow 156 = .ok (.iload 4, 2) := by decide +kernel
theorem dX6_havingBelow_158 : decode cX6_havingBelow 158 = .ok (.ireturn, 1) := by decide +kernel
theorem dX6_havingIn_0 : decode cX6_havingIn 0 = .ok (.aload_n 0, 1) := by decide +kernel
theorem dX6_havingIn_1 : decode cX6_havingIn 1 = .ok (.iload_n 2, 1) := by decide +kernel
theorem dX6_havingIn_2 : decode cX6_havingIn 2 = .ok (.iload_n 3, 1) := by decide +kernel
theorem dX6_havingIn_3 : decode cX6_havingIn 3 = .ok (.iload 4, 2) := by decide +kernel
theorem dX6_havingIn_5 : decode cX6_havingIn 5 = .ok (.invokevirtual 193, 3) := by decide +kernel
theorem dX6_havingIn_8 : decode cX6_havingIn 8 = .ok (.istore 5, 2) := by decide +kernel
theorem dX6_havingIn_10 : decode cX6_havingIn 10 = .ok (.iload 5, 2) := by decide +kernel
theorem dX6_havingIn_12 : decode cX6_havingIn 12 = .ok (.aload_n 0, 1) := by decide +kernel
theorem dX6_havingIn_13 : decode cX6_havingIn 13 = .ok (.iload_n 1, 1) := by decide +kernel
theorem dX6_havingIn_14 : decode cX6_havingIn 14 = .ok (.iload_n 3, 1) := by decide +kernel
theorem dX6_havingIn_15 : decode cX6_havingIn 15 = .ok (.iload 4, 2) := by decide +kernel
theorem dX6_havingIn_17 : decode cX6_havingIn 17 = .ok (.invokevirtual 193, 3) := by decide +kernel
theorem dX6_havingIn_20 : decode cX6_havingIn 20 = .ok (.isub, 1) := by decide +kernel
theorem dX6_havingIn_21 : decode cX6_havingIn 21 = .ok (.ireturn, 1) := by decide +kernel
theorem dX6_having_0 : decode cX6_having 0 = .ok (.iload_n 2, 1) := by decide +kernel
theorem dX6_having_1 : decode cX6_having 1 = .ok (.iconst 0, 1) := by decide +kernel
theorem dX6_having_2 : decode cX6_having 2 = .ok (.aload_n 0, 1) := by decide +kernel
theorem dX6_having_3 : decode cX6_having 3 = .ok (.invokevirtual 71, 3) := by decide +kernel
theorem dX6_having_6 : decode cX6_having 6 = .ok (.invokestatic 44, 3) := by decide +kernel
theorem dX6_having_9 : decode cX6_having 9 = .ok (.ifCond .eq 16, 3) := by decide +kernel
theorem dX6_having_12 : decode cX6_having 12 = .ok (.iload_n 1, 1) := by decide +kernel
theorem dX6_having_13 : decode cX6_having 13 = .ok (.iconst 0, 1) := by decide +kernel
theorem dX6_having_14 : decode cX6_having 14 = .ok (.iload_n 2, 1) := by decide +kernel
theorem dX6_having_15 : decode cX6_having 15 = .ok (.invokestatic 44, 3) := by decide +kernel
theorem dX6_having_18 : decode cX6_having 18 = .ok (.ifCond .eq 7, 3) := by decide +kernel
theorem dX6_having_21 : decode cX6_having 21 = .ok (.iconst 1, 1) := by decide +kernel
theorem dX6_having_22 : decode cX6_having 22 = .ok (.goto 4, 3) := by decide +kernel
theorem dX6_having_25 : decode cX6_having 25 = .ok (.iconst 0, 1) := by decide +kernel
theorem dX6_having_26 : decode cX6_having 26 = .ok (.istore 5, 2) := by decide +kernel
theorem dX6_having_28 : decode cX6_having 28 = .ok (.aload_n 0, 1) := by decide +kernel
theorem dX6_having_29 : decode cX6_having 29 = .ok (.aload_n 0, 1) := by decide +kernel
theorem dX6_having_30 : decode cX6_having 30 = .ok (.iload_n 3, 1) := by decide +kernel
theorem dX6_having_31 : decode cX6_having 31 = .ok (.invokevirtual 126, 3) := by decide +kernel
theorem dX6_having_34 : decode cX6_having 34 = .ok (.ifCond .ne 7, 3) := by decide +kernel
theorem dX6_having_37 : decode cX6_having 37 = .ok (.iconst 1, 1) := by decide +kernel
theorem dX6_having_38 : decode cX6_having 38 = .ok (.goto 21, 3) := by decide +kernel
theorem dX6_having_41 : decode cX6_having 41 = .ok (.iload 5, 2) := by decide +kernel
theorem dX6_having_43 : decode cX6_having 43 = .ok (.ifCond .eq 15, 3) := by decide +kernel
theorem dX6_having_46 : decode cX6_having 46 = .ok (.iload 4, 2) := by decide +kernel
theorem dX6_having_48 : decode cX6_having 48 = .ok (.invokestatic 139, 3) := by decide +kernel
theorem dX6_having_51 : decode cX6_having 51 = .ok (.ifCond .eq 7, 3) := by decide +kernel
theorem dX6_having_54 : decode cX6_having 54 = .ok (.iconst 0, 1) := by decide +kernel
theorem dX6_having_55 : decode cX6_having 55 = .ok (.goto 4, 3) := by decide +kernel
theorem dX6_having_58 : decode cX6_having 58 = .ok (.iconst 2, 1) := by decide +kernel
theorem dX6_having_59 : decode cX6_having 59 = .ok (.putfield 37, 3) := by decide +kernel
theorem dX6_having_62 : decode cX6_having 62 = .ok (.aload_n 0, 1) := by decide +kernel
theorem dX6_having_63 : decode cX6_having 63 = .ok (.getfield 37, 3) := by decide +kernel
theorem dX6_having_66 : decode cX6_having 66 = .ok (.ifCond .le 7, 3) := by decide +kernel
theorem dX6_having_69 : decode cX6_having 69 = .ok (.iconst 0, 1) := by decide +kernel
theorem dX6_having_70 : decode cX6_having 70 = .ok (.goto 12, 3) := by decide +kernel
theorem dX6_having_73 : decode cX6_having 73 = .ok (.aload_n 0, 1) := by decide +kernel
theorem dX6_having_74 : decode cX6_having 74 = .ok (.iload_n 1, 1) := by decide +kernel
theorem dX6_having_75 : decode cX6_having 75 = .ok (.iload_n 2, 1) := by decide +kernel
theorem dX6_having_76 : decode cX6_having 76 = .ok (.iload_n 3, 1) := by decide +kernel
theorem dX6_having_77 : decode cX6_having 77 = .ok (.iload 4, 2) := by decide +kernel
theorem dX6_having_79 : decode cX6_having 79 = .ok (.invokevirtual 196, 3) := by decide +kernel
theorem dX6_having_82 : decode cX6_having 82 = .ok (.ireturn, 1) := by decide +kernel
theorem dX6_stepsNow_0 : decode cX6_stepsNow 0 = .ok (.aload_n 0, 1) := by decide +kernel
theorem dX6_stepsNow_1 : decode cX6_stepsNow 1 = .ok (.iload_n 1, 1) := by decide +kernel
theorem dX6_stepsNow_2 : decode cX6_stepsNow 2 = .ok (.invokevirtual 103, 3) := by decide +kernel
theorem dX6_stepsNow_5 : decode cX6_stepsNow 5 = .ok (.iconst 0, 1) := by decide +kernel
theorem dX6_stepsNow_6 : decode cX6_stepsNow 6 = .ok (.istore_n 2, 1) := by decide +kernel
theorem dX6_stepsNow_7 : decode cX6_stepsNow 7 = .ok (.iload_n 2, 1) := by decide +kernel
theorem dX6_stepsNow_8 : decode cX6_stepsNow 8 = .ok (.aload_n 0, 1) := by decide +kernel
theorem dX6_stepsNow_9 : decode cX6_stepsNow 9 = .ok (.getfield 7, 3) := by decide +kernel
theorem dX6_stepsNow_12 : decode cX6_stepsNow 12 = .ok (.iconst 0, 1) := by decide +kernel
theorem dX6_stepsNow_13 : decode cX6_stepsNow 13 = .ok (.iaload, 1) := by decide +kernel
theorem dX6_stepsNow_14 : decode cX6_stepsNow 14 = .ok (.if_icmp .ge 23, 3) := by decide +kernel
theorem dX6_stepsNow_17 : decode cX6_stepsNow 17 = .ok (.aload_n 0, 1) := by decide +kernel
theorem dX6_stepsNow_18 : decode cX6_stepsNow 18 = .ok (.getfield 34, 3) := by decide +kernel
theorem dX6_stepsNow_21 : decode cX6_stepsNow 21 = .ok (.iload_n 2, 1) := by decide +kernel
theorem dX6_stepsNow_22 : decode cX6_stepsNow 22 = .ok (.aload_n 0, 1) := by decide +kernel
theorem dX6_stepsNow_23 : decode cX6_stepsNow 23 = .ok (.getfield 7, 3) := by decide +kernel
theorem dX6_stepsNow_26 : decode cX6_stepsNow 26 = .ok (.iconst 2, 1) := by decide +kernel
theorem dX6_stepsNow_27 : decode cX6_stepsNow 27 = .ok (.iload_n 2, 1) := by decide +kernel
theorem dX6_stepsNow_28 : decode cX6_stepsNow 28 = .ok (.iadd, 1) := by decide +kernel
theorem dX6_stepsNow_29 : decode cX6_stepsNow 29 = .ok (.iaload, 1) := by decide +kernel
theorem dX6_stepsNow_30 : decode cX6_stepsNow 30 = .ok (.iastore, 1) := by decide +kernel
theorem dX6_stepsNow_31 : decode cX6_stepsNow 31 = .ok (.iinc 2 1, 3) := by decide +kernel
theorem dX6_stepsNow_34 : decode cX6_stepsNow 34 = .ok (.goto (-27), 3) := by decide +kernel
theorem dX6_stepsNow_37 : decode cX6_stepsNow 37 = .ok (.iconst 0, 1) := by decide +kernel
theorem dX6_stepsNow_38 : decode cX6_stepsNow 38 = .ok (.istore_n 2, 1) := by decide +kernel
theorem dX6_stepsNow_39 : decode cX6_stepsNow 39 = .ok (.iconst 0, 1) := by decide +kernel
theorem dX6_stepsNow_40 : decode cX6_stepsNow 40 = .ok (.istore_n 3, 1) := by decide +kernel
theorem dX6_stepsNow_41 : decode cX6_stepsNow 41 = .ok (.iload_n 3, 1) := by decide +kernel
theorem dX6_stepsNow_42 : decode cX6_stepsNow 42 = .ok (.aload_n 0, 1) := by decide +kernel
theorem dX6_stepsNow_43 : decode cX6_stepsNow 43 = .ok (.getfield 7, 3) := by decide +kernel
theorem dX6_stepsNow_46 : decode cX6_stepsNow 46 = .ok (.iconst 0, 1) := by decide +kernel
theorem dX6_stepsNow_47 : decode cX6_stepsNow 47 = .ok (.iaload, 1) := by decide +kernel
theorem dX6_stepsNow_48 : decode cX6_stepsNow 48 = .ok (.if_icmp .ge 73, 3) := by decide +kernel
theorem dX6_stepsNow_51 : decode cX6_stepsNow 51 = .ok (.iload_n 3, 1) := by decide +kernel
theorem dX6_stepsNow_52 : decode cX6_stepsNow 52 = .ok (.istore 4, 2) := by decide +kernel
theorem dX6_stepsNow_54 : decode cX6_stepsNow 54 = .ok (.aload_n 0, 1) := by decide +kernel
theorem dX6_stepsNow_55 : decode cX6_stepsNow 55 = .ok (.getfield 34, 3) := by decide +kernel
theorem dX6_stepsNow_58 : decode cX6_stepsNow 58 = .ok (.iload 4, 2) := by decide +kernel
theorem dX6_stepsNow_60 : decode cX6_stepsNow 60 = .ok (.iaload, 1) := by decide +kernel
theorem dX6_stepsNow_61 : decode cX6_stepsNow 61 = .ok (.aload_n 0, 1) := by decide +kernel
theorem dX6_stepsNow_62 : decode cX6_stepsNow 62 = .ok (.getfield 22, 3) := by decide +kernel
theorem dX6_stepsNow_65 : decode cX6_stepsNow 65 = .ok (.iload_n 3, 1) := by decide +kernel
theorem dX6_stepsNow_66 : decode cX6_stepsNow 66 = .ok (.iaload, 1) := by decide +kernel
theorem dX6_stepsNow_67 : decode cX6_stepsNow 67 = .ok (.if_icmp .eq 9, 3) := by decide +kernel
theorem dX6_stepsNow_70 : decode cX6_stepsNow 70 = .ok (.iinc 4 1, 3) := by decide +kernel
theorem dX6_stepsNow_73 : decode cX6_stepsNow 73 = .ok (.goto (-19), 3) := by decide +kernel
theorem dX6_stepsNow_76 : decode cX6_stepsNow 76 = .ok (.iload_n 2, 1) := by decide +kernel
theorem dX6_stepsNow_77 : decode cX6_stepsNow 77 = .ok (.iload 4, 2) := by decide +kernel
theorem dX6_stepsNow_79 : decode cX6_stepsNow 79 = .ok (.iload_n 3, 1) := by decide +kernel
theorem dX6_stepsNow_80 : decode cX6_stepsNow 80 = .ok (.isub, 1) := by decide +kernel
theorem dX6_stepsNow_81 : decode cX6_stepsNow 81 = .ok (.iadd, 1) := by decide +kernel
theorem dX6_stepsNow_82 : decode cX6_stepsNow 82 = .ok (.istore_n 2, 1) := by decide +kernel
theorem dX6_stepsNow_83 : decode cX6_stepsNow 83 = .ok (.iload 4, 2) := by decide +kernel
theorem dX6_stepsNow_85 : decode cX6_stepsNow 85 = .ok (.istore 5, 2) := by decide +kernel
theorem dX6_stepsNow_87 : decode cX6_stepsNow 87 = .ok (.iload 5, 2) := by decide +kernel
theorem dX6_stepsNow_89 : decode cX6_stepsNow 89 = .ok (.iload_n 3, 1) := by decide +kernel
theorem dX6_stepsNow_90 : decode cX6_stepsNow 90 = .ok (.if_icmp .le 25, 3) := by decide +kernel
theorem dX6_stepsNow_93 : decode cX6_stepsNow 93 = .ok (.aload_n 0, 1) := by decide +kernel
theorem dX6_stepsNow_94 : decode cX6_stepsNow 94 = .ok (.getfield 34, 3) := by decide +kernel
theorem dX6_stepsNow_97 : decode cX6_stepsNow 97 = .ok (.iload 5, 2) := by decide +kernel
theorem dX6_stepsNow_99 : decode cX6_stepsNow 99 = .ok (.aload_n 0, 1) := by decide +kernel
theorem dX6_stepsNow_100 : decode cX6_stepsNow 100 = .ok (.getfield 34, 3) := by decide +kernel
theorem dX6_stepsNow_103 : decode cX6_stepsNow 103 = .ok (.iload 5, 2) := by decide +kernel
theorem dX6_stepsNow_105 : decode cX6_stepsNow 105 = .ok (.iconst 1, 1) := by decide +kernel
theorem dX6_stepsNow_106 : decode cX6_stepsNow 106 = .ok (.isub, 1) := by decide +kernel
theorem dX6_stepsNow_107 : decode cX6_stepsNow 107 = .ok (.iaload, 1) := by decide +kernel
theorem dX6_stepsNow_108 : decode cX6_stepsNow 108 = .ok (.iastore, 1) := by decide +kernel
theorem dX6_stepsNow_109 : decode cX6_stepsNow 109 = .ok (.iinc 5 (-1), 3) := by decide +kernel
theorem dX6_stepsNow_112 : decode cX6_stepsNow 112 = .ok (.goto (-25), 3) := by decide +kernel
theorem dX6_stepsNow_115 : decode cX6_stepsNow 115 = .ok (.iinc 3 1, 3) := by decide +kernel
theorem dX6_stepsNow_118 : decode cX6_stepsNow 118 = .ok (.goto (-77), 3) := by decide +kernel
theorem dX6_stepsNow_121 : decode cX6_stepsNow 121 = .ok (.iload_n 2, 1) := by decide +kernel
theorem dX6_stepsNow_122 : decode cX6_stepsNow 122 = .ok (.ireturn, 1) := by decide +kernel
theorem dX6_stepsTo_0 : decode cX6_stepsTo 0 = .ok (.aload_n 0, 1) := by decide +kernel
theorem dX6_stepsTo_1 : decode cX6_stepsTo 1 = .ok (.aload_n 0, 1) := by decide +kernel
theorem dX6_stepsTo_2 : decode cX6_stepsTo 2 = .ok (.iload_n 1, 1) := by decide +kernel
theorem dX6_stepsTo_3 : decode cX6_stepsTo 3 = .ok (.invokevirtual 93, 3) := by decide +kernel
theorem dX6_stepsTo_6 : decode cX6_stepsTo 6 = .ok (.ifCond .eq 7, 3) := by decide +kernel
theorem dX6_stepsTo_9 : decode cX6_stepsTo 9 = .ok (.iconst 0, 1) := by decide +kernel
theorem dX6_stepsTo_10 : decode cX6_stepsTo 10 = .ok (.goto 4, 3) := by decide +kernel
theorem dX6_stepsTo_13 : decode cX6_stepsTo 13 = .ok (.iconst 1, 1) := by decide +kernel
theorem dX6_stepsTo_14 : decode cX6_stepsTo 14 = .ok (.putfield 37, 3) := by decide +kernel
theorem dX6_stepsTo_17 : decode cX6_stepsTo 17 = .ok (.aload_n 0, 1) := by decide +kernel
theorem dX6_stepsTo_18 : decode cX6_stepsTo 18 = .ok (.getfield 37, 3) := by decide +kernel
theorem dX6_stepsTo_21 : decode cX6_stepsTo 21 = .ok (.ifCond .le 7, 3) := by decide +kernel
theorem dX6_stepsTo_24 : decode cX6_stepsTo 24 = .ok (.iconst 0, 1) := by decide +kernel
theorem dX6_stepsTo_25 : decode cX6_stepsTo 25 = .ok (.goto 8, 3) := by decide +kernel
theorem dX6_stepsTo_28 : decode cX6_stepsTo 28 = .ok (.aload_n 0, 1) := by decide +kernel
theorem dX6_stepsTo_29 : decode cX6_stepsTo 29 = .ok (.iload_n 1, 1) := by decide +kernel
theorem dX6_stepsTo_30 : decode cX6_stepsTo 30 = .ok (.invokevirtual 200, 3) := by decide +kernel
theorem dX6_stepsTo_33 : decode cX6_stepsTo 33 = .ok (.ireturn, 1) := by decide +kernel
theorem dX6_bestNow_0 : decode cX6_bestNow 0 = .ok (.iconst (-1), 1) := by decide +kernel
theorem dX6_bestNow_1 : decode cX6_bestNow 1 = .ok (.istore_n 2, 1) := by decide +kernel
theorem dX6_bestNow_2 : decode cX6_bestNow 2 = .ok (.iconst (-1), 1) := by decide +kernel
theorem dX6_bestNow_3 : decode cX6_bestNow 3 = .ok (.istore_n 3, 1) := by decide +kernel
theorem dX6_bestNow_4 : decode cX6_bestNow 4 = .ok (.iconst (-1), 1) := by decide +kernel
theorem dX6_bestNow_5 : decode cX6_bestNow 5 = .ok (.istore 4, 2) := by decide +kernel
theorem dX6_bestNow_7 : decode cX6_bestNow 7 = .ok (.iconst 0, 1) := by decide +kernel
theorem dX6_bestNow_8 : decode cX6_bestNow 8 = .ok (.istore 5, 2) := by decide +kernel
theorem dX6_bestNow_10 : decode cX6_bestNow 10 = .ok (.iload 5, 2) := by decide +kernel
theorem dX6_bestNow_12 : decode cX6_bestNow 12 = .ok (.aload_n 0, 1) := by decide +kernel
theorem dX6_bestNow_13 : decode cX6_bestNow 13 = .ok (.getfield 7, 3) := by decide +kernel
theorem dX6_bestNow_16 : decode cX6_bestNow 16 = .ok (.iconst 0, 1) := by decide +kernel
theorem dX6_bestNow_17 : decode cX6_bestNow 17 = .ok (.iaload, 1) := by decide +kernel
theorem dX6_bestNow_18 : decode cX6_bestNow 18 = .ok (.if_icmp .ge 93, 3) := by decide +kernel
theorem dX6_bestNow_21 : decode cX6_bestNow 21 = .ok (.iload 5, 2) := by decide +kernel
theorem dX6_bestNow_23 : decode cX6_bestNow 23 = .ok (.iconst 1, 1) := by decide +kernel
theorem dX6_bestNow_24 : decode cX6_bestNow 24 = .ok (.iadd, 1) := by decide +kernel
theorem dX6_bestNow_25 : decode cX6_bestNow 25 = .ok (.istore 6, 2) := by decide +kernel
theorem dX6_bestNow_27 : decode cX6_bestNow 27 = .ok (.iload 6, 2) := by decide +kernel
theorem dX6_bestNow_29 : decode cX6_bestNow 29 = .ok (.aload_n 0, 1) := by decide +kernel
theorem dX6_bestNow_30 : decode cX6_bestNow 30 = .ok (.getfield 7, 3) := by decide +kernel
theorem dX6_bestNow_33 : decode cX6_bestNow 33 = .ok (.iconst 0, 1) := by decide +kernel
theorem dX6_bestNow_34 : decode cX6_bestNow 34 = .ok (.iaload, 1) := by decide +kernel
theorem dX6_bestNow_35 : decode cX6_bestNow 35 = .ok (.if_icmp .ge 70, 3) := by decide +kernel
theorem dX6_bestNow_38 : decode cX6_bestNow 38 = .ok (.aload_n 0, 1) := by decide +kernel
theorem dX6_bestNow_39 : decode cX6_bestNow 39 = .ok (.iload 5, 2) := by decide +kernel
theorem dX6_bestNow_41 : decode cX6_bestNow 41 = .ok (.iload 6, 2) := by decide +kernel
theorem dX6_bestNow_43 : decode cX6_bestNow 43 = .ok (.invokevirtual 184, 3) := by decide +kernel
theorem dX6_bestNow_46 : decode cX6_bestNow 46 = .ok (.istore 7, 2) := by decide +kernel
theorem dX6_bestNow_48 : decode cX6_bestNow 48 = .ok (.iload 7, 2) := by decide +kernel
theorem dX6_bestNow_50 : decode cX6_bestNow 50 = .ok (.iload_n 2, 1) := by decide +kernel
theorem dX6_bestNow_51 : decode cX6_bestNow 51 = .ok (.if_icmp .le 7, 3) := by decide +kernel
theorem dX6_bestNow_54 : decode cX6_bestNow 54 = .ok (.iconst 1, 1) := by decide +kernel
theorem dX6_bestNow_55 : decode cX6_bestNow 55 = .ok (.goto 4, 3) := by decide +kernel
theorem dX6_bestNow_58 : decode cX6_bestNow 58 = .ok (.iconst 0, 1) := by decide +kernel
theorem dX6_bestNow_59 : decode cX6_bestNow 59 = .ok (.istore 8, 2) := by decide +kernel
theorem dX6_bestNow_61 : decode cX6_bestNow 61 = .ok (.iload 8, 2) := by decide +kernel
theorem dX6_bestNow_63 : decode cX6_bestNow 63 = .ok (.ifCond .eq 8, 3) := by decide +kernel
theorem dX6_bestNow_66 : decode cX6_bestNow 66 = .ok (.iload 7, 2) := by decide +kernel
theorem dX6_bestNow_68 : decode cX6_bestNow 68 = .ok (.goto 4, 3) := by decide +kernel
theorem dX6_bestNow_71 : decode cX6_bestNow 71 = .ok (.iload_n 2, 1) := by decide +kernel
theorem dX6_bestNow_72 : decode cX6_bestNow 72 = .ok (.istore_n 2, 1) := by decide +kernel
theorem dX6_bestNow_73 : decode cX6_bestNow 73 = .ok (.iload 8, 2) := by decide +kernel
theorem dX6_bestNow_75 : decode cX6_bestNow 75 = .ok (.ifCond .eq 8, 3) := by decide +kernel
theorem dX6_bestNow_78 : decode cX6_bestNow 78 = .ok (.iload 5, 2) := by decide +kernel
theorem dX6_bestNow_80 : decode cX6_bestNow 80 = .ok (.goto 4, 3) := by decide +kernel
theorem dX6_bestNow_83 : decode cX6_bestNow 83 = .ok (.iload_n 3, 1) := by decide +kernel
theorem dX6_bestNow_84 : decode cX6_bestNow 84 = .ok (.istore_n 3, 1) := by decide +kernel
theorem dX6_bestNow_85 : decode cX6_bestNow 85 = .ok (.iload 8, 2) := by decide +kernel
theorem dX6_bestNow_87 : decode cX6_bestNow 87 = .ok (.ifCond .eq 8, 3) := by decide +kernel
theorem dX6_bestNow_90 : decode cX6_bestNow 90 = .ok (.iload 6, 2) := by decide +kernel
theorem dX6_bestNow_92 : decode cX6_bestNow 92 = .ok (.goto 5, 3) := by decide +kernel
theorem dX6_bestNow_95 : decode cX6_bestNow 95 = .ok (.iload 4, 2) := by decide +kernel
theorem dX6_bestNow_97 : decode cX6_bestNow 97 = .ok (.istore 4, 2) := by decide +kernel
theorem dX6_bestNow_99 : decode cX6_bestNow 99 = .ok (.iinc 6 1, 3) := by decide +kernel
theorem dX6_bestNow_102 : decode cX6_bestNow 102 = .ok (.goto (-75), 3) := by decide +kernel
theorem dX6_bestNow_105 : decode cX6_bestNow 105 = .ok (.iinc 5 1, 3) := by decide +kernel
theorem dX6_bestNow_108 : decode cX6_bestNow 108 = .ok (.goto (-98), 3) := by decide +kernel
theorem dX6_bestNow_111 : decode cX6_bestNow 111 = .ok (.iload_n 1, 1) := by decide +kernel
theorem dX6_bestNow_112 : decode cX6_bestNow 112 = .ok (.ifCond .ne 7, 3) := by decide +kernel
theorem dX6_bestNow_115 : decode cX6_bestNow 115 = .ok (.iload_n 2, 1) := by decide +kernel
theorem dX6_bestNow_116 : decode cX6_bestNow 116 = .ok (.goto 14, 3) := by decide +kernel
theorem dX6_bestNow_119 : decode cX6_bestNow 119 = .ok (.iload_n 1, 1) := by decide +kernel
theorem dX6_bestNow_120 : decode cX6_bestNow 120 = .ok (.iconst 1, 1) := by decide +kernel
theorem dX6_bestNow_121 : decode cX6_bestNow 121 = .ok (.if_icmp .ne 7, 3) := by decide +kernel
theorem dX6_bestNow_124 : decode cX6_bestNow 124 = .ok (.iload_n 3, 1) := by decide +kernel
theorem dX6_bestNow_125 : decode cX6_bestNow 125 = .ok (.goto 5, 3) := by decide +kernel
theorem dX6_bestNow_128 : decode cX6_bestNow 128 = .ok (.iload 4, 2) := by decide +kernel
theorem dX6_bestNow_130 : decode cX6_bestNow 130 = .ok (.ireturn, 1) := by decide +kernel
theorem dX6_bestSwap_0 : decode cX6_bestSwap 0 = .ok (.aload_n 0, 1) := by decide +kernel
theorem dX6_bestSwap_1 : decode cX6_bestSwap 1 = .ok (.iload_n 1, 1) := by decide +kernel
theorem dX6_bestSwap_2 : decode cX6_bestSwap 2 = .ok (.iconst 0, 1) := by decide +kernel
theorem dX6_bestSwap_3 : decode cX6_bestSwap 3 = .ok (.iconst 2, 1) := by decide +kernel
theorem dX6_bestSwap_4 : decode cX6_bestSwap 4 = .ok (.invokestatic 44, 3) := by decide +kernel
theorem dX6_bestSwap_7 : decode cX6_bestSwap 7 = .ok (.ifCond .eq 7, 3) := by decide +kernel
theorem dX6_bestSwap_10 : decode cX6_bestSwap 10 = .ok (.iconst 0, 1) := by decide +kernel
theorem dX6_bestSwap_11 : decode cX6_bestSwap 11 = .ok (.goto 4, 3) := by decide +kernel
theorem dX6_bestSwap_14 : decode cX6_bestSwap 14 = .ok (.iconst 1, 1) := by decide +kernel
theorem dX6_bestSwap_15 : decode cX6_bestSwap 15 = .ok (.putfield 37, 3) := by decide +kernel
theorem dX6_bestSwap_18 : decode cX6_bestSwap 18 = .ok (.aload_n 0, 1) := by decide +kernel
theorem dX6_bestSwap_19 : decode cX6_bestSwap 19 = .ok (.getfield 37, 3) := by decide +kernel
theorem dX6_bestSwap_22 : decode cX6_bestSwap 22 = .ok (.ifCond .le 7, 3) := by decide +kernel
theorem dX6_bestSwap_25 : decode cX6_bestSwap 25 = .ok (.iconst 0, 1) := by decide +kernel
theorem dX6_bestSwap_26 : decode cX6_bestSwap 26 = .ok (.goto 8, 3) := by decide +kernel
theorem dX6_bestSwap_29 : decode cX6_bestSwap 29 = .ok (.aload_n 0, 1) := by decide +kernel
theorem dX6_bestSwap_30 : decode cX6_bestSwap 30 = .ok (.iload_n 1, 1) := by decide +kernel
theorem dX6_bestSwap_31 : decode cX6_bestSwap 31 = .ok (.invokevirtual 203, 3) := by decide +kernel
theorem dX6_bestSwap_34 : decode cX6_bestSwap 34 = .ok (.ireturn, 1) := by decide +kernel
theorem dX6_shareNow_0 : decode cX6_shareNow 0 = .ok (.aload_n 0, 1) := by decide +kernel
theorem dX6_shareNow_1 : decode cX6_shareNow 1 = .ok (.invokevirtual 97, 3) := by decide +kernel
theorem dX6_shareNow_4 : decode cX6_shareNow 4 = .ok (.i2d, 1) := by decide +kernel
theorem dX6_shareNow_5 : decode cX6_shareNow 5 = .ok (.aload_n 0, 1) := by decide +kernel
theorem dX6_shareNow_6 : decode cX6_shareNow 6 = .ok (.invokevirtual 71, 3) := by decide +kernel
theorem dX6_shareNow_9 : decode cX6_shareNow 9 = .ok (.i2d, 1) := by decide +kernel
theorem dX6_shareNow_10 : decode cX6_shareNow 10 = .ok (.ddiv, 1) := by decide +kernel
theorem dX6_shareNow_11 : decode cX6_shareNow 11 = .ok (.dreturn, 1) := by decide +kernel
theorem dX6_share_0 : decode cX6_share 0 = .ok (.aload_n 0, 1) := by decide +kernel
theorem dX6_share_1 : decode cX6_share 1 = .ok (.iconst 0, 1) := by decide +kernel
theorem dX6_share_2 : decode cX6_share 2 = .ok (.putfield 37, 3) := by decide +kernel
theorem dX6_share_5 : decode cX6_share 5 = .ok (.aload_n 0, 1) := by decide +kernel
theorem dX6_share_6 : decode cX6_share 6 = .ok (.invokevirtual 206, 3) := by decide +kernel
theorem dX6_share_9 : decode cX6_share 9 = .ok (.dreturn, 1) := by decide +kernel
theorem dX6_mix_0 : decode cX6_mix 0 = .ok (.aload_n 0, 1) := by decide +kernel
theorem dX6_mix_1 : decode cX6_mix 1 = .ok (.ldc2_w 210, 3) := by decide +kernel
theorem dX6_mix_4 : decode cX6_mix 4 = .ok (.aload_n 0, 1) := by decide +kernel
theorem dX6_mix_5 : decode cX6_mix 5 = .ok (.getfield 212, 3) := by decide +kernel
theorem dX6_mix_8 : decode cX6_mix 8 = .ok (.lmul, 1) := by decide +kernel
theorem dX6_mix_9 : decode cX6_mix 9 = .ok (.lload_n 1, 1) := by decide +kernel
theorem dX6_mix_10 : decode cX6_mix 10 = .ok (.ladd, 1) := by decide +kernel
theorem dX6_mix_11 : decode cX6_mix 11 = .ok (.putfield 212, 3) := by decide +kernel
theorem dX6_mix_14 : decode cX6_mix 14 = .ok (.return_, 1) := by decide +kernel
theorem dX6_mixPlace_0 : decode cX6_mixPlace 0 = .ok (.aload_n 0, 1) := by decide +kernel
theorem dX6_mixPlace_1 : decode cX6_mixPlace 1 = .ok (.aload_n 0, 1) := by decide +kernel
theorem dX6_mixPlace_2 : decode cX6_mixPlace 2 = .ok (.getfield 7, 3) := by decide +kernel
theorem dX6_mixPlace_5 : decode cX6_mixPlace 5 = .ok (.iconst 2, 1) := by decide +kernel
theorem dX6_mixPlace_6 : decode cX6_mixPlace 6 = .ok (.iload_n 1, 1) := by decide +kernel
theorem dX6_mixPlace_7 : decode cX6_mixPlace 7 = .ok (.iadd, 1) := by decide +kernel
theorem dX6_mixPlace_8 : decode cX6_mixPlace 8 = .ok (.iaload, 1) := by decide +kernel
theorem dX6_mixPlace_9 : decode cX6_mixPlace 9 = .ok (.i2l, 1) := by decide +kernel
theorem dX6_mixPlace_10 : decode cX6_mixPlace 10 = .ok (.invokevirtual 216, 3) := by decide +kernel
theorem dX6_mixPlace_13 : decode cX6_mixPlace 13 = .ok (.aload_n 0, 1) := by decide +kernel
theorem dX6_mixPlace_14 : decode cX6_mixPlace 14 = .ok (.aload_n 0, 1) := by decide +kernel
theorem dX6_mixPlace_15 : decode cX6_mixPlace 15 = .ok (.iload_n 1, 1) := by decide +kernel
theorem dX6_mixPlace_16 : decode cX6_mixPlace 16 = .ok (.invokevirtual 158, 3) := by decide +kernel
theorem dX6_mixPlace_19 : decode cX6_mixPlace 19 = .ok (.i2l, 1) := by decide +kernel
theorem dX6_mixPlace_20 : decode cX6_mixPlace 20 = .ok (.invokevirtual 216, 3) := by decide +kernel
theorem dX6_mixPlace_23 : decode cX6_mixPlace 23 = .ok (.iconst 0, 1) := by decide +kernel
theorem dX6_mixPlace_24 : decode cX6_mixPlace 24 = .ok (.istore_n 2, 1) := by decide +kernel
theorem dX6_mixPlace_25 : decode cX6_mixPlace 25 = .ok (.iload_n 2, 1) := by decide +kernel
theorem dX6_mixPlace_26 : decode cX6_mixPlace 26 = .ok (.iconst 3, 1) := by decide +kernel
theorem dX6_mixPlace_27 : decode cX6_mixPlace 27 = .ok (.if_icmp .ge 20, 3) := by decide +kernel
theorem dX6_mixPlace_30 : decode cX6_mixPlace 30 = .ok (.aload_n 0, 1) := by decide +kernel
theorem dX6_mixPlace_31 : decode cX6_mixPlace 31 = .ok (.aload_n 0, 1) := by decide +kernel
theorem dX6_mixPlace_32 : decode cX6_mixPlace 32 = .ok (.iload_n 1, 1) := by decide +kernel
theorem dX6_mixPlace_33 : decode cX6_mixPlace 33 = .ok (.iload_n 2, 1) := by decide +kernel
theorem dX6_mixPlace_34 : decode cX6_mixPlace 34 = .ok (.invokevirtual 164, 3) := by decide +kernel
theorem dX6_mixPlace_37 : decode cX6_mixPlace 37 = .ok (.i2l, 1) := by decide +kernel
theorem dX6_mixPlace_38 : decode cX6_mixPlace 38 = .ok (.invokevirtual 216, 3) := by decide +kernel
theorem dX6_mixPlace_41 : decode cX6_mixPlace 41 = .ok (.iinc 2 1, 3) := by decide +kernel
theorem dX6_mixPlace_44 : decode cX6_mixPlace 44 = .ok (.goto (-19), 3) := by decide +kernel
theorem dX6_mixPlace_47 : decode cX6_mixPlace 47 = .ok (.aload_n 0, 1) := by decide +kernel
theorem dX6_mixPlace_48 : decode cX6_mixPlace 48 = .ok (.aload_n 0, 1) := by decide +kernel
theorem dX6_mixPlace_49 : decode cX6_mixPlace 49 = .ok (.iload_n 1, 1) := by decide +kernel
theorem dX6_mixPlace_50 : decode cX6_mixPlace 50 = .ok (.iconst 0, 1) := by decide +kernel
theorem dX6_mixPlace_51 : decode cX6_mixPlace 51 = .ok (.invokevirtual 184, 3) := by decide +kernel
theorem dX6_mixPlace_54 : decode cX6_mixPlace 54 = .ok (.i2l, 1) := by decide +kernel
theorem dX6_mixPlace_55 : decode cX6_mixPlace 55 = .ok (.invokevirtual 216, 3) := by decide +kernel
theorem dX6_mixPlace_58 : decode cX6_mixPlace 58 = .ok (.aload_n 0, 1) := by decide +kernel
theorem dX6_mixPlace_59 : decode cX6_mixPlace 59 = .ok (.aload_n 0, 1) := by decide +kernel
theorem dX6_mixPlace_60 : decode cX6_mixPlace 60 = .ok (.iconst 0, 1) := by decide +kernel
theorem dX6_mixPlace_61 : decode cX6_mixPlace 61 = .ok (.aload_n 0, 1) := by decide +kernel
theorem dX6_mixPlace_62 : decode cX6_mixPlace 62 = .ok (.invokevirtual 97, 3) := by decide +kernel
theorem dX6_mixPlace_65 : decode cX6_mixPlace 65 = .ok (.iload_n 1, 1) := by decide +kernel
theorem dX6_mixPlace_66 : decode cX6_mixPlace 66 = .ok (.iconst 0, 1) := by decide +kernel
theorem dX6_mixPlace_67 : decode cX6_mixPlace 67 = .ok (.invokevirtual 196, 3) := by decide +kernel
theorem dX6_mixPlace_70 : decode cX6_mixPlace 70 = .ok (.i2l, 1) := by decide +kernel
theorem dX6_mixPlace_71 : decode cX6_mixPlace 71 = .ok (.invokevirtual 216, 3) := by decide +kernel
theorem dX6_mixPlace_74 : decode cX6_mixPlace 74 = .ok (.return_, 1) := by decide +kernel
theorem dX6_digest_0 : decode cX6_digest 0 = .ok (.aload_n 0, 1) := by decide +kernel
theorem dX6_digest_1 : decode cX6_digest 1 = .ok (.iconst 0, 1) := by decide +kernel
theorem dX6_digest_2 : decode cX6_digest 2 = .ok (.putfield 37, 3) := by decide +kernel
theorem dX6_digest_5 : decode cX6_digest 5 = .ok (.aload_n 0, 1) := by decide +kernel
theorem dX6_digest_6 : decode cX6_digest 6 = .ok (.ldc2_w 220, 3) := by decide +kernel
theorem dX6_digest_9 : decode cX6_digest 9 = .ok (.putfield 212, 3) := by decide +kernel
theorem dX6_digest_12 : decode cX6_digest 12 = .ok (.iconst 0, 1) := by decide +kernel
theorem dX6_digest_13 : decode cX6_digest 13 = .ok (.istore_n 1, 1) := by decide +kernel
theorem dX6_digest_14 : decode cX6_digest 14 = .ok (.iload_n 1, 1) := by decide +kernel
theorem dX6_digest_15 : decode cX6_digest 15 = .ok (.bipush 14, 2) := by decide +kernel
theorem dX6_digest_17 : decode cX6_digest 17 = .ok (.if_icmp .ge 19, 3) := by decide +kernel
theorem dX6_digest_20 : decode cX6_digest 20 = .ok (.aload_n 0, 1) := by decide +kernel
theorem dX6_digest_21 : decode cX6_digest 21 = .ok (.aload_n 0, 1) := by decide +kernel
theorem dX6_digest_22 : decode cX6_digest 22 = .ok (.iload_n 1, 1) := by decide +kernel
theorem dX6_digest_23 : decode cX6_digest 23 = .ok (.invokevirtual 181, 3) := by decide +kernel
theorem dX6_digest_26 : decode cX6_digest 26 = .ok (.i2l, 1) := by decide +kernel
theorem dX6_digest_27 : decode cX6_digest 27 = .ok (.invokevirtual 216, 3) := by decide +kernel
theorem dX6_digest_30 : decode cX6_digest 30 = .ok (.iinc 1 1, 3) := by decide +kernel
theorem dX6_digest_33 : decode cX6_digest 33 = .ok (.goto (-19), 3) := by decide +kernel
theorem dX6_digest_36 : decode cX6_digest 36 = .ok (.iconst 0, 1) := by decide +kernel
theorem dX6_digest_37 : decode cX6_digest 37 = .ok (.istore_n 1, 1) := by decide +kernel
theorem dX6_digest_38 : decode cX6_digest 38 = .ok (.iload_n 1, 1) := by decide +kernel
theorem dX6_digest_39 : decode cX6_digest 39 = .ok (.aload_n 0, 1) := by decide +kernel
theorem dX6_digest_40 : decode cX6_digest 40 = .ok (.getfield 7, 3) := by decide +kernel
theorem dX6_digest_43 : decode cX6_digest 43 = .ok (.iconst 0, 1) := by decide +kernel
theorem dX6_digest_44 : decode cX6_digest 44 = .ok (.iaload, 1) := by decide +kernel
theorem dX6_digest_45 : decode cX6_digest 45 = .ok (.if_icmp .ge 14, 3) := by decide +kernel
theorem dX6_digest_48 : decode cX6_digest 48 = .ok (.aload_n 0, 1) := by decide +kernel
theorem dX6_digest_49 : decode cX6_digest 49 = .ok (.iload_n 1, 1) := by decide +kernel
theorem dX6_digest_50 : decode cX6_digest 50 = .ok (.invokevirtual 222, 3) := by decide +kernel
theorem dX6_digest_53 : decode cX6_digest 53 = .ok (.iinc 1 1, 3) := by decide +kernel
theorem dX6_digest_56 : decode cX6_digest 56 = .ok (.goto (-18), 3) := by decide +kernel
theorem dX6_digest_59 : decode cX6_digest 59 = .ok (.iconst 0, 1) := by decide +kernel
theorem dX6_digest_60 : decode cX6_digest 60 = .ok (.istore_n 1, 1) := by decide +kernel
theorem dX6_digest_61 : decode cX6_digest 61 = .ok (.iload_n 1, 1) := by decide +kernel
theorem dX6_digest_62 : decode cX6_digest 62 = .ok (.bipush 6, 2) := by decide +kernel
theorem dX6_digest_64 : decode cX6_digest 64 = .ok (.if_icmp .ge 19, 3) := by decide +kernel
theorem dX6_digest_67 : decode cX6_digest 67 = .ok (.aload_n 0, 1) := by decide +kernel
theorem dX6_digest_68 : decode cX6_digest 68 = .ok (.aload_n 0, 1) := by decide +kernel
theorem dX6_digest_69 : decode cX6_digest 69 = .ok (.iload_n 1, 1) := by decide +kernel
theorem dX6_digest_70 : decode cX6_digest 70 = .ok (.invokevirtual 161, 3) := by decide +kernel
theorem dX6_digest_73 : decode cX6_digest 73 = .ok (.i2l, 1) := by decide +kernel
theorem dX6_digest_74 : decode cX6_digest 74 = .ok (.invokevirtual 216, 3) := by decide +kernel
theorem dX6_digest_77 : decode cX6_digest 77 = .ok (.iinc 1 1, 3) := by decide +kernel
theorem dX6_digest_80 : decode cX6_digest 80 = .ok (.goto (-19), 3) := by decide +kernel
theorem dX6_digest_83 : decode cX6_digest 83 = .ok (.iconst 0, 1) := by decide +kernel
theorem dX6_digest_84 : decode cX6_digest 84 = .ok (.istore_n 1, 1) := by decide +kernel
theorem dX6_digest_85 : decode cX6_digest 85 = .ok (.iload_n 1, 1) := by decide +kernel
theorem dX6_digest_86 : decode cX6_digest 86 = .ok (.aload_n 0, 1) := by decide +kernel
theorem dX6_digest_87 : decode cX6_digest 87 = .ok (.getfield 7, 3) := by decide +kernel
theorem dX6_digest_90 : decode cX6_digest 90 = .ok (.iconst 0, 1) := by decide +kernel
theorem dX6_digest_91 : decode cX6_digest 91 = .ok (.iaload, 1) := by decide +kernel
theorem dX6_digest_92 : decode cX6_digest 92 = .ok (.if_icmp .ge 25, 3) := by decide +kernel
theorem dX6_digest_95 : decode cX6_digest 95 = .ok (.aload_n 0, 1) := by decide +kernel
theorem dX6_digest_96 : decode cX6_digest 96 = .ok (.aload_n 0, 1) := by decide +kernel
theorem dX6_digest_97 : decode cX6_digest 97 = .ok (.aload_n 0, 1) := by decide +kernel
theorem dX6_digest_98 : decode cX6_digest 98 = .ok (.invokevirtual 71, 3) := by decide +kernel
theorem dX6_digest_101 : decode cX6_digest 101 = .ok (.iconst 2, 1) := by decide +kernel
theorem dX6_digest_102 : decode cX6_digest 102 = .ok (.idiv, 1) := by decide +kernel
theorem dX6_digest_103 : decode cX6_digest 103 = .ok (.iload_n 1, 1) := by decide +kernel
theorem dX6_digest_104 : decode cX6_digest 104 = .ok (.invokevirtual 187, 3) := by decide +kernel
theorem dX6_digest_107 : decode cX6_digest 107 = .ok (.i2l, 1) := by decide +kernel
theorem dX6_digest_108 : decode cX6_digest 108 = .ok (.invokevirtual 216, 3) := by decide +kernel
theorem dX6_digest_111 : decode cX6_digest 111 = .ok (.iinc 1 1, 3) := by decide +kernel
theorem dX6_digest_114 : decode cX6_digest 114 = .ok (.goto (-29), 3) := by decide +kernel
theorem dX6_digest_117 : decode cX6_digest 117 = .ok (.aload_n 0, 1) := by decide +kernel
theorem dX6_digest_118 : decode cX6_digest 118 = .ok (.aload_n 0, 1) := by decide +kernel
theorem dX6_digest_119 : decode cX6_digest 119 = .ok (.aload_n 0, 1) := by decide +kernel
theorem dX6_digest_120 : decode cX6_digest 120 = .ok (.invokevirtual 71, 3) := by decide +kernel
theorem dX6_digest_123 : decode cX6_digest 123 = .ok (.iconst 2, 1) := by decide +kernel
theorem dX6_digest_124 : decode cX6_digest 124 = .ok (.idiv, 1) := by decide +kernel
theorem dX6_digest_125 : decode cX6_digest 125 = .ok (.invokevirtual 200, 3) := by decide +kernel
theorem dX6_digest_128 : decode cX6_digest 128 = .ok (.i2l, 1) := by decide +kernel
theorem dX6_digest_129 : decode cX6_digest 129 = .ok (.invokevirtual 216, 3) := by decide +kernel
theorem dX6_digest_132 : decode cX6_digest 132 = .ok (.iconst 0, 1) := by decide +kernel
theorem dX6_digest_133 : decode cX6_digest 133 = .ok (.istore_n 1, 1) := by decide +kernel
theorem dX6_digest_134 : decode cX6_digest 134 = .ok (.iload_n 1, 1) := by decide +kernel
theorem dX6_digest_135 : decode cX6_digest 135 = .ok (.iconst 3, 1) := by decide +kernel
theorem dX6_digest_136 : decode cX6_digest 136 = .ok (.if_icmp .ge 19, 3) := by decide +kernel
theorem dX6_digest_139 : decode cX6_digest 139 = .ok (.aload_n 0, 1) := by decide +kernel
theorem dX6_digest_140 : decode cX6_digest 140 = .ok (.aload_n 0, 1) := by decide +kernel
theorem dX6_digest_141 : decode cX6_digest 141 = .ok (.iload_n 1, 1) := by decide +kernel
theorem dX6_digest_142 : decode cX6_digest 142 = .ok (.invokevirtual 203, 3) := by decide +kernel
theorem dX6_digest_145 : decode cX6_digest 145 = .ok (.i2l, 1) := by decide +kernel
theorem dX6_digest_146 : decode cX6_digest 146 = .ok (.invokevirtual 216, 3) := by decide +kernel
theorem dX6_digest_149 : decode cX6_digest 149 = .ok (.iinc 1 1, 3) := by decide +kernel
theorem dX6_digest_152 : decode cX6_digest 152 = .ok (.goto (-18), 3) := by decide +kernel
theorem dX6_digest_155 : decode cX6_digest 155 = .ok (.aload_n 0, 1) := by decide +kernel
theorem dX6_digest_156 : decode cX6_digest 156 = .ok (.aload_n 0, 1) := by decide +kernel
theorem dX6_digest_157 : decode cX6_digest 157 = .ok (.invokevirtual 206, 3) := by decide +kernel
theorem dX6_digest_160 : decode cX6_digest 160 = .ok (.invokestatic 225, 3) := by decide +kernel
theorem dX6_digest_163 : decode cX6_digest 163 = .ok (.invokevirtual 216, 3) := by decide +kernel
theorem dX6_digest_166 : decode cX6_digest 166 = .ok (.aload_n 0, 1) := by decide +kernel
theorem dX6_digest_167 : decode cX6_digest 167 = .ok (.aload_n 0, 1) := by decide +kernel
theorem dX6_digest_168 : decode cX6_digest 168 = .ok (.getfield 142, 3) := by decide +kernel
theorem dX6_digest_171 : decode cX6_digest 171 = .ok (.i2l, 1) := by decide +kernel
theorem dX6_digest_172 : decode cX6_digest 172 = .ok (.invokevirtual 216, 3) := by decide +kernel
theorem dX6_digest_175 : decode cX6_digest 175 = .ok (.iconst 0, 1) := by decide +kernel
theorem dX6_digest_176 : decode cX6_digest 176 = .ok (.istore_n 1, 1) := by decide +kernel
theorem dX6_digest_177 : decode cX6_digest 177 = .ok (.iload_n 1, 1) := by decide +kernel
theorem dX6_digest_178 : decode cX6_digest 178 = .ok (.aload_n 0, 1) := by decide +kernel
theorem dX6_digest_179 : decode cX6_digest 179 = .ok (.getfield 142, 3) := by decide +kernel
theorem dX6_digest_182 : decode cX6_digest 182 = .ok (.if_icmp .ge 20, 3) := by decide +kernel
theorem dX6_digest_185 : decode cX6_digest 185 = .ok (.aload_n 0, 1) := by decide +kernel
theorem dX6_digest_186 : decode cX6_digest 186 = .ok (.aload_n 0, 1) := by decide +kernel
theorem dX6_digest_187 : decode cX6_digest 187 = .ok (.getfield 16, 3) := by decide +kernel
theorem dX6_digest_190 : decode cX6_digest 190 = .ok (.iload_n 1, 1) := by decide +kernel
theorem dX6_digest_191 : decode cX6_digest 191 = .ok (.iaload, 1) := by decide +kernel
theorem dX6_digest_192 : decode cX6_digest 192 = .ok (.i2l, 1) := by decide +kernel
theorem dX6_digest_193 : decode cX6_digest 193 = .ok (.invokevirtual 216, 3) := by decide +kernel
theorem dX6_digest_196 : decode cX6_digest 196 = .ok (.iinc 1 1, 3) := by decide +kernel
theorem dX6_digest_199 : decode cX6_digest 199 = .ok (.goto (-22), 3) := by decide +kernel
theorem dX6_digest_202 : decode cX6_digest 202 = .ok (.aload_n 0, 1) := by decide +kernel
theorem dX6_digest_203 : decode cX6_digest 203 = .ok (.getfield 212, 3) := by decide +kernel
theorem dX6_digest_206 : decode cX6_digest 206 = .ok (.lreturn, 1) := by decide +kernel
theorem dJxe99ae_isNaN_b9ae7_0 : decode cJxe99ae_isNaN_b9ae7 0 = .ok (.dload_n 0, 1) := by decide +kernel
theorem dJxe99ae_isNaN_b9ae7_1 : decode cJxe99ae_isNaN_b9ae7 1 = .ok (.dload_n 0, 1) := by decide +kernel
theorem dJxe99ae_isNaN_b9ae7_2 : decode cJxe99ae_isNaN_b9ae7 2 = .ok (.dcmp .l, 1) := by decide +kernel
theorem dJxe99ae_isNaN_b9ae7_3 : decode cJxe99ae_isNaN_b9ae7 3 = .ok (.ifCond .eq 7, 3) := by decide +kernel
theorem dJxe99ae_isNaN_b9ae7_6 : decode cJxe99ae_isNaN_b9ae7 6 = .ok (.iconst 1, 1) := by decide +kernel
theorem dJxe99ae_isNaN_b9ae7_7 : decode cJxe99ae_isNaN_b9ae7 7 = .ok (.goto 4, 3) := by decide +kernel
theorem dJxe99ae_isNaN_b9ae7_10 : decode cJxe99ae_isNaN_b9ae7 10 = .ok (.iconst 0, 1) := by decide +kernel
theorem dJxe99ae_isNaN_b9ae7_11 : decode cJxe99ae_isNaN_b9ae7 11 = .ok (.ireturn, 1) := by decide +kernel
theorem dJxe99ae_doubleToLongBits_ccdee_0 : decode cJxe99ae_doubleToLongBits_ccdee 0 = .ok (.dload_n 0, 1) := by decide +kernel
theorem dJxe99ae_doubleToLongBits_ccdee_1 : decode cJxe99ae_doubleToLongBits_ccdee 1 = .ok (.invokestatic 122, 3) := by decide +kernel
theorem dJxe99ae_doubleToLongBits_ccdee_4 : decode cJxe99ae_doubleToLongBits_ccdee 4 = .ok (.ifCond .ne 8, 3) := by decide +kernel
theorem dJxe99ae_doubleToLongBits_ccdee_7 : decode cJxe99ae_doubleToLongBits_ccdee 7 = .ok (.dload_n 0, 1) := by decide +kernel
theorem dJxe99ae_doubleToLongBits_ccdee_8 : decode cJxe99ae_doubleToLongBits_ccdee 8 = .ok (.invokestatic 134, 3) := by decide +kernel
theorem dJxe99ae_doubleToLongBits_ccdee_11 : decode cJxe99ae_doubleToLongBits_ccdee 11 = .ok (.lreturn, 1) := by decide +kernel
theorem dJxe99ae_doubleToLongBits_ccdee_12 : decode cJxe99ae_doubleToLongBits_ccdee 12 = .ok (.ldc2_w 137, 3) := by decide +kernel
theorem dJxe99ae_doubleToLongBits_ccdee_15 : decode cJxe99ae_doubleToLongBits_ccdee 15 = .ok (.lreturn, 1) := by decide +kernel
