theorem dX0_init_0 : decode cX0_init 0 = .ok (.aload_n 0, 1) := by decide +kernel
theorem dX0_init_1 : decode cX0_init 1 = .ok (.invokespecial 1, 3) := by decide +kernel
theorem dX0_init_4 : decode cX0_init 4 = .ok (.aload_n 0, 1) := by decide +kernel
theorem dX0_init_5 : decode cX0_init 5 = .ok (.new 7, 3) := by decide +kernel
theorem dX0_init_8 : decode cX0_init 8 = .ok (.dup, 1) := by decide +kernel
theorem dX0_init_9 : decode cX0_init 9 = .ok (.bipush 100, 2) := by decide +kernel
theorem dX0_init_11 : decode cX0_init 11 = .ok (.invokespecial 9, 3) := by decide +kernel
theorem dX0_init_14 : decode cX0_init 14 = .ok (.putfield 12, 3) := by decide +kernel
theorem dX0_init_17 : decode cX0_init 17 = .ok (.aload_n 0, 1) := by decide +kernel
theorem dX0_init_18 : decode cX0_init 18 = .ok (.new 7, 3) := by decide +kernel
theorem dX0_init_21 : decode cX0_init 21 = .ok (.dup, 1) := by decide +kernel
theorem dX0_init_22 : decode cX0_init 22 = .ok (.bipush 100, 2) := by decide +kernel
theorem dX0_init_24 : decode cX0_init 24 = .ok (.invokespecial 9, 3) := by decide +kernel
theorem dX0_init_27 : decode cX0_init 27 = .ok (.putfield 18, 3) := by decide +kernel
theorem dX0_init_30 : decode cX0_init 30 = .ok (.aload_n 0, 1) := by decide +kernel
theorem dX0_init_31 : decode cX0_init 31 = .ok (.new 7, 3) := by decide +kernel
theorem dX0_init_34 : decode cX0_init 34 = .ok (.dup, 1) := by decide +kernel
theorem dX0_init_35 : decode cX0_init 35 = .ok (.bipush 100, 2) := by decide +kernel
theorem dX0_init_37 : decode cX0_init 37 = .ok (.invokespecial 9, 3) := by decide +kernel
theorem dX0_init_40 : decode cX0_init 40 = .ok (.putfield 21, 3) := by decide +kernel
theorem dX0_init_43 : decode cX0_init 43 = .ok (.aload_n 0, 1) := by decide +kernel
theorem dX0_init_44 : decode cX0_init 44 = .ok (.new 7, 3) := by decide +kernel
theorem dX0_init_47 : decode cX0_init 47 = .ok (.dup, 1) := by decide +kernel
theorem dX0_init_48 : decode cX0_init 48 = .ok (.bipush 100, 2) := by decide +kernel
theorem dX0_init_50 : decode cX0_init 50 = .ok (.invokespecial 9, 3) := by decide +kernel
theorem dX0_init_53 : decode cX0_init 53 = .ok (.putfield 24, 3) := by decide +kernel
theorem dX0_init_56 : decode cX0_init 56 = .ok (.return_, 1) := by decide +kernel
theorem dX0_sum_0 : decode cX0_sum 0 = .ok (.aload_n 2, 1) := by decide +kernel
theorem dX0_sum_1 : decode cX0_sum 1 = .ok (.invokevirtual 27, 3) := by decide +kernel
theorem dX0_sum_4 : decode cX0_sum 4 = .ok (.ifCond .eq 47, 3) := by decide +kernel
theorem dX0_sum_7 : decode cX0_sum 7 = .ok (.aload_n 3, 1) := by decide +kernel
theorem dX0_sum_8 : decode cX0_sum 8 = .ok (.invokevirtual 27, 3) := by decide +kernel
theorem dX0_sum_11 : decode cX0_sum 11 = .ok (.ifCond .eq 40, 3) := by decide +kernel
theorem dX0_sum_14 : decode cX0_sum 14 = .ok (.aload_n 0, 1) := by decide +kernel
theorem dX0_sum_15 : decode cX0_sum 15 = .ok (.getfield 12, 3) := by decide +kernel
theorem dX0_sum_18 : decode cX0_sum 18 = .ok (.aload_n 2, 1) := by decide +kernel
theorem dX0_sum_19 : decode cX0_sum 19 = .ok (.getfield 33, 3) := by decide +kernel
theorem dX0_sum_22 : decode cX0_sum 22 = .ok (.aload_n 3, 1) := by decide +kernel
theorem dX0_sum_23 : decode cX0_sum 23 = .ok (.getfield 33, 3) := by decide +kernel
theorem dX0_sum_26 : decode cX0_sum 26 = .ok (.iload 4, 2) := by decide +kernel
theorem dX0_sum_28 : decode cX0_sum 28 = .ok (.invokevirtual 36, 3) := by decide +kernel
theorem dX0_sum_31 : decode cX0_sum 31 = .ok (.aload_n 1, 1) := by decide +kernel
theorem dX0_sum_32 : decode cX0_sum 32 = .ok (.getfield 33, 3) := by decide +kernel
theorem dX0_sum_35 : decode cX0_sum 35 = .ok (.aload_n 0, 1) := by decide +kernel
theorem dX0_sum_36 : decode cX0_sum 36 = .ok (.getfield 12, 3) := by decide +kernel
theorem dX0_sum_39 : decode cX0_sum 39 = .ok (.invokevirtual 40, 3) := by decide +kernel
theorem dX0_sum_42 : decode cX0_sum 42 = .ok (.aload_n 1, 1) := by decide +kernel
theorem dX0_sum_43 : decode cX0_sum 43 = .ok (.getfield 44, 3) := by decide +kernel
theorem dX0_sum_46 : decode cX0_sum 46 = .ok (.lconst 1, 1) := by decide +kernel
theorem dX0_sum_47 : decode cX0_sum 47 = .ok (.invokevirtual 47, 3) := by decide +kernel
theorem dX0_sum_50 : decode cX0_sum 50 = .ok (.return_, 1) := by decide +kernel
theorem dX0_sum_51 : decode cX0_sum 51 = .ok (.aload_n 0, 1) := by decide +kernel
theorem dX0_sum_52 : decode cX0_sum 52 = .ok (.getfield 12, 3) := by decide +kernel
theorem dX0_sum_55 : decode cX0_sum 55 = .ok (.aload_n 2, 1) := by decide +kernel
theorem dX0_sum_56 : decode cX0_sum 56 = .ok (.getfield 33, 3) := by decide +kernel
theorem dX0_sum_59 : decode cX0_sum 59 = .ok (.aload_n 3, 1) := by decide +kernel
theorem dX0_sum_60 : decode cX0_sum 60 = .ok (.getfield 44, 3) := by decide +kernel
theorem dX0_sum_63 : decode cX0_sum 63 = .ok (.invokevirtual 51, 3) := by decide +kernel
theorem dX0_sum_66 : decode cX0_sum 66 = .ok (.aload_n 0, 1) := by decide +kernel
theorem dX0_sum_67 : decode cX0_sum 67 = .ok (.getfield 18, 3) := by decide +kernel
theorem dX0_sum_70 : decode cX0_sum 70 = .ok (.aload_n 3, 1) := by decide +kernel
theorem dX0_sum_71 : decode cX0_sum 71 = .ok (.getfield 33, 3) := by decide +kernel
theorem dX0_sum_74 : decode cX0_sum 74 = .ok (.aload_n 2, 1) := by decide +kernel
theorem dX0_sum_75 : decode cX0_sum 75 = .ok (.getfield 44, 3) := by decide +kernel
theorem dX0_sum_78 : decode cX0_sum 78 = .ok (.invokevirtual 51, 3) := by decide +kernel
theorem dX0_sum_81 : decode cX0_sum 81 = .ok (.aload_n 0, 1) := by decide +kernel
theorem dX0_sum_82 : decode cX0_sum 82 = .ok (.getfield 21, 3) := by decide +kernel
theorem dX0_sum_85 : decode cX0_sum 85 = .ok (.aload_n 2, 1) := by decide +kernel
theorem dX0_sum_86 : decode cX0_sum 86 = .ok (.getfield 44, 3) := by decide +kernel
theorem dX0_sum_89 : decode cX0_sum 89 = .ok (.aload_n 3, 1) := by decide +kernel
theorem dX0_sum_90 : decode cX0_sum 90 = .ok (.getfield 44, 3) := by decide +kernel
theorem dX0_sum_93 : decode cX0_sum 93 = .ok (.invokevirtual 51, 3) := by decide +kernel
theorem dX0_sum_96 : decode cX0_sum 96 = .ok (.aload_n 1, 1) := by decide +kernel
theorem dX0_sum_97 : decode cX0_sum 97 = .ok (.getfield 44, 3) := by decide +kernel
theorem dX0_sum_100 : decode cX0_sum 100 = .ok (.aload_n 0, 1) := by decide +kernel
theorem dX0_sum_101 : decode cX0_sum 101 = .ok (.getfield 21, 3) := by decide +kernel
theorem dX0_sum_104 : decode cX0_sum 104 = .ok (.invokevirtual 40, 3) := by decide +kernel
theorem dX0_sum_107 : decode cX0_sum 107 = .ok (.aload_n 1, 1) := by decide +kernel
theorem dX0_sum_108 : decode cX0_sum 108 = .ok (.getfield 33, 3) := by decide +kernel
theorem dX0_sum_111 : decode cX0_sum 111 = .ok (.aload_n 0, 1) := by decide +kernel
theorem dX0_sum_112 : decode cX0_sum 112 = .ok (.getfield 12, 3) := by decide +kernel
theorem dX0_sum_115 : decode cX0_sum 115 = .ok (.aload_n 0, 1) := by decide +kernel
theorem dX0_sum_116 : decode cX0_sum 116 = .ok (.getfield 18, 3) := by decide +kernel
theorem dX0_sum_119 : decode cX0_sum 119 = .ok (.iload 4, 2) := by decide +kernel
theorem dX0_sum_121 : decode cX0_sum 121 = .ok (.invokevirtual 36, 3) := by decide +kernel
theorem dX0_sum_124 : decode cX0_sum 124 = .ok (.return_, 1) := by decide +kernel
theorem dX0_times_0 : decode cX0_times 0 = .ok (.aload_n 0, 1) := by decide +kernel
theorem dX0_times_1 : decode cX0_times 1 = .ok (.getfield 12, 3) := by decide +kernel
theorem dX0_times_4 : decode cX0_times 4 = .ok (.aload_n 2, 1) := by decide +kernel
theorem dX0_times_5 : decode cX0_times 5 = .ok (.getfield 33, 3) := by decide +kernel
theorem dX0_times_8 : decode cX0_times 8 = .ok (.aload_n 3, 1) := by decide +kernel
theorem dX0_times_9 : decode cX0_times 9 = .ok (.getfield 33, 3) := by decide +kernel
theorem dX0_times_12 : decode cX0_times 12 = .ok (.invokevirtual 51, 3) := by decide +kernel
theorem dX0_times_15 : decode cX0_times 15 = .ok (.aload_n 0, 1) := by decide +kernel
theorem dX0_times_16 : decode cX0_times 16 = .ok (.getfield 18, 3) := by decide +kernel
theorem dX0_times_19 : decode cX0_times 19 = .ok (.aload_n 2, 1) := by decide +kernel
theorem dX0_times_20 : decode cX0_times 20 = .ok (.getfield 44, 3) := by decide +kernel
theorem dX0_times_23 : decode cX0_times 23 = .ok (.aload_n 3, 1) := by decide +kernel
theorem dX0_times_24 : decode cX0_times 24 = .ok (.getfield 44, 3) := by decide +kernel
theorem dX0_times_27 : decode cX0_times 27 = .ok (.invokevirtual 51, 3) := by decide +kernel
theorem dX0_times_30 : decode cX0_times 30 = .ok (.aload_n 1, 1) := by decide +kernel
theorem dX0_times_31 : decode cX0_times 31 = .ok (.getfield 33, 3) := by decide +kernel
theorem dX0_times_34 : decode cX0_times 34 = .ok (.aload_n 0, 1) := by decide +kernel
theorem dX0_times_35 : decode cX0_times 35 = .ok (.getfield 12, 3) := by decide +kernel
theorem dX0_times_38 : decode cX0_times 38 = .ok (.invokevirtual 40, 3) := by decide +kernel
theorem dX0_times_41 : decode cX0_times 41 = .ok (.aload_n 1, 1) := by decide +kernel
theorem dX0_times_42 : decode cX0_times 42 = .ok (.getfield 44, 3) := by decide +kernel
theorem dX0_times_45 : decode cX0_times 45 = .ok (.aload_n 0, 1) := by decide +kernel
theorem dX0_times_46 : decode cX0_times 46 = .ok (.getfield 18, 3) := by decide +kernel
theorem dX0_times_49 : decode cX0_times 49 = .ok (.invokevirtual 40, 3) := by decide +kernel
theorem dX0_times_52 : decode cX0_times 52 = .ok (.return_, 1) := by decide +kernel
theorem dX0_over_0 : decode cX0_over 0 = .ok (.aload_n 0, 1) := by decide +kernel
theorem dX0_over_1 : decode cX0_over 1 = .ok (.getfield 12, 3) := by decide +kernel
theorem dX0_over_4 : decode cX0_over 4 = .ok (.aload_n 2, 1) := by decide +kernel
theorem dX0_over_5 : decode cX0_over 5 = .ok (.getfield 33, 3) := by decide +kernel
theorem dX0_over_8 : decode cX0_over 8 = .ok (.aload_n 3, 1) := by decide +kernel
theorem dX0_over_9 : decode cX0_over 9 = .ok (.getfield 44, 3) := by decide +kernel
theorem dX0_over_12 : decode cX0_over 12 = .ok (.invokevirtual 51, 3) := by decide +kernel
theorem dX0_over_15 : decode cX0_over 15 = .ok (.aload_n 0, 1) := by decide +kernel
theorem dX0_over_16 : decode cX0_over 16 = .ok (.getfield 18, 3) := by decide +kernel
theorem dX0_over_19 : decode cX0_over 19 = .ok (.aload_n 2, 1) := by decide +kernel
theorem dX0_over_20 : decode cX0_over 20 = .ok (.getfield 44, 3) := by decide +kernel
theorem dX0_over_23 : decode cX0_over 23 = .ok (.aload_n 3, 1) := by decide +kernel
theorem dX0_over_24 : decode cX0_over 24 = .ok (.getfield 33, 3) := by decide +kernel
theorem dX0_over_27 : decode cX0_over 27 = .ok (.invokevirtual 51, 3) := by decide +kernel
theorem dX0_over_30 : decode cX0_over 30 = .ok (.aload_n 1, 1) := by decide +kernel
theorem dX0_over_31 : decode cX0_over 31 = .ok (.getfield 33, 3) := by decide +kernel
theorem dX0_over_34 : decode cX0_over 34 = .ok (.aload_n 0, 1) := by decide +kernel
theorem dX0_over_35 : decode cX0_over 35 = .ok (.getfield 12, 3) := by decide +kernel
theorem dX0_over_38 : decode cX0_over 38 = .ok (.invokevirtual 40, 3) := by decide +kernel
theorem dX0_over_41 : decode cX0_over 41 = .ok (.aload_n 1, 1) := by decide +kernel
theorem dX0_over_42 : decode cX0_over 42 = .ok (.getfield 44, 3) := by decide +kernel
theorem dX0_over_45 : decode cX0_over 45 = .ok (.aload_n 0, 1) := by decide +kernel
theorem dX0_over_46 : decode cX0_over 46 = .ok (.getfield 18, 3) := by decide +kernel
theorem dX0_over_49 : decode cX0_over 49 = .ok (.invokevirtual 40, 3) := by decide +kernel
theorem dX0_over_52 : decode cX0_over 52 = .ok (.return_, 1) := by decide +kernel
theorem dX0_compare_0 : decode cX0_compare 0 = .ok (.aload_n 0, 1) := by decide +kernel
theorem dX0_compare_1 : decode cX0_compare 1 = .ok (.getfield 12, 3) := by decide +kernel
theorem dX0_compare_4 : decode cX0_compare 4 = .ok (.aload_n 1, 1) := by decide +kernel
theorem dX0_compare_5 : decode cX0_compare 5 = .ok (.getfield 33, 3) := by decide +kernel
theorem dX0_compare_8 : decode cX0_compare 8 = .ok (.aload_n 2, 1) := by decide +kernel
theorem dX0_compare_9 : decode cX0_compare 9 = .ok (.getfield 44, 3) := by decide +kernel
theorem dX0_compare_12 : decode cX0_compare 12 = .ok (.invokevirtual 51, 3) := by decide +kernel
theorem dX0_compare_15 : decode cX0_compare 15 = .ok (.aload_n 0, 1) := by decide +kernel
theorem dX0_compare_16 : decode cX0_compare 16 = .ok (.getfield 18, 3) := by decide +kernel
theorem dX0_compare_19 : decode cX0_compare 19 = .ok (.aload_n 2, 1) := by decide +kernel
theorem dX0_compare_20 : decode cX0_compare 20 = .ok (.getfield 33, 3) := by decide +kernel
theorem dX0_compare_23 : decode cX0_compare 23 = .ok (.aload_n 1, 1) := by decide +kernel
theorem dX0_compare_24 : decode cX0_compare 24 = .ok (.getfield 44, 3) := by decide +kernel
theorem dX0_compare_27 : decode cX0_compare 27 = .ok (.invokevirtual 51, 3) := by decide +kernel
theorem dX0_compare_30 : decode cX0_compare 30 = .ok (.aload_n 0, 1) := by decide +kernel
theorem dX0_compare_31 : decode cX0_compare 31 = .ok (.getfield 12, 3) := by decide +kernel
theorem dX0_compare_34 : decode cX0_compare 34 = .ok (.aload_n 0, 1) := by decide +kernel
theorem dX0_compare_35 : decode cX0_compare 35 = .ok (.getfield 18, 3) := by decide +kernel
theorem dX0_compare_38 : decode cX0_compare 38 = .ok (.invokestatic 55, 3) := by decide +kernel
theorem dX0_compare_41 : decode cX0_compare 41 = .ok (.ireturn, 1) := by decide +kernel
theorem dX0_remainder_0 : decode cX0_remainder 0 = .ok (.aload_n 0, 1) := by decide +kernel
theorem dX0_remainder_1 : decode cX0_remainder 1 = .ok (.getfield 12, 3) := by decide +kernel
theorem dX0_remainder_4 : decode cX0_remainder 4 = .ok (.aload_n 2, 1) := by decide +kernel
theorem dX0_remainder_5 : decode cX0_remainder 5 = .ok (.getfield 33, 3) := by decide +kernel
theorem dX0_remainder_8 : decode cX0_remainder 8 = .ok (.invokevirtual 40, 3) := by decide +kernel
theorem dX0_remainder_11 : decode cX0_remainder 11 = .ok (.aload_n 0, 1) := by decide +kernel
theorem dX0_remainder_12 : decode cX0_remainder 12 = .ok (.getfield 12, 3) := by decide +kernel
theorem dX0_remainder_15 : decode cX0_remainder 15 = .ok (.aload_n 3, 1) := by decide +kernel
theorem dX0_remainder_16 : decode cX0_remainder 16 = .ok (.getfield 33, 3) := by decide +kernel
theorem dX0_remainder_19 : decode cX0_remainder 19 = .ok (.aload_n 0, 1) := by decide +kernel
theorem dX0_remainder_20 : decode cX0_remainder 20 = .ok (.getfield 18, 3) := by decide +kernel
theorem dX0_remainder_23 : decode cX0_remainder 23 = .ok (.invokevirtual 59, 3) := by decide +kernel
theorem dX0_remainder_26 : decode cX0_remainder 26 = .ok (.aload_n 0, 1) := by decide +kernel
theorem dX0_remainder_27 : decode cX0_remainder 27 = .ok (.getfield 21, 3) := by decide +kernel
theorem dX0_remainder_30 : decode cX0_remainder 30 = .ok (.aload_n 3, 1) := by decide +kernel
theorem dX0_remainder_31 : decode cX0_remainder 31 = .ok (.getfield 33, 3) := by decide +kernel
theorem dX0_remainder_34 : decode cX0_remainder 34 = .ok (.invokevirtual 40, 3) := by decide +kernel
theorem dX0_remainder_37 : decode cX0_remainder 37 = .ok (.aload_n 0, 1) := by decide +kernel
theorem dX0_remainder_38 : decode cX0_remainder 38 = .ok (.getfield 21, 3) := by decide +kernel
theorem dX0_remainder_41 : decode cX0_remainder 41 = .ok (.getfield 62, 3) := by decide +kernel
theorem dX0_remainder_44 : decode cX0_remainder 44 = .ok (.ifCond .eq 10, 3) := by decide +kernel
theorem dX0_remainder_47 : decode cX0_remainder 47 = .ok (.aload_n 0, 1) := by decide +kernel
theorem dX0_remainder_48 : decode cX0_remainder 48 = .ok (.getfield 21, 3) := by decide +kernel
theorem dX0_remainder_51 : decode cX0_remainder 51 = .ok (.invokevirtual 66, 3) := by decide +kernel
theorem dX0_remainder_54 : decode cX0_remainder 54 = .ok (.aload_n 2, 1) := by decide +kernel
theorem dX0_remainder_55 : decode cX0_remainder 55 = .ok (.getfield 33, 3) := by decide +kernel
theorem dX0_remainder_58 : decode cX0_remainder 58 = .ok (.getfield 62, 3) := by decide +kernel
theorem dX0_remainder_61 : decode cX0_remainder 61 = .ok (.ifCond .eq 32, 3) := by decide +kernel
theorem dX0_remainder_64 : decode cX0_remainder 64 = .ok (.aload_n 0, 1) := by decide +kernel
theorem dX0_remainder_65 : decode cX0_remainder 65 = .ok (.getfield 12, 3) := by decide +kernel
theorem dX0_remainder_68 : decode cX0_remainder 68 = .ok (.invokevirtual 69, 3) := by decide +kernel
theorem dX0_remainder_71 : decode cX0_remainder 71 = .ok (.ifCond .ne 22, 3) := by decide +kernel
theorem dX0_remainder_74 : decode cX0_remainder 74 = .ok (.aload_n 1, 1) := by decide +kernel
theorem dX0_remainder_75 : decode cX0_remainder 75 = .ok (.getfield 33, 3) := by decide +kernel
theorem dX0_remainder_78 : decode cX0_remainder 78 = .ok (.aload_n 0, 1) := by decide +kernel
theorem dX0_remainder_79 : decode cX0_remainder 79 = .ok (.getfield 21, 3) := by decide +kernel
theorem dX0_remainder_82 : decode cX0_remainder 82 = .ok (.aload_n 0, 1) := by decide +kernel
theorem dX0_remainder_83 : decode cX0_remainder 83 = .ok (.getfield 12, 3) := by decide +kernel
theorem dX0_remainder_86 : decode cX0_remainder 86 = .ok (.iconst 1, 1) := by decide +kernel
theorem dX0_remainder_87 : decode cX0_remainder 87 = .ok (.invokevirtual 36, 3) := by decide +kernel
theorem dX0_remainder_90 : decode cX0_remainder 90 = .ok (.goto 14, 3) := by decide +kernel
theorem dX0_remainder_93 : decode cX0_remainder 93 = .ok (.aload_n 1, 1) := by decide +kernel
theorem dX0_remainder_94 : decode cX0_remainder 94 = .ok (.getfield 33, 3) := by decide +kernel
theorem dX0_remainder_97 : decode cX0_remainder 97 = .ok (.aload_n 0, 1) := by decide +kernel
theorem dX0_remainder_98 : decode cX0_remainder 98 = .ok (.getfield 12, 3) := by decide +kernel
theorem dX0_remainder_101 : decode cX0_remainder 101 = .ok (.invokevirtual 40, 3) := by decide +kernel
theorem dX0_remainder_104 : decode cX0_remainder 104 = .ok (.aload_n 1, 1) := by decide +kernel
theorem dX0_remainder_105 : decode cX0_remainder 105 = .ok (.getfield 44, 3) := by decide +kernel
theorem dX0_remainder_108 : decode cX0_remainder 108 = .ok (.lconst 1, 1) := by decide +kernel
theorem dX0_remainder_109 : decode cX0_remainder 109 = .ok (.invokevirtual 47, 3) := by decide +kernel
theorem dX0_remainder_112 : decode cX0_remainder 112 = .ok (.return_, 1) := by decide +kernel
theorem dX0_power_0 : decode cX0_power 0 = .ok (.iload_n 3, 1) := by decide +kernel
theorem dX0_power_1 : decode cX0_power 1 = .ok (.ifCond .ge 8, 3) := by decide +kernel
theorem dX0_power_4 : decode cX0_power 4 = .ok (.iload_n 3, 1) := by decide +kernel
theorem dX0_power_5 : decode cX0_power 5 = .ok (.ineg, 1) := by decide +kernel
theorem dX0_power_6 : decode cX0_power 6 = .ok (.goto 4, 3) := by decide +kernel
theorem dX0_power_9 : decode cX0_power 9 = .ok (.iload_n 3, 1) := by decide +kernel
theorem dX0_power_10 : decode cX0_power 10 = .ok (.istore 4, 2) := by decide +kernel
theorem dX0_power_12 : decode cX0_power 12 = .ok (.aload_n 1, 1) := by decide +kernel
theorem dX0_power_13 : decode cX0_power 13 = .ok (.lconst 1, 1) := by decide +kernel
theorem dX0_power_14 : decode cX0_power 14 = .ok (.invokevirtual 72, 3) := by decide +kernel
theorem dX0_power_17 : decode cX0_power 17 = .ok (.iconst 0, 1) := by decide +kernel
theorem dX0_power_18 : decode cX0_power 18 = .ok (.istore 5, 2) := by decide +kernel
theorem dX0_power_20 : decode cX0_power 20 = .ok (.iload 5, 2) := by decide +kernel
theorem dX0_power_22 : decode cX0_power 22 = .ok (.iload 4, 2) := by decide +kernel
theorem dX0_power_24 : decode cX0_power 24 = .ok (.if_icmp .ge 70, 3) := by decide +kernel
theorem dX0_power_27 : decode cX0_power 27 = .ok (.aload_n 0, 1) := by decide +kernel
theorem dX0_power_28 : decode cX0_power 28 = .ok (.getfield 12, 3) := by decide +kernel
theorem dX0_power_31 : decode cX0_power 31 = .ok (.aload_n 1, 1) := by decide +kernel
theorem dX0_power_32 : decode cX0_power 32 = .ok (.getfield 33, 3) := by decide +kernel
theorem dX0_power_35 : decode cX0_power 35 = .ok (.aload_n 2, 1) := by decide +kernel
theorem dX0_power_36 : decode cX0_power 36 = .ok (.getfield 33, 3) := by decide +kernel
theorem dX0_power_39 : decode cX0_power 39 = .ok (.invokevirtual 51, 3) := by decide +kernel
theorem dX0_power_42 : decode cX0_power 42 = .ok (.aload_n 0, 1) := by decide +kernel
theorem dX0_power_43 : decode cX0_power 43 = .ok (.getfield 18, 3) := by decide +kernel
theorem dX0_power_46 : decode cX0_power 46 = .ok (.aload_n 1, 1) := by decide +kernel
theorem dX0_power_47 : decode cX0_power 47 = .ok (.getfield 44, 3) := by decide +kernel
theorem dX0_power_50 : decode cX0_power 50 = .ok (.aload_n 2, 1) := by decide +kernel
theorem dX0_power_51 : decode cX0_power 51 = .ok (.getfield 44, 3) := by decide +kernel
theorem dX0_power_54 : decode cX0_power 54 = .ok (.invokevirtual 51, 3) := by decide +kernel
theorem dX0_power_57 : decode cX0_power 57 = .ok (.aload_n 1, 1) := by decide +kernel
theorem dX0_power_58 : decode cX0_power 58 = .ok (.getfield 33, 3) := by decide +kernel
theorem dX0_power_61 : decode cX0_power 61 = .ok (.aload_n 0, 1) := by decide +kernel
theorem dX0_power_62 : decode cX0_power 62 = .ok (.getfield 12, 3) := by decide +kernel
theorem dX0_power_65 : decode cX0_power 65 = .ok (.invokevirtual 40, 3) := by decide +kernel
theorem dX0_power_68 : decode cX0_power 68 = .ok (.aload_n 1, 1) := by decide +kernel
theorem dX0_power_69 : decode cX0_power 69 = .ok (.getfield 44, 3) := by decide +kernel
theorem dX0_power_72 : decode cX0_power 72 = .ok (.aload_n 0, 1) := by decide +kernel
theorem dX0_power_73 : decode cX0_power 73 = .ok (.getfield 18, 3) := by decide +kernel
theorem dX0_power_76 : decode cX0_power 76 = .ok (.invokevirtual 40, 3) := by decide +kernel
theorem dX0_power_79 : decode cX0_power 79 = .ok (.aload_n 1, 1) := by decide +kernel
theorem dX0_power_80 : decode cX0_power 80 = .ok (.invokevirtual 73, 3) := by decide +kernel
theorem dX0_power_83 : decode cX0_power 83 = .ok (.ifCond .ne 5, 3) := by decide +kernel
theorem dX0_power_86 : decode cX0_power 86 = .ok (.iconst 0, 1) := by decide +kernel
theorem dX0_power_87 : decode cX0_power 87 = .ok (.ireturn, 1) := by decide +kernel
theorem dX0_power_88 : decode cX0_power 88 = .ok (.iinc 5 1, 3) := by decide +kernel
theorem dX0_power_91 : decode cX0_power 91 = .ok (.goto (-71), 3) := by decide +kernel
theorem dX0_power_94 : decode cX0_power 94 = .ok (.iload_n 3, 1) := by decide +kernel
theorem dX0_power_95 : decode cX0_power 95 = .ok (.ifCond .ge 36, 3) := by decide +kernel
theorem dX0_power_98 : decode cX0_power 98 = .ok (.aload_n 0, 1) := by decide +kernel
theorem dX0_power_99 : decode cX0_power 99 = .ok (.getfield 12, 3) := by decide +kernel
theorem dX0_power_102 : decode cX0_power 102 = .ok (.aload_n 1, 1) := by decide +kernel
theorem dX0_power_103 : decode cX0_power 103 = .ok (.getfield 33, 3) := by decide +kernel
theorem dX0_power_106 : decode cX0_power 106 = .ok (.invokevirtual 40, 3) := by decide +kernel
theorem dX0_power_109 : decode cX0_power 109 = .ok (.aload_n 1, 1) := by decide +kernel
theorem dX0_power_110 : decode cX0_power 110 = .ok (.getfield 33, 3) := by decide +kernel
theorem dX0_power_113 : decode cX0_power 113 = .ok (.aload_n 1, 1) := by decide +kernel
theorem dX0_power_114 : decode cX0_power 114 = .ok (.getfield 44, 3) := by decide +kernel
theorem dX0_power_117 : decode cX0_power 117 = .ok (.invokevirtual 40, 3) := by decide +kernel
theorem dX0_power_120 : decode cX0_power 120 = .ok (.aload_n 1, 1) := by decide +kernel
theorem dX0_power_121 : decode cX0_power 121 = .ok (.getfield 44, 3) := by decide +kernel
theorem dX0_power_124 : decode cX0_power 124 = .ok (.aload_n 0, 1) := by decide +kernel
theorem dX0_power_125 : decode cX0_power 125 = .ok (.getfield 12, 3) := by decide +kernel
theorem dX0_power_128 : decode cX0_power 128 = .ok (.invokevirtual 40, 3) := by decide +kernel
theorem dX0_power_131 : decode cX0_power 131 = .ok (.iconst 1, 1) := by decide +kernel
theorem dX0_power_132 : decode cX0_power 132 = .ok (.ireturn, 1) := by decide +kernel
theorem dX0_factorial_0 : decode cX0_factorial 0 = .ok (.aload_n 1, 1) := by decide +kernel
theorem dX0_factorial_1 : decode cX0_factorial 1 = .ok (.lconst 1, 1) := by decide +kernel
theorem dX0_factorial_2 : decode cX0_factorial 2 = .ok (.invokevirtual 72, 3) := by decide +kernel
theorem dX0_factorial_5 : decode cX0_factorial 5 = .ok (.iconst 2, 1) := by decide +kernel
theorem dX0_factorial_6 : decode cX0_factorial 6 = .ok (.istore_n 3, 1) := by decide +kernel
theorem dX0_factorial_7 : decode cX0_factorial 7 = .ok (.iload_n 3, 1) := by decide +kernel
theorem dX0_factorial_8 : decode cX0_factorial 8 = .ok (.iload_n 2, 1) := by decide +kernel
theorem dX0_factorial_9 : decode cX0_factorial 9 = .ok (.if_icmp .gt 44, 3) := by decide +kernel
theorem dX0_factorial_12 : decode cX0_factorial 12 = .ok (.aload_n 0, 1) := by decide +kernel
theorem dX0_factorial_13 : decode cX0_factorial 13 = .ok (.getfield 18, 3) := by decide +kernel
theorem dX0_factorial_16 : decode cX0_factorial 16 = .ok (.iload_n 3, 1) := by decide +kernel
theorem dX0_factorial_17 : decode cX0_factorial 17 = .ok (.i2l, 1) := by decide +kernel
theorem dX0_factorial_18 : decode cX0_factorial 18 = .ok (.invokevirtual 47, 3) := by decide +kernel
theorem dX0_factorial_21 : decode cX0_factorial 21 = .ok (.aload_n 0, 1) := by decide +kernel
theorem dX0_factorial_22 : decode cX0_factorial 22 = .ok (.getfield 12, 3) := by decide +kernel
theorem dX0_factorial_25 : decode cX0_factorial 25 = .ok (.aload_n 1, 1) := by decide +kernel
theorem dX0_factorial_26 : decode cX0_factorial 26 = .ok (.getfield 33, 3) := by decide +kernel
theorem dX0_factorial_29 : decode cX0_factorial 29 = .ok (.aload_n 0, 1) := by decide +kernel
theorem dX0_factorial_30 : decode cX0_factorial 30 = .ok (.getfield 18, 3) := by decide +kernel
theorem dX0_factorial_33 : decode cX0_factorial 33 = .ok (.invokevirtual 51, 3) := by decide +kernel
theorem dX0_factorial_36 : decode cX0_factorial 36 = .ok (.aload_n 1, 1) := by decide +kernel
theorem dX0_factorial_37 : decode cX0_factorial 37 = .ok (.getfield 33, 3) := by decide +kernel
theorem dX0_factorial_40 : decode cX0_factorial 40 = .ok (.aload_n 0, 1) := by decide +kernel
theorem dX0_factorial_41 : decode cX0_factorial 41 = .ok (.getfield 12, 3) := by decide +kernel
theorem dX0_factorial_44 : decode cX0_factorial 44 = .ok (.invokevirtual 40, 3) := by decide +kernel
theorem dX0_factorial_47 : decode cX0_factorial 47 = .ok (.iinc 3 1, 3) := by decide +kernel
theorem dX0_factorial_50 : decode cX0_factorial 50 = .ok (.goto (-43), 3) := by decide +kernel
theorem dX0_factorial_53 : decode cX0_factorial 53 = .ok (.return_, 1) := by decide +kernel
theorem dX0_settle_0 : decode cX0_settle 0 = .ok (.aload_n 1, 1) := by decide +kernel
theorem dX0_settle_1 : decode cX0_settle 1 = .ok (.getfield 44, 3) := by decide +kernel
theorem dX0_settle_4 : decode cX0_settle 4 = .ok (.getfield 62, 3) := by decide +kernel
theorem dX0_settle_7 : decode cX0_settle 7 = .ok (.ifCond .eq 17, 3) := by decide +kernel
theorem dX0_settle_10 : decode cX0_settle 10 = .ok (.aload_n 1, 1) := by decide +kernel
theorem dX0_settle_11 : decode cX0_settle 11 = .ok (.getfield 44, 3) := by decide +kernel
theorem dX0_settle_14 : decode cX0_settle 14 = .ok (.invokevirtual 66, 3) := by decide +kernel
theorem dX0_settle_17 : decode cX0_settle 17 = .ok (.aload_n 1, 1) := by decide +kernel
theorem dX0_settle_18 : decode cX0_settle 18 = .ok (.getfield 33, 3) := by decide +kernel
theorem dX0_settle_21 : decode cX0_settle 21 = .ok (.invokevirtual 66, 3) := by decide +kernel
theorem dX0_settle_24 : decode cX0_settle 24 = .ok (.aload_n 1, 1) := by decide +kernel
theorem dX0_settle_25 : decode cX0_settle 25 = .ok (.invokevirtual 76, 3) := by decide +kernel
theorem dX0_settle_28 : decode cX0_settle 28 = .ok (.ifCond .eq 8, 3) := by decide +kernel
theorem dX0_settle_31 : decode cX0_settle 31 = .ok (.aload_n 1, 1) := by decide +kernel
theorem dX0_settle_32 : decode cX0_settle 32 = .ok (.lconst 0, 1) := by decide +kernel
theorem dX0_settle_33 : decode cX0_settle 33 = .ok (.invokevirtual 72, 3) := by decide +kernel
theorem dX0_settle_36 : decode cX0_settle 36 = .ok (.aload_n 1, 1) := by decide +kernel
theorem dX0_settle_37 : decode cX0_settle 37 = .ok (.invokevirtual 27, 3) := by decide +kernel
theorem dX0_settle_40 : decode cX0_settle 40 = .ok (.ifCond .eq 4, 3) := by decide +kernel
theorem dX0_settle_43 : decode cX0_settle 43 = .ok (.return_, 1) := by decide +kernel
theorem dX0_settle_44 : decode cX0_settle 44 = .ok (.aload_n 0, 1) := by decide +kernel
theorem dX0_settle_45 : decode cX0_settle 45 = .ok (.getfield 12, 3) := by decide +kernel
theorem dX0_settle_48 : decode cX0_settle 48 = .ok (.astore_n 2, 1) := by decide +kernel
theorem dX0_settle_49 : decode cX0_settle 49 = .ok (.aload_n 0, 1) := by decide +kernel
theorem dX0_settle_50 : decode cX0_settle 50 = .ok (.getfield 18, 3) := by decide +kernel
theorem dX0_settle_53 : decode cX0_settle 53 = .ok (.astore_n 3, 1) := by decide +kernel
theorem dX0_settle_54 : decode cX0_settle 54 = .ok (.aload_n 2, 1) := by decide +kernel
theorem dX0_settle_55 : decode cX0_settle 55 = .ok (.aload_n 1, 1) := by decide +kernel
theorem dX0_settle_56 : decode cX0_settle 56 = .ok (.getfield 33, 3) := by decide +kernel
theorem dX0_settle_59 : decode cX0_settle 59 = .ok (.invokevirtual 40, 3) := by decide +kernel
theorem dX0_settle_62 : decode cX0_settle 62 = .ok (.aload_n 3, 1) := by decide +kernel
theorem dX0_settle_63 : decode cX0_settle 63 = .ok (.aload_n 1, 1) := by decide +kernel
theorem dX0_settle_64 : decode cX0_settle 64 = .ok (.getfield 44, 3) := by decide +kernel
theorem dX0_settle_67 : decode cX0_settle 67 = .ok (.invokevirtual 40, 3) := by decide +kernel
theorem dX0_settle_70 : decode cX0_settle 70 = .ok (.iconst 0, 1) := by decide +kernel
theorem dX0_settle_71 : decode cX0_settle 71 = .ok (.istore 4, 2) := by decide +kernel
theorem dX0_settle_73 : decode cX0_settle 73 = .ok (.iload 4, 2) := by decide +kernel
theorem dX0_settle_75 : decode cX0_settle 75 = .ok (.ldc 77, 2) := by decide +kernel
theorem dX0_settle_77 : decode cX0_settle 77 = .ok (.if_icmp .ge 47, 3) := by decide +kernel
theorem dX0_settle_80 : decode cX0_settle 80 = .ok (.aload_n 2, 1) := by decide +kernel
theorem dX0_settle_81 : decode cX0_settle 81 = .ok (.invokevirtual 78, 3) := by decide +kernel
theorem dX0_settle_84 : decode cX0_settle 84 = .ok (.ifCond .eq 10, 3) := by decide +kernel
theorem dX0_settle_87 : decode cX0_settle 87 = .ok (.aload_n 3, 1) := by decide +kernel
theorem dX0_settle_88 : decode cX0_settle 88 = .ok (.invokevirtual 78, 3) := by decide +kernel
theorem dX0_settle_91 : decode cX0_settle 91 = .ok (.ifCond .ne 33, 3) := by decide +kernel
theorem dX0_settle_94 : decode cX0_settle 94 = .ok (.aload_n 3, 1) := by decide +kernel
theorem dX0_settle_95 : decode cX0_settle 95 = .ok (.invokevirtual 69, 3) := by decide +kernel
theorem dX0_settle_98 : decode cX0_settle 98 = .ok (.ifCond .ne 26, 3) := by decide +kernel
theorem dX0_settle_101 : decode cX0_settle 101 = .ok (.aload_n 2, 1) := by decide +kernel
theorem dX0_settle_102 : decode cX0_settle 102 = .ok (.aload_n 3, 1) := by decide +kernel
theorem dX0_settle_103 : decode cX0_settle 103 = .ok (.aload_n 0, 1) := by decide +kernel
theorem dX0_settle_104 : decode cX0_settle 104 = .ok (.getfield 21, 3) := by decide +kernel
theorem dX0_settle_107 : decode cX0_settle 107 = .ok (.invokevirtual 59, 3) := by decide +kernel
theorem dX0_settle_110 : decode cX0_settle 110 = .ok (.aload_n 2, 1) := by decide +kernel
theorem dX0_settle_111 : decode cX0_settle 111 = .ok (.astore 5, 2) := by decide +kernel
theorem dX0_settle_113 : decode cX0_settle 113 = .ok (.aload_n 3, 1) := by decide +kernel
theorem dX0_settle_114 : decode cX0_settle 114 = .ok (.astore_n 2, 1) := by decide +kernel
theorem dX0_settle_115 : decode cX0_settle 115 = .ok (.aload 5, 2) := by decide +kernel
theorem dX0_settle_117 : decode cX0_settle 117 = .ok (.astore_n 3, 1) := by decide +kernel
theorem dX0_settle_118 : decode cX0_settle 118 = .ok (.iinc 4 1, 3) := by decide +kernel
theorem dX0_settle_121 : decode cX0_settle 121 = .ok (.goto (-48), 3) := by decide +kernel
theorem dX0_settle_124 : decode cX0_settle 124 = .ok (.aload_n 3, 1) := by decide +kernel
theorem dX0_settle_125 : decode cX0_settle 125 = .ok (.invokevirtual 69, 3) := by decide +kernel
theorem dX0_settle_128 : decode cX0_settle 128 = .ok (.ifCond .ne 18, 3) := by decide +kernel
theorem dX0_settle_131 : decode cX0_settle 131 = .ok (.aload_n 2, 1) := by decide +kernel
theorem dX0_settle_132 : decode cX0_settle 132 = .ok (.aload_n 2, 1) := by decide +kernel
theorem dX0_settle_133 : decode cX0_settle 133 = .ok (.invokevirtual 81, 3) := by decide +kernel
theorem dX0_settle_136 : decode cX0_settle 136 = .ok (.aload_n 3, 1) := by decide +kernel
theorem dX0_settle_137 : decode cX0_settle 137 = .ok (.invokevirtual 81, 3) := by decide +kernel
theorem dX0_settle_140 : decode cX0_settle 140 = .ok (.invokestatic 85, 3) := by decide +kernel
theorem dX0_settle_143 : decode cX0_settle 143 = .ok (.invokevirtual 47, 3) := by decide +kernel
theorem dX0_settle_146 : decode cX0_settle 146 = .ok (.aload_n 2, 1) := by decide +kernel
theorem dX0_settle_147 : decode cX0_settle 147 = .ok (.invokevirtual 89, 3) := by decide +kernel
theorem dX0_settle_150 : decode cX0_settle 150 = .ok (.ifCond .ne 71, 3) := by decide +kernel
theorem dX0_settle_153 : decode cX0_settle 153 = .ok (.aload_n 0, 1) := by decide +kernel
theorem dX0_settle_154 : decode cX0_settle 154 = .ok (.getfield 24, 3) := by decide +kernel
theorem dX0_settle_157 : decode cX0_settle 157 = .ok (.aload_n 1, 1) := by decide +kernel
theorem dX0_settle_158 : decode cX0_settle 158 = .ok (.getfield 33, 3) := by decide +kernel
theorem dX0_settle_161 : decode cX0_settle 161 = .ok (.invokevirtual 40, 3) := by decide +kernel
theorem dX0_settle_164 : decode cX0_settle 164 = .ok (.aload_n 0, 1) := by decide +kernel
theorem dX0_settle_165 : decode cX0_settle 165 = .ok (.getfield 24, 3) := by decide +kernel
theorem dX0_settle_168 : decode cX0_settle 168 = .ok (.aload_n 2, 1) := by decide +kernel
theorem dX0_settle_169 : decode cX0_settle 169 = .ok (.aload_n 0, 1) := by decide +kernel
theorem dX0_settle_170 : decode cX0_settle 170 = .ok (.getfield 21, 3) := by decide +kernel
theorem dX0_settle_173 : decode cX0_settle 173 = .ok (.invokevirtual 59, 3) := by decide +kernel
theorem dX0_settle_176 : decode cX0_settle 176 = .ok (.aload_n 1, 1) := by decide +kernel
theorem dX0_settle_177 : decode cX0_settle 177 = .ok (.getfield 33, 3) := by decide +kernel
theorem dX0_settle_180 : decode cX0_settle 180 = .ok (.aload_n 0, 1) := by decide +kernel
theorem dX0_settle_181 : decode cX0_settle 181 = .ok (.getfield 21, 3) := by decide +kernel
theorem dX0_settle_184 : decode cX0_settle 184 = .ok (.invokevirtual 92, 3) := by decide +kernel
theorem dX0_settle_187 : decode cX0_settle 187 = .ok (.aload_n 0, 1) := by decide +kernel
theorem dX0_settle_188 : decode cX0_settle 188 = .ok (.getfield 24, 3) := by decide +kernel
theorem dX0_settle_191 : decode cX0_settle 191 = .ok (.aload_n 1, 1) := by decide +kernel
theorem dX0_settle_192 : decode cX0_settle 192 = .ok (.getfield 44, 3) := by decide +kernel
theorem dX0_settle_195 : decode cX0_settle 195 = .ok (.invokevirtual 40, 3) := by decide +kernel
theorem dX0_settle_198 : decode cX0_settle 198 = .ok (.aload_n 0, 1) := by decide +kernel
theorem dX0_settle_199 : decode cX0_settle 199 = .ok (.getfield 24, 3) := by decide +kernel
theorem dX0_settle_202 : decode cX0_settle 202 = .ok (.aload_n 2, 1) := by decide +kernel
theorem dX0_settle_203 : decode cX0_settle 203 = .ok (.aload_n 0, 1) := by decide +kernel
theorem dX0_settle_204 : decode cX0_settle 204 = .ok (.getfield 21, 3) := by decide +kernel
theorem dX0_settle_207 : decode cX0_settle 207 = .ok (.invokevirtual 59, 3) := by decide +kernel
theorem dX0_settle_210 : decode cX0_settle 210 = .ok (.aload_n 1, 1) := by decide +kernel
theorem dX0_settle_211 : decode cX0_settle 211 = .ok (.getfield 44, 3) := by decide +kernel
theorem dX0_settle_214 : decode cX0_settle 214 = .ok (.aload_n 0, 1) := by decide +kernel
theorem dX0_settle_215 : decode cX0_settle 215 = .ok (.getfield 21, 3) := by decide +kernel
theorem dX0_settle_218 : decode cX0_settle 218 = .ok (.invokevirtual 92, 3) := by decide +kernel
theorem dX0_settle_221 : decode cX0_settle 221 = .ok (.return_, 1) := by decide +kernel
theorem dX0_commonDivisor_0 : decode cX0_commonDivisor 0 = .ok (.lload_n 0, 1) := by decide +kernel
theorem dX0_commonDivisor_1 : decode cX0_commonDivisor 1 = .ok (.lstore 4, 2) := by decide +kernel
theorem dX0_commonDivisor_3 : decode cX0_commonDivisor 3 = .ok (.lload_n 2, 1) := by decide +kernel
theorem dX0_commonDivisor_4 : decode cX0_commonDivisor 4 = .ok (.lstore 6, 2) := by decide +kernel
theorem dX0_commonDivisor_6 : decode cX0_commonDivisor 6 = .ok (.iconst 0, 1) := by decide +kernel
theorem dX0_commonDivisor_7 : decode cX0_commonDivisor 7 = .ok (.istore 8, 2) := by decide +kernel
theorem dX0_commonDivisor_9 : decode cX0_commonDivisor 9 = .ok (.iload 8, 2) := by decide +kernel
theorem dX0_commonDivisor_11 : decode cX0_commonDivisor 11 = .ok (.ldc 77, 2) := by decide +kernel
theorem dX0_commonDivisor_13 : decode cX0_commonDivisor 13 = .ok (.if_icmp .ge 31, 3) := by decide +kernel
theorem dX0_commonDivisor_16 : decode cX0_commonDivisor 16 = .ok (.lload 6, 2) := by decide +kernel
theorem dX0_commonDivisor_18 : decode cX0_commonDivisor 18 = .ok (.lconst 0, 1) := by decide +kernel
theorem dX0_commonDivisor_19 : decode cX0_commonDivisor 19 = .ok (.lcmp, 1) := by decide +kernel
theorem dX0_commonDivisor_20 : decode cX0_commonDivisor 20 = .ok (.ifCond .le 24, 3) := by decide +kernel
theorem dX0_commonDivisor_23 : decode cX0_commonDivisor 23 = .ok (.lload 4, 2) := by decide +kernel
theorem dX0_commonDivisor_25 : decode cX0_commonDivisor 25 = .ok (.lload 6, 2) := by decide +kernel
theorem dX0_commonDivisor_27 : decode cX0_commonDivisor 27 = .ok (.lrem, 1) := by decide +kernel
theorem dX0_commonDivisor_28 : decode cX0_commonDivisor 28 = .ok (.lstore 9, 2) := by decide +kernel
theorem dX0_commonDivisor_30 : decode cX0_commonDivisor 30 = .ok (.lload 6, 2) := by decide +kernel
theorem dX0_commonDivisor_32 : decode cX0_commonDivisor 32 = .ok (.lstore 4, 2) := by decide +kernel
theorem dX0_commonDivisor_34 : decode cX0_commonDivisor 34 = .ok (.lload 9, 2) := by decide +kernel
theorem dX0_commonDivisor_36 : decode cX0_commonDivisor 36 = .ok (.lstore 6, 2) := by decide +kernel
theorem dX0_commonDivisor_38 : decode cX0_commonDivisor 38 = .ok (.iinc 8 1, 3) := by decide +kernel
theorem dX0_commonDivisor_41 : decode cX0_commonDivisor 41 = .ok (.goto (-32), 3) := by decide +kernel
theorem dX0_commonDivisor_44 : decode cX0_commonDivisor 44 = .ok (.lload 4, 2) := by decide +kernel
theorem dX0_commonDivisor_46 : decode cX0_commonDivisor 46 = .ok (.lreturn, 1) := by decide +kernel
theorem dX1_init_0 : decode cX1_init 0 = .ok (.aload_n 0, 1) := by decide +kernel
theorem dX1_init_1 : decode cX1_init 1 = .ok (.invokespecial 5, 3) := by decide +kernel
theorem dX1_init_4 : decode cX1_init 4 = .ok (.aload_n 0, 1) := by decide +kernel
theorem dX1_init_5 : decode cX1_init 5 = .ok (.sipush 128, 3) := by decide +kernel
theorem dX1_init_8 : decode cX1_init 8 = .ok (.newarray .int, 2) := by decide +kernel
theorem dX1_init_10 : decode cX1_init 10 = .ok (.putfield 11, 3) := by decide +kernel
theorem dX1_init_13 : decode cX1_init 13 = .ok (.aload_n 0, 1) := by decide +kernel
theorem dX1_init_14 : decode cX1_init 14 = .ok (.bipush 48, 2) := by decide +kernel
theorem dX1_init_16 : decode cX1_init 16 = .ok (.newarray .int, 2) := by decide +kernel
theorem dX1_init_18 : decode cX1_init 18 = .ok (.putfield 15, 3) := by decide +kernel
theorem dX1_init_21 : decode cX1_init 21 = .ok (.aload_n 0, 1) := by decide +kernel
theorem dX1_init_22 : decode cX1_init 22 = .ok (.bipush 48, 2) := by decide +kernel
theorem dX1_init_24 : decode cX1_init 24 = .ok (.newarray .int, 2) := by decide +kernel
theorem dX1_init_26 : decode cX1_init 26 = .ok (.putfield 18, 3) := by decide +kernel
theorem dX1_init_29 : decode cX1_init 29 = .ok (.aload_n 0, 1) := by decide +kernel
theorem dX1_init_30 : decode cX1_init 30 = .ok (.bipush 48, 2) := by decide +kernel
theorem dX1_init_32 : decode cX1_init 32 = .ok (.newarray .int, 2) := by decide +kernel
theorem dX1_init_34 : decode cX1_init 34 = .ok (.putfield 21, 3) := by decide +kernel
theorem dX1_init_37 : decode cX1_init 37 = .ok (.aload_n 0, 1) := by decide +kernel
theorem dX1_init_38 : decode cX1_init 38 = .ok (.bipush 30, 2) := by decide +kernel
theorem dX1_init_40 : decode cX1_init 40 = .ok (.anewarray 24, 3) := by decide +kernel
theorem dX1_init_43 : decode cX1_init 43 = .ok (.putfield 26, 3) := by decide +kernel
theorem dX1_init_46 : decode cX1_init 46 = .ok (.aload_n 0, 1) := by decide +kernel
theorem dX1_init_47 : decode cX1_init 47 = .ok (.bipush 26, 2) := by decide +kernel
theorem dX1_init_49 : decode cX1_init 49 = .ok (.anewarray 30, 3) := by decide +kernel
theorem dX1_init_52 : decode cX1_init 52 = .ok (.putfield 32, 3) := by decide +kernel
theorem dX1_init_55 : decode cX1_init 55 = .ok (.aload_n 0, 1) := by decide +kernel
theorem dX1_init_56 : decode cX1_init 56 = .ok (.bipush 26, 2) := by decide +kernel
theorem dX1_init_58 : decode cX1_init 58 = .ok (.newarray .boolean, 2) := by decide +kernel
theorem dX1_init_60 : decode cX1_init 60 = .ok (.putfield 36, 3) := by decide +kernel
theorem dX1_init_63 : decode cX1_init 63 = .ok (.aload_n 0, 1) := by decide +kernel
theorem dX1_init_64 : decode cX1_init 64 = .ok (.bipush 26, 2) := by decide +kernel
theorem dX1_init_66 : decode cX1_init 66 = .ok (.bipush 10, 2) := by decide +kernel
theorem dX1_init_68 : decode cX1_init 68 = .ok (.multianewarray 40 2, 4) := by decide +kernel
theorem dX1_init_72 : decode cX1_init 72 = .ok (.putfield 42, 3) := by decide +kernel
theorem dX1_init_75 : decode cX1_init 75 = .ok (.aload_n 0, 1) := by decide +kernel
theorem dX1_init_76 : decode cX1_init 76 = .ok (.bipush 20, 2) := by decide +kernel
theorem dX1_init_78 : decode cX1_init 78 = .ok (.newarray .int, 2) := by decide +kernel
theorem dX1_init_80 : decode cX1_init 80 = .ok (.putfield 45, 3) := by decide +kernel
theorem dX1_init_83 : decode cX1_init 83 = .ok (.aload_n 0, 1) := by decide +kernel
theorem dX1_init_84 : decode cX1_init 84 = .ok (.bipush 20, 2) := by decide +kernel
theorem dX1_init_86 : decode cX1_init 86 = .ok (.newarray .int, 2) := by decide +kernel
theorem dX1_init_88 : decode cX1_init 88 = .ok (.putfield 48, 3) := by decide +kernel
theorem dX1_init_91 : decode cX1_init 91 = .ok (.aload_n 0, 1) := by decide +kernel
theorem dX1_init_92 : decode cX1_init 92 = .ok (.bipush 20, 2) := by decide +kernel
theorem dX1_init_94 : decode cX1_init 94 = .ok (.bipush 10, 2) := by decide +kernel
theorem dX1_init_96 : decode cX1_init 96 = .ok (.multianewarray 40 2, 4) := by decide +kernel
theorem dX1_init_100 : decode cX1_init 100 = .ok (.putfield 51, 3) := by decide +kernel
theorem dX1_init_103 : decode cX1_init 103 = .ok (.aload_n 0, 1) := by decide +kernel
theorem dX1_init_104 : decode cX1_init 104 = .ok (.bipush 20, 2) := by decide +kernel
theorem dX1_init_106 : decode cX1_init 106 = .ok (.anewarray 30, 3) := by decide +kernel
theorem dX1_init_109 : decode cX1_init 109 = .ok (.putfield 54, 3) := by decide +kernel
theorem dX1_init_112 : decode cX1_init 112 = .ok (.aload_n 0, 1) := by decide +kernel
theorem dX1_init_113 : decode cX1_init 113 = .ok (.invokevirtual 57, 3) := by decide +kernel
theorem dX1_init_116 : decode cX1_init 116 = .ok (.iconst 0, 1) := by decide +kernel
theorem dX1_init_117 : decode cX1_init 117 = .ok (.istore_n 1, 1) := by decide +kernel
theorem dX1_init_118 : decode cX1_init 118 = .ok (.iload_n 1, 1) := by decide +kernel
theorem dX1_init_119 : decode cX1_init 119 = .ok (.bipush 30, 2) := by decide +kernel
theorem dX1_init_121 : decode cX1_init 121 = .ok (.if_icmp .ge 22, 3) := by decide +kernel
theorem dX1_init_124 : decode cX1_init 124 = .ok (.aload_n 0, 1) := by decide +kernel
theorem dX1_init_125 : decode cX1_init 125 = .ok (.getfield 26, 3) := by decide +kernel
theorem dX1_init_128 : decode cX1_init 128 = .ok (.iload_n 1, 1) := by decide +kernel
theorem dX1_init_129 : decode cX1_init 129 = .ok (.new 24, 3) := by decide +kernel
theorem dX1_init_132 : decode cX1_init 132 = .ok (.dup, 1) := by decide +kernel
theorem dX1_init_133 : decode cX1_init 133 = .ok (.invokespecial 60, 3) := by decide +kernel
theorem dX1_init_136 : decode cX1_init 136 = .ok (.aastore, 1) := by decide +kernel
theorem dX1_init_137 : decode cX1_init 137 = .ok (.iinc 1 1, 3) := by decide +kernel
theorem dX1_init_140 : decode cX1_init 140 = .ok (.goto (-22), 3) := by decide +kernel
theorem dX1_init_143 : decode cX1_init 143 = .ok (.iconst 0, 1) := by decide +kernel
theorem dX1_init_144 : decode cX1_init 144 = .ok (.istore_n 1, 1) := by decide +kernel
theorem dX1_init_145 : decode cX1_init 145 = .ok (.iload_n 1, 1) := by decide +kernel
theorem dX1_init_146 : decode cX1_init 146 = .ok (.bipush 26, 2) := by decide +kernel
theorem dX1_init_148 : decode cX1_init 148 = .ok (.if_icmp .ge 24, 3) := by decide +kernel
theorem dX1_init_151 : decode cX1_init 151 = .ok (.aload_n 0, 1) := by decide +kernel
theorem dX1_init_152 : decode cX1_init 152 = .ok (.getfield 32, 3) := by decide +kernel
theorem dX1_init_155 : decode cX1_init 155 = .ok (.iload_n 1, 1) := by decide +kernel
theorem dX1_init_156 : decode cX1_init 156 = .ok (.new 30, 3) := by decide +kernel
theorem dX1_init_159 : decode cX1_init 159 = .ok (.dup, 1) := by decide +kernel
theorem dX1_init_160 : decode cX1_init 160 = .ok (.bipush 7, 2) := by decide +kernel
theorem dX1_init_162 : decode cX1_init 162 = .ok (.invokespecial 63, 3) := by decide +kernel
theorem dX1_init_165 : decode cX1_init 165 = .ok (.aastore, 1) := by decide +kernel
theorem dX1_init_166 : decode cX1_init 166 = .ok (.iinc 1 1, 3) := by decide +kernel
theorem dX1_init_169 : decode cX1_init 169 = .ok (.goto (-24), 3) := by decide +kernel
theorem dX1_init_172 : decode cX1_init 172 = .ok (.iconst 0, 1) := by decide +kernel
theorem dX1_init_173 : decode cX1_init 173 = .ok (.istore_n 1, 1) := by decide +kernel
theorem dX1_init_174 : decode cX1_init 174 = .ok (.iload_n 1, 1) := by decide +kernel
theorem dX1_init_175 : decode cX1_init 175 = .ok (.bipush 20, 2) := by decide +kernel
theorem dX1_init_177 : decode cX1_init 177 = .ok (.if_icmp .ge 24, 3) := by decide +kernel
theorem dX1_init_180 : decode cX1_init 180 = .ok (.aload_n 0, 1) := by decide +kernel
theorem dX1_init_181 : decode cX1_init 181 = .ok (.getfield 54, 3) := by decide +kernel
theorem dX1_init_184 : decode cX1_init 184 = .ok (.iload_n 1, 1) := by decide +kernel
theorem dX1_init_185 : decode cX1_init 185 = .ok (.new 30, 3) := by decide +kernel
theorem dX1_init_188 : decode cX1_init 188 = .ok (.dup, 1) := by decide +kernel
theorem dX1_init_189 : decode cX1_init 189 = .ok (.bipush 7, 2) := by decide +kernel
theorem dX1_init_191 : decode cX1_init 191 = .ok (.invokespecial 63, 3) := by decide +kernel
theorem dX1_init_194 : decode cX1_init 194 = .ok (.aastore, 1) := by decide +kernel
theorem dX1_init_195 : decode cX1_init 195 = .ok (.iinc 1 1, 3) := by decide +kernel
theorem dX1_init_198 : decode cX1_init 198 = .ok (.goto (-24), 3) := by decide +kernel
theorem dX1_init_201 : decode cX1_init 201 = .ok (.return_, 1) := by decide +kernel
theorem dX1_beginOperators_0 : decode cX1_beginOperators 0 = .ok (.iconst 0, 1) := by decide +kernel
theorem dX1_beginOperators_1 : decode cX1_beginOperators 1 = .ok (.istore_n 1, 1) := by decide +kernel
theorem dX1_beginOperators_2 : decode cX1_beginOperators 2 = .ok (.iload_n 1, 1) := by decide +kernel
theorem dX1_beginOperators_3 : decode cX1_beginOperators 3 = .ok (.aload_n 0, 1) := by decide +kernel
theorem dX1_beginOperators_4 : decode cX1_beginOperators 4 = .ok (.getfield 11, 3) := by decide +kernel
theorem dX1_beginOperators_7 : decode cX1_beginOperators 7 = .ok (.arraylength, 1) := by decide +kernel
theorem dX1_beginOperators_8 : decode cX1_beginOperators 8 = .ok (.if_icmp .ge 22, 3) := by decide +kernel
theorem dX1_beginOperators_11 : decode cX1_beginOperators 11 = .ok (.aload_n 0, 1) := by decide +kernel
theorem dX1_beginOperators_12 : decode cX1_beginOperators 12 = .ok (.getfield 11, 3) := by decide +kernel
theorem dX1_beginOperators_15 : decode cX1_beginOperators 15 = .ok (.iload_n 1, 1) := by decide +kernel
theorem dX1_beginOperators_16 : decode cX1_beginOperators 16 = .ok (.ldc 66, 2) := by decide +kernel
theorem dX1_beginOperators_18 : decode cX1_beginOperators 18 = .ok (.iload_n 1, 1) := by decide +kernel
theorem dX1_beginOperators_19 : decode cX1_beginOperators 19 = .ok (.i2c, 1) := by decide +kernel
theorem dX1_beginOperators_20 : decode cX1_beginOperators 20 = .ok (.invokevirtual 68, 3) := by decide +kernel
theorem dX1_beginOperators_23 : decode cX1_beginOperators 23 = .ok (.iastore, 1) := by decide +kernel
theorem dX1_beginOperators_24 : decode cX1_beginOperators 24 = .ok (.iinc 1 1, 3) := by decide +kernel
theorem dX1_beginOperators_27 : decode cX1_beginOperators 27 = .ok (.goto (-25), 3) := by decide +kernel
theorem dX1_beginOperators_30 : decode cX1_beginOperators 30 = .ok (.aload_n 0, 1) := by decide +kernel
theorem dX1_beginOperators_31 : decode cX1_beginOperators 31 = .ok (.bipush 124, 2) := by decide +kernel
theorem dX1_beginOperators_33 : decode cX1_beginOperators 33 = .ok (.iconst 2, 1) := by decide +kernel
theorem dX1_beginOperators_34 : decode cX1_beginOperators 34 = .ok (.iconst 1, 1) := by decide +kernel
theorem dX1_beginOperators_35 : decode cX1_beginOperators 35 = .ok (.iconst 0, 1) := by decide +kernel
theorem dX1_beginOperators_36 : decode cX1_beginOperators 36 = .ok (.bipush 10, 2) := by decide +kernel
theorem dX1_beginOperators_38 : decode cX1_beginOperators 38 = .ok (.invokevirtual 74, 3) := by decide +kernel
theorem dX1_beginOperators_41 : decode cX1_beginOperators 41 = .ok (.aload_n 0, 1) := by decide +kernel
theorem dX1_beginOperators_42 : decode cX1_beginOperators 42 = .ok (.bipush 38, 2) := by decide +kernel
theorem dX1_beginOperators_44 : decode cX1_beginOperators 44 = .ok (.iconst 2, 1) := by decide +kernel
theorem dX1_beginOperators_45 : decode cX1_beginOperators 45 = .ok (.iconst 2, 1) := by decide +kernel
theorem dX1_beginOperators_46 : decode cX1_beginOperators 46 = .ok (.iconst 0, 1) := by decide +kernel
theorem dX1_beginOperators_47 : decode cX1_beginOperators 47 = .ok (.bipush 9, 2) := by decide +kernel
theorem dX1_beginOperators_49 : decode cX1_beginOperators 49 = .ok (.invokevirtual 74, 3) := by decide +kernel
theorem dX1_beginOperators_52 : decode cX1_beginOperators 52 = .ok (.aload_n 0, 1) := by decide +kernel
theorem dX1_beginOperators_53 : decode cX1_beginOperators 53 = .ok (.bipush 60, 2) := by decide +kernel
theorem dX1_beginOperators_55 : decode cX1_beginOperators 55 = .ok (.iconst 2, 1) := by decide +kernel
theorem dX1_beginOperators_56 : decode cX1_beginOperators 56 = .ok (.iconst 3, 1) := by decide +kernel
theorem dX1_beginOperators_57 : decode cX1_beginOperators 57 = .ok (.iconst 2, 1) := by decide +kernel
theorem dX1_beginOperators_58 : decode cX1_beginOperators 58 = .ok (.bipush 6, 2) := by decide +kernel
theorem dX1_beginOperators_60 : decode cX1_beginOperators 60 = .ok (.invokevirtual 74, 3) := by decide +kernel
theorem dX1_beginOperators_63 : decode cX1_beginOperators 63 = .ok (.aload_n 0, 1) := by decide +kernel
theorem dX1_beginOperators_64 : decode cX1_beginOperators 64 = .ok (.bipush 61, 2) := by decide +kernel
theorem dX1_beginOperators_66 : decode cX1_beginOperators 66 = .ok (.iconst 2, 1) := by decide +kernel
theorem dX1_beginOperators_67 : decode cX1_beginOperators 67 = .ok (.iconst 3, 1) := by decide +kernel
theorem dX1_beginOperators_68 : decode cX1_beginOperators 68 = .ok (.iconst 2, 1) := by decide +kernel
theorem dX1_beginOperators_69 : decode cX1_beginOperators 69 = .ok (.bipush 7, 2) := by decide +kernel
theorem dX1_beginOperators_71 : decode cX1_beginOperators 71 = .ok (.invokevirtual 74, 3) := by decide +kernel
theorem dX1_beginOperators_74 : decode cX1_beginOperators 74 = .ok (.aload_n 0, 1) := by decide +kernel
theorem dX1_beginOperators_75 : decode cX1_beginOperators 75 = .ok (.bipush 62, 2) := by decide +kernel
theorem dX1_beginOperators_77 : decode cX1_beginOperators 77 = .ok (.iconst 2, 1) := by decide +kernel
theorem dX1_beginOperators_78 : decode cX1_beginOperators 78 = .ok (.iconst 3, 1) := by decide +kernel
theorem dX1_beginOperators_79 : decode cX1_beginOperators 79 = .ok (.iconst 2, 1) := by decide +kernel
theorem dX1_beginOperators_80 : decode cX1_beginOperators 80 = .ok (.bipush 8, 2) := by decide +kernel
theorem dX1_beginOperators_82 : decode cX1_beginOperators 82 = .ok (.invokevirtual 74, 3) := by decide +kernel
theorem dX1_beginOperators_85 : decode cX1_beginOperators 85 = .ok (.aload_n 0, 1) := by decide +kernel
theorem dX1_beginOperators_86 : decode cX1_beginOperators 86 = .ok (.bipush 43, 2) := by decide +kernel
theorem dX1_beginOperators_88 : decode cX1_beginOperators 88 = .ok (.iconst 2, 1) := by decide +kernel
theorem dX1_beginOperators_89 : decode cX1_beginOperators 89 = .ok (.iconst 4, 1) := by decide +kernel
theorem dX1_beginOperators_90 : decode cX1_beginOperators 90 = .ok (.iconst 0, 1) := by decide +kernel
theorem dX1_beginOperators_91 : decode cX1_beginOperators 91 = .ok (.iconst 0, 1) := by decide +kernel
theorem dX1_beginOperators_92 : decode cX1_beginOperators 92 = .ok (.invokevirtual 74, 3) := by decide +kernel
theorem dX1_beginOperators_95 : decode cX1_beginOperators 95 = .ok (.aload_n 0, 1) := by decide +kernel
theorem dX1_beginOperators_96 : decode cX1_beginOperators 96 = .ok (.bipush 45, 2) := by decide +kernel
theorem dX1_beginOperators_98 : decode cX1_beginOperators 98 = .ok (.iconst 2, 1) := by decide +kernel
theorem dX1_beginOperators_99 : decode cX1_beginOperators 99 = .ok (.iconst 4, 1) := by decide +kernel
theorem dX1_beginOperators_100 : decode cX1_beginOperators 100 = .ok (.iconst 0, 1) := by decide +kernel
theorem dX1_beginOperators_101 : decode cX1_beginOperators 101 = .ok (.iconst 1, 1) := by decide +kernel
theorem dX1_beginOperators_102 : decode cX1_beginOperators 102 = .ok (.invokevirtual 74, 3) := by decide +kernel
theorem dX1_beginOperators_105 : decode cX1_beginOperators 105 = .ok (.aload_n 0, 1) := by decide +kernel
theorem dX1_beginOperators_106 : decode cX1_beginOperators 106 = .ok (.bipush 42, 2) := by decide +kernel
theorem dX1_beginOperators_108 : decode cX1_beginOperators 108 = .ok (.iconst 2, 1) := by decide +kernel
theorem dX1_beginOperators_109 : decode cX1_beginOperators 109 = .ok (.iconst 5, 1) := by decide +kernel
theorem dX1_beginOperators_110 : decode cX1_beginOperators 110 = .ok (.iconst 0, 1) := by decide +kernel
theorem dX1_beginOperators_111 : decode cX1_beginOperators 111 = .ok (.iconst 2, 1) := by decide +kernel
theorem dX1_beginOperators_112 : decode cX1_beginOperators 112 = .ok (.invokevirtual 74, 3) := by decide +kernel
theorem dX1_beginOperators_115 : decode cX1_beginOperators 115 = .ok (.aload_n 0, 1) := by decide +kernel
theorem dX1_beginOperators_116 : decode cX1_beginOperators 116 = .ok (.bipush 47, 2) := by decide +kernel
theorem dX1_beginOperators_118 : decode cX1_beginOperators 118 = .ok (.iconst 2, 1) := by decide +kernel
theorem dX1_beginOperators_119 : decode cX1_beginOperators 119 = .ok (.iconst 5, 1) := by decide +kernel
theorem dX1_beginOperators_120 : decode cX1_beginOperators 120 = .ok (.iconst 0, 1) := by decide +kernel
theorem dX1_beginOperators_121 : decode cX1_beginOperators 121 = .ok (.iconst 3, 1) := by decide +kernel
theorem dX1_beginOperators_122 : decode cX1_beginOperators 122 = .ok (.invokevirtual 74, 3) := by decide +kernel
theorem dX1_beginOperators_125 : decode cX1_beginOperators 125 = .ok (.aload_n 0, 1) := by decide +kernel
theorem dX1_beginOperators_126 : decode cX1_beginOperators 126 = .ok (.bipush 37, 2) := by decide +kernel
theorem dX1_beginOperators_128 : decode cX1_beginOperators 128 = .ok (.iconst 2, 1) := by decide +kernel
theorem dX1_beginOperators_129 : decode cX1_beginOperators 129 = .ok (.iconst 5, 1) := by decide +kernel
theorem dX1_beginOperators_130 : decode cX1_beginOperators 130 = .ok (.iconst 0, 1) := by decide +kernel
theorem dX1_beginOperators_131 : decode cX1_beginOperators 131 = .ok (.iconst 4, 1) := by decide +kernel
theorem dX1_beginOperators_132 : decode cX1_beginOperators 132 = .ok (.invokevirtual 74, 3) := by decide +kernel
theorem dX1_beginOperators_135 : decode cX1_beginOperators 135 = .ok (.aload_n 0, 1) := by decide +kernel
theorem dX1_beginOperators_136 : decode cX1_beginOperators 136 = .ok (.bipush 94, 2) := by decide +kernel
theorem dX1_beginOperators_138 : decode cX1_beginOperators 138 = .ok (.iconst 2, 1) := by decide +kernel
theorem dX1_beginOperators_139 : decode cX1_beginOperators 139 = .ok (.bipush 7, 2) := by decide +kernel
theorem dX1_beginOperators_141 : decode cX1_beginOperators 141 = .ok (.iconst 1, 1) := by decide +kernel
theorem dX1_beginOperators_142 : decode cX1_beginOperators 142 = .ok (.iconst 5, 1) := by decide +kernel
theorem dX1_beginOperators_143 : decode cX1_beginOperators 143 = .ok (.invokevirtual 74, 3) := by decide +kernel
theorem dX1_beginOperators_146 : decode cX1_beginOperators 146 = .ok (.aload_n 0, 1) := by decide +kernel
theorem dX1_beginOperators_147 : decode cX1_beginOperators 147 = .ok (.bipush 45, 2) := by decide +kernel
theorem dX1_beginOperators_149 : decode cX1_beginOperators 149 = .ok (.iconst 0, 1) := by decide +kernel
theorem dX1_beginOperators_150 : decode cX1_beginOperators 150 = .ok (.bipush 6, 2) := by decide +kernel
theorem dX1_beginOperators_152 : decode cX1_beginOperators 152 = .ok (.iconst 0, 1) := by decide +kernel
theorem dX1_beginOperators_153 : decode cX1_beginOperators 153 = .ok (.bipush 11, 2) := by decide +kernel
theorem dX1_beginOperators_155 : decode cX1_beginOperators 155 = .ok (.invokevirtual 74, 3) := by decide +kernel
theorem dX1_beginOperators_158 : decode cX1_beginOperators 158 = .ok (.aload_n 0, 1) := by decide +kernel
theorem dX1_beginOperators_159 : decode cX1_beginOperators 159 = .ok (.bipush 126, 2) := by decide +kernel
theorem dX1_beginOperators_161 : decode cX1_beginOperators 161 = .ok (.iconst 0, 1) := by decide +kernel
theorem dX1_beginOperators_162 : decode cX1_beginOperators 162 = .ok (.bipush 6, 2) := by decide +kernel
theorem dX1_beginOperators_164 : decode cX1_beginOperators 164 = .ok (.iconst 0, 1) := by decide +kernel
theorem dX1_beginOperators_165 : decode cX1_beginOperators 165 = .ok (.bipush 12, 2) := by decide +kernel
theorem dX1_beginOperators_167 : decode cX1_beginOperators 167 = .ok (.invokevirtual 74, 3) := by decide +kernel
theorem dX1_beginOperators_170 : decode cX1_beginOperators 170 = .ok (.aload_n 0, 1) := by decide +kernel
theorem dX1_beginOperators_171 : decode cX1_beginOperators 171 = .ok (.bipush 33, 2) := by decide +kernel
theorem dX1_beginOperators_173 : decode cX1_beginOperators 173 = .ok (.iconst 1, 1) := by decide +kernel
theorem dX1_beginOperators_174 : decode cX1_beginOperators 174 = .ok (.bipush 8, 2) := by decide +kernel
theorem dX1_beginOperators_176 : decode cX1_beginOperators 176 = .ok (.iconst 0, 1) := by decide +kernel
theorem dX1_beginOperators_177 : decode cX1_beginOperators 177 = .ok (.bipush 13, 2) := by decide +kernel
theorem dX1_beginOperators_179 : decode cX1_beginOperators 179 = .ok (.invokevirtual 74, 3) := by decide +kernel
theorem dX1_beginOperators_182 : decode cX1_beginOperators 182 = .ok (.return_, 1) := by decide +kernel
theorem dX1_begin_0 : decode cX1_begin 0 = .ok (.aload_n 0, 1) := by decide +kernel
theorem dX1_begin_1 : decode cX1_begin 1 = .ok (.aload_n 0, 1) := by decide +kernel
theorem dX1_begin_2 : decode cX1_begin 2 = .ok (.iload_n 1, 1) := by decide +kernel
theorem dX1_begin_3 : decode cX1_begin 3 = .ok (.iload_n 2, 1) := by decide +kernel
theorem dX1_begin_4 : decode cX1_begin 4 = .ok (.invokevirtual 78, 3) := by decide +kernel
theorem dX1_begin_7 : decode cX1_begin 7 = .ok (.iload_n 3, 1) := by decide +kernel
theorem dX1_begin_8 : decode cX1_begin 8 = .ok (.iload 4, 2) := by decide +kernel
theorem dX1_begin_10 : decode cX1_begin 10 = .ok (.iload 5, 2) := by decide +kernel
theorem dX1_begin_12 : decode cX1_begin 12 = .ok (.invokevirtual 82, 3) := by decide +kernel
theorem dX1_begin_15 : decode cX1_begin 15 = .ok (.return_, 1) := by decide +kernel
theorem dX1_putOperator_0 : decode cX1_putOperator 0 = .ok (.iload_n 1, 1) := by decide +kernel
theorem dX1_putOperator_1 : decode cX1_putOperator 1 = .ok (.ifCond .lt 34, 3) := by decide +kernel
theorem dX1_putOperator_4 : decode cX1_putOperator 4 = .ok (.iload_n 1, 1) := by decide +kernel
theorem dX1_putOperator_5 : decode cX1_putOperator 5 = .ok (.aload_n 0, 1) := by decide +kernel
theorem dX1_putOperator_6 : decode cX1_putOperator 6 = .ok (.getfield 15, 3) := by decide +kernel
theorem dX1_putOperator_9 : decode cX1_putOperator 9 = .ok (.arraylength, 1) := by decide +kernel
theorem dX1_putOperator_10 : decode cX1_putOperator 10 = .ok (.if_icmp .ge 25, 3) := by decide +kernel
theorem dX1_putOperator_13 : decode cX1_putOperator 13 = .ok (.aload_n 0, 1) := by decide +kernel
theorem dX1_putOperator_14 : decode cX1_putOperator 14 = .ok (.getfield 15, 3) := by decide +kernel
theorem dX1_putOperator_17 : decode cX1_putOperator 17 = .ok (.iload_n 1, 1) := by decide +kernel
theorem dX1_putOperator_18 : decode cX1_putOperator 18 = .ok (.iload_n 2, 1) := by decide +kernel
theorem dX1_putOperator_19 : decode cX1_putOperator 19 = .ok (.iastore, 1) := by decide +kernel
theorem dX1_putOperator_20 : decode cX1_putOperator 20 = .ok (.aload_n 0, 1) := by decide +kernel
theorem dX1_putOperator_21 : decode cX1_putOperator 21 = .ok (.getfield 18, 3) := by decide +kernel
theorem dX1_putOperator_24 : decode cX1_putOperator 24 = .ok (.iload_n 1, 1) := by decide +kernel
theorem dX1_putOperator_25 : decode cX1_putOperator 25 = .ok (.iload_n 3, 1) := by decide +kernel
theorem dX1_putOperator_26 : decode cX1_putOperator 26 = .ok (.iastore, 1) := by decide +kernel
theorem dX1_putOperator_27 : decode cX1_putOperator 27 = .ok (.aload_n 0, 1) := by decide +kernel
theorem dX1_putOperator_28 : decode cX1_putOperator 28 = .ok (.getfield 21, 3) := by decide +kernel
theorem dX1_putOperator_31 : decode cX1_putOperator 31 = .ok (.iload_n 1, 1) := by decide +kernel
theorem dX1_putOperator_32 : decode cX1_putOperator 32 = .ok (.iload 4, 2) := by decide +kernel
theorem dX1_putOperator_34 : decode cX1_putOperator 34 = .ok (.iastore, 1) := by decide +kernel
theorem dX1_putOperator_35 : decode cX1_putOperator 35 = .ok (.return_, 1) := by decide +kernel
theorem dX1_isSign_0 : decode cX1_isSign 0 = .ok (.aload_n 0, 1) := by decide +kernel
theorem dX1_isSign_1 : decode cX1_isSign 1 = .ok (.iload_n 1, 1) := by decide +kernel
theorem dX1_isSign_2 : decode cX1_isSign 2 = .ok (.iconst 0, 1) := by decide +kernel
theorem dX1_isSign_3 : decode cX1_isSign 3 = .ok (.invokevirtual 78, 3) := by decide +kernel
theorem dX1_isSign_6 : decode cX1_isSign 6 = .ok (.ifCond .lt 7, 3) := by decide +kernel
theorem dX1_isSign_9 : decode cX1_isSign 9 = .ok (.iconst 1, 1) := by decide +kernel
theorem dX1_isSign_10 : decode cX1_isSign 10 = .ok (.goto 4, 3) := by decide +kernel
theorem dX1_isSign_13 : decode cX1_isSign 13 = .ok (.iconst 0, 1) := by decide +kernel
theorem dX1_isSign_14 : decode cX1_isSign 14 = .ok (.ireturn, 1) := by decide +kernel
theorem dX1_isFix_0 : decode cX1_isFix 0 = .ok (.iload_n 0, 1) := by decide +kernel
theorem dX1_isFix_1 : decode cX1_isFix 1 = .ok (.ifCond .lt 12, 3) := by decide +kernel
theorem dX1_isFix_4 : decode cX1_isFix 4 = .ok (.iload_n 0, 1) := by decide +kernel
theorem dX1_isFix_5 : decode cX1_isFix 5 = .ok (.iconst 2, 1) := by decide +kernel
theorem dX1_isFix_6 : decode cX1_isFix 6 = .ok (.if_icmp .gt 7, 3) := by decide +kernel
theorem dX1_isFix_9 : decode cX1_isFix 9 = .ok (.iconst 1, 1) := by decide +kernel
theorem dX1_isFix_10 : decode cX1_isFix 10 = .ok (.goto 4, 3) := by decide +kernel
theorem dX1_isFix_13 : decode cX1_isFix 13 = .ok (.iconst 0, 1) := by decide +kernel
theorem dX1_isFix_14 : decode cX1_isFix 14 = .ok (.ireturn, 1) := by decide +kernel
theorem dX1_slot_0 : decode cX1_slot 0 = .ok (.iload_n 1, 1) := by decide +kernel
theorem dX1_slot_1 : decode cX1_slot 1 = .ok (.ifCond .lt 21, 3) := by decide +kernel
theorem dX1_slot_4 : decode cX1_slot 4 = .ok (.iload_n 1, 1) := by decide +kernel
theorem dX1_slot_5 : decode cX1_slot 5 = .ok (.aload_n 0, 1) := by decide +kernel
theorem dX1_slot_6 : decode cX1_slot 6 = .ok (.getfield 11, 3) := by decide +kernel
theorem dX1_slot_9 : decode cX1_slot 9 = .ok (.arraylength, 1) := by decide +kernel
theorem dX1_slot_10 : decode cX1_slot 10 = .ok (.if_icmp .ge 12, 3) := by decide +kernel
theorem dX1_slot_13 : decode cX1_slot 13 = .ok (.aload_n 0, 1) := by decide +kernel
theorem dX1_slot_14 : decode cX1_slot 14 = .ok (.getfield 11, 3) := by decide +kernel
theorem dX1_slot_17 : decode cX1_slot 17 = .ok (.iload_n 1, 1) := by decide +kernel
theorem dX1_slot_18 : decode cX1_slot 18 = .ok (.iaload, 1) := by decide +kernel
theorem dX1_slot_19 : decode cX1_slot 19 = .ok (.goto 4, 3) := by decide +kernel
theorem dX1_slot_22 : decode cX1_slot 22 = .ok (.iconst (-1), 1) := by decide +kernel
theorem dX1_slot_23 : decode cX1_slot 23 = .ok (.istore_n 3, 1) := by decide +kernel
theorem dX1_slot_24 : decode cX1_slot 24 = .ok (.iload_n 3, 1) := by decide +kernel
theorem dX1_slot_25 : decode cX1_slot 25 = .ok (.ifCond .lt 12, 3) := by decide +kernel
theorem dX1_slot_28 : decode cX1_slot 28 = .ok (.iload_n 2, 1) := by decide +kernel
theorem dX1_slot_29 : decode cX1_slot 29 = .ok (.ifCond .lt 8, 3) := by decide +kernel
theorem dX1_slot_32 : decode cX1_slot 32 = .ok (.iload_n 2, 1) := by decide +kernel
theorem dX1_slot_33 : decode cX1_slot 33 = .ok (.iconst 2, 1) := by decide +kernel
theorem dX1_slot_34 : decode cX1_slot 34 = .ok (.if_icmp .le 7, 3) := by decide +kernel
theorem dX1_slot_37 : decode cX1_slot 37 = .ok (.iconst (-1), 1) := by decide +kernel
theorem dX1_slot_38 : decode cX1_slot 38 = .ok (.goto 9, 3) := by decide +kernel
theorem dX1_slot_41 : decode cX1_slot 41 = .ok (.iload_n 2, 1) := by decide +kernel
theorem dX1_slot_42 : decode cX1_slot 42 = .ok (.bipush 16, 2) := by decide +kernel
theorem dX1_slot_44 : decode cX1_slot 44 = .ok (.imul, 1) := by decide +kernel
theorem dX1_slot_45 : decode cX1_slot 45 = .ok (.iload_n 3, 1) := by decide +kernel
theorem dX1_slot_46 : decode cX1_slot 46 = .ok (.iadd, 1) := by decide +kernel
theorem dX1_slot_47 : decode cX1_slot 47 = .ok (.ireturn, 1) := by decide +kernel
theorem dX1_isOperator_0 : decode cX1_isOperator 0 = .ok (.iload_n 1, 1) := by decide +kernel
theorem dX1_isOperator_1 : decode cX1_isOperator 1 = .ok (.iconst 1, 1) := by decide +kernel
theorem dX1_isOperator_2 : decode cX1_isOperator 2 = .ok (.if_icmp .lt 27, 3) := by decide +kernel
theorem dX1_isOperator_5 : decode cX1_isOperator 5 = .ok (.iload_n 1, 1) := by decide +kernel
theorem dX1_isOperator_6 : decode cX1_isOperator 6 = .ok (.bipush 9, 2) := by decide +kernel
theorem dX1_isOperator_8 : decode cX1_isOperator 8 = .ok (.if_icmp .gt 21, 3) := by decide +kernel
theorem dX1_isOperator_11 : decode cX1_isOperator 11 = .ok (.iload_n 2, 1) := by decide +kernel
theorem dX1_isOperator_12 : decode cX1_isOperator 12 = .ok (.ifCond .lt 17, 3) := by decide +kernel
theorem dX1_isOperator_15 : decode cX1_isOperator 15 = .ok (.iload_n 2, 1) := by decide +kernel
theorem dX1_isOperator_16 : decode cX1_isOperator 16 = .ok (.iconst 2, 1) := by decide +kernel
theorem dX1_isOperator_17 : decode cX1_isOperator 17 = .ok (.if_icmp .gt 12, 3) := by decide +kernel
theorem dX1_isOperator_20 : decode cX1_isOperator 20 = .ok (.iload_n 0, 1) := by decide +kernel
theorem dX1_isOperator_21 : decode cX1_isOperator 21 = .ok (.iconst 2, 1) := by decide +kernel
theorem dX1_isOperator_22 : decode cX1_isOperator 22 = .ok (.if_icmp .eq 9, 3) := by decide +kernel
theorem dX1_isOperator_25 : decode cX1_isOperator 25 = .ok (.iload_n 2, 1) := by decide +kernel
theorem dX1_isOperator_26 : decode cX1_isOperator 26 = .ok (.ifCond .eq 5, 3) := by decide +kernel
theorem dX1_isOperator_29 : decode cX1_isOperator 29 = .ok (.iconst 0, 1) := by decide +kernel
theorem dX1_isOperator_30 : decode cX1_isOperator 30 = .ok (.ireturn, 1) := by decide +kernel
theorem dX1_isOperator_31 : decode cX1_isOperator 31 = .ok (.iload_n 3, 1) := by decide +kernel
theorem dX1_isOperator_32 : decode cX1_isOperator 32 = .ok (.bipush 100, 2) := by decide +kernel
theorem dX1_isOperator_34 : decode cX1_isOperator 34 = .ok (.isub, 1) := by decide +kernel
theorem dX1_isOperator_35 : decode cX1_isOperator 35 = .ok (.istore 4, 2) := by decide +kernel
theorem dX1_isOperator_37 : decode cX1_isOperator 37 = .ok (.iload 4, 2) := by decide +kernel
theorem dX1_isOperator_39 : decode cX1_isOperator 39 = .ok (.ifCond .lt 30, 3) := by decide +kernel
theorem dX1_isOperator_42 : decode cX1_isOperator 42 = .ok (.iload 4, 2) := by decide +kernel
theorem dX1_isOperator_44 : decode cX1_isOperator 44 = .ok (.bipush 26, 2) := by decide +kernel
theorem dX1_isOperator_46 : decode cX1_isOperator 46 = .ok (.if_icmp .ge 23, 3) := by decide +kernel
theorem dX1_isOperator_49 : decode cX1_isOperator 49 = .ok (.iload 4, 2) := by decide +kernel
theorem dX1_isOperator_51 : decode cX1_isOperator 51 = .ok (.bipush 8, 2) := by decide +kernel
theorem dX1_isOperator_53 : decode cX1_isOperator 53 = .ok (.if_icmp .eq 14, 3) := by decide +kernel
theorem dX1_isOperator_56 : decode cX1_isOperator 56 = .ok (.iload 4, 2) := by decide +kernel
theorem dX1_isOperator_58 : decode cX1_isOperator 58 = .ok (.bipush 18, 2) := by decide +kernel
theorem dX1_isOperator_60 : decode cX1_isOperator 60 = .ok (.if_icmp .eq 7, 3) := by decide +kernel
theorem dX1_isOperator_63 : decode cX1_isOperator 63 = .ok (.iconst 1, 1) := by decide +kernel
theorem dX1_isOperator_64 : decode cX1_isOperator 64 = .ok (.goto 4, 3) := by decide +kernel
theorem dX1_isOperator_67 : decode cX1_isOperator 67 = .ok (.iconst 0, 1) := by decide +kernel
theorem dX1_isOperator_68 : decode cX1_isOperator 68 = .ok (.ireturn, 1) := by decide +kernel
theorem dX1_isOperator_69 : decode cX1_isOperator 69 = .ok (.iload_n 0, 1) := by decide +kernel
theorem dX1_isOperator_70 : decode cX1_isOperator 70 = .ok (.iconst 2, 1) := by decide +kernel
theorem dX1_isOperator_71 : decode cX1_isOperator 71 = .ok (.if_icmp .ne 21, 3) := by decide +kernel
theorem dX1_isOperator_74 : decode cX1_isOperator 74 = .ok (.iload_n 3, 1) := by decide +kernel
theorem dX1_isOperator_75 : decode cX1_isOperator 75 = .ok (.ifCond .lt 13, 3) := by decide +kernel
theorem dX1_isOperator_78 : decode cX1_isOperator 78 = .ok (.iload_n 3, 1) := by decide +kernel
theorem dX1_isOperator_79 : decode cX1_isOperator 79 = .ok (.bipush 10, 2) := by decide +kernel
theorem dX1_isOperator_81 : decode cX1_isOperator 81 = .ok (.if_icmp .gt 7, 3) := by decide +kernel
theorem dX1_isOperator_84 : decode cX1_isOperator 84 = .ok (.iconst 1, 1) := by decide +kernel
theorem dX1_isOperator_85 : decode cX1_isOperator 85 = .ok (.goto 24, 3) := by decide +kernel
theorem dX1_isOperator_88 : decode cX1_isOperator 88 = .ok (.iconst 0, 1) := by decide +kernel
theorem dX1_isOperator_89 : decode cX1_isOperator 89 = .ok (.goto 20, 3) := by decide +kernel
theorem dX1_isOperator_92 : decode cX1_isOperator 92 = .ok (.iload_n 3, 1) := by decide +kernel
theorem dX1_isOperator_93 : decode cX1_isOperator 93 = .ok (.bipush 11, 2) := by decide +kernel
theorem dX1_isOperator_95 : decode cX1_isOperator 95 = .ok (.if_icmp .lt 13, 3) := by decide +kernel
theorem dX1_isOperator_98 : decode cX1_isOperator 98 = .ok (.iload_n 3, 1) := by decide +kernel
theorem dX1_isOperator_99 : decode cX1_isOperator 99 = .ok (.bipush 13, 2) := by decide +kernel
theorem dX1_isOperator_101 : decode cX1_isOperator 101 = .ok (.if_icmp .gt 7, 3) := by decide +kernel
theorem dX1_isOperator_104 : decode cX1_isOperator 104 = .ok (.iconst 1, 1) := by decide +kernel
theorem dX1_isOperator_105 : decode cX1_isOperator 105 = .ok (.goto 4, 3) := by decide +kernel
theorem dX1_isOperator_108 : decode cX1_isOperator 108 = .ok (.iconst 0, 1) := by decide +kernel
theorem dX1_isOperator_109 : decode cX1_isOperator 109 = .ok (.ireturn, 1) := by decide +kernel
theorem dX1_rank_0 : decode cX1_rank 0 = .ok (.aload_n 0, 1) := by decide +kernel
theorem dX1_rank_1 : decode cX1_rank 1 = .ok (.iload_n 1, 1) := by decide +kernel
theorem dX1_rank_2 : decode cX1_rank 2 = .ok (.iload_n 2, 1) := by decide +kernel
theorem dX1_rank_3 : decode cX1_rank 3 = .ok (.invokevirtual 78, 3) := by decide +kernel
theorem dX1_rank_6 : decode cX1_rank 6 = .ok (.istore_n 3, 1) := by decide +kernel
theorem dX1_rank_7 : decode cX1_rank 7 = .ok (.iload_n 3, 1) := by decide +kernel
theorem dX1_rank_8 : decode cX1_rank 8 = .ok (.ifCond .ge 7, 3) := by decide +kernel
theorem dX1_rank_11 : decode cX1_rank 11 = .ok (.iconst 0, 1) := by decide +kernel
theorem dX1_rank_12 : decode cX1_rank 12 = .ok (.goto 9, 3) := by decide +kernel
theorem dX1_rank_15 : decode cX1_rank 15 = .ok (.aload_n 0, 1) := by decide +kernel
theorem dX1_rank_16 : decode cX1_rank 16 = .ok (.getfield 15, 3) := by decide +kernel
theorem dX1_rank_19 : decode cX1_rank 19 = .ok (.iload_n 3, 1) := by decide +kernel
theorem dX1_rank_20 : decode cX1_rank 20 = .ok (.iaload, 1) := by decide +kernel
theorem dX1_rank_21 : decode cX1_rank 21 = .ok (.ireturn, 1) := by decide +kernel
theorem dX1_side_0 : decode cX1_side 0 = .ok (.aload_n 0, 1) := by decide +kernel
theorem dX1_side_1 : decode cX1_side 1 = .ok (.iload_n 1, 1) := by decide +kernel
theorem dX1_side_2 : decode cX1_side 2 = .ok (.iload_n 2, 1) := by decide +kernel
theorem dX1_side_3 : decode cX1_side 3 = .ok (.invokevirtual 78, 3) := by decide +kernel
theorem dX1_side_6 : decode cX1_side 6 = .ok (.istore_n 3, 1) := by decide +kernel
theorem dX1_side_7 : decode cX1_side 7 = .ok (.iload_n 3, 1) := by decide +kernel
theorem dX1_side_8 : decode cX1_side 8 = .ok (.ifCond .ge 7, 3) := by decide +kernel
theorem dX1_side_11 : decode cX1_side 11 = .ok (.iconst (-1), 1) := by decide +kernel
theorem dX1_side_12 : decode cX1_side 12 = .ok (.goto 9, 3) := by decide +kernel
theorem dX1_side_15 : decode cX1_side 15 = .ok (.aload_n 0, 1) := by decide +kernel
theorem dX1_side_16 : decode cX1_side 16 = .ok (.getfield 18, 3) := by decide +kernel
theorem dX1_side_19 : decode cX1_side 19 = .ok (.iload_n 3, 1) := by decide +kernel
theorem dX1_side_20 : decode cX1_side 20 = .ok (.iaload, 1) := by decide +kernel
theorem dX1_side_21 : decode cX1_side 21 = .ok (.ireturn, 1) := by decide +kernel
theorem dX1_meaning_0 : decode cX1_meaning 0 = .ok (.aload_n 0, 1) := by decide +kernel
theorem dX1_meaning_1 : decode cX1_meaning 1 = .ok (.iload_n 1, 1) := by decide +kernel
theorem dX1_meaning_2 : decode cX1_meaning 2 = .ok (.iload_n 2, 1) := by decide +kernel
theorem dX1_meaning_3 : decode cX1_meaning 3 = .ok (.invokevirtual 78, 3) := by decide +kernel
theorem dX1_meaning_6 : decode cX1_meaning 6 = .ok (.istore_n 3, 1) := by decide +kernel
theorem dX1_meaning_7 : decode cX1_meaning 7 = .ok (.iload_n 3, 1) := by decide +kernel
theorem dX1_meaning_8 : decode cX1_meaning 8 = .ok (.ifCond .lt 12, 3) := by decide +kernel
theorem dX1_meaning_11 : decode cX1_meaning 11 = .ok (.aload_n 0, 1) := by decide +kernel
theorem dX1_meaning_12 : decode cX1_meaning 12 = .ok (.getfield 15, 3) := by decide +kernel
theorem dX1_meaning_15 : decode cX1_meaning 15 = .ok (.iload_n 3, 1) := by decide +kernel
theorem dX1_meaning_16 : decode cX1_meaning 16 = .ok (.iaload, 1) := by decide +kernel
theorem dX1_meaning_17 : decode cX1_meaning 17 = .ok (.ifCond .ne 7, 3) := by decide +kernel
theorem dX1_meaning_20 : decode cX1_meaning 20 = .ok (.iconst (-1), 1) := by decide +kernel
theorem dX1_meaning_21 : decode cX1_meaning 21 = .ok (.goto 9, 3) := by decide +kernel
theorem dX1_meaning_24 : decode cX1_meaning 24 = .ok (.aload_n 0, 1) := by decide +kernel
theorem dX1_meaning_25 : decode cX1_meaning 25 = .ok (.getfield 21, 3) := by decide +kernel
theorem dX1_meaning_28 : decode cX1_meaning 28 = .ok (.iload_n 3, 1) := by decide +kernel
theorem dX1_meaning_29 : decode cX1_meaning 29 = .ok (.iaload, 1) := by decide +kernel
theorem dX1_meaning_30 : decode cX1_meaning 30 = .ok (.ireturn, 1) := by decide +kernel
theorem dX1_clashes_0 : decode cX1_clashes 0 = .ok (.iload_n 2, 1) := by decide +kernel
theorem dX1_clashes_1 : decode cX1_clashes 1 = .ok (.ifCond .ne 5, 3) := by decide +kernel
theorem dX1_clashes_4 : decode cX1_clashes 4 = .ok (.iconst 0, 1) := by decide +kernel
theorem dX1_clashes_5 : decode cX1_clashes 5 = .ok (.ireturn, 1) := by decide +kernel
theorem dX1_clashes_6 : decode cX1_clashes 6 = .ok (.iload_n 2, 1) := by decide +kernel
theorem dX1_clashes_7 : decode cX1_clashes 7 = .ok (.iconst 1, 1) := by decide +kernel
theorem dX1_clashes_8 : decode cX1_clashes 8 = .ok (.if_icmp .ne 18, 3) := by decide +kernel
theorem dX1_clashes_11 : decode cX1_clashes 11 = .ok (.aload_n 0, 1) := by decide +kernel
theorem dX1_clashes_12 : decode cX1_clashes 12 = .ok (.iload_n 1, 1) := by decide +kernel
theorem dX1_clashes_13 : decode cX1_clashes 13 = .ok (.iconst 2, 1) := by decide +kernel
theorem dX1_clashes_14 : decode cX1_clashes 14 = .ok (.invokevirtual 86, 3) := by decide +kernel
theorem dX1_clashes_17 : decode cX1_clashes 17 = .ok (.ifCond .le 7, 3) := by decide +kernel
theorem dX1_clashes_20 : decode cX1_clashes 20 = .ok (.iconst 1, 1) := by decide +kernel
theorem dX1_clashes_21 : decode cX1_clashes 21 = .ok (.goto 4, 3) := by decide +kernel
theorem dX1_clashes_24 : decode cX1_clashes 24 = .ok (.iconst 0, 1) := by decide +kernel
theorem dX1_clashes_25 : decode cX1_clashes 25 = .ok (.ireturn, 1) := by decide +kernel
theorem dX1_clashes_26 : decode cX1_clashes 26 = .ok (.aload_n 0, 1) := by decide +kernel
theorem dX1_clashes_27 : decode cX1_clashes 27 = .ok (.iload_n 1, 1) := by decide +kernel
theorem dX1_clashes_28 : decode cX1_clashes 28 = .ok (.iconst 1, 1) := by decide +kernel
theorem dX1_clashes_29 : decode cX1_clashes 29 = .ok (.invokevirtual 86, 3) := by decide +kernel
theorem dX1_clashes_32 : decode cX1_clashes 32 = .ok (.ifCond .le 5, 3) := by decide +kernel
theorem dX1_clashes_35 : decode cX1_clashes 35 = .ok (.iconst 1, 1) := by decide +kernel
theorem dX1_clashes_36 : decode cX1_clashes 36 = .ok (.ireturn, 1) := by decide +kernel
theorem dX1_clashes_37 : decode cX1_clashes 37 = .ok (.aload_n 0, 1) := by decide +kernel
theorem dX1_clashes_38 : decode cX1_clashes 38 = .ok (.iload_n 1, 1) := by decide +kernel
theorem dX1_clashes_39 : decode cX1_clashes 39 = .ok (.iconst 2, 1) := by decide +kernel
theorem dX1_clashes_40 : decode cX1_clashes 40 = .ok (.invokevirtual 78, 3) := by decide +kernel
theorem dX1_clashes_43 : decode cX1_clashes 43 = .ok (.istore 5, 2) := by decide +kernel
theorem dX1_clashes_45 : decode cX1_clashes 45 = .ok (.bipush 32, 2) := by decide +kernel
theorem dX1_clashes_47 : decode cX1_clashes 47 = .ok (.istore 6, 2) := by decide +kernel
theorem dX1_clashes_49 : decode cX1_clashes 49 = .ok (.iload 6, 2) := by decide +kernel
theorem dX1_clashes_51 : decode cX1_clashes 51 = .ok (.aload_n 0, 1) := by decide +kernel
theorem dX1_clashes_52 : decode cX1_clashes 52 = .ok (.getfield 15, 3) := by decide +kernel
theorem dX1_clashes_55 : decode cX1_clashes 55 = .ok (.arraylength, 1) := by decide +kernel
theorem dX1_clashes_56 : decode cX1_clashes 56 = .ok (.if_icmp .ge 41, 3) := by decide +kernel
theorem dX1_clashes_59 : decode cX1_clashes 59 = .ok (.iload 6, 2) := by decide +kernel
theorem dX1_clashes_61 : decode cX1_clashes 61 = .ok (.iload 5, 2) := by decide +kernel
theorem dX1_clashes_63 : decode cX1_clashes 63 = .ok (.if_icmp .eq 28, 3) := by decide +kernel
theorem dX1_clashes_66 : decode cX1_clashes 66 = .ok (.aload_n 0, 1) := by decide +kernel
theorem dX1_clashes_67 : decode cX1_clashes 67 = .ok (.getfield 15, 3) := by decide +kernel
theorem dX1_clashes_70 : decode cX1_clashes 70 = .ok (.iload 6, 2) := by decide +kernel
theorem dX1_clashes_72 : decode cX1_clashes 72 = .ok (.iaload, 1) := by decide +kernel
theorem dX1_clashes_73 : decode cX1_clashes 73 = .ok (.iload_n 3, 1) := by decide +kernel
theorem dX1_clashes_74 : decode cX1_clashes 74 = .ok (.if_icmp .ne 17, 3) := by decide +kernel
theorem dX1_clashes_77 : decode cX1_clashes 77 = .ok (.aload_n 0, 1) := by decide +kernel
theorem dX1_clashes_78 : decode cX1_clashes 78 = .ok (.getfield 18, 3) := by decide +kernel
theorem dX1_clashes_81 : decode cX1_clashes 81 = .ok (.iload 6, 2) := by decide +kernel
theorem dX1_clashes_83 : decode cX1_clashes 83 = .ok (.iaload, 1) := by decide +kernel
theorem dX1_clashes_84 : decode cX1_clashes 84 = .ok (.iload 4, 2) := by decide +kernel
theorem dX1_clashes_86 : decode cX1_clashes 86 = .ok (.if_icmp .eq 5, 3) := by decide +kernel
theorem dX1_clashes_89 : decode cX1_clashes 89 = .ok (.iconst 1, 1) := by decide +kernel
theorem dX1_clashes_90 : decode cX1_clashes 90 = .ok (.ireturn, 1) := by decide +kernel
theorem dX1_clashes_91 : decode cX1_clashes 91 = .ok (.iinc 6 1, 3) := by decide +kernel
theorem dX1_clashes_94 : decode cX1_clashes 94 = .ok (.goto (-45), 3) := by decide +kernel
theorem dX1_clashes_97 : decode cX1_clashes 97 = .ok (.iconst 0, 1) := by decide +kernel
theorem dX1_clashes_98 : decode cX1_clashes 98 = .ok (.ireturn, 1) := by decide +kernel
theorem dX1_leastWith_0 : decode cX1_leastWith 0 = .ok (.iconst 0, 1) := by decide +kernel
theorem dX1_leastWith_1 : decode cX1_leastWith 1 = .ok (.istore_n 2, 1) := by decide +kernel
theorem dX1_leastWith_2 : decode cX1_leastWith 2 = .ok (.iload_n 2, 1) := by decide +kernel
theorem dX1_leastWith_3 : decode cX1_leastWith 3 = .ok (.bipush 16, 2) := by decide +kernel
theorem dX1_leastWith_5 : decode cX1_leastWith 5 = .ok (.if_icmp .ge 40, 3) := by decide +kernel
theorem dX1_leastWith_8 : decode cX1_leastWith 8 = .ok (.bipush 32, 2) := by decide +kernel
theorem dX1_leastWith_10 : decode cX1_leastWith 10 = .ok (.iload_n 2, 1) := by decide +kernel
theorem dX1_leastWith_11 : decode cX1_leastWith 11 = .ok (.iadd, 1) := by decide +kernel
theorem dX1_leastWith_12 : decode cX1_leastWith 12 = .ok (.istore_n 3, 1) := by decide +kernel
theorem dX1_leastWith_13 : decode cX1_leastWith 13 = .ok (.aload_n 0, 1) := by decide +kernel
theorem dX1_leastWith_14 : decode cX1_leastWith 14 = .ok (.getfield 15, 3) := by decide +kernel
theorem dX1_leastWith_17 : decode cX1_leastWith 17 = .ok (.iload_n 3, 1) := by decide +kernel
theorem dX1_leastWith_18 : decode cX1_leastWith 18 = .ok (.iaload, 1) := by decide +kernel
theorem dX1_leastWith_19 : decode cX1_leastWith 19 = .ok (.ifCond .le 20, 3) := by decide +kernel
theorem dX1_leastWith_22 : decode cX1_leastWith 22 = .ok (.aload_n 0, 1) := by decide +kernel
theorem dX1_leastWith_23 : decode cX1_leastWith 23 = .ok (.getfield 21, 3) := by decide +kernel
theorem dX1_leastWith_26 : decode cX1_leastWith 26 = .ok (.iload_n 3, 1) := by decide +kernel
theorem dX1_leastWith_27 : decode cX1_leastWith 27 = .ok (.iaload, 1) := by decide +kernel
theorem dX1_leastWith_28 : decode cX1_leastWith 28 = .ok (.iload_n 1, 1) := by decide +kernel
theorem dX1_leastWith_29 : decode cX1_leastWith 29 = .ok (.if_icmp .ne 10, 3) := by decide +kernel
theorem dX1_leastWith_32 : decode cX1_leastWith 32 = .ok (.ldc 66, 2) := by decide +kernel
theorem dX1_leastWith_34 : decode cX1_leastWith 34 = .ok (.iload_n 2, 1) := by decide +kernel
theorem dX1_leastWith_35 : decode cX1_leastWith 35 = .ok (.invokevirtual 89, 3) := by decide +kernel
theorem dX1_leastWith_38 : decode cX1_leastWith 38 = .ok (.ireturn, 1) := by decide +kernel
theorem dX1_leastWith_39 : decode cX1_leastWith 39 = .ok (.iinc 2 1, 3) := by decide +kernel
theorem dX1_leastWith_42 : decode cX1_leastWith 42 = .ok (.goto (-40), 3) := by decide +kernel
theorem dX1_leastWith_45 : decode cX1_leastWith 45 = .ok (.iconst (-1), 1) := by decide +kernel
theorem dX1_leastWith_46 : decode cX1_leastWith 46 = .ok (.ireturn, 1) := by decide +kernel
theorem dX1_shelve_0 : decode cX1_shelve 0 = .ok (.aload_n 0, 1) := by decide +kernel
theorem dX1_shelve_1 : decode cX1_shelve 1 = .ok (.getfield 93, 3) := by decide +kernel
theorem dX1_shelve_4 : decode cX1_shelve 4 = .ok (.bipush 30, 2) := by decide +kernel
theorem dX1_shelve_6 : decode cX1_shelve 6 = .ok (.if_icmp .lt 5, 3) := by decide +kernel
theorem dX1_shelve_9 : decode cX1_shelve 9 = .ok (.iconst (-1), 1) := by decide +kernel
theorem dX1_shelve_10 : decode cX1_shelve 10 = .ok (.ireturn, 1) := by decide +kernel
theorem dX1_shelve_11 : decode cX1_shelve 11 = .ok (.aload_n 0, 1) := by decide +kernel
theorem dX1_shelve_12 : decode cX1_shelve 12 = .ok (.getfield 26, 3) := by decide +kernel
theorem dX1_shelve_15 : decode cX1_shelve 15 = .ok (.aload_n 0, 1) := by decide +kernel
theorem dX1_shelve_16 : decode cX1_shelve 16 = .ok (.getfield 93, 3) := by decide +kernel
theorem dX1_shelve_19 : decode cX1_shelve 19 = .ok (.aaload, 1) := by decide +kernel
theorem dX1_shelve_20 : decode cX1_shelve 20 = .ok (.aload_n 1, 1) := by decide +kernel
theorem dX1_shelve_21 : decode cX1_shelve 21 = .ok (.invokevirtual 97, 3) := by decide +kernel
theorem dX1_shelve_24 : decode cX1_shelve 24 = .ok (.aload_n 0, 1) := by decide +kernel
theorem dX1_shelve_25 : decode cX1_shelve 25 = .ok (.dup, 1) := by decide +kernel
theorem dX1_shelve_26 : decode cX1_shelve 26 = .ok (.getfield 93, 3) := by decide +kernel
theorem dX1_shelve_29 : decode cX1_shelve 29 = .ok (.iconst 1, 1) := by decide +kernel
theorem dX1_shelve_30 : decode cX1_shelve 30 = .ok (.iadd, 1) := by decide +kernel
theorem dX1_shelve_31 : decode cX1_shelve 31 = .ok (.putfield 93, 3) := by decide +kernel
theorem dX1_shelve_34 : decode cX1_shelve 34 = .ok (.aload_n 0, 1) := by decide +kernel
theorem dX1_shelve_35 : decode cX1_shelve 35 = .ok (.iconst 0, 1) := by decide +kernel
theorem dX1_shelve_36 : decode cX1_shelve 36 = .ok (.iconst 0, 1) := by decide +kernel
theorem dX1_shelve_37 : decode cX1_shelve 37 = .ok (.invokevirtual 101, 3) := by decide +kernel
theorem dX1_shelve_40 : decode cX1_shelve 40 = .ok (.pop, 1) := by decide +kernel
theorem dX1_shelve_41 : decode cX1_shelve 41 = .ok (.aload_n 0, 1) := by decide +kernel
theorem dX1_shelve_42 : decode cX1_shelve 42 = .ok (.getfield 93, 3) := by decide +kernel
theorem dX1_shelve_45 : decode cX1_shelve 45 = .ok (.iconst 1, 1) := by decide +kernel
theorem dX1_shelve_46 : decode cX1_shelve 46 = .ok (.isub, 1) := by decide +kernel
theorem dX1_shelve_47 : decode cX1_shelve 47 = .ok (.ireturn, 1) := by decide +kernel
theorem dX1_tellOperator_0 : decode cX1_tellOperator 0 = .ok (.aload_n 0, 1) := by decide +kernel
theorem dX1_tellOperator_1 : decode cX1_tellOperator 1 = .ok (.iload_n 1, 1) := by decide +kernel
theorem dX1_tellOperator_2 : decode cX1_tellOperator 2 = .ok (.iload_n 2, 1) := by decide +kernel
theorem dX1_tellOperator_3 : decode cX1_tellOperator 3 = .ok (.invokevirtual 78, 3) := by decide +kernel
theorem dX1_tellOperator_6 : decode cX1_tellOperator 6 = .ok (.istore 6, 2) := by decide +kernel
theorem dX1_tellOperator_8 : decode cX1_tellOperator 8 = .ok (.iload 6, 2) := by decide +kernel
theorem dX1_tellOperator_10 : decode cX1_tellOperator 10 = .ok (.ifCond .ge 4, 3) := by decide +kernel
theorem dX1_tellOperator_13 : decode cX1_tellOperator 13 = .ok (.return_, 1) := by decide +kernel
theorem dX1_tellOperator_14 : decode cX1_tellOperator 14 = .ok (.aload_n 0, 1) := by decide +kernel
theorem dX1_tellOperator_15 : decode cX1_tellOperator 15 = .ok (.getfield 51, 3) := by decide +kernel
theorem dX1_tellOperator_18 : decode cX1_tellOperator 18 = .ok (.aload_n 0, 1) := by decide +kernel
theorem dX1_tellOperator_19 : decode cX1_tellOperator 19 = .ok (.iconst 1, 1) := by decide +kernel
theorem dX1_tellOperator_20 : decode cX1_tellOperator 20 = .ok (.iload 6, 2) := by decide +kernel
theorem dX1_tellOperator_22 : decode cX1_tellOperator 22 = .ok (.invokevirtual 101, 3) := by decide +kernel
theorem dX1_tellOperator_25 : decode cX1_tellOperator 25 = .ok (.aaload, 1) := by decide +kernel
theorem dX1_tellOperator_26 : decode cX1_tellOperator 26 = .ok (.astore 7, 2) := by decide +kernel
theorem dX1_tellOperator_28 : decode cX1_tellOperator 28 = .ok (.aload 7, 2) := by decide +kernel
theorem dX1_tellOperator_30 : decode cX1_tellOperator 30 = .ok (.iconst 0, 1) := by decide +kernel
theorem dX1_tellOperator_31 : decode cX1_tellOperator 31 = .ok (.aload_n 0, 1) := by decide +kernel
theorem dX1_tellOperator_32 : decode cX1_tellOperator 32 = .ok (.getfield 15, 3) := by decide +kernel
theorem dX1_tellOperator_35 : decode cX1_tellOperator 35 = .ok (.iload 6, 2) := by decide +kernel
theorem dX1_tellOperator_37 : decode cX1_tellOperator 37 = .ok (.iaload, 1) := by decide +kernel
theorem dX1_tellOperator_38 : decode cX1_tellOperator 38 = .ok (.iastore, 1) := by decide +kernel
theorem dX1_tellOperator_39 : decode cX1_tellOperator 39 = .ok (.aload 7, 2) := by decide +kernel
theorem dX1_tellOperator_41 : decode cX1_tellOperator 41 = .ok (.iconst 1, 1) := by decide +kernel
theorem dX1_tellOperator_42 : decode cX1_tellOperator 42 = .ok (.aload_n 0, 1) := by decide +kernel
theorem dX1_tellOperator_43 : decode cX1_tellOperator 43 = .ok (.getfield 18, 3) := by decide +kernel
theorem dX1_tellOperator_46 : decode cX1_tellOperator 46 = .ok (.iload 6, 2) := by decide +kernel
theorem dX1_tellOperator_48 : decode cX1_tellOperator 48 = .ok (.iaload, 1) := by decide +kernel
theorem dX1_tellOperator_49 : decode cX1_tellOperator 49 = .ok (.iastore, 1) := by decide +kernel
theorem dX1_tellOperator_50 : decode cX1_tellOperator 50 = .ok (.aload 7, 2) := by decide +kernel
theorem dX1_tellOperator_52 : decode cX1_tellOperator 52 = .ok (.iconst 2, 1) := by decide +kernel
theorem dX1_tellOperator_53 : decode cX1_tellOperator 53 = .ok (.aload_n 0, 1) := by decide +kernel
theorem dX1_tellOperator_54 : decode cX1_tellOperator 54 = .ok (.getfield 21, 3) := by decide +kernel
theorem dX1_tellOperator_57 : decode cX1_tellOperator 57 = .ok (.iload 6, 2) := by decide +kernel
theorem dX1_tellOperator_59 : decode cX1_tellOperator 59 = .ok (.iaload, 1) := by decide +kernel
theorem dX1_tellOperator_60 : decode cX1_tellOperator 60 = .ok (.iastore, 1) := by decide +kernel
theorem dX1_tellOperator_61 : decode cX1_tellOperator 61 = .ok (.aload_n 0, 1) := by decide +kernel
theorem dX1_tellOperator_62 : decode cX1_tellOperator 62 = .ok (.iload 6, 2) := by decide +kernel
theorem dX1_tellOperator_64 : decode cX1_tellOperator 64 = .ok (.iload_n 3, 1) := by decide +kernel
theorem dX1_tellOperator_65 : decode cX1_tellOperator 65 = .ok (.iload 4, 2) := by decide +kernel
theorem dX1_tellOperator_67 : decode cX1_tellOperator 67 = .ok (.iload 5, 2) := by decide +kernel
theorem dX1_tellOperator_69 : decode cX1_tellOperator 69 = .ok (.invokevirtual 82, 3) := by decide +kernel
theorem dX1_tellOperator_72 : decode cX1_tellOperator 72 = .ok (.return_, 1) := by decide +kernel
theorem dX1_giveValue_0 : decode cX1_giveValue 0 = .ok (.aload_n 0, 1) := by decide +kernel
theorem dX1_giveValue_1 : decode cX1_giveValue 1 = .ok (.iload_n 1, 1) := by decide +kernel
theorem dX1_giveValue_2 : decode cX1_giveValue 2 = .ok (.invokevirtual 104, 3) := by decide +kernel
theorem dX1_giveValue_5 : decode cX1_giveValue 5 = .ok (.aload_n 0, 1) := by decide +kernel
theorem dX1_giveValue_6 : decode cX1_giveValue 6 = .ok (.getfield 32, 3) := by decide +kernel
theorem dX1_giveValue_9 : decode cX1_giveValue 9 = .ok (.iload_n 1, 1) := by decide +kernel
theorem dX1_giveValue_10 : decode cX1_giveValue 10 = .ok (.aaload, 1) := by decide +kernel
theorem dX1_giveValue_11 : decode cX1_giveValue 11 = .ok (.aload_n 2, 1) := by decide +kernel
theorem dX1_giveValue_12 : decode cX1_giveValue 12 = .ok (.invokevirtual 107, 3) := by decide +kernel
theorem dX1_giveValue_15 : decode cX1_giveValue 15 = .ok (.aload_n 0, 1) := by decide +kernel
theorem dX1_giveValue_16 : decode cX1_giveValue 16 = .ok (.getfield 36, 3) := by decide +kernel
theorem dX1_giveValue_19 : decode cX1_giveValue 19 = .ok (.iload_n 1, 1) := by decide +kernel
theorem dX1_giveValue_20 : decode cX1_giveValue 20 = .ok (.iconst 1, 1) := by decide +kernel
theorem dX1_giveValue_21 : decode cX1_giveValue 21 = .ok (.bastore, 1) := by decide +kernel
theorem dX1_giveValue_22 : decode cX1_giveValue 22 = .ok (.return_, 1) := by decide +kernel
theorem dX1_takeValue_0 : decode cX1_takeValue 0 = .ok (.aload_n 0, 1) := by decide +kernel
theorem dX1_takeValue_1 : decode cX1_takeValue 1 = .ok (.getfield 36, 3) := by decide +kernel
theorem dX1_takeValue_4 : decode cX1_takeValue 4 = .ok (.iload_n 1, 1) := by decide +kernel
theorem dX1_takeValue_5 : decode cX1_takeValue 5 = .ok (.baload, 1) := by decide +kernel
theorem dX1_takeValue_6 : decode cX1_takeValue 6 = .ok (.ifCond .ne 5, 3) := by decide +kernel
theorem dX1_takeValue_9 : decode cX1_takeValue 9 = .ok (.iconst 0, 1) := by decide +kernel
theorem dX1_takeValue_10 : decode cX1_takeValue 10 = .ok (.ireturn, 1) := by decide +kernel
theorem dX1_takeValue_11 : decode cX1_takeValue 11 = .ok (.aload_n 0, 1) := by decide +kernel
theorem dX1_takeValue_12 : decode cX1_takeValue 12 = .ok (.iload_n 1, 1) := by decide +kernel
theorem dX1_takeValue_13 : decode cX1_takeValue 13 = .ok (.invokevirtual 104, 3) := by decide +kernel
theorem dX1_takeValue_16 : decode cX1_takeValue 16 = .ok (.aload_n 0, 1) := by decide +kernel
theorem dX1_takeValue_17 : decode cX1_takeValue 17 = .ok (.getfield 36, 3) := by decide +kernel
theorem dX1_takeValue_20 : decode cX1_takeValue 20 = .ok (.iload_n 1, 1) := by decide +kernel
theorem dX1_takeValue_21 : decode cX1_takeValue 21 = .ok (.iconst 0, 1) := by decide +kernel
theorem dX1_takeValue_22 : decode cX1_takeValue 22 = .ok (.bastore, 1) := by decide +kernel
theorem dX1_takeValue_23 : decode cX1_takeValue 23 = .ok (.iconst 1, 1) := by decide +kernel
theorem dX1_takeValue_24 : decode cX1_takeValue 24 = .ok (.ireturn, 1) := by decide +kernel
theorem dX1_noteName_0 : decode cX1_noteName 0 = .ok (.aload_n 0, 1) := by decide +kernel
theorem dX1_noteName_1 : decode cX1_noteName 1 = .ok (.iconst 2, 1) := by decide +kernel
theorem dX1_noteName_2 : decode cX1_noteName 2 = .ok (.iload_n 1, 1) := by decide +kernel
theorem dX1_noteName_3 : decode cX1_noteName 3 = .ok (.invokevirtual 101, 3) := by decide +kernel
theorem dX1_noteName_6 : decode cX1_noteName 6 = .ok (.istore_n 2, 1) := by decide +kernel
theorem dX1_noteName_7 : decode cX1_noteName 7 = .ok (.aload_n 0, 1) := by decide +kernel
theorem dX1_noteName_8 : decode cX1_noteName 8 = .ok (.getfield 51, 3) := by decide +kernel
theorem dX1_noteName_11 : decode cX1_noteName 11 = .ok (.iload_n 2, 1) := by decide +kernel
theorem dX1_noteName_12 : decode cX1_noteName 12 = .ok (.aaload, 1) := by decide +kernel
theorem dX1_noteName_13 : decode cX1_noteName 13 = .ok (.iconst 0, 1) := by decide +kernel
theorem dX1_noteName_14 : decode cX1_noteName 14 = .ok (.aload_n 0, 1) := by decide +kernel
theorem dX1_noteName_15 : decode cX1_noteName 15 = .ok (.getfield 36, 3) := by decide +kernel
theorem dX1_noteName_18 : decode cX1_noteName 18 = .ok (.iload_n 1, 1) := by decide +kernel
theorem dX1_noteName_19 : decode cX1_noteName 19 = .ok (.baload, 1) := by decide +kernel
theorem dX1_noteName_20 : decode cX1_noteName 20 = .ok (.ifCond .eq 7, 3) := by decide +kernel
theorem dX1_noteName_23 : decode cX1_noteName 23 = .ok (.iconst 1, 1) := by decide +kernel
theorem dX1_noteName_24 : decode cX1_noteName 24 = .ok (.goto 4, 3) := by decide +kernel
theorem dX1_noteName_27 : decode cX1_noteName 27 = .ok (.iconst 0, 1) := by decide +kernel
theorem dX1_noteName_28 : decode cX1_noteName 28 = .ok (.iastore, 1) := by decide +kernel
theorem dX1_noteName_29 : decode cX1_noteName 29 = .ok (.aload_n 0, 1) := by decide +kernel
theorem dX1_noteName_30 : decode cX1_noteName 30 = .ok (.getfield 54, 3) := by decide +kernel
theorem dX1_noteName_33 : decode cX1_noteName 33 = .ok (.iload_n 2, 1) := by decide +kernel
theorem dX1_noteName_34 : decode cX1_noteName 34 = .ok (.aaload, 1) := by decide +kernel
theorem dX1_noteName_35 : decode cX1_noteName 35 = .ok (.aload_n 0, 1) := by decide +kernel
theorem dX1_noteName_36 : decode cX1_noteName 36 = .ok (.getfield 32, 3) := by decide +kernel
theorem dX1_noteName_39 : decode cX1_noteName 39 = .ok (.iload_n 1, 1) := by decide +kernel
theorem dX1_noteName_40 : decode cX1_noteName 40 = .ok (.aaload, 1) := by decide +kernel
theorem dX1_noteName_41 : decode cX1_noteName 41 = .ok (.invokevirtual 107, 3) := by decide +kernel
theorem dX1_noteName_44 : decode cX1_noteName 44 = .ok (.return_, 1) := by decide +kernel
theorem dX1_makeFunction_0 : decode cX1_makeFunction 0 = .ok (.aload_n 0, 1) := by decide +kernel
theorem dX1_makeFunction_1 : decode cX1_makeFunction 1 = .ok (.iload_n 1, 1) := by decide +kernel
theorem dX1_makeFunction_2 : decode cX1_makeFunction 2 = .ok (.invokevirtual 110, 3) := by decide +kernel
theorem dX1_makeFunction_5 : decode cX1_makeFunction 5 = .ok (.aload_n 0, 1) := by decide +kernel
theorem dX1_makeFunction_6 : decode cX1_makeFunction 6 = .ok (.getfield 42, 3) := by decide +kernel
theorem dX1_makeFunction_9 : decode cX1_makeFunction 9 = .ok (.iload_n 1, 1) := by decide +kernel
theorem dX1_makeFunction_10 : decode cX1_makeFunction 10 = .ok (.aaload, 1) := by decide +kernel
theorem dX1_makeFunction_11 : decode cX1_makeFunction 11 = .ok (.iconst 0, 1) := by decide +kernel
theorem dX1_makeFunction_12 : decode cX1_makeFunction 12 = .ok (.iload_n 2, 1) := by decide +kernel
theorem dX1_makeFunction_13 : decode cX1_makeFunction 13 = .ok (.iastore, 1) := by decide +kernel
theorem dX1_makeFunction_14 : decode cX1_makeFunction 14 = .ok (.aload_n 0, 1) := by decide +kernel
theorem dX1_makeFunction_15 : decode cX1_makeFunction 15 = .ok (.getfield 42, 3) := by decide +kernel
theorem dX1_makeFunction_18 : decode cX1_makeFunction 18 = .ok (.iload_n 1, 1) := by decide +kernel
theorem dX1_makeFunction_19 : decode cX1_makeFunction 19 = .ok (.aaload, 1) := by decide +kernel
theorem dX1_makeFunction_20 : decode cX1_makeFunction 20 = .ok (.iconst 1, 1) := by decide +kernel
theorem dX1_makeFunction_21 : decode cX1_makeFunction 21 = .ok (.iconst 0, 1) := by decide +kernel
theorem dX1_makeFunction_22 : decode cX1_makeFunction 22 = .ok (.iastore, 1) := by decide +kernel
theorem dX1_makeFunction_23 : decode cX1_makeFunction 23 = .ok (.return_, 1) := by decide +kernel
theorem dX1_addToFunction_0 : decode cX1_addToFunction 0 = .ok (.aload_n 0, 1) := by decide +kernel
theorem dX1_addToFunction_1 : decode cX1_addToFunction 1 = .ok (.iload_n 1, 1) := by decide +kernel
theorem dX1_addToFunction_2 : decode cX1_addToFunction 2 = .ok (.invokevirtual 113, 3) := by decide +kernel
theorem dX1_addToFunction_5 : decode cX1_addToFunction 5 = .ok (.istore 4, 2) := by decide +kernel
theorem dX1_addToFunction_7 : decode cX1_addToFunction 7 = .ok (.iload 4, 2) := by decide +kernel
theorem dX1_addToFunction_9 : decode cX1_addToFunction 9 = .ok (.ifCond .lt 9, 3) := by decide +kernel
theorem dX1_addToFunction_12 : decode cX1_addToFunction 12 = .ok (.iload 4, 2) := by decide +kernel
theorem dX1_addToFunction_14 : decode cX1_addToFunction 14 = .ok (.iconst 4, 1) := by decide +kernel
theorem dX1_addToFunction_15 : decode cX1_addToFunction 15 = .ok (.if_icmp .lt 4, 3) := by decide +kernel
theorem dX1_addToFunction_18 : decode cX1_addToFunction 18 = .ok (.return_, 1) := by decide +kernel
theorem dX1_addToFunction_19 : decode cX1_addToFunction 19 = .ok (.aload_n 0, 1) := by decide +kernel
theorem dX1_addToFunction_20 : decode cX1_addToFunction 20 = .ok (.iload_n 1, 1) := by decide +kernel
theorem dX1_addToFunction_21 : decode cX1_addToFunction 21 = .ok (.invokevirtual 110, 3) := by decide +kernel
theorem dX1_addToFunction_24 : decode cX1_addToFunction 24 = .ok (.aload_n 0, 1) := by decide +kernel
theorem dX1_addToFunction_25 : decode cX1_addToFunction 25 = .ok (.getfield 42, 3) := by decide +kernel
theorem dX1_addToFunction_28 : decode cX1_addToFunction 28 = .ok (.iload_n 1, 1) := by decide +kernel
theorem dX1_addToFunction_29 : decode cX1_addToFunction 29 = .ok (.aaload, 1) := by decide +kernel
theorem dX1_addToFunction_30 : decode cX1_addToFunction 30 = .ok (.iconst 2, 1) := by decide +kernel
theorem dX1_addToFunction_31 : decode cX1_addToFunction 31 = .ok (.iload 4, 2) := by decide +kernel
theorem dX1_addToFunction_33 : decode cX1_addToFunction 33 = .ok (.iadd, 1) := by decide +kernel
theorem dX1_addToFunction_34 : decode cX1_addToFunction 34 = .ok (.iload_n 2, 1) := by decide +kernel
theorem dX1_addToFunction_35 : decode cX1_addToFunction 35 = .ok (.iastore, 1) := by decide +kernel
theorem dX1_addToFunction_36 : decode cX1_addToFunction 36 = .ok (.aload_n 0, 1) := by decide +kernel
theorem dX1_addToFunction_37 : decode cX1_addToFunction 37 = .ok (.getfield 42, 3) := by decide +kernel
theorem dX1_addToFunction_40 : decode cX1_addToFunction 40 = .ok (.iload_n 1, 1) := by decide +kernel
theorem dX1_addToFunction_41 : decode cX1_addToFunction 41 = .ok (.aaload, 1) := by decide +kernel
theorem dX1_addToFunction_42 : decode cX1_addToFunction 42 = .ok (.bipush 6, 2) := by decide +kernel
theorem dX1_addToFunction_44 : decode cX1_addToFunction 44 = .ok (.iload 4, 2) := by decide +kernel
theorem dX1_addToFunction_46 : decode cX1_addToFunction 46 = .ok (.iadd, 1) := by decide +kernel
theorem dX1_addToFunction_47 : decode cX1_addToFunction 47 = .ok (.iload_n 3, 1) := by decide +kernel
theorem dX1_addToFunction_48 : decode cX1_addToFunction 48 = .ok (.iastore, 1) := by decide +kernel
theorem dX1_addToFunction_49 : decode cX1_addToFunction 49 = .ok (.aload_n 0, 1) := by decide +kernel
theorem dX1_addToFunction_50 : decode cX1_addToFunction 50 = .ok (.getfield 42, 3) := by decide +kernel
theorem dX1_addToFunction_53 : decode cX1_addToFunction 53 = .ok (.iload_n 1, 1) := by decide +kernel
theorem dX1_addToFunction_54 : decode cX1_addToFunction 54 = .ok (.aaload, 1) := by decide +kernel
theorem dX1_addToFunction_55 : decode cX1_addToFunction 55 = .ok (.iconst 1, 1) := by decide +kernel
theorem dX1_addToFunction_56 : decode cX1_addToFunction 56 = .ok (.iload 4, 2) := by decide +kernel
theorem dX1_addToFunction_58 : decode cX1_addToFunction 58 = .ok (.iconst 1, 1) := by decide +kernel
theorem dX1_addToFunction_59 : decode cX1_addToFunction 59 = .ok (.iadd, 1) := by decide +kernel
theorem dX1_addToFunction_60 : decode cX1_addToFunction 60 = .ok (.iastore, 1) := by decide +kernel
theorem dX1_addToFunction_61 : decode cX1_addToFunction 61 = .ok (.return_, 1) := by decide +kernel
theorem dX1_noteFunction_0 : decode cX1_noteFunction 0 = .ok (.aload_n 0, 1) := by decide +kernel
theorem dX1_noteFunction_1 : decode cX1_noteFunction 1 = .ok (.getfield 42, 3) := by decide +kernel
theorem dX1_noteFunction_4 : decode cX1_noteFunction 4 = .ok (.iload_n 1, 1) := by decide +kernel
theorem dX1_noteFunction_5 : decode cX1_noteFunction 5 = .ok (.aaload, 1) := by decide +kernel
theorem dX1_noteFunction_6 : decode cX1_noteFunction 6 = .ok (.aload_n 0, 1) := by decide +kernel
theorem dX1_noteFunction_7 : decode cX1_noteFunction 7 = .ok (.getfield 51, 3) := by decide +kernel
theorem dX1_noteFunction_10 : decode cX1_noteFunction 10 = .ok (.aload_n 0, 1) := by decide +kernel
theorem dX1_noteFunction_11 : decode cX1_noteFunction 11 = .ok (.iconst 3, 1) := by decide +kernel
theorem dX1_noteFunction_12 : decode cX1_noteFunction 12 = .ok (.iload_n 1, 1) := by decide +kernel
theorem dX1_noteFunction_13 : decode cX1_noteFunction 13 = .ok (.invokevirtual 101, 3) := by decide +kernel
theorem dX1_noteFunction_16 : decode cX1_noteFunction 16 = .ok (.aaload, 1) := by decide +kernel
theorem dX1_noteFunction_17 : decode cX1_noteFunction 17 = .ok (.invokestatic 116, 3) := by decide +kernel
theorem dX1_noteFunction_20 : decode cX1_noteFunction 20 = .ok (.return_, 1) := by decide +kernel
theorem dX1_copyRow_0 : decode cX1_copyRow 0 = .ok (.iconst 0, 1) := by decide +kernel
theorem dX1_copyRow_1 : decode cX1_copyRow 1 = .ok (.istore_n 2, 1) := by decide +kernel
theorem dX1_copyRow_2 : decode cX1_copyRow 2 = .ok (.iload_n 2, 1) := by decide +kernel
theorem dX1_copyRow_3 : decode cX1_copyRow 3 = .ok (.aload_n 0, 1) := by decide +kernel
theorem dX1_copyRow_4 : decode cX1_copyRow 4 = .ok (.arraylength, 1) := by decide +kernel
theorem dX1_copyRow_5 : decode cX1_copyRow 5 = .ok (.if_icmp .ge 21, 3) := by decide +kernel
theorem dX1_copyRow_8 : decode cX1_copyRow 8 = .ok (.iload_n 2, 1) := by decide +kernel
theorem dX1_copyRow_9 : decode cX1_copyRow 9 = .ok (.aload_n 1, 1) := by decide +kernel
theorem dX1_copyRow_10 : decode cX1_copyRow 10 = .ok (.arraylength, 1) := by decide +kernel
theorem dX1_copyRow_11 : decode cX1_copyRow 11 = .ok (.if_icmp .ge 15, 3) := by decide +kernel
theorem dX1_copyRow_14 : decode cX1_copyRow 14 = .ok (.aload_n 1, 1) := by decide +kernel
theorem dX1_copyRow_15 : decode cX1_copyRow 15 = .ok (.iload_n 2, 1) := by decide +kernel
theorem dX1_copyRow_16 : decode cX1_copyRow 16 = .ok (.aload_n 0, 1) := by decide +kernel
theorem dX1_copyRow_17 : decode cX1_copyRow 17 = .ok (.iload_n 2, 1) := by decide +kernel
theorem dX1_copyRow_18 : decode cX1_copyRow 18 = .ok (.iaload, 1) := by decide +kernel
theorem dX1_copyRow_19 : decode cX1_copyRow 19 = .ok (.iastore, 1) := by decide +kernel
theorem dX1_copyRow_20 : decode cX1_copyRow 20 = .ok (.iinc 2 1, 3) := by decide +kernel
theorem dX1_copyRow_23 : decode cX1_copyRow 23 = .ok (.goto (-21), 3) := by decide +kernel
theorem dX1_copyRow_26 : decode cX1_copyRow 26 = .ok (.return_, 1) := by decide +kernel
theorem dX1_parametersOf_0 : decode cX1_parametersOf 0 = .ok (.iload_n 1, 1) := by decide +kernel
theorem dX1_parametersOf_1 : decode cX1_parametersOf 1 = .ok (.ifCond .lt 9, 3) := by decide +kernel
theorem dX1_parametersOf_4 : decode cX1_parametersOf 4 = .ok (.iload_n 1, 1) := by decide +kernel
theorem dX1_parametersOf_5 : decode cX1_parametersOf 5 = .ok (.bipush 26, 2) := by decide +kernel
theorem dX1_parametersOf_7 : decode cX1_parametersOf 7 = .ok (.if_icmp .lt 7, 3) := by decide +kernel
theorem dX1_parametersOf_10 : decode cX1_parametersOf 10 = .ok (.iconst 0, 1) := by decide +kernel
theorem dX1_parametersOf_11 : decode cX1_parametersOf 11 = .ok (.goto 11, 3) := by decide +kernel
theorem dX1_parametersOf_14 : decode cX1_parametersOf 14 = .ok (.aload_n 0, 1) := by decide +kernel
theorem dX1_parametersOf_15 : decode cX1_parametersOf 15 = .ok (.getfield 42, 3) := by decide +kernel
theorem dX1_parametersOf_18 : decode cX1_parametersOf 18 = .ok (.iload_n 1, 1) := by decide +kernel
theorem dX1_parametersOf_19 : decode cX1_parametersOf 19 = .ok (.aaload, 1) := by decide +kernel
theorem dX1_parametersOf_20 : decode cX1_parametersOf 20 = .ok (.iconst 0, 1) := by decide +kernel
theorem dX1_parametersOf_21 : decode cX1_parametersOf 21 = .ok (.iaload, 1) := by decide +kernel
theorem dX1_parametersOf_22 : decode cX1_parametersOf 22 = .ok (.ireturn, 1) := by decide +kernel
theorem dX1_casesOf_0 : decode cX1_casesOf 0 = .ok (.iload_n 1, 1) := by decide +kernel
theorem dX1_casesOf_1 : decode cX1_casesOf 1 = .ok (.ifCond .lt 9, 3) := by decide +kernel
theorem dX1_casesOf_4 : decode cX1_casesOf 4 = .ok (.iload_n 1, 1) := by decide +kernel
theorem dX1_casesOf_5 : decode cX1_casesOf 5 = .ok (.bipush 26, 2) := by decide +kernel
theorem dX1_casesOf_7 : decode cX1_casesOf 7 = .ok (.if_icmp .lt 7, 3) := by decide +kernel
theorem dX1_casesOf_10 : decode cX1_casesOf 10 = .ok (.iconst 0, 1) := by decide +kernel
theorem dX1_casesOf_11 : decode cX1_casesOf 11 = .ok (.goto 11, 3) := by decide +kernel
theorem dX1_casesOf_14 : decode cX1_casesOf 14 = .ok (.aload_n 0, 1) := by decide +kernel
theorem dX1_casesOf_15 : decode cX1_casesOf 15 = .ok (.getfield 42, 3) := by decide +kernel
theorem dX1_casesOf_18 : decode cX1_casesOf 18 = .ok (.iload_n 1, 1) := by decide +kernel
theorem dX1_casesOf_19 : decode cX1_casesOf 19 = .ok (.aaload, 1) := by decide +kernel
theorem dX1_casesOf_20 : decode cX1_casesOf 20 = .ok (.iconst 1, 1) := by decide +kernel
theorem dX1_casesOf_21 : decode cX1_casesOf 21 = .ok (.iaload, 1) := by decide +kernel
theorem dX1_casesOf_22 : decode cX1_casesOf 22 = .ok (.ireturn, 1) := by decide +kernel
theorem dX1_conditionOf_0 : decode cX1_conditionOf 0 = .ok (.iload_n 2, 1) := by decide +kernel
theorem dX1_conditionOf_1 : decode cX1_conditionOf 1 = .ok (.ifCond .lt 12, 3) := by decide +kernel
theorem dX1_conditionOf_4 : decode cX1_conditionOf 4 = .ok (.iload_n 2, 1) := by decide +kernel
theorem dX1_conditionOf_5 : decode cX1_conditionOf 5 = .ok (.aload_n 0, 1) := by decide +kernel
theorem dX1_conditionOf_6 : decode cX1_conditionOf 6 = .ok (.iload_n 1, 1) := by decide +kernel
theorem dX1_conditionOf_7 : decode cX1_conditionOf 7 = .ok (.invokevirtual 113, 3) := by decide +kernel
theorem dX1_conditionOf_10 : decode cX1_conditionOf 10 = .ok (.if_icmp .lt 7, 3) := by decide +kernel
theorem dX1_conditionOf_13 : decode cX1_conditionOf 13 = .ok (.aconst_null, 1) := by decide +kernel
theorem dX1_conditionOf_14 : decode cX1_conditionOf 14 = .ok (.goto 17, 3) := by decide +kernel
theorem dX1_conditionOf_17 : decode cX1_conditionOf 17 = .ok (.aload_n 0, 1) := by decide +kernel
theorem dX1_conditionOf_18 : decode cX1_conditionOf 18 = .ok (.aload_n 0, 1) := by decide +kernel
theorem dX1_conditionOf_19 : decode cX1_conditionOf 19 = .ok (.getfield 42, 3) := by decide +kernel
theorem dX1_conditionOf_22 : decode cX1_conditionOf 22 = .ok (.iload_n 1, 1) := by decide +kernel
theorem dX1_conditionOf_23 : decode cX1_conditionOf 23 = .ok (.aaload, 1) := by decide +kernel
theorem dX1_conditionOf_24 : decode cX1_conditionOf 24 = .ok (.iconst 2, 1) := by decide +kernel
theorem dX1_conditionOf_25 : decode cX1_conditionOf 25 = .ok (.iload_n 2, 1) := by decide +kernel
theorem dX1_conditionOf_26 : decode cX1_conditionOf 26 = .ok (.iadd, 1) := by decide +kernel
theorem dX1_conditionOf_27 : decode cX1_conditionOf 27 = .ok (.iaload, 1) := by decide +kernel
theorem dX1_conditionOf_28 : decode cX1_conditionOf 28 = .ok (.invokevirtual 120, 3) := by decide +kernel
theorem dX1_conditionOf_31 : decode cX1_conditionOf 31 = .ok (.areturn, 1) := by decide +kernel
theorem dX1_valueOf_0 : decode cX1_valueOf 0 = .ok (.iload_n 2, 1) := by decide +kernel
theorem dX1_valueOf_1 : decode cX1_valueOf 1 = .ok (.ifCond .lt 12, 3) := by decide +kernel
theorem dX1_valueOf_4 : decode cX1_valueOf 4 = .ok (.iload_n 2, 1) := by decide +kernel
theorem dX1_valueOf_5 : decode cX1_valueOf 5 = .ok (.aload_n 0, 1) := by decide +kernel
theorem dX1_valueOf_6 : decode cX1_valueOf 6 = .ok (.iload_n 1, 1) := by decide +kernel
theorem dX1_valueOf_7 : decode cX1_valueOf 7 = .ok (.invokevirtual 113, 3) := by decide +kernel
theorem dX1_valueOf_10 : decode cX1_valueOf 10 = .ok (.if_icmp .lt 7, 3) := by decide +kernel
theorem dX1_valueOf_13 : decode cX1_valueOf 13 = .ok (.aconst_null, 1) := by decide +kernel
theorem dX1_valueOf_14 : decode cX1_valueOf 14 = .ok (.goto 18, 3) := by decide +kernel
theorem dX1_valueOf_17 : decode cX1_valueOf 17 = .ok (.aload_n 0, 1) := by decide +kernel
theorem dX1_valueOf_18 : decode cX1_valueOf 18 = .ok (.aload_n 0, 1) := by decide +kernel
theorem dX1_valueOf_19 : decode cX1_valueOf 19 = .ok (.getfield 42, 3) := by decide +kernel
theorem dX1_valueOf_22 : decode cX1_valueOf 22 = .ok (.iload_n 1, 1) := by decide +kernel
theorem dX1_valueOf_23 : decode cX1_valueOf 23 = .ok (.aaload, 1) := by decide +kernel
theorem dX1_valueOf_24 : decode cX1_valueOf 24 = .ok (.bipush 6, 2) := by decide +kernel
theorem dX1_valueOf_26 : decode cX1_valueOf 26 = .ok (.iload_n 2, 1) := by decide +kernel
theorem dX1_valueOf_27 : decode cX1_valueOf 27 = .ok (.iadd, 1) := by decide +kernel
theorem dX1_valueOf_28 : decode cX1_valueOf 28 = .ok (.iaload, 1) := by decide +kernel
theorem dX1_valueOf_29 : decode cX1_valueOf 29 = .ok (.invokevirtual 120, 3) := by decide +kernel
theorem dX1_valueOf_32 : decode cX1_valueOf 32 = .ok (.areturn, 1) := by decide +kernel
theorem dX1_treeOf_0 : decode cX1_treeOf 0 = .ok (.iload_n 1, 1) := by decide +kernel
theorem dX1_treeOf_1 : decode cX1_treeOf 1 = .ok (.ifCond .lt 17, 3) := by decide +kernel
theorem dX1_treeOf_4 : decode cX1_treeOf 4 = .ok (.iload_n 1, 1) := by decide +kernel
theorem dX1_treeOf_5 : decode cX1_treeOf 5 = .ok (.aload_n 0, 1) := by decide +kernel
theorem dX1_treeOf_6 : decode cX1_treeOf 6 = .ok (.getfield 93, 3) := by decide +kernel
theorem dX1_treeOf_9 : decode cX1_treeOf 9 = .ok (.if_icmp .ge 9, 3) := by decide +kernel
theorem dX1_treeOf_12 : decode cX1_treeOf 12 = .ok (.iload_n 1, 1) := by decide +kernel
theorem dX1_treeOf_13 : decode cX1_treeOf 13 = .ok (.bipush 30, 2) := by decide +kernel
theorem dX1_treeOf_15 : decode cX1_treeOf 15 = .ok (.if_icmp .lt 7, 3) := by decide +kernel
theorem dX1_treeOf_18 : decode cX1_treeOf 18 = .ok (.aconst_null, 1) := by decide +kernel
theorem dX1_treeOf_19 : decode cX1_treeOf 19 = .ok (.goto 9, 3) := by decide +kernel
theorem dX1_treeOf_22 : decode cX1_treeOf 22 = .ok (.aload_n 0, 1) := by decide +kernel
theorem dX1_treeOf_23 : decode cX1_treeOf 23 = .ok (.getfield 26, 3) := by decide +kernel
theorem dX1_treeOf_26 : decode cX1_treeOf 26 = .ok (.iload_n 1, 1) := by decide +kernel
theorem dX1_treeOf_27 : decode cX1_treeOf 27 = .ok (.aaload, 1) := by decide +kernel
theorem dX1_treeOf_28 : decode cX1_treeOf 28 = .ok (.areturn, 1) := by decide +kernel
theorem dX1_note_0 : decode cX1_note 0 = .ok (.aload_n 0, 1) := by decide +kernel
theorem dX1_note_1 : decode cX1_note 1 = .ok (.getfield 124, 3) := by decide +kernel
theorem dX1_note_4 : decode cX1_note 4 = .ok (.bipush 20, 2) := by decide +kernel
theorem dX1_note_6 : decode cX1_note 6 = .ok (.if_icmp .lt 26, 3) := by decide +kernel
theorem dX1_note_9 : decode cX1_note 9 = .ok (.aload_n 0, 1) := by decide +kernel
theorem dX1_note_10 : decode cX1_note 10 = .ok (.aload_n 0, 1) := by decide +kernel
theorem dX1_note_11 : decode cX1_note 11 = .ok (.getfield 127, 3) := by decide +kernel
theorem dX1_note_14 : decode cX1_note 14 = .ok (.iconst 1, 1) := by decide +kernel
theorem dX1_note_15 : decode cX1_note 15 = .ok (.iadd, 1) := by decide +kernel
theorem dX1_note_16 : decode cX1_note 16 = .ok (.bipush 20, 2) := by decide +kernel
theorem dX1_note_18 : decode cX1_note 18 = .ok (.irem, 1) := by decide +kernel
theorem dX1_note_19 : decode cX1_note 19 = .ok (.putfield 127, 3) := by decide +kernel
theorem dX1_note_22 : decode cX1_note 22 = .ok (.aload_n 0, 1) := by decide +kernel
theorem dX1_note_23 : decode cX1_note 23 = .ok (.dup, 1) := by decide +kernel
theorem dX1_note_24 : decode cX1_note 24 = .ok (.getfield 124, 3) := by decide +kernel
theorem dX1_note_27 : decode cX1_note 27 = .ok (.iconst 1, 1) := by decide +kernel
theorem dX1_note_28 : decode cX1_note 28 = .ok (.isub, 1) := by decide +kernel
theorem dX1_note_29 : decode cX1_note 29 = .ok (.putfield 124, 3) := by decide +kernel
theorem dX1_note_32 : decode cX1_note 32 = .ok (.aload_n 0, 1) := by decide +kernel
theorem dX1_note_33 : decode cX1_note 33 = .ok (.getfield 127, 3) := by decide +kernel
theorem dX1_note_36 : decode cX1_note 36 = .ok (.aload_n 0, 1) := by decide +kernel
theorem dX1_note_37 : decode cX1_note 37 = .ok (.getfield 124, 3) := by decide +kernel
theorem dX1_note_40 : decode cX1_note 40 = .ok (.iadd, 1) := by decide +kernel
theorem dX1_note_41 : decode cX1_note 41 = .ok (.bipush 20, 2) := by decide +kernel
theorem dX1_note_43 : decode cX1_note 43 = .ok (.irem, 1) := by decide +kernel
theorem dX1_note_44 : decode cX1_note 44 = .ok (.istore_n 3, 1) := by decide +kernel
theorem dX1_note_45 : decode cX1_note 45 = .ok (.aload_n 0, 1) := by decide +kernel
theorem dX1_note_46 : decode cX1_note 46 = .ok (.getfield 45, 3) := by decide +kernel
theorem dX1_note_49 : decode cX1_note 49 = .ok (.iload_n 3, 1) := by decide +kernel
theorem dX1_note_50 : decode cX1_note 50 = .ok (.iload_n 1, 1) := by decide +kernel
theorem dX1_note_51 : decode cX1_note 51 = .ok (.iastore, 1) := by decide +kernel
theorem dX1_note_52 : decode cX1_note 52 = .ok (.aload_n 0, 1) := by decide +kernel
theorem dX1_note_53 : decode cX1_note 53 = .ok (.getfield 48, 3) := by decide +kernel
theorem dX1_note_56 : decode cX1_note 56 = .ok (.iload_n 3, 1) := by decide +kernel
theorem dX1_note_57 : decode cX1_note 57 = .ok (.iload_n 2, 1) := by decide +kernel
theorem dX1_note_58 : decode cX1_note 58 = .ok (.iastore, 1) := by decide +kernel
theorem dX1_note_59 : decode cX1_note 59 = .ok (.aload_n 0, 1) := by decide +kernel
theorem dX1_note_60 : decode cX1_note 60 = .ok (.dup, 1) := by decide +kernel
theorem dX1_note_61 : decode cX1_note 61 = .ok (.getfield 124, 3) := by decide +kernel
theorem dX1_note_64 : decode cX1_note 64 = .ok (.iconst 1, 1) := by decide +kernel
theorem dX1_note_65 : decode cX1_note 65 = .ok (.iadd, 1) := by decide +kernel
theorem dX1_note_66 : decode cX1_note 66 = .ok (.putfield 124, 3) := by decide +kernel
theorem dX1_note_69 : decode cX1_note 69 = .ok (.iload_n 3, 1) := by decide +kernel
theorem dX1_note_70 : decode cX1_note 70 = .ok (.ireturn, 1) := by decide +kernel
theorem dX1_takeBack_0 : decode cX1_takeBack 0 = .ok (.aload_n 0, 1) := by decide +kernel
theorem dX1_takeBack_1 : decode cX1_takeBack 1 = .ok (.getfield 124, 3) := by decide +kernel
theorem dX1_takeBack_4 : decode cX1_takeBack 4 = .ok (.ifCond .gt 5, 3) := by decide +kernel
theorem dX1_takeBack_7 : decode cX1_takeBack 7 = .ok (.iconst (-1), 1) := by decide +kernel
theorem dX1_takeBack_8 : decode cX1_takeBack 8 = .ok (.ireturn, 1) := by decide +kernel
theorem dX1_takeBack_9 : decode cX1_takeBack 9 = .ok (.aload_n 0, 1) := by decide +kernel
theorem dX1_takeBack_10 : decode cX1_takeBack 10 = .ok (.dup, 1) := by decide +kernel
theorem dX1_takeBack_11 : decode cX1_takeBack 11 = .ok (.getfield 124, 3) := by decide +kernel
theorem dX1_takeBack_14 : decode cX1_takeBack 14 = .ok (.iconst 1, 1) := by decide +kernel
theorem dX1_takeBack_15 : decode cX1_takeBack 15 = .ok (.isub, 1) := by decide +kernel
theorem dX1_takeBack_16 : decode cX1_takeBack 16 = .ok (.putfield 124, 3) := by decide +kernel
theorem dX1_takeBack_19 : decode cX1_takeBack 19 = .ok (.aload_n 0, 1) := by decide +kernel
theorem dX1_takeBack_20 : decode cX1_takeBack 20 = .ok (.getfield 127, 3) := by decide +kernel
theorem dX1_takeBack_23 : decode cX1_takeBack 23 = .ok (.aload_n 0, 1) := by decide +kernel
theorem dX1_takeBack_24 : decode cX1_takeBack 24 = .ok (.getfield 124, 3) := by decide +kernel
theorem dX1_takeBack_27 : decode cX1_takeBack 27 = .ok (.iadd, 1) := by decide +kernel
theorem dX1_takeBack_28 : decode cX1_takeBack 28 = .ok (.bipush 20, 2) := by decide +kernel
theorem dX1_takeBack_30 : decode cX1_takeBack 30 = .ok (.irem, 1) := by decide +kernel
theorem dX1_takeBack_31 : decode cX1_takeBack 31 = .ok (.istore_n 1, 1) := by decide +kernel
theorem dX1_takeBack_32 : decode cX1_takeBack 32 = .ok (.aload_n 0, 1) := by decide +kernel
theorem dX1_takeBack_33 : decode cX1_takeBack 33 = .ok (.getfield 48, 3) := by decide +kernel
theorem dX1_takeBack_36 : decode cX1_takeBack 36 = .ok (.iload_n 1, 1) := by decide +kernel
theorem dX1_takeBack_37 : decode cX1_takeBack 37 = .ok (.iaload, 1) := by decide +kernel
theorem dX1_takeBack_38 : decode cX1_takeBack 38 = .ok (.istore_n 2, 1) := by decide +kernel
theorem dX1_takeBack_39 : decode cX1_takeBack 39 = .ok (.aload_n 0, 1) := by decide +kernel
theorem dX1_takeBack_40 : decode cX1_takeBack 40 = .ok (.getfield 51, 3) := by decide +kernel
theorem dX1_takeBack_43 : decode cX1_takeBack 43 = .ok (.iload_n 1, 1) := by decide +kernel
theorem dX1_takeBack_44 : decode cX1_takeBack 44 = .ok (.aaload, 1) := by decide +kernel
theorem dX1_takeBack_45 : decode cX1_takeBack 45 = .ok (.astore_n 3, 1) := by decide +kernel
theorem dX1_takeBack_46 : decode cX1_takeBack 46 = .ok (.aload_n 0, 1) := by decide +kernel
theorem dX1_takeBack_47 : decode cX1_takeBack 47 = .ok (.getfield 45, 3) := by decide +kernel
theorem dX1_takeBack_50 : decode cX1_takeBack 50 = .ok (.iload_n 1, 1) := by decide +kernel
theorem dX1_takeBack_51 : decode cX1_takeBack 51 = .ok (.iaload, 1) := by decide +kernel
theorem dX1_takeBack_52 : decode cX1_takeBack 52 = .ok (.tableswitch 94 0 2 #[28, 41, 58], 28) := by decide +kernel
theorem dX1_takeBack_80 : decode cX1_takeBack 80 = .ok (.aload_n 0, 1) := by decide +kernel
theorem dX1_takeBack_81 : decode cX1_takeBack 81 = .ok (.dup, 1) := by decide +kernel
theorem dX1_takeBack_82 : decode cX1_takeBack 82 = .ok (.getfield 93, 3) := by decide +kernel
theorem dX1_takeBack_85 : decode cX1_takeBack 85 = .ok (.iconst 1, 1) := by decide +kernel
theorem dX1_takeBack_86 : decode cX1_takeBack 86 = .ok (.isub, 1) := by decide +kernel
theorem dX1_takeBack_87 : decode cX1_takeBack 87 = .ok (.putfield 93, 3) := by decide +kernel
theorem dX1_takeBack_90 : decode cX1_takeBack 90 = .ok (.goto 66, 3) := by decide +kernel
theorem dX1_takeBack_93 : decode cX1_takeBack 93 = .ok (.aload_n 0, 1) := by decide +kernel
theorem dX1_takeBack_94 : decode cX1_takeBack 94 = .ok (.iload_n 2, 1) := by decide +kernel
theorem dX1_takeBack_95 : decode cX1_takeBack 95 = .ok (.aload_n 3, 1) := by decide +kernel
theorem dX1_takeBack_96 : decode cX1_takeBack 96 = .ok (.iconst 0, 1) := by decide +kernel
theorem dX1_takeBack_97 : decode cX1_takeBack 97 = .ok (.iaload, 1) := by decide +kernel
theorem dX1_takeBack_98 : decode cX1_takeBack 98 = .ok (.aload_n 3, 1) := by decide +kernel
theorem dX1_takeBack_99 : decode cX1_takeBack 99 = .ok (.iconst 1, 1) := by decide +kernel
theorem dX1_takeBack_100 : decode cX1_takeBack 100 = .ok (.iaload, 1) := by decide +kernel
theorem dX1_takeBack_101 : decode cX1_takeBack 101 = .ok (.aload_n 3, 1) := by decide +kernel
theorem dX1_takeBack_102 : decode cX1_takeBack 102 = .ok (.iconst 2, 1) := by decide +kernel
theorem dX1_takeBack_103 : decode cX1_takeBack 103 = .ok (.iaload, 1) := by decide +kernel
theorem dX1_takeBack_104 : decode cX1_takeBack 104 = .ok (.invokevirtual 82, 3) := by decide +kernel
theorem dX1_takeBack_107 : decode cX1_takeBack 107 = .ok (.goto 49, 3) := by decide +kernel
theorem dX1_takeBack_110 : decode cX1_takeBack 110 = .ok (.aload_n 0, 1) := by decide +kernel
theorem dX1_takeBack_111 : decode cX1_takeBack 111 = .ok (.getfield 36, 3) := by decide +kernel
theorem dX1_takeBack_114 : decode cX1_takeBack 114 = .ok (.iload_n 2, 1) := by decide +kernel
theorem dX1_takeBack_115 : decode cX1_takeBack 115 = .ok (.aload_n 3, 1) := by decide +kernel
theorem dX1_takeBack_116 : decode cX1_takeBack 116 = .ok (.iconst 0, 1) := by decide +kernel
theorem dX1_takeBack_117 : decode cX1_takeBack 117 = .ok (.iaload, 1) := by decide +kernel
theorem dX1_takeBack_118 : decode cX1_takeBack 118 = .ok (.iconst 1, 1) := by decide +kernel
theorem dX1_takeBack_119 : decode cX1_takeBack 119 = .ok (.if_icmp .ne 7, 3) := by decide +kernel
theorem dX1_takeBack_122 : decode cX1_takeBack 122 = .ok (.iconst 1, 1) := by decide +kernel
theorem dX1_takeBack_123 : decode cX1_takeBack 123 = .ok (.goto 4, 3) := by decide +kernel
theorem dX1_takeBack_126 : decode cX1_takeBack 126 = .ok (.iconst 0, 1) := by decide +kernel
theorem dX1_takeBack_127 : decode cX1_takeBack 127 = .ok (.bastore, 1) := by decide +kernel
theorem dX1_takeBack_128 : decode cX1_takeBack 128 = .ok (.aload_n 0, 1) := by decide +kernel
theorem dX1_takeBack_129 : decode cX1_takeBack 129 = .ok (.getfield 32, 3) := by decide +kernel
theorem dX1_takeBack_132 : decode cX1_takeBack 132 = .ok (.iload_n 2, 1) := by decide +kernel
theorem dX1_takeBack_133 : decode cX1_takeBack 133 = .ok (.aaload, 1) := by decide +kernel
theorem dX1_takeBack_134 : decode cX1_takeBack 134 = .ok (.aload_n 0, 1) := by decide +kernel
theorem dX1_takeBack_135 : decode cX1_takeBack 135 = .ok (.getfield 54, 3) := by decide +kernel
theorem dX1_takeBack_138 : decode cX1_takeBack 138 = .ok (.iload_n 1, 1) := by decide +kernel
theorem dX1_takeBack_139 : decode cX1_takeBack 139 = .ok (.aaload, 1) := by decide +kernel
theorem dX1_takeBack_140 : decode cX1_takeBack 140 = .ok (.invokevirtual 107, 3) := by decide +kernel
theorem dX1_takeBack_143 : decode cX1_takeBack 143 = .ok (.goto 13, 3) := by decide +kernel
theorem dX1_takeBack_146 : decode cX1_takeBack 146 = .ok (.aload_n 3, 1) := by decide +kernel
theorem dX1_takeBack_147 : decode cX1_takeBack 147 = .ok (.aload_n 0, 1) := by decide +kernel
theorem dX1_takeBack_148 : decode cX1_takeBack 148 = .ok (.getfield 42, 3) := by decide +kernel
theorem dX1_takeBack_151 : decode cX1_takeBack 151 = .ok (.iload_n 2, 1) := by decide +kernel
theorem dX1_takeBack_152 : decode cX1_takeBack 152 = .ok (.aaload, 1) := by decide +kernel
theorem dX1_takeBack_153 : decode cX1_takeBack 153 = .ok (.invokestatic 116, 3) := by decide +kernel
theorem dX1_takeBack_156 : decode cX1_takeBack 156 = .ok (.aload_n 0, 1) := by decide +kernel
theorem dX1_takeBack_157 : decode cX1_takeBack 157 = .ok (.getfield 45, 3) := by decide +kernel
theorem dX1_takeBack_160 : decode cX1_takeBack 160 = .ok (.iload_n 1, 1) := by decide +kernel
theorem dX1_takeBack_161 : decode cX1_takeBack 161 = .ok (.iaload, 1) := by decide +kernel
theorem dX1_takeBack_162 : decode cX1_takeBack 162 = .ok (.ireturn, 1) := by decide +kernel
theorem dX2_init_0 : decode cX2_init 0 = .ok (.aload_n 0, 1) := by decide +kernel
theorem dX2_init_1 : decode cX2_init 1 = .ok (.invokespecial 1, 3) := by decide +kernel
theorem dX2_init_4 : decode cX2_init 4 = .ok (.aload_n 0, 1) := by decide +kernel
theorem dX2_init_5 : decode cX2_init 5 = .ok (.new 7, 3) := by decide +kernel
theorem dX2_init_8 : decode cX2_init 8 = .ok (.dup, 1) := by decide +kernel
theorem dX2_init_9 : decode cX2_init 9 = .ok (.iload_n 1, 1) := by decide +kernel
theorem dX2_init_10 : decode cX2_init 10 = .ok (.invokespecial 9, 3) := by decide +kernel
theorem dX2_init_13 : decode cX2_init 13 = .ok (.putfield 12, 3) := by decide +kernel
theorem dX2_init_16 : decode cX2_init 16 = .ok (.aload_n 0, 1) := by decide +kernel
theorem dX2_init_17 : decode cX2_init 17 = .ok (.new 7, 3) := by decide +kernel
theorem dX2_init_20 : decode cX2_init 20 = .ok (.dup, 1) := by decide +kernel
theorem dX2_init_21 : decode cX2_init 21 = .ok (.iload_n 1, 1) := by decide +kernel
theorem dX2_init_22 : decode cX2_init 22 = .ok (.invokespecial 9, 3) := by decide +kernel
theorem dX2_init_25 : decode cX2_init 25 = .ok (.putfield 18, 3) := by decide +kernel
theorem dX2_init_28 : decode cX2_init 28 = .ok (.aload_n 0, 1) := by decide +kernel
theorem dX2_init_29 : decode cX2_init 29 = .ok (.getfield 18, 3) := by decide +kernel
theorem dX2_init_32 : decode cX2_init 32 = .ok (.lconst 1, 1) := by decide +kernel
theorem dX2_init_33 : decode cX2_init 33 = .ok (.invokevirtual 21, 3) := by decide +kernel
theorem dX2_init_36 : decode cX2_init 36 = .ok (.return_, 1) := by decide +kernel
theorem dX2_set_0 : decode cX2_set 0 = .ok (.aload_n 0, 1) := by decide +kernel
theorem dX2_set_1 : decode cX2_set 1 = .ok (.getfield 12, 3) := by decide +kernel
theorem dX2_set_4 : decode cX2_set 4 = .ok (.lload_n 1, 1) := by decide +kernel
theorem dX2_set_5 : decode cX2_set 5 = .ok (.invokevirtual 21, 3) := by decide +kernel
theorem dX2_set_8 : decode cX2_set 8 = .ok (.aload_n 0, 1) := by decide +kernel
theorem dX2_set_9 : decode cX2_set 9 = .ok (.getfield 18, 3) := by decide +kernel
theorem dX2_set_12 : decode cX2_set 12 = .ok (.lconst 1, 1) := by decide +kernel
theorem dX2_set_13 : decode cX2_set 13 = .ok (.invokevirtual 21, 3) := by decide +kernel
theorem dX2_set_16 : decode cX2_set 16 = .ok (.return_, 1) := by decide +kernel
theorem dX2_copy_0 : decode cX2_copy 0 = .ok (.aload_n 0, 1) := by decide +kernel
theorem dX2_copy_1 : decode cX2_copy 1 = .ok (.getfield 12, 3) := by decide +kernel
theorem dX2_copy_4 : decode cX2_copy 4 = .ok (.aload_n 1, 1) := by decide +kernel
theorem dX2_copy_5 : decode cX2_copy 5 = .ok (.getfield 12, 3) := by decide +kernel
theorem dX2_copy_8 : decode cX2_copy 8 = .ok (.invokevirtual 25, 3) := by decide +kernel
theorem dX2_copy_11 : decode cX2_copy 11 = .ok (.aload_n 0, 1) := by decide +kernel
theorem dX2_copy_12 : decode cX2_copy 12 = .ok (.getfield 18, 3) := by decide +kernel
theorem dX2_copy_15 : decode cX2_copy 15 = .ok (.aload_n 1, 1) := by decide +kernel
theorem dX2_copy_16 : decode cX2_copy 16 = .ok (.getfield 18, 3) := by decide +kernel
theorem dX2_copy_19 : decode cX2_copy 19 = .ok (.invokevirtual 25, 3) := by decide +kernel
theorem dX2_copy_22 : decode cX2_copy 22 = .ok (.return_, 1) := by decide +kernel
theorem dX2_isZero_0 : decode cX2_isZero 0 = .ok (.aload_n 0, 1) := by decide +kernel
theorem dX2_isZero_1 : decode cX2_isZero 1 = .ok (.getfield 12, 3) := by decide +kernel
theorem dX2_isZero_4 : decode cX2_isZero 4 = .ok (.invokevirtual 29, 3) := by decide +kernel
theorem dX2_isZero_7 : decode cX2_isZero 7 = .ok (.ireturn, 1) := by decide +kernel
theorem dX2_isWhole_0 : decode cX2_isWhole 0 = .ok (.aload_n 0, 1) := by decide +kernel
theorem dX2_isWhole_1 : decode cX2_isWhole 1 = .ok (.getfield 18, 3) := by decide +kernel
theorem dX2_isWhole_4 : decode cX2_isWhole 4 = .ok (.invokevirtual 33, 3) := by decide +kernel
theorem dX2_isWhole_7 : decode cX2_isWhole 7 = .ok (.ireturn, 1) := by decide +kernel
theorem dX2_fits_0 : decode cX2_fits 0 = .ok (.aload_n 0, 1) := by decide +kernel
theorem dX2_fits_1 : decode cX2_fits 1 = .ok (.getfield 12, 3) := by decide +kernel
theorem dX2_fits_4 : decode cX2_fits 4 = .ok (.invokevirtual 36, 3) := by decide +kernel
theorem dX2_fits_7 : decode cX2_fits 7 = .ok (.sipush 200, 3) := by decide +kernel
theorem dX2_fits_10 : decode cX2_fits 10 = .ok (.if_icmp .gt 20, 3) := by decide +kernel
theorem dX2_fits_13 : decode cX2_fits 13 = .ok (.aload_n 0, 1) := by decide +kernel
theorem dX2_fits_14 : decode cX2_fits 14 = .ok (.getfield 18, 3) := by decide +kernel
theorem dX2_fits_17 : decode cX2_fits 17 = .ok (.invokevirtual 36, 3) := by decide +kernel
theorem dX2_fits_20 : decode cX2_fits 20 = .ok (.sipush 200, 3) := by decide +kernel
theorem dX2_fits_23 : decode cX2_fits 23 = .ok (.if_icmp .gt 7, 3) := by decide +kernel
theorem dX2_fits_26 : decode cX2_fits 26 = .ok (.iconst 1, 1) := by decide +kernel
theorem dX2_fits_27 : decode cX2_fits 27 = .ok (.goto 4, 3) := by decide +kernel
theorem dX2_fits_30 : decode cX2_fits 30 = .ok (.iconst 0, 1) := by decide +kernel
theorem dX2_fits_31 : decode cX2_fits 31 = .ok (.ireturn, 1) := by decide +kernel
theorem dX2_sameAs_0 : decode cX2_sameAs 0 = .ok (.aload_n 0, 1) := by decide +kernel
theorem dX2_sameAs_1 : decode cX2_sameAs 1 = .ok (.getfield 12, 3) := by decide +kernel
theorem dX2_sameAs_4 : decode cX2_sameAs 4 = .ok (.aload_n 1, 1) := by decide +kernel
theorem dX2_sameAs_5 : decode cX2_sameAs 5 = .ok (.getfield 12, 3) := by decide +kernel
theorem dX2_sameAs_8 : decode cX2_sameAs 8 = .ok (.invokestatic 40, 3) := by decide +kernel
theorem dX2_sameAs_11 : decode cX2_sameAs 11 = .ok (.ifCond .ne 21, 3) := by decide +kernel
theorem dX2_sameAs_14 : decode cX2_sameAs 14 = .ok (.aload_n 0, 1) := by decide +kernel
theorem dX2_sameAs_15 : decode cX2_sameAs 15 = .ok (.getfield 18, 3) := by decide +kernel
theorem dX2_sameAs_18 : decode cX2_sameAs 18 = .ok (.aload_n 1, 1) := by decide +kernel
theorem dX2_sameAs_19 : decode cX2_sameAs 19 = .ok (.getfield 18, 3) := by decide +kernel
theorem dX2_sameAs_22 : decode cX2_sameAs 22 = .ok (.invokestatic 40, 3) := by decide +kernel
theorem dX2_sameAs_25 : decode cX2_sameAs 25 = .ok (.ifCond .ne 7, 3) := by decide +kernel
theorem dX2_sameAs_28 : decode cX2_sameAs 28 = .ok (.iconst 1, 1) := by decide +kernel
theorem dX2_sameAs_29 : decode cX2_sameAs 29 = .ok (.goto 4, 3) := by decide +kernel
theorem dX2_sameAs_32 : decode cX2_sameAs 32 = .ok (.iconst 0, 1) := by decide +kernel
theorem dX2_sameAs_33 : decode cX2_sameAs 33 = .ok (.ireturn, 1) := by decide +kernel
theorem dX3_init_0 : decode cX3_init 0 = .ok (.aload_n 0, 1) := by decide +kernel
theorem dX3_init_1 : decode cX3_init 1 = .ok (.invokespecial 3, 3) := by decide +kernel
theorem dX3_init_4 : decode cX3_init 4 = .ok (.aload_n 0, 1) := by decide +kernel
theorem dX3_init_5 : decode cX3_init 5 = .ok (.sipush 432, 3) := by decide +kernel
theorem dX3_init_8 : decode cX3_init 8 = .ok (.anewarray 11, 3) := by decide +kernel
theorem dX3_init_11 : decode cX3_init 11 = .ok (.putfield 13, 3) := by decide +kernel
theorem dX3_init_14 : decode cX3_init 14 = .ok (.aload_n 0, 1) := by decide +kernel
theorem dX3_init_15 : decode cX3_init 15 = .ok (.bipush 48, 2) := by decide +kernel
theorem dX3_init_17 : decode cX3_init 17 = .ok (.newarray .int, 2) := by decide +kernel
theorem dX3_init_19 : decode cX3_init 19 = .ok (.putfield 17, 3) := by decide +kernel
theorem dX3_init_22 : decode cX3_init 22 = .ok (.aload_n 0, 1) := by decide +kernel
theorem dX3_init_23 : decode cX3_init 23 = .ok (.bipush 9, 2) := by decide +kernel
theorem dX3_init_25 : decode cX3_init 25 = .ok (.anewarray 11, 3) := by decide +kernel
theorem dX3_init_28 : decode cX3_init 28 = .ok (.putfield 21, 3) := by decide +kernel
theorem dX3_init_31 : decode cX3_init 31 = .ok (.aload_n 0, 1) := by decide +kernel
theorem dX3_init_32 : decode cX3_init 32 = .ok (.bipush 9, 2) := by decide +kernel
theorem dX3_init_34 : decode cX3_init 34 = .ok (.anewarray 11, 3) := by decide +kernel
theorem dX3_init_37 : decode cX3_init 37 = .ok (.putfield 24, 3) := by decide +kernel
theorem dX3_init_40 : decode cX3_init 40 = .ok (.aload_n 0, 1) := by decide +kernel
theorem dX3_init_41 : decode cX3_init 41 = .ok (.new 11, 3) := by decide +kernel
theorem dX3_init_44 : decode cX3_init 44 = .ok (.dup, 1) := by decide +kernel
theorem dX3_init_45 : decode cX3_init 45 = .ok (.bipush 100, 2) := by decide +kernel
theorem dX3_init_47 : decode cX3_init 47 = .ok (.invokespecial 29, 3) := by decide +kernel
theorem dX3_init_50 : decode cX3_init 50 = .ok (.putfield 32, 3) := by decide +kernel
theorem dX3_init_53 : decode cX3_init 53 = .ok (.aload_n 0, 1) := by decide +kernel
theorem dX3_init_54 : decode cX3_init 54 = .ok (.new 11, 3) := by decide +kernel
theorem dX3_init_57 : decode cX3_init 57 = .ok (.dup, 1) := by decide +kernel
theorem dX3_init_58 : decode cX3_init 58 = .ok (.bipush 100, 2) := by decide +kernel
theorem dX3_init_60 : decode cX3_init 60 = .ok (.invokespecial 29, 3) := by decide +kernel
theorem dX3_init_63 : decode cX3_init 63 = .ok (.putfield 36, 3) := by decide +kernel
theorem dX3_init_66 : decode cX3_init 66 = .ok (.aload_n 0, 1) := by decide +kernel
theorem dX3_init_67 : decode cX3_init 67 = .ok (.bipush 9, 2) := by decide +kernel
theorem dX3_init_69 : decode cX3_init 69 = .ok (.anewarray 11, 3) := by decide +kernel
theorem dX3_init_72 : decode cX3_init 72 = .ok (.putfield 39, 3) := by decide +kernel
theorem dX3_init_75 : decode cX3_init 75 = .ok (.aload_n 0, 1) := by decide +kernel
theorem dX3_init_76 : decode cX3_init 76 = .ok (.new 11, 3) := by decide +kernel
theorem dX3_init_79 : decode cX3_init 79 = .ok (.dup, 1) := by decide +kernel
theorem dX3_init_80 : decode cX3_init 80 = .ok (.bipush 7, 2) := by decide +kernel
theorem dX3_init_82 : decode cX3_init 82 = .ok (.invokespecial 29, 3) := by decide +kernel
theorem dX3_init_85 : decode cX3_init 85 = .ok (.putfield 42, 3) := by decide +kernel
theorem dX3_init_88 : decode cX3_init 88 = .ok (.aload_n 0, 1) := by decide +kernel
theorem dX3_init_89 : decode cX3_init 89 = .ok (.new 11, 3) := by decide +kernel
theorem dX3_init_92 : decode cX3_init 92 = .ok (.dup, 1) := by decide +kernel
theorem dX3_init_93 : decode cX3_init 93 = .ok (.bipush 7, 2) := by decide +kernel
theorem dX3_init_95 : decode cX3_init 95 = .ok (.invokespecial 29, 3) := by decide +kernel
theorem dX3_init_98 : decode cX3_init 98 = .ok (.putfield 45, 3) := by decide +kernel
theorem dX3_init_101 : decode cX3_init 101 = .ok (.aload_n 0, 1) := by decide +kernel
theorem dX3_init_102 : decode cX3_init 102 = .ok (.new 11, 3) := by decide +kernel
theorem dX3_init_105 : decode cX3_init 105 = .ok (.dup, 1) := by decide +kernel
theorem dX3_init_106 : decode cX3_init 106 = .ok (.bipush 7, 2) := by decide +kernel
theorem dX3_init_108 : decode cX3_init 108 = .ok (.invokespecial 29, 3) := by decide +kernel
theorem dX3_init_111 : decode cX3_init 111 = .ok (.putfield 48, 3) := by decide +kernel
theorem dX3_init_114 : decode cX3_init 114 = .ok (.aload_n 0, 1) := by decide +kernel
theorem dX3_init_115 : decode cX3_init 115 = .ok (.aload_n 1, 1) := by decide +kernel
theorem dX3_init_116 : decode cX3_init 116 = .ok (.putfield 51, 3) := by decide +kernel
theorem dX3_init_119 : decode cX3_init 119 = .ok (.aload_n 0, 1) := by decide +kernel
theorem dX3_init_120 : decode cX3_init 120 = .ok (.aload_n 2, 1) := by decide +kernel
theorem dX3_init_121 : decode cX3_init 121 = .ok (.putfield 55, 3) := by decide +kernel
theorem dX3_init_124 : decode cX3_init 124 = .ok (.iconst 0, 1) := by decide +kernel
theorem dX3_init_125 : decode cX3_init 125 = .ok (.istore_n 3, 1) := by decide +kernel
theorem dX3_init_126 : decode cX3_init 126 = .ok (.iload_n 3, 1) := by decide +kernel
theorem dX3_init_127 : decode cX3_init 127 = .ok (.sipush 432, 3) := by decide +kernel
theorem dX3_init_130 : decode cX3_init 130 = .ok (.if_icmp .ge 24, 3) := by decide +kernel
theorem dX3_init_133 : decode cX3_init 133 = .ok (.aload_n 0, 1) := by decide +kernel
theorem dX3_init_134 : decode cX3_init 134 = .ok (.getfield 13, 3) := by decide +kernel
theorem dX3_init_137 : decode cX3_init 137 = .ok (.iload_n 3, 1) := by decide +kernel
theorem dX3_init_138 : decode cX3_init 138 = .ok (.new 11, 3) := by decide +kernel
theorem dX3_init_141 : decode cX3_init 141 = .ok (.dup, 1) := by decide +kernel
theorem dX3_init_142 : decode cX3_init 142 = .ok (.bipush 7, 2) := by decide +kernel
theorem dX3_init_144 : decode cX3_init 144 = .ok (.invokespecial 29, 3) := by decide +kernel
theorem dX3_init_147 : decode cX3_init 147 = .ok (.aastore, 1) := by decide +kernel
theorem dX3_init_148 : decode cX3_init 148 = .ok (.iinc 3 1, 3) := by decide +kernel
theorem dX3_init_151 : decode cX3_init 151 = .ok (.goto (-25), 3) := by decide +kernel
theorem dX3_init_154 : decode cX3_init 154 = .ok (.iconst 0, 1) := by decide +kernel
theorem dX3_init_155 : decode cX3_init 155 = .ok (.istore_n 3, 1) := by decide +kernel
theorem dX3_init_156 : decode cX3_init 156 = .ok (.iload_n 3, 1) := by decide +kernel
theorem dX3_init_157 : decode cX3_init 157 = .ok (.bipush 9, 2) := by decide +kernel
theorem dX3_init_159 : decode cX3_init 159 = .ok (.if_icmp .ge 54, 3) := by decide +kernel
theorem dX3_init_162 : decode cX3_init 162 = .ok (.aload_n 0, 1) := by decide +kernel
theorem dX3_init_163 : decode cX3_init 163 = .ok (.getfield 21, 3) := by decide +kernel
theorem dX3_init_166 : decode cX3_init 166 = .ok (.iload_n 3, 1) := by decide +kernel
theorem dX3_init_167 : decode cX3_init 167 = .ok (.new 11, 3) := by decide +kernel
theorem dX3_init_170 : decode cX3_init 170 = .ok (.dup, 1) := by decide +kernel
theorem dX3_init_171 : decode cX3_init 171 = .ok (.bipush 100, 2) := by decide +kernel
theorem dX3_init_173 : decode cX3_init 173 = .ok (.invokespecial 29, 3) := by decide +kernel
theorem dX3_init_176 : decode cX3_init 176 = .ok (.aastore, 1) := by decide +kernel
theorem dX3_init_177 : decode cX3_init 177 = .ok (.aload_n 0, 1) := by decide +kernel
theorem dX3_init_178 : decode cX3_init 178 = .ok (.getfield 24, 3) := by decide +kernel
theorem dX3_init_181 : decode cX3_init 181 = .ok (.iload_n 3, 1) := by decide +kernel
theorem dX3_init_182 : decode cX3_init 182 = .ok (.new 11, 3) := by decide +kernel
theorem dX3_init_185 : decode cX3_init 185 = .ok (.dup, 1) := by decide +kernel
theorem dX3_init_186 : decode cX3_init 186 = .ok (.bipush 100, 2) := by decide +kernel
theorem dX3_init_188 : decode cX3_init 188 = .ok (.invokespecial 29, 3) := by decide +kernel
theorem dX3_init_191 : decode cX3_init 191 = .ok (.aastore, 1) := by decide +kernel
theorem dX3_init_192 : decode cX3_init 192 = .ok (.aload_n 0, 1) := by decide +kernel
theorem dX3_init_193 : decode cX3_init 193 = .ok (.getfield 39, 3) := by decide +kernel
theorem dX3_init_196 : decode cX3_init 196 = .ok (.iload_n 3, 1) := by decide +kernel
theorem dX3_init_197 : decode cX3_init 197 = .ok (.new 11, 3) := by decide +kernel
theorem dX3_init_200 : decode cX3_init 200 = .ok (.dup, 1) := by decide +kernel
theorem dX3_init_201 : decode cX3_init 201 = .ok (.bipush 7, 2) := by decide +kernel
theorem dX3_init_203 : decode cX3_init 203 = .ok (.invokespecial 29, 3) := by decide +kernel
theorem dX3_init_206 : decode cX3_init 206 = .ok (.aastore, 1) := by decide +kernel
theorem dX3_init_207 : decode cX3_init 207 = .ok (.iinc 3 1, 3) := by decide +kernel
theorem dX3_init_210 : decode cX3_init 210 = .ok (.goto (-54), 3) := by decide +kernel
theorem dX3_init_213 : decode cX3_init 213 = .ok (.return_, 1) := by decide +kernel
theorem dX3_collect_0 : decode cX3_collect 0 = .ok (.aload_n 0, 1) := by decide +kernel
theorem dX3_collect_1 : decode cX3_collect 1 = .ok (.iconst 0, 1) := by decide +kernel
theorem dX3_collect_2 : decode cX3_collect 2 = .ok (.putfield 59, 3) := by decide +kernel
theorem dX3_collect_5 : decode cX3_collect 5 = .ok (.aload_n 1, 1) := by decide +kernel
theorem dX3_collect_6 : decode cX3_collect 6 = .ok (.getfield 63, 3) := by decide +kernel
theorem dX3_collect_9 : decode cX3_collect 9 = .ok (.iload_n 2, 1) := by decide +kernel
theorem dX3_collect_10 : decode cX3_collect 10 = .ok (.iaload, 1) := by decide +kernel
theorem dX3_collect_11 : decode cX3_collect 11 = .ok (.istore 4, 2) := by decide +kernel
theorem dX3_collect_13 : decode cX3_collect 13 = .ok (.iload 4, 2) := by decide +kernel
theorem dX3_collect_15 : decode cX3_collect 15 = .ok (.aload_n 1, 1) := by decide +kernel
theorem dX3_collect_16 : decode cX3_collect 16 = .ok (.getfield 68, 3) := by decide +kernel
theorem dX3_collect_19 : decode cX3_collect 19 = .ok (.iload_n 2, 1) := by decide +kernel
theorem dX3_collect_20 : decode cX3_collect 20 = .ok (.iaload, 1) := by decide +kernel
theorem dX3_collect_21 : decode cX3_collect 21 = .ok (.isub, 1) := by decide +kernel
theorem dX3_collect_22 : decode cX3_collect 22 = .ok (.iconst 1, 1) := by decide +kernel
theorem dX3_collect_23 : decode cX3_collect 23 = .ok (.iadd, 1) := by decide +kernel
theorem dX3_collect_24 : decode cX3_collect 24 = .ok (.istore 5, 2) := by decide +kernel
theorem dX3_collect_26 : decode cX3_collect 26 = .ok (.iload 5, 2) := by decide +kernel
theorem dX3_collect_28 : decode cX3_collect 28 = .ok (.iload 4, 2) := by decide +kernel
theorem dX3_collect_30 : decode cX3_collect 30 = .ok (.if_icmp .gt 26, 3) := by decide +kernel
theorem dX3_collect_33 : decode cX3_collect 33 = .ok (.aload_n 0, 1) := by decide +kernel
theorem dX3_collect_34 : decode cX3_collect 34 = .ok (.aload_n 1, 1) := by decide +kernel
theorem dX3_collect_35 : decode cX3_collect 35 = .ok (.aload_n 1, 1) := by decide +kernel
theorem dX3_collect_36 : decode cX3_collect 36 = .ok (.iload 5, 2) := by decide +kernel
theorem dX3_collect_38 : decode cX3_collect 38 = .ok (.invokevirtual 71, 3) := by decide +kernel
theorem dX3_collect_41 : decode cX3_collect 41 = .ok (.iload_n 3, 1) := by decide +kernel
theorem dX3_collect_42 : decode cX3_collect 42 = .ok (.invokevirtual 75, 3) := by decide +kernel
theorem dX3_collect_45 : decode cX3_collect 45 = .ok (.ifCond .ne 5, 3) := by decide +kernel
theorem dX3_collect_48 : decode cX3_collect 48 = .ok (.iconst (-1), 1) := by decide +kernel
theorem dX3_collect_49 : decode cX3_collect 49 = .ok (.ireturn, 1) := by decide +kernel
theorem dX3_collect_50 : decode cX3_collect 50 = .ok (.iinc 5 1, 3) := by decide +kernel
theorem dX3_collect_53 : decode cX3_collect 53 = .ok (.goto (-27), 3) := by decide +kernel
theorem dX3_collect_56 : decode cX3_collect 56 = .ok (.aload_n 0, 1) := by decide +kernel
theorem dX3_collect_57 : decode cX3_collect 57 = .ok (.getfield 59, 3) := by decide +kernel
theorem dX3_collect_60 : decode cX3_collect 60 = .ok (.iconst 1, 1) := by decide +kernel
theorem dX3_collect_61 : decode cX3_collect 61 = .ok (.if_icmp .ne 12, 3) := by decide +kernel
theorem dX3_collect_64 : decode cX3_collect 64 = .ok (.aload_n 0, 1) := by decide +kernel
theorem dX3_collect_65 : decode cX3_collect 65 = .ok (.getfield 17, 3) := by decide +kernel
theorem dX3_collect_68 : decode cX3_collect 68 = .ok (.iconst 0, 1) := by decide +kernel
theorem dX3_collect_69 : decode cX3_collect 69 = .ok (.iaload, 1) := by decide +kernel
theorem dX3_collect_70 : decode cX3_collect 70 = .ok (.goto 4, 3) := by decide +kernel
theorem dX3_collect_73 : decode cX3_collect 73 = .ok (.iconst (-1), 1) := by decide +kernel
theorem dX3_collect_74 : decode cX3_collect 74 = .ok (.ireturn, 1) := by decide +kernel
theorem dX3_keep_0 : decode cX3_keep 0 = .ok (.iconst 0, 1) := by decide +kernel
theorem dX3_keep_1 : decode cX3_keep 1 = .ok (.istore_n 1, 1) := by decide +kernel
theorem dX3_keep_2 : decode cX3_keep 2 = .ok (.iload_n 1, 1) := by decide +kernel
theorem dX3_keep_3 : decode cX3_keep 3 = .ok (.bipush 9, 2) := by decide +kernel
theorem dX3_keep_5 : decode cX3_keep 5 = .ok (.if_icmp .ge 24, 3) := by decide +kernel
theorem dX3_keep_8 : decode cX3_keep 8 = .ok (.aload_n 0, 1) := by decide +kernel
theorem dX3_keep_9 : decode cX3_keep 9 = .ok (.getfield 39, 3) := by decide +kernel
theorem dX3_keep_12 : decode cX3_keep 12 = .ok (.iload_n 1, 1) := by decide +kernel
theorem dX3_keep_13 : decode cX3_keep 13 = .ok (.aaload, 1) := by decide +kernel
theorem dX3_keep_14 : decode cX3_keep 14 = .ok (.aload_n 0, 1) := by decide +kernel
theorem dX3_keep_15 : decode cX3_keep 15 = .ok (.getfield 13, 3) := by decide +kernel
theorem dX3_keep_18 : decode cX3_keep 18 = .ok (.iload_n 1, 1) := by decide +kernel
theorem dX3_keep_19 : decode cX3_keep 19 = .ok (.aaload, 1) := by decide +kernel
theorem dX3_keep_20 : decode cX3_keep 20 = .ok (.invokevirtual 79, 3) := by decide +kernel
theorem dX3_keep_23 : decode cX3_keep 23 = .ok (.iinc 1 1, 3) := by decide +kernel
theorem dX3_keep_26 : decode cX3_keep 26 = .ok (.goto (-24), 3) := by decide +kernel
theorem dX3_keep_29 : decode cX3_keep 29 = .ok (.return_, 1) := by decide +kernel
theorem dX3_addNode_0 : decode cX3_addNode 0 = .ok (.aload_n 1, 1) := by decide +kernel
theorem dX3_addNode_1 : decode cX3_addNode 1 = .ok (.getfield 83, 3) := by decide +kernel
theorem dX3_addNode_4 : decode cX3_addNode 4 = .ok (.iload_n 2, 1) := by decide +kernel
theorem dX3_addNode_5 : decode cX3_addNode 5 = .ok (.iaload, 1) := by decide +kernel
theorem dX3_addNode_6 : decode cX3_addNode 6 = .ok (.iconst 3, 1) := by decide +kernel
theorem dX3_addNode_7 : decode cX3_addNode 7 = .ok (.if_icmp .eq 11, 3) := by decide +kernel
theorem dX3_addNode_10 : decode cX3_addNode 10 = .ok (.aload_n 0, 1) := by decide +kernel
theorem dX3_addNode_11 : decode cX3_addNode 11 = .ok (.aload_n 1, 1) := by decide +kernel
theorem dX3_addNode_12 : decode cX3_addNode 12 = .ok (.iload_n 2, 1) := by decide +kernel
theorem dX3_addNode_13 : decode cX3_addNode 13 = .ok (.iload_n 3, 1) := by decide +kernel
theorem dX3_addNode_14 : decode cX3_addNode 14 = .ok (.invokevirtual 86, 3) := by decide +kernel
theorem dX3_addNode_17 : decode cX3_addNode 17 = .ok (.ireturn, 1) := by decide +kernel
theorem dX3_addNode_18 : decode cX3_addNode 18 = .ok (.aload_n 0, 1) := by decide +kernel
theorem dX3_addNode_19 : decode cX3_addNode 19 = .ok (.getfield 51, 3) := by decide +kernel
theorem dX3_addNode_22 : decode cX3_addNode 22 = .ok (.aload_n 1, 1) := by decide +kernel
theorem dX3_addNode_23 : decode cX3_addNode 23 = .ok (.getfield 89, 3) := by decide +kernel
theorem dX3_addNode_26 : decode cX3_addNode 26 = .ok (.iload_n 2, 1) := by decide +kernel
theorem dX3_addNode_27 : decode cX3_addNode 27 = .ok (.iaload, 1) := by decide +kernel
theorem dX3_addNode_28 : decode cX3_addNode 28 = .ok (.aload_n 1, 1) := by decide +kernel
theorem dX3_addNode_29 : decode cX3_addNode 29 = .ok (.getfield 92, 3) := by decide +kernel
theorem dX3_addNode_32 : decode cX3_addNode 32 = .ok (.iload_n 2, 1) := by decide +kernel
theorem dX3_addNode_33 : decode cX3_addNode 33 = .ok (.iaload, 1) := by decide +kernel
theorem dX3_addNode_34 : decode cX3_addNode 34 = .ok (.invokevirtual 95, 3) := by decide +kernel
theorem dX3_addNode_37 : decode cX3_addNode 37 = .ok (.istore 4, 2) := by decide +kernel
theorem dX3_addNode_39 : decode cX3_addNode 39 = .ok (.iload 4, 2) := by decide +kernel
theorem dX3_addNode_41 : decode cX3_addNode 41 = .ok (.bipush 11, 2) := by decide +kernel
theorem dX3_addNode_43 : decode cX3_addNode 43 = .ok (.if_icmp .ne 14, 3) := by decide +kernel
theorem dX3_addNode_46 : decode cX3_addNode 46 = .ok (.aload_n 0, 1) := by decide +kernel
theorem dX3_addNode_47 : decode cX3_addNode 47 = .ok (.aload_n 0, 1) := by decide +kernel
theorem dX3_addNode_48 : decode cX3_addNode 48 = .ok (.getfield 59, 3) := by decide +kernel
theorem dX3_addNode_51 : decode cX3_addNode 51 = .ok (.iconst 1, 1) := by decide +kernel
theorem dX3_addNode_52 : decode cX3_addNode 52 = .ok (.isub, 1) := by decide +kernel
theorem dX3_addNode_53 : decode cX3_addNode 53 = .ok (.invokevirtual 101, 3) := by decide +kernel
theorem dX3_addNode_56 : decode cX3_addNode 56 = .ok (.ireturn, 1) := by decide +kernel
theorem dX3_addNode_57 : decode cX3_addNode 57 = .ok (.aload_n 0, 1) := by decide +kernel
theorem dX3_addNode_58 : decode cX3_addNode 58 = .ok (.getfield 59, 3) := by decide +kernel
theorem dX3_addNode_61 : decode cX3_addNode 61 = .ok (.iconst 2, 1) := by decide +kernel
theorem dX3_addNode_62 : decode cX3_addNode 62 = .ok (.isub, 1) := by decide +kernel
theorem dX3_addNode_63 : decode cX3_addNode 63 = .ok (.istore 5, 2) := by decide +kernel
theorem dX3_addNode_65 : decode cX3_addNode 65 = .ok (.iload 5, 2) := by decide +kernel
theorem dX3_addNode_67 : decode cX3_addNode 67 = .ok (.ifCond .lt 20, 3) := by decide +kernel
theorem dX3_addNode_70 : decode cX3_addNode 70 = .ok (.iload 4, 2) := by decide +kernel
theorem dX3_addNode_72 : decode cX3_addNode 72 = .ok (.ifCond .lt 15, 3) := by decide +kernel
theorem dX3_addNode_75 : decode cX3_addNode 75 = .ok (.iload 4, 2) := by decide +kernel
theorem dX3_addNode_77 : decode cX3_addNode 77 = .ok (.iconst 5, 1) := by decide +kernel
theorem dX3_addNode_78 : decode cX3_addNode 78 = .ok (.if_icmp .gt 9, 3) := by decide +kernel
theorem dX3_addNode_81 : decode cX3_addNode 81 = .ok (.iload 4, 2) := by decide +kernel
theorem dX3_addNode_83 : decode cX3_addNode 83 = .ok (.iconst 4, 1) := by decide +kernel
theorem dX3_addNode_84 : decode cX3_addNode 84 = .ok (.if_icmp .ne 5, 3) := by decide +kernel
theorem dX3_addNode_87 : decode cX3_addNode 87 = .ok (.iconst 0, 1) := by decide +kernel
theorem dX3_addNode_88 : decode cX3_addNode 88 = .ok (.ireturn, 1) := by decide +kernel
theorem dX3_addNode_89 : decode cX3_addNode 89 = .ok (.aload_n 0, 1) := by decide +kernel
theorem dX3_addNode_90 : decode cX3_addNode 90 = .ok (.dup, 1) := by decide +kernel
theorem dX3_addNode_91 : decode cX3_addNode 91 = .ok (.getfield 59, 3) := by decide +kernel
theorem dX3_addNode_94 : decode cX3_addNode 94 = .ok (.iconst 1, 1) := by decide +kernel
theorem dX3_addNode_95 : decode cX3_addNode 95 = .ok (.isub, 1) := by decide +kernel
theorem dX3_addNode_96 : decode cX3_addNode 96 = .ok (.putfield 59, 3) := by decide +kernel
theorem dX3_addNode_99 : decode cX3_addNode 99 = .ok (.iload 4, 2) := by decide +kernel
theorem dX3_addNode_101 : decode cX3_addNode 101 = .ok (.tableswitch 61 0 3 #[31, 39, 47, 54], 31) := by decide +kernel
theorem dX3_addNode_132 : decode cX3_addNode 132 = .ok (.aload_n 0, 1) := by decide +kernel
theorem dX3_addNode_133 : decode cX3_addNode 133 = .ok (.iload 5, 2) := by decide +kernel
theorem dX3_addNode_135 : decode cX3_addNode 135 = .ok (.iconst 0, 1) := by decide +kernel
theorem dX3_addNode_136 : decode cX3_addNode 136 = .ok (.invokevirtual 105, 3) := by decide +kernel
theorem dX3_addNode_139 : decode cX3_addNode 139 = .ok (.ireturn, 1) := by decide +kernel
theorem dX3_addNode_140 : decode cX3_addNode 140 = .ok (.aload_n 0, 1) := by decide +kernel
theorem dX3_addNode_141 : decode cX3_addNode 141 = .ok (.iload 5, 2) := by decide +kernel
theorem dX3_addNode_143 : decode cX3_addNode 143 = .ok (.iconst 1, 1) := by decide +kernel
theorem dX3_addNode_144 : decode cX3_addNode 144 = .ok (.invokevirtual 105, 3) := by decide +kernel
theorem dX3_addNode_147 : decode cX3_addNode 147 = .ok (.ireturn, 1) := by decide +kernel
theorem dX3_addNode_148 : decode cX3_addNode 148 = .ok (.aload_n 0, 1) := by decide +kernel
theorem dX3_addNode_149 : decode cX3_addNode 149 = .ok (.iload 5, 2) := by decide +kernel
theorem dX3_addNode_151 : decode cX3_addNode 151 = .ok (.invokevirtual 109, 3) := by decide +kernel
theorem dX3_addNode_154 : decode cX3_addNode 154 = .ok (.ireturn, 1) := by decide +kernel
theorem dX3_addNode_155 : decode cX3_addNode 155 = .ok (.aload_n 0, 1) := by decide +kernel
theorem dX3_addNode_156 : decode cX3_addNode 156 = .ok (.iload 5, 2) := by decide +kernel
theorem dX3_addNode_158 : decode cX3_addNode 158 = .ok (.invokevirtual 112, 3) := by decide +kernel
theorem dX3_addNode_161 : decode cX3_addNode 161 = .ok (.ireturn, 1) := by decide +kernel
theorem dX3_addNode_162 : decode cX3_addNode 162 = .ok (.aload_n 1, 1) := by decide +kernel
theorem dX3_addNode_163 : decode cX3_addNode 163 = .ok (.iload_n 2, 1) := by decide +kernel
theorem dX3_addNode_164 : decode cX3_addNode 164 = .ok (.iconst 1, 1) := by decide +kernel
theorem dX3_addNode_165 : decode cX3_addNode 165 = .ok (.invokevirtual 115, 3) := by decide +kernel
theorem dX3_addNode_168 : decode cX3_addNode 168 = .ok (.istore 6, 2) := by decide +kernel
theorem dX3_addNode_170 : decode cX3_addNode 170 = .ok (.aload_n 1, 1) := by decide +kernel
theorem dX3_addNode_171 : decode cX3_addNode 171 = .ok (.getfield 83, 3) := by decide +kernel
theorem dX3_addNode_174 : decode cX3_addNode 174 = .ok (.iload 6, 2) := by decide +kernel
theorem dX3_addNode_176 : decode cX3_addNode 176 = .ok (.iaload, 1) := by decide +kernel
theorem dX3_addNode_177 : decode cX3_addNode 177 = .ok (.ifCond .ne 19, 3) := by decide +kernel
theorem dX3_addNode_180 : decode cX3_addNode 180 = .ok (.aload_n 1, 1) := by decide +kernel
theorem dX3_addNode_181 : decode cX3_addNode 181 = .ok (.getfield 89, 3) := by decide +kernel
theorem dX3_addNode_184 : decode cX3_addNode 184 = .ok (.iload 6, 2) := by decide +kernel
theorem dX3_addNode_186 : decode cX3_addNode 186 = .ok (.iaload, 1) := by decide +kernel
theorem dX3_addNode_187 : decode cX3_addNode 187 = .ok (.bipush 8, 2) := by decide +kernel
theorem dX3_addNode_189 : decode cX3_addNode 189 = .ok (.if_icmp .gt 7, 3) := by decide +kernel
theorem dX3_addNode_192 : decode cX3_addNode 192 = .ok (.iconst 1, 1) := by decide +kernel
theorem dX3_addNode_193 : decode cX3_addNode 193 = .ok (.goto 4, 3) := by decide +kernel
theorem dX3_addNode_196 : decode cX3_addNode 196 = .ok (.iconst 0, 1) := by decide +kernel
theorem dX3_addNode_197 : decode cX3_addNode 197 = .ok (.istore 7, 2) := by decide +kernel
theorem dX3_addNode_199 : decode cX3_addNode 199 = .ok (.iload 7, 2) := by decide +kernel
theorem dX3_addNode_201 : decode cX3_addNode 201 = .ok (.ifCond .eq 23, 3) := by decide +kernel
theorem dX3_addNode_204 : decode cX3_addNode 204 = .ok (.aload_n 0, 1) := by decide +kernel
theorem dX3_addNode_205 : decode cX3_addNode 205 = .ok (.iload 5, 2) := by decide +kernel
theorem dX3_addNode_207 : decode cX3_addNode 207 = .ok (.aload_n 1, 1) := by decide +kernel
theorem dX3_addNode_208 : decode cX3_addNode 208 = .ok (.getfield 89, 3) := by decide +kernel
theorem dX3_addNode_211 : decode cX3_addNode 211 = .ok (.iload 6, 2) := by decide +kernel
theorem dX3_addNode_213 : decode cX3_addNode 213 = .ok (.iaload, 1) := by decide +kernel
theorem dX3_addNode_214 : decode cX3_addNode 214 = .ok (.invokevirtual 118, 3) := by decide +kernel
theorem dX3_addNode_217 : decode cX3_addNode 217 = .ok (.ifCond .eq 7, 3) := by decide +kernel
theorem dX3_addNode_220 : decode cX3_addNode 220 = .ok (.iconst 1, 1) := by decide +kernel
theorem dX3_addNode_221 : decode cX3_addNode 221 = .ok (.goto 4, 3) := by decide +kernel
theorem dX3_addNode_224 : decode cX3_addNode 224 = .ok (.iconst 0, 1) := by decide +kernel
theorem dX3_addNode_225 : decode cX3_addNode 225 = .ok (.ireturn, 1) := by decide +kernel
theorem dX3_addLeaf_0 : decode cX3_addLeaf 0 = .ok (.aload_n 1, 1) := by decide +kernel
theorem dX3_addLeaf_1 : decode cX3_addLeaf 1 = .ok (.getfield 89, 3) := by decide +kernel
theorem dX3_addLeaf_4 : decode cX3_addLeaf 4 = .ok (.iload_n 2, 1) := by decide +kernel
theorem dX3_addLeaf_5 : decode cX3_addLeaf 5 = .ok (.iaload, 1) := by decide +kernel
theorem dX3_addLeaf_6 : decode cX3_addLeaf 6 = .ok (.bipush 97, 2) := by decide +kernel
theorem dX3_addLeaf_8 : decode cX3_addLeaf 8 = .ok (.isub, 1) := by decide +kernel
theorem dX3_addLeaf_9 : decode cX3_addLeaf 9 = .ok (.istore 4, 2) := by decide +kernel
theorem dX3_addLeaf_11 : decode cX3_addLeaf 11 = .ok (.aload_n 1, 1) := by decide +kernel
theorem dX3_addLeaf_12 : decode cX3_addLeaf 12 = .ok (.getfield 83, 3) := by decide +kernel
theorem dX3_addLeaf_15 : decode cX3_addLeaf 15 = .ok (.iload_n 2, 1) := by decide +kernel
theorem dX3_addLeaf_16 : decode cX3_addLeaf 16 = .ok (.iaload, 1) := by decide +kernel
theorem dX3_addLeaf_17 : decode cX3_addLeaf 17 = .ok (.iconst 1, 1) := by decide +kernel
theorem dX3_addLeaf_18 : decode cX3_addLeaf 18 = .ok (.if_icmp .ne 17, 3) := by decide +kernel
theorem dX3_addLeaf_21 : decode cX3_addLeaf 21 = .ok (.aload_n 1, 1) := by decide +kernel
theorem dX3_addLeaf_22 : decode cX3_addLeaf 22 = .ok (.getfield 89, 3) := by decide +kernel
theorem dX3_addLeaf_25 : decode cX3_addLeaf 25 = .ok (.iload_n 2, 1) := by decide +kernel
theorem dX3_addLeaf_26 : decode cX3_addLeaf 26 = .ok (.iaload, 1) := by decide +kernel
theorem dX3_addLeaf_27 : decode cX3_addLeaf 27 = .ok (.iload_n 3, 1) := by decide +kernel
theorem dX3_addLeaf_28 : decode cX3_addLeaf 28 = .ok (.if_icmp .ne 7, 3) := by decide +kernel
theorem dX3_addLeaf_31 : decode cX3_addLeaf 31 = .ok (.iconst 1, 1) := by decide +kernel
theorem dX3_addLeaf_32 : decode cX3_addLeaf 32 = .ok (.goto 4, 3) := by decide +kernel
theorem dX3_addLeaf_35 : decode cX3_addLeaf 35 = .ok (.iconst 0, 1) := by decide +kernel
theorem dX3_addLeaf_36 : decode cX3_addLeaf 36 = .ok (.istore 5, 2) := by decide +kernel
theorem dX3_addLeaf_38 : decode cX3_addLeaf 38 = .ok (.iload 4, 2) := by decide +kernel
theorem dX3_addLeaf_40 : decode cX3_addLeaf 40 = .ok (.ifCond .lt 33, 3) := by decide +kernel
theorem dX3_addLeaf_43 : decode cX3_addLeaf 43 = .ok (.iload 4, 2) := by decide +kernel
theorem dX3_addLeaf_45 : decode cX3_addLeaf 45 = .ok (.aload_n 0, 1) := by decide +kernel
theorem dX3_addLeaf_46 : decode cX3_addLeaf 46 = .ok (.getfield 51, 3) := by decide +kernel
theorem dX3_addLeaf_49 : decode cX3_addLeaf 49 = .ok (.getfield 122, 3) := by decide +kernel
theorem dX3_addLeaf_52 : decode cX3_addLeaf 52 = .ok (.arraylength, 1) := by decide +kernel
theorem dX3_addLeaf_53 : decode cX3_addLeaf 53 = .ok (.if_icmp .ge 20, 3) := by decide +kernel
theorem dX3_addLeaf_56 : decode cX3_addLeaf 56 = .ok (.aload_n 0, 1) := by decide +kernel
theorem dX3_addLeaf_57 : decode cX3_addLeaf 57 = .ok (.getfield 51, 3) := by decide +kernel
theorem dX3_addLeaf_60 : decode cX3_addLeaf 60 = .ok (.getfield 122, 3) := by decide +kernel
theorem dX3_addLeaf_63 : decode cX3_addLeaf 63 = .ok (.iload 4, 2) := by decide +kernel
theorem dX3_addLeaf_65 : decode cX3_addLeaf 65 = .ok (.baload, 1) := by decide +kernel
theorem dX3_addLeaf_66 : decode cX3_addLeaf 66 = .ok (.ifCond .eq 7, 3) := by decide +kernel
theorem dX3_addLeaf_69 : decode cX3_addLeaf 69 = .ok (.iconst 1, 1) := by decide +kernel
theorem dX3_addLeaf_70 : decode cX3_addLeaf 70 = .ok (.goto 4, 3) := by decide +kernel
theorem dX3_addLeaf_73 : decode cX3_addLeaf 73 = .ok (.iconst 0, 1) := by decide +kernel
theorem dX3_addLeaf_74 : decode cX3_addLeaf 74 = .ok (.istore 6, 2) := by decide +kernel
theorem dX3_addLeaf_76 : decode cX3_addLeaf 76 = .ok (.aload_n 1, 1) := by decide +kernel
theorem dX3_addLeaf_77 : decode cX3_addLeaf 77 = .ok (.getfield 83, 3) := by decide +kernel
theorem dX3_addLeaf_80 : decode cX3_addLeaf 80 = .ok (.iload_n 2, 1) := by decide +kernel
theorem dX3_addLeaf_81 : decode cX3_addLeaf 81 = .ok (.iaload, 1) := by decide +kernel
theorem dX3_addLeaf_82 : decode cX3_addLeaf 82 = .ok (.iconst 1, 1) := by decide +kernel
theorem dX3_addLeaf_83 : decode cX3_addLeaf 83 = .ok (.if_icmp .ne 17, 3) := by decide +kernel
theorem dX3_addLeaf_86 : decode cX3_addLeaf 86 = .ok (.iload 5, 2) := by decide +kernel
theorem dX3_addLeaf_88 : decode cX3_addLeaf 88 = .ok (.ifCond .ne 12, 3) := by decide +kernel
theorem dX3_addLeaf_91 : decode cX3_addLeaf 91 = .ok (.iload 6, 2) := by decide +kernel
theorem dX3_addLeaf_93 : decode cX3_addLeaf 93 = .ok (.ifCond .eq 7, 3) := by decide +kernel
theorem dX3_addLeaf_96 : decode cX3_addLeaf 96 = .ok (.iconst 1, 1) := by decide +kernel
theorem dX3_addLeaf_97 : decode cX3_addLeaf 97 = .ok (.goto 4, 3) := by decide +kernel
theorem dX3_addLeaf_100 : decode cX3_addLeaf 100 = .ok (.iconst 0, 1) := by decide +kernel
theorem dX3_addLeaf_101 : decode cX3_addLeaf 101 = .ok (.istore 7, 2) := by decide +kernel
theorem dX3_addLeaf_103 : decode cX3_addLeaf 103 = .ok (.aload_n 0, 1) := by decide +kernel
theorem dX3_addLeaf_104 : decode cX3_addLeaf 104 = .ok (.getfield 59, 3) := by decide +kernel
theorem dX3_addLeaf_107 : decode cX3_addLeaf 107 = .ok (.bipush 48, 2) := by decide +kernel
theorem dX3_addLeaf_109 : decode cX3_addLeaf 109 = .ok (.if_icmp .ge 22, 3) := by decide +kernel
theorem dX3_addLeaf_112 : decode cX3_addLeaf 112 = .ok (.aload_n 1, 1) := by decide +kernel
theorem dX3_addLeaf_113 : decode cX3_addLeaf 113 = .ok (.getfield 83, 3) := by decide +kernel
theorem dX3_addLeaf_116 : decode cX3_addLeaf 116 = .ok (.iload_n 2, 1) := by decide +kernel
theorem dX3_addLeaf_117 : decode cX3_addLeaf 117 = .ok (.iaload, 1) := by decide +kernel
theorem dX3_addLeaf_118 : decode cX3_addLeaf 118 = .ok (.ifCond .eq 15, 3) := by decide +kernel
theorem dX3_addLeaf_121 : decode cX3_addLeaf 121 = .ok (.iload 5, 2) := by decide +kernel
theorem dX3_addLeaf_123 : decode cX3_addLeaf 123 = .ok (.ifCond .ne 10, 3) := by decide +kernel
theorem dX3_addLeaf_126 : decode cX3_addLeaf 126 = .ok (.iload 7, 2) := by decide +kernel
theorem dX3_addLeaf_128 : decode cX3_addLeaf 128 = .ok (.ifCond .ne 5, 3) := by decide +kernel
theorem dX3_addLeaf_131 : decode cX3_addLeaf 131 = .ok (.iconst 0, 1) := by decide +kernel
theorem dX3_addLeaf_132 : decode cX3_addLeaf 132 = .ok (.ireturn, 1) := by decide +kernel
theorem dX3_addLeaf_133 : decode cX3_addLeaf 133 = .ok (.aload_n 0, 1) := by decide +kernel
theorem dX3_addLeaf_134 : decode cX3_addLeaf 134 = .ok (.getfield 59, 3) := by decide +kernel
theorem dX3_addLeaf_137 : decode cX3_addLeaf 137 = .ok (.bipush 9, 2) := by decide +kernel
theorem dX3_addLeaf_139 : decode cX3_addLeaf 139 = .ok (.imul, 1) := by decide +kernel
theorem dX3_addLeaf_140 : decode cX3_addLeaf 140 = .ok (.istore 8, 2) := by decide +kernel
theorem dX3_addLeaf_142 : decode cX3_addLeaf 142 = .ok (.iconst 0, 1) := by decide +kernel
theorem dX3_addLeaf_143 : decode cX3_addLeaf 143 = .ok (.istore 9, 2) := by decide +kernel
theorem dX3_addLeaf_145 : decode cX3_addLeaf 145 = .ok (.iload 9, 2) := by decide +kernel
theorem dX3_addLeaf_147 : decode cX3_addLeaf 147 = .ok (.bipush 9, 2) := by decide +kernel
theorem dX3_addLeaf_149 : decode cX3_addLeaf 149 = .ok (.if_icmp .ge 38, 3) := by decide +kernel
theorem dX3_addLeaf_152 : decode cX3_addLeaf 152 = .ok (.aload_n 0, 1) := by decide +kernel
theorem dX3_addLeaf_153 : decode cX3_addLeaf 153 = .ok (.getfield 13, 3) := by decide +kernel
theorem dX3_addLeaf_156 : decode cX3_addLeaf 156 = .ok (.iload 8, 2) := by decide +kernel
theorem dX3_addLeaf_158 : decode cX3_addLeaf 158 = .ok (.iload 9, 2) := by decide +kernel
theorem dX3_addLeaf_160 : decode cX3_addLeaf 160 = .ok (.iadd, 1) := by decide +kernel
theorem dX3_addLeaf_161 : decode cX3_addLeaf 161 = .ok (.aaload, 1) := by decide +kernel
theorem dX3_addLeaf_162 : decode cX3_addLeaf 162 = .ok (.iload 5, 2) := by decide +kernel
theorem dX3_addLeaf_164 : decode cX3_addLeaf 164 = .ok (.ifCond .eq 13, 3) := by decide +kernel
theorem dX3_addLeaf_167 : decode cX3_addLeaf 167 = .ok (.iload 9, 2) := by decide +kernel
theorem dX3_addLeaf_169 : decode cX3_addLeaf 169 = .ok (.iconst 1, 1) := by decide +kernel
theorem dX3_addLeaf_170 : decode cX3_addLeaf 170 = .ok (.if_icmp .ne 7, 3) := by decide +kernel
theorem dX3_addLeaf_173 : decode cX3_addLeaf 173 = .ok (.lconst 1, 1) := by decide +kernel
theorem dX3_addLeaf_174 : decode cX3_addLeaf 174 = .ok (.goto 4, 3) := by decide +kernel
theorem dX3_addLeaf_177 : decode cX3_addLeaf 177 = .ok (.lconst 0, 1) := by decide +kernel
theorem dX3_addLeaf_178 : decode cX3_addLeaf 178 = .ok (.invokevirtual 126, 3) := by decide +kernel
theorem dX3_addLeaf_181 : decode cX3_addLeaf 181 = .ok (.iinc 9 1, 3) := by decide +kernel
theorem dX3_addLeaf_184 : decode cX3_addLeaf 184 = .ok (.goto (-39), 3) := by decide +kernel
theorem dX3_addLeaf_187 : decode cX3_addLeaf 187 = .ok (.iload 7, 2) := by decide +kernel
theorem dX3_addLeaf_189 : decode cX3_addLeaf 189 = .ok (.ifCond .eq 26, 3) := by decide +kernel
theorem dX3_addLeaf_192 : decode cX3_addLeaf 192 = .ok (.aload_n 0, 1) := by decide +kernel
theorem dX3_addLeaf_193 : decode cX3_addLeaf 193 = .ok (.getfield 13, 3) := by decide +kernel
theorem dX3_addLeaf_196 : decode cX3_addLeaf 196 = .ok (.iload 8, 2) := by decide +kernel
theorem dX3_addLeaf_198 : decode cX3_addLeaf 198 = .ok (.aaload, 1) := by decide +kernel
theorem dX3_addLeaf_199 : decode cX3_addLeaf 199 = .ok (.aload_n 0, 1) := by decide +kernel
theorem dX3_addLeaf_200 : decode cX3_addLeaf 200 = .ok (.getfield 51, 3) := by decide +kernel
theorem dX3_addLeaf_203 : decode cX3_addLeaf 203 = .ok (.getfield 130, 3) := by decide +kernel
theorem dX3_addLeaf_206 : decode cX3_addLeaf 206 = .ok (.iload 4, 2) := by decide +kernel
theorem dX3_addLeaf_208 : decode cX3_addLeaf 208 = .ok (.aaload, 1) := by decide +kernel
theorem dX3_addLeaf_209 : decode cX3_addLeaf 209 = .ok (.invokevirtual 79, 3) := by decide +kernel
theorem dX3_addLeaf_212 : decode cX3_addLeaf 212 = .ok (.goto 25, 3) := by decide +kernel
theorem dX3_addLeaf_215 : decode cX3_addLeaf 215 = .ok (.iload 5, 2) := by decide +kernel
theorem dX3_addLeaf_217 : decode cX3_addLeaf 217 = .ok (.ifCond .ne 20, 3) := by decide +kernel
theorem dX3_addLeaf_220 : decode cX3_addLeaf 220 = .ok (.aload_n 0, 1) := by decide +kernel
theorem dX3_addLeaf_221 : decode cX3_addLeaf 221 = .ok (.getfield 13, 3) := by decide +kernel
theorem dX3_addLeaf_224 : decode cX3_addLeaf 224 = .ok (.iload 8, 2) := by decide +kernel
theorem dX3_addLeaf_226 : decode cX3_addLeaf 226 = .ok (.aaload, 1) := by decide +kernel
theorem dX3_addLeaf_227 : decode cX3_addLeaf 227 = .ok (.aload_n 1, 1) := by decide +kernel
theorem dX3_addLeaf_228 : decode cX3_addLeaf 228 = .ok (.getfield 89, 3) := by decide +kernel
theorem dX3_addLeaf_231 : decode cX3_addLeaf 231 = .ok (.iload_n 2, 1) := by decide +kernel
theorem dX3_addLeaf_232 : decode cX3_addLeaf 232 = .ok (.iaload, 1) := by decide +kernel
theorem dX3_addLeaf_233 : decode cX3_addLeaf 233 = .ok (.i2l, 1) := by decide +kernel
theorem dX3_addLeaf_234 : decode cX3_addLeaf 234 = .ok (.invokevirtual 126, 3) := by decide +kernel
theorem dX3_addLeaf_237 : decode cX3_addLeaf 237 = .ok (.aload_n 0, 1) := by decide +kernel
theorem dX3_addLeaf_238 : decode cX3_addLeaf 238 = .ok (.getfield 17, 3) := by decide +kernel
theorem dX3_addLeaf_241 : decode cX3_addLeaf 241 = .ok (.aload_n 0, 1) := by decide +kernel
theorem dX3_addLeaf_242 : decode cX3_addLeaf 242 = .ok (.getfield 59, 3) := by decide +kernel
theorem dX3_addLeaf_245 : decode cX3_addLeaf 245 = .ok (.iload 5, 2) := by decide +kernel
theorem dX3_addLeaf_247 : decode cX3_addLeaf 247 = .ok (.ifCond .eq 7, 3) := by decide +kernel
theorem dX3_addLeaf_250 : decode cX3_addLeaf 250 = .ok (.iconst 1, 1) := by decide +kernel
theorem dX3_addLeaf_251 : decode cX3_addLeaf 251 = .ok (.goto 4, 3) := by decide +kernel
theorem dX3_addLeaf_254 : decode cX3_addLeaf 254 = .ok (.iconst 0, 1) := by decide +kernel
theorem dX3_addLeaf_255 : decode cX3_addLeaf 255 = .ok (.iastore, 1) := by decide +kernel
theorem dX3_addLeaf_256 : decode cX3_addLeaf 256 = .ok (.aload_n 0, 1) := by decide +kernel
theorem dX3_addLeaf_257 : decode cX3_addLeaf 257 = .ok (.dup, 1) := by decide +kernel
theorem dX3_addLeaf_258 : decode cX3_addLeaf 258 = .ok (.getfield 59, 3) := by decide +kernel
theorem dX3_addLeaf_261 : decode cX3_addLeaf 261 = .ok (.iconst 1, 1) := by decide +kernel
theorem dX3_addLeaf_262 : decode cX3_addLeaf 262 = .ok (.iadd, 1) := by decide +kernel
theorem dX3_addLeaf_263 : decode cX3_addLeaf 263 = .ok (.putfield 59, 3) := by decide +kernel
theorem dX3_addLeaf_266 : decode cX3_addLeaf 266 = .ok (.iconst 1, 1) := by decide +kernel
theorem dX3_addLeaf_267 : decode cX3_addLeaf 267 = .ok (.ireturn, 1) := by decide +kernel
theorem dX3_negate_0 : decode cX3_negate 0 = .ok (.iload_n 1, 1) := by decide +kernel
theorem dX3_negate_1 : decode cX3_negate 1 = .ok (.ifCond .ge 5, 3) := by decide +kernel
theorem dX3_negate_4 : decode cX3_negate 4 = .ok (.iconst 0, 1) := by decide +kernel
theorem dX3_negate_5 : decode cX3_negate 5 = .ok (.ireturn, 1) := by decide +kernel
theorem dX3_negate_6 : decode cX3_negate 6 = .ok (.iconst 0, 1) := by decide +kernel
theorem dX3_negate_7 : decode cX3_negate 7 = .ok (.istore_n 2, 1) := by decide +kernel
theorem dX3_negate_8 : decode cX3_negate 8 = .ok (.iload_n 2, 1) := by decide +kernel
theorem dX3_negate_9 : decode cX3_negate 9 = .ok (.bipush 9, 2) := by decide +kernel
theorem dX3_negate_11 : decode cX3_negate 11 = .ok (.if_icmp .ge 26, 3) := by decide +kernel
theorem dX3_negate_14 : decode cX3_negate 14 = .ok (.aload_n 0, 1) := by decide +kernel
theorem dX3_negate_15 : decode cX3_negate 15 = .ok (.getfield 13, 3) := by decide +kernel
theorem dX3_negate_18 : decode cX3_negate 18 = .ok (.iload_n 1, 1) := by decide +kernel
theorem dX3_negate_19 : decode cX3_negate 19 = .ok (.bipush 9, 2) := by decide +kernel
theorem dX3_negate_21 : decode cX3_negate 21 = .ok (.imul, 1) := by decide +kernel
theorem dX3_negate_22 : decode cX3_negate 22 = .ok (.iload_n 2, 1) := by decide +kernel
theorem dX3_negate_23 : decode cX3_negate 23 = .ok (.iadd, 1) := by decide +kernel
theorem dX3_negate_24 : decode cX3_negate 24 = .ok (.aaload, 1) := by decide +kernel
theorem dX3_negate_25 : decode cX3_negate 25 = .ok (.getfield 133, 3) := by decide +kernel
theorem dX3_negate_28 : decode cX3_negate 28 = .ok (.invokevirtual 137, 3) := by decide +kernel
theorem dX3_negate_31 : decode cX3_negate 31 = .ok (.iinc 2 1, 3) := by decide +kernel
theorem dX3_negate_34 : decode cX3_negate 34 = .ok (.goto (-26), 3) := by decide +kernel
theorem dX3_negate_37 : decode cX3_negate 37 = .ok (.iconst 1, 1) := by decide +kernel
theorem dX3_negate_38 : decode cX3_negate 38 = .ok (.ireturn, 1) := by decide +kernel
theorem dX3_addRows_0 : decode cX3_addRows 0 = .ok (.iload_n 1, 1) := by decide +kernel
theorem dX3_addRows_1 : decode cX3_addRows 1 = .ok (.bipush 9, 2) := by decide +kernel
theorem dX3_addRows_3 : decode cX3_addRows 3 = .ok (.imul, 1) := by decide +kernel
theorem dX3_addRows_4 : decode cX3_addRows 4 = .ok (.istore_n 3, 1) := by decide +kernel
theorem dX3_addRows_5 : decode cX3_addRows 5 = .ok (.aload_n 0, 1) := by decide +kernel
theorem dX3_addRows_6 : decode cX3_addRows 6 = .ok (.getfield 17, 3) := by decide +kernel
theorem dX3_addRows_9 : decode cX3_addRows 9 = .ok (.iload_n 1, 1) := by decide +kernel
theorem dX3_addRows_10 : decode cX3_addRows 10 = .ok (.iaload, 1) := by decide +kernel
theorem dX3_addRows_11 : decode cX3_addRows 11 = .ok (.aload_n 0, 1) := by decide +kernel
theorem dX3_addRows_12 : decode cX3_addRows 12 = .ok (.getfield 17, 3) := by decide +kernel
theorem dX3_addRows_15 : decode cX3_addRows 15 = .ok (.iload_n 1, 1) := by decide +kernel
theorem dX3_addRows_16 : decode cX3_addRows 16 = .ok (.iconst 1, 1) := by decide +kernel
theorem dX3_addRows_17 : decode cX3_addRows 17 = .ok (.iadd, 1) := by decide +kernel
theorem dX3_addRows_18 : decode cX3_addRows 18 = .ok (.iaload, 1) := by decide +kernel
theorem dX3_addRows_19 : decode cX3_addRows 19 = .ok (.invokestatic 140, 3) := by decide +kernel
theorem dX3_addRows_22 : decode cX3_addRows 22 = .ok (.istore 4, 2) := by decide +kernel
theorem dX3_addRows_24 : decode cX3_addRows 24 = .ok (.iconst 0, 1) := by decide +kernel
theorem dX3_addRows_25 : decode cX3_addRows 25 = .ok (.istore 5, 2) := by decide +kernel
theorem dX3_addRows_27 : decode cX3_addRows 27 = .ok (.iload 5, 2) := by decide +kernel
theorem dX3_addRows_29 : decode cX3_addRows 29 = .ok (.iload 4, 2) := by decide +kernel
theorem dX3_addRows_31 : decode cX3_addRows 31 = .ok (.if_icmp .gt 88, 3) := by decide +kernel
theorem dX3_addRows_34 : decode cX3_addRows 34 = .ok (.iload 5, 2) := by decide +kernel
theorem dX3_addRows_36 : decode cX3_addRows 36 = .ok (.bipush 9, 2) := by decide +kernel
theorem dX3_addRows_38 : decode cX3_addRows 38 = .ok (.if_icmp .ge 81, 3) := by decide +kernel
theorem dX3_addRows_41 : decode cX3_addRows 41 = .ok (.aload_n 0, 1) := by decide +kernel
theorem dX3_addRows_42 : decode cX3_addRows 42 = .ok (.getfield 55, 3) := by decide +kernel
theorem dX3_addRows_45 : decode cX3_addRows 45 = .ok (.aload_n 0, 1) := by decide +kernel
theorem dX3_addRows_46 : decode cX3_addRows 46 = .ok (.getfield 32, 3) := by decide +kernel
theorem dX3_addRows_49 : decode cX3_addRows 49 = .ok (.aload_n 0, 1) := by decide +kernel
theorem dX3_addRows_50 : decode cX3_addRows 50 = .ok (.getfield 13, 3) := by decide +kernel
theorem dX3_addRows_53 : decode cX3_addRows 53 = .ok (.iload_n 3, 1) := by decide +kernel
theorem dX3_addRows_54 : decode cX3_addRows 54 = .ok (.iload 5, 2) := by decide +kernel
theorem dX3_addRows_56 : decode cX3_addRows 56 = .ok (.iadd, 1) := by decide +kernel
theorem dX3_addRows_57 : decode cX3_addRows 57 = .ok (.aaload, 1) := by decide +kernel
theorem dX3_addRows_58 : decode cX3_addRows 58 = .ok (.aload_n 0, 1) := by decide +kernel
theorem dX3_addRows_59 : decode cX3_addRows 59 = .ok (.getfield 13, 3) := by decide +kernel
theorem dX3_addRows_62 : decode cX3_addRows 62 = .ok (.iload_n 3, 1) := by decide +kernel
theorem dX3_addRows_63 : decode cX3_addRows 63 = .ok (.bipush 9, 2) := by decide +kernel
theorem dX3_addRows_65 : decode cX3_addRows 65 = .ok (.iadd, 1) := by decide +kernel
theorem dX3_addRows_66 : decode cX3_addRows 66 = .ok (.iload 5, 2) := by decide +kernel
theorem dX3_addRows_68 : decode cX3_addRows 68 = .ok (.iadd, 1) := by decide +kernel
theorem dX3_addRows_69 : decode cX3_addRows 69 = .ok (.aaload, 1) := by decide +kernel
theorem dX3_addRows_70 : decode cX3_addRows 70 = .ok (.iload_n 2, 1) := by decide +kernel
theorem dX3_addRows_71 : decode cX3_addRows 71 = .ok (.invokevirtual 145, 3) := by decide +kernel
theorem dX3_addRows_74 : decode cX3_addRows 74 = .ok (.aload_n 0, 1) := by decide +kernel
theorem dX3_addRows_75 : decode cX3_addRows 75 = .ok (.getfield 55, 3) := by decide +kernel
theorem dX3_addRows_78 : decode cX3_addRows 78 = .ok (.aload_n 0, 1) := by decide +kernel
theorem dX3_addRows_79 : decode cX3_addRows 79 = .ok (.getfield 32, 3) := by decide +kernel
theorem dX3_addRows_82 : decode cX3_addRows 82 = .ok (.invokevirtual 151, 3) := by decide +kernel
theorem dX3_addRows_85 : decode cX3_addRows 85 = .ok (.aload_n 0, 1) := by decide +kernel
theorem dX3_addRows_86 : decode cX3_addRows 86 = .ok (.getfield 32, 3) := by decide +kernel
theorem dX3_addRows_89 : decode cX3_addRows 89 = .ok (.invokevirtual 154, 3) := by decide +kernel
theorem dX3_addRows_92 : decode cX3_addRows 92 = .ok (.ifCond .ne 5, 3) := by decide +kernel
theorem dX3_addRows_95 : decode cX3_addRows 95 = .ok (.iconst 0, 1) := by decide +kernel
theorem dX3_addRows_96 : decode cX3_addRows 96 = .ok (.ireturn, 1) := by decide +kernel
theorem dX3_addRows_97 : decode cX3_addRows 97 = .ok (.aload_n 0, 1) := by decide +kernel
theorem dX3_addRows_98 : decode cX3_addRows 98 = .ok (.getfield 13, 3) := by decide +kernel
theorem dX3_addRows_101 : decode cX3_addRows 101 = .ok (.iload_n 3, 1) := by decide +kernel
theorem dX3_addRows_102 : decode cX3_addRows 102 = .ok (.iload 5, 2) := by decide +kernel
theorem dX3_addRows_104 : decode cX3_addRows 104 = .ok (.iadd, 1) := by decide +kernel
theorem dX3_addRows_105 : decode cX3_addRows 105 = .ok (.aaload, 1) := by decide +kernel
theorem dX3_addRows_106 : decode cX3_addRows 106 = .ok (.aload_n 0, 1) := by decide +kernel
theorem dX3_addRows_107 : decode cX3_addRows 107 = .ok (.getfield 32, 3) := by decide +kernel
theorem dX3_addRows_110 : decode cX3_addRows 110 = .ok (.invokevirtual 79, 3) := by decide +kernel
theorem dX3_addRows_113 : decode cX3_addRows 113 = .ok (.iinc 5 1, 3) := by decide +kernel
theorem dX3_addRows_116 : decode cX3_addRows 116 = .ok (.goto (-89), 3) := by decide +kernel
theorem dX3_addRows_119 : decode cX3_addRows 119 = .ok (.aload_n 0, 1) := by decide +kernel
theorem dX3_addRows_120 : decode cX3_addRows 120 = .ok (.getfield 17, 3) := by decide +kernel
theorem dX3_addRows_123 : decode cX3_addRows 123 = .ok (.iload_n 1, 1) := by decide +kernel
theorem dX3_addRows_124 : decode cX3_addRows 124 = .ok (.aload_n 0, 1) := by decide +kernel
theorem dX3_addRows_125 : decode cX3_addRows 125 = .ok (.iload_n 1, 1) := by decide +kernel
theorem dX3_addRows_126 : decode cX3_addRows 126 = .ok (.iload 4, 2) := by decide +kernel
theorem dX3_addRows_128 : decode cX3_addRows 128 = .ok (.invokevirtual 158, 3) := by decide +kernel
theorem dX3_addRows_131 : decode cX3_addRows 131 = .ok (.iastore, 1) := by decide +kernel
theorem dX3_addRows_132 : decode cX3_addRows 132 = .ok (.iconst 1, 1) := by decide +kernel
theorem dX3_addRows_133 : decode cX3_addRows 133 = .ok (.ireturn, 1) := by decide +kernel
theorem dX3_degreeFrom_0 : decode cX3_degreeFrom 0 = .ok (.iload_n 2, 1) := by decide +kernel
theorem dX3_degreeFrom_1 : decode cX3_degreeFrom 1 = .ok (.istore_n 3, 1) := by decide +kernel
theorem dX3_degreeFrom_2 : decode cX3_degreeFrom 2 = .ok (.iload_n 2, 1) := by decide +kernel
theorem dX3_degreeFrom_3 : decode cX3_degreeFrom 3 = .ok (.istore 4, 2) := by decide +kernel
theorem dX3_degreeFrom_5 : decode cX3_degreeFrom 5 = .ok (.iload 4, 2) := by decide +kernel
theorem dX3_degreeFrom_7 : decode cX3_degreeFrom 7 = .ok (.ifCond .le 32, 3) := by decide +kernel
theorem dX3_degreeFrom_10 : decode cX3_degreeFrom 10 = .ok (.aload_n 0, 1) := by decide +kernel
theorem dX3_degreeFrom_11 : decode cX3_degreeFrom 11 = .ok (.getfield 13, 3) := by decide +kernel
theorem dX3_degreeFrom_14 : decode cX3_degreeFrom 14 = .ok (.iload_n 1, 1) := by decide +kernel
theorem dX3_degreeFrom_15 : decode cX3_degreeFrom 15 = .ok (.bipush 9, 2) := by decide +kernel
theorem dX3_degreeFrom_17 : decode cX3_degreeFrom 17 = .ok (.imul, 1) := by decide +kernel
theorem dX3_degreeFrom_18 : decode cX3_degreeFrom 18 = .ok (.iload 4, 2) := by decide +kernel
theorem dX3_degreeFrom_20 : decode cX3_degreeFrom 20 = .ok (.iadd, 1) := by decide +kernel
theorem dX3_degreeFrom_21 : decode cX3_degreeFrom 21 = .ok (.aaload, 1) := by decide +kernel
theorem dX3_degreeFrom_22 : decode cX3_degreeFrom 22 = .ok (.invokevirtual 161, 3) := by decide +kernel
theorem dX3_degreeFrom_25 : decode cX3_degreeFrom 25 = .ok (.ifCond .eq 14, 3) := by decide +kernel
theorem dX3_degreeFrom_28 : decode cX3_degreeFrom 28 = .ok (.iload 4, 2) := by decide +kernel
theorem dX3_degreeFrom_30 : decode cX3_degreeFrom 30 = .ok (.iconst 1, 1) := by decide +kernel
theorem dX3_degreeFrom_31 : decode cX3_degreeFrom 31 = .ok (.isub, 1) := by decide +kernel
theorem dX3_degreeFrom_32 : decode cX3_degreeFrom 32 = .ok (.istore_n 3, 1) := by decide +kernel
theorem dX3_degreeFrom_33 : decode cX3_degreeFrom 33 = .ok (.iinc 4 (-1), 3) := by decide +kernel
theorem dX3_degreeFrom_36 : decode cX3_degreeFrom 36 = .ok (.goto (-31), 3) := by decide +kernel
theorem dX3_degreeFrom_39 : decode cX3_degreeFrom 39 = .ok (.iload_n 3, 1) := by decide +kernel
theorem dX3_degreeFrom_40 : decode cX3_degreeFrom 40 = .ok (.ireturn, 1) := by decide +kernel
theorem dX3_divideRow_0 : decode cX3_divideRow 0 = .ok (.aload_n 0, 1) := by decide +kernel
theorem dX3_divideRow_1 : decode cX3_divideRow 1 = .ok (.getfield 13, 3) := by decide +kernel
theorem dX3_divideRow_4 : decode cX3_divideRow 4 = .ok (.iload_n 1, 1) := by decide +kernel
theorem dX3_divideRow_5 : decode cX3_divideRow 5 = .ok (.iconst 1, 1) := by decide +kernel
theorem dX3_divideRow_6 : decode cX3_divideRow 6 = .ok (.iadd, 1) := by decide +kernel
theorem dX3_divideRow_7 : decode cX3_divideRow 7 = .ok (.bipush 9, 2) := by decide +kernel
theorem dX3_divideRow_9 : decode cX3_divideRow 9 = .ok (.imul, 1) := by decide +kernel
theorem dX3_divideRow_10 : decode cX3_divideRow 10 = .ok (.aaload, 1) := by decide +kernel
theorem dX3_divideRow_11 : decode cX3_divideRow 11 = .ok (.astore_n 2, 1) := by decide +kernel
theorem dX3_divideRow_12 : decode cX3_divideRow 12 = .ok (.aload_n 0, 1) := by decide +kernel
theorem dX3_divideRow_13 : decode cX3_divideRow 13 = .ok (.getfield 17, 3) := by decide +kernel
theorem dX3_divideRow_16 : decode cX3_divideRow 16 = .ok (.iload_n 1, 1) := by decide +kernel
theorem dX3_divideRow_17 : decode cX3_divideRow 17 = .ok (.iconst 1, 1) := by decide +kernel
theorem dX3_divideRow_18 : decode cX3_divideRow 18 = .ok (.iadd, 1) := by decide +kernel
theorem dX3_divideRow_19 : decode cX3_divideRow 19 = .ok (.iaload, 1) := by decide +kernel
theorem dX3_divideRow_20 : decode cX3_divideRow 20 = .ok (.ifCond .ne 10, 3) := by decide +kernel
theorem dX3_divideRow_23 : decode cX3_divideRow 23 = .ok (.aload_n 2, 1) := by decide +kernel
theorem dX3_divideRow_24 : decode cX3_divideRow 24 = .ok (.invokevirtual 161, 3) := by decide +kernel
theorem dX3_divideRow_27 : decode cX3_divideRow 27 = .ok (.ifCond .eq 5, 3) := by decide +kernel
theorem dX3_divideRow_30 : decode cX3_divideRow 30 = .ok (.iconst 0, 1) := by decide +kernel
theorem dX3_divideRow_31 : decode cX3_divideRow 31 = .ok (.ireturn, 1) := by decide +kernel
theorem dX3_divideRow_32 : decode cX3_divideRow 32 = .ok (.iload_n 1, 1) := by decide +kernel
theorem dX3_divideRow_33 : decode cX3_divideRow 33 = .ok (.bipush 9, 2) := by decide +kernel
theorem dX3_divideRow_35 : decode cX3_divideRow 35 = .ok (.imul, 1) := by decide +kernel
theorem dX3_divideRow_36 : decode cX3_divideRow 36 = .ok (.istore_n 3, 1) := by decide +kernel
theorem dX3_divideRow_37 : decode cX3_divideRow 37 = .ok (.iload_n 3, 1) := by decide +kernel
theorem dX3_divideRow_38 : decode cX3_divideRow 38 = .ok (.iload_n 1, 1) := by decide +kernel
theorem dX3_divideRow_39 : decode cX3_divideRow 39 = .ok (.bipush 9, 2) := by decide +kernel
theorem dX3_divideRow_41 : decode cX3_divideRow 41 = .ok (.imul, 1) := by decide +kernel
theorem dX3_divideRow_42 : decode cX3_divideRow 42 = .ok (.aload_n 0, 1) := by decide +kernel
theorem dX3_divideRow_43 : decode cX3_divideRow 43 = .ok (.getfield 17, 3) := by decide +kernel
theorem dX3_divideRow_46 : decode cX3_divideRow 46 = .ok (.iload_n 1, 1) := by decide +kernel
theorem dX3_divideRow_47 : decode cX3_divideRow 47 = .ok (.iaload, 1) := by decide +kernel
theorem dX3_divideRow_48 : decode cX3_divideRow 48 = .ok (.iadd, 1) := by decide +kernel
theorem dX3_divideRow_49 : decode cX3_divideRow 49 = .ok (.if_icmp .gt 63, 3) := by decide +kernel
theorem dX3_divideRow_52 : decode cX3_divideRow 52 = .ok (.aload_n 0, 1) := by decide +kernel
theorem dX3_divideRow_53 : decode cX3_divideRow 53 = .ok (.getfield 55, 3) := by decide +kernel
theorem dX3_divideRow_56 : decode cX3_divideRow 56 = .ok (.aload_n 0, 1) := by decide +kernel
theorem dX3_divideRow_57 : decode cX3_divideRow 57 = .ok (.getfield 32, 3) := by decide +kernel
theorem dX3_divideRow_60 : decode cX3_divideRow 60 = .ok (.aload_n 0, 1) := by decide +kernel
theorem dX3_divideRow_61 : decode cX3_divideRow 61 = .ok (.getfield 13, 3) := by decide +kernel
theorem dX3_divideRow_64 : decode cX3_divideRow 64 = .ok (.iload_n 3, 1) := by decide +kernel
theorem dX3_divideRow_65 : decode cX3_divideRow 65 = .ok (.aaload, 1) := by decide +kernel
theorem dX3_divideRow_66 : decode cX3_divideRow 66 = .ok (.aload_n 2, 1) := by decide +kernel
theorem dX3_divideRow_67 : decode cX3_divideRow 67 = .ok (.invokevirtual 164, 3) := by decide +kernel
theorem dX3_divideRow_70 : decode cX3_divideRow 70 = .ok (.aload_n 0, 1) := by decide +kernel
theorem dX3_divideRow_71 : decode cX3_divideRow 71 = .ok (.getfield 55, 3) := by decide +kernel
theorem dX3_divideRow_74 : decode cX3_divideRow 74 = .ok (.aload_n 0, 1) := by decide +kernel
theorem dX3_divideRow_75 : decode cX3_divideRow 75 = .ok (.getfield 32, 3) := by decide +kernel
theorem dX3_divideRow_78 : decode cX3_divideRow 78 = .ok (.invokevirtual 151, 3) := by decide +kernel
theorem dX3_divideRow_81 : decode cX3_divideRow 81 = .ok (.aload_n 0, 1) := by decide +kernel
theorem dX3_divideRow_82 : decode cX3_divideRow 82 = .ok (.getfield 32, 3) := by decide +kernel
theorem dX3_divideRow_85 : decode cX3_divideRow 85 = .ok (.invokevirtual 154, 3) := by decide +kernel
theorem dX3_divideRow_88 : decode cX3_divideRow 88 = .ok (.ifCond .ne 5, 3) := by decide +kernel
theorem dX3_divideRow_91 : decode cX3_divideRow 91 = .ok (.iconst 0, 1) := by decide +kernel
theorem dX3_divideRow_92 : decode cX3_divideRow 92 = .ok (.ireturn, 1) := by decide +kernel
theorem dX3_divideRow_93 : decode cX3_divideRow 93 = .ok (.aload_n 0, 1) := by decide +kernel
theorem dX3_divideRow_94 : decode cX3_divideRow 94 = .ok (.getfield 13, 3) := by decide +kernel
theorem dX3_divideRow_97 : decode cX3_divideRow 97 = .ok (.iload_n 3, 1) := by decide +kernel
theorem dX3_divideRow_98 : decode cX3_divideRow 98 = .ok (.aaload, 1) := by decide +kernel
theorem dX3_divideRow_99 : decode cX3_divideRow 99 = .ok (.aload_n 0, 1) := by decide +kernel
theorem dX3_divideRow_100 : decode cX3_divideRow 100 = .ok (.getfield 32, 3) := by decide +kernel
theorem dX3_divideRow_103 : decode cX3_divideRow 103 = .ok (.invokevirtual 79, 3) := by decide +kernel
theorem dX3_divideRow_106 : decode cX3_divideRow 106 = .ok (.iinc 3 1, 3) := by decide +kernel
theorem dX3_divideRow_109 : decode cX3_divideRow 109 = .ok (.goto (-72), 3) := by decide +kernel
theorem dX3_divideRow_112 : decode cX3_divideRow 112 = .ok (.iconst 1, 1) := by decide +kernel
theorem dX3_divideRow_113 : decode cX3_divideRow 113 = .ok (.ireturn, 1) := by decide +kernel
theorem dX3_multiplyRows_0 : decode cX3_multiplyRows 0 = .ok (.aload_n 0, 1) := by decide +kernel
theorem dX3_multiplyRows_1 : decode cX3_multiplyRows 1 = .ok (.getfield 17, 3) := by decide +kernel
theorem dX3_multiplyRows_4 : decode cX3_multiplyRows 4 = .ok (.iload_n 1, 1) := by decide +kernel
theorem dX3_multiplyRows_5 : decode cX3_multiplyRows 5 = .ok (.iaload, 1) := by decide +kernel
theorem dX3_multiplyRows_6 : decode cX3_multiplyRows 6 = .ok (.aload_n 0, 1) := by decide +kernel
theorem dX3_multiplyRows_7 : decode cX3_multiplyRows 7 = .ok (.getfield 17, 3) := by decide +kernel
theorem dX3_multiplyRows_10 : decode cX3_multiplyRows 10 = .ok (.iload_n 1, 1) := by decide +kernel
theorem dX3_multiplyRows_11 : decode cX3_multiplyRows 11 = .ok (.iconst 1, 1) := by decide +kernel
theorem dX3_multiplyRows_12 : decode cX3_multiplyRows 12 = .ok (.iadd, 1) := by decide +kernel
theorem dX3_multiplyRows_13 : decode cX3_multiplyRows 13 = .ok (.iaload, 1) := by decide +kernel
theorem dX3_multiplyRows_14 : decode cX3_multiplyRows 14 = .ok (.iadd, 1) := by decide +kernel
theorem dX3_multiplyRows_15 : decode cX3_multiplyRows 15 = .ok (.istore_n 2, 1) := by decide +kernel
theorem dX3_multiplyRows_16 : decode cX3_multiplyRows 16 = .ok (.iload_n 2, 1) := by decide +kernel
theorem dX3_multiplyRows_17 : decode cX3_multiplyRows 17 = .ok (.bipush 9, 2) := by decide +kernel
theorem dX3_multiplyRows_19 : decode cX3_multiplyRows 19 = .ok (.if_icmp .lt 5, 3) := by decide +kernel
theorem dX3_multiplyRows_22 : decode cX3_multiplyRows 22 = .ok (.iconst 0, 1) := by decide +kernel
theorem dX3_multiplyRows_23 : decode cX3_multiplyRows 23 = .ok (.ireturn, 1) := by decide +kernel
theorem dX3_multiplyRows_24 : decode cX3_multiplyRows 24 = .ok (.iconst 0, 1) := by decide +kernel
theorem dX3_multiplyRows_25 : decode cX3_multiplyRows 25 = .ok (.istore_n 3, 1) := by decide +kernel
theorem dX3_multiplyRows_26 : decode cX3_multiplyRows 26 = .ok (.iload_n 3, 1) := by decide +kernel
theorem dX3_multiplyRows_27 : decode cX3_multiplyRows 27 = .ok (.bipush 9, 2) := by decide +kernel
theorem dX3_multiplyRows_29 : decode cX3_multiplyRows 29 = .ok (.if_icmp .ge 31, 3) := by decide +kernel
theorem dX3_multiplyRows_32 : decode cX3_multiplyRows 32 = .ok (.aload_n 0, 1) := by decide +kernel
theorem dX3_multiplyRows_33 : decode cX3_multiplyRows 33 = .ok (.getfield 24, 3) := by decide +kernel
theorem dX3_multiplyRows_36 : decode cX3_multiplyRows 36 = .ok (.iload_n 3, 1) := by decide +kernel
theorem dX3_multiplyRows_37 : decode cX3_multiplyRows 37 = .ok (.aaload, 1) := by decide +kernel
theorem dX3_multiplyRows_38 : decode cX3_multiplyRows 38 = .ok (.aload_n 0, 1) := by decide +kernel
theorem dX3_multiplyRows_39 : decode cX3_multiplyRows 39 = .ok (.getfield 13, 3) := by decide +kernel
theorem dX3_multiplyRows_42 : decode cX3_multiplyRows 42 = .ok (.iload_n 1, 1) := by decide +kernel
theorem dX3_multiplyRows_43 : decode cX3_multiplyRows 43 = .ok (.iconst 1, 1) := by decide +kernel
theorem dX3_multiplyRows_44 : decode cX3_multiplyRows 44 = .ok (.iadd, 1) := by decide +kernel
theorem dX3_multiplyRows_45 : decode cX3_multiplyRows 45 = .ok (.bipush 9, 2) := by decide +kernel
theorem dX3_multiplyRows_47 : decode cX3_multiplyRows 47 = .ok (.imul, 1) := by decide +kernel
theorem dX3_multiplyRows_48 : decode cX3_multiplyRows 48 = .ok (.iload_n 3, 1) := by decide +kernel
theorem dX3_multiplyRows_49 : decode cX3_multiplyRows 49 = .ok (.iadd, 1) := by decide +kernel
theorem dX3_multiplyRows_50 : decode cX3_multiplyRows 50 = .ok (.aaload, 1) := by decide +kernel
theorem dX3_multiplyRows_51 : decode cX3_multiplyRows 51 = .ok (.invokevirtual 79, 3) := by decide +kernel
theorem dX3_multiplyRows_54 : decode cX3_multiplyRows 54 = .ok (.iinc 3 1, 3) := by decide +kernel
theorem dX3_multiplyRows_57 : decode cX3_multiplyRows 57 = .ok (.goto (-31), 3) := by decide +kernel
theorem dX3_multiplyRows_60 : decode cX3_multiplyRows 60 = .ok (.aload_n 0, 1) := by decide +kernel
theorem dX3_multiplyRows_61 : decode cX3_multiplyRows 61 = .ok (.iload_n 1, 1) := by decide +kernel
theorem dX3_multiplyRows_62 : decode cX3_multiplyRows 62 = .ok (.aload_n 0, 1) := by decide +kernel
theorem dX3_multiplyRows_63 : decode cX3_multiplyRows 63 = .ok (.getfield 17, 3) := by decide +kernel
theorem dX3_multiplyRows_66 : decode cX3_multiplyRows 66 = .ok (.iload_n 1, 1) := by decide +kernel
theorem dX3_multiplyRows_67 : decode cX3_multiplyRows 67 = .ok (.iconst 1, 1) := by decide +kernel
theorem dX3_multiplyRows_68 : decode cX3_multiplyRows 68 = .ok (.iadd, 1) := by decide +kernel
theorem dX3_multiplyRows_69 : decode cX3_multiplyRows 69 = .ok (.iaload, 1) := by decide +kernel
theorem dX3_multiplyRows_70 : decode cX3_multiplyRows 70 = .ok (.invokevirtual 168, 3) := by decide +kernel
theorem dX3_multiplyRows_73 : decode cX3_multiplyRows 73 = .ok (.aload_n 0, 1) := by decide +kernel
theorem dX3_multiplyRows_74 : decode cX3_multiplyRows 74 = .ok (.iload_n 1, 1) := by decide +kernel
theorem dX3_multiplyRows_75 : decode cX3_multiplyRows 75 = .ok (.iload_n 2, 1) := by decide +kernel
theorem dX3_multiplyRows_76 : decode cX3_multiplyRows 76 = .ok (.invokevirtual 172, 3) := by decide +kernel
theorem dX3_multiplyRows_79 : decode cX3_multiplyRows 79 = .ok (.ireturn, 1) := by decide +kernel
theorem dX3_timesRow_0 : decode cX3_timesRow 0 = .ok (.iload_n 1, 1) := by decide +kernel
theorem dX3_timesRow_1 : decode cX3_timesRow 1 = .ok (.bipush 9, 2) := by decide +kernel
theorem dX3_timesRow_3 : decode cX3_timesRow 3 = .ok (.imul, 1) := by decide +kernel
theorem dX3_timesRow_4 : decode cX3_timesRow 4 = .ok (.istore_n 3, 1) := by decide +kernel
theorem dX3_timesRow_5 : decode cX3_timesRow 5 = .ok (.iconst 0, 1) := by decide +kernel
theorem dX3_timesRow_6 : decode cX3_timesRow 6 = .ok (.istore 4, 2) := by decide +kernel
theorem dX3_timesRow_8 : decode cX3_timesRow 8 = .ok (.iload 4, 2) := by decide +kernel
theorem dX3_timesRow_10 : decode cX3_timesRow 10 = .ok (.bipush 9, 2) := by decide +kernel
theorem dX3_timesRow_12 : decode cX3_timesRow 12 = .ok (.if_icmp .ge 155, 3) := by decide +kernel
theorem dX3_timesRow_15 : decode cX3_timesRow 15 = .ok (.aload_n 0, 1) := by decide +kernel
theorem dX3_timesRow_16 : decode cX3_timesRow 16 = .ok (.getfield 21, 3) := by decide +kernel
theorem dX3_timesRow_19 : decode cX3_timesRow 19 = .ok (.iload 4, 2) := by decide +kernel
theorem dX3_timesRow_21 : decode cX3_timesRow 21 = .ok (.aaload, 1) := by decide +kernel
theorem dX3_timesRow_22 : decode cX3_timesRow 22 = .ok (.lconst 0, 1) := by decide +kernel
theorem dX3_timesRow_23 : decode cX3_timesRow 23 = .ok (.invokevirtual 126, 3) := by decide +kernel
theorem dX3_timesRow_26 : decode cX3_timesRow 26 = .ok (.iload 4, 2) := by decide +kernel
theorem dX3_timesRow_28 : decode cX3_timesRow 28 = .ok (.aload_n 0, 1) := by decide +kernel
theorem dX3_timesRow_29 : decode cX3_timesRow 29 = .ok (.getfield 17, 3) := by decide +kernel
theorem dX3_timesRow_32 : decode cX3_timesRow 32 = .ok (.iload_n 1, 1) := by decide +kernel
theorem dX3_timesRow_33 : decode cX3_timesRow 33 = .ok (.iaload, 1) := by decide +kernel
theorem dX3_timesRow_34 : decode cX3_timesRow 34 = .ok (.isub, 1) := by decide +kernel
theorem dX3_timesRow_35 : decode cX3_timesRow 35 = .ok (.iconst 0, 1) := by decide +kernel
theorem dX3_timesRow_36 : decode cX3_timesRow 36 = .ok (.invokestatic 140, 3) := by decide +kernel
theorem dX3_timesRow_39 : decode cX3_timesRow 39 = .ok (.istore 5, 2) := by decide +kernel
theorem dX3_timesRow_41 : decode cX3_timesRow 41 = .ok (.iload 5, 2) := by decide +kernel
theorem dX3_timesRow_43 : decode cX3_timesRow 43 = .ok (.iload 4, 2) := by decide +kernel
theorem dX3_timesRow_45 : decode cX3_timesRow 45 = .ok (.if_icmp .gt 116, 3) := by decide +kernel
theorem dX3_timesRow_48 : decode cX3_timesRow 48 = .ok (.iload 5, 2) := by decide +kernel
theorem dX3_timesRow_50 : decode cX3_timesRow 50 = .ok (.iload_n 2, 1) := by decide +kernel
theorem dX3_timesRow_51 : decode cX3_timesRow 51 = .ok (.if_icmp .gt 110, 3) := by decide +kernel
theorem dX3_timesRow_54 : decode cX3_timesRow 54 = .ok (.aload_n 0, 1) := by decide +kernel
theorem dX3_timesRow_55 : decode cX3_timesRow 55 = .ok (.getfield 24, 3) := by decide +kernel
theorem dX3_timesRow_58 : decode cX3_timesRow 58 = .ok (.iload 5, 2) := by decide +kernel
theorem dX3_timesRow_60 : decode cX3_timesRow 60 = .ok (.aaload, 1) := by decide +kernel
theorem dX3_timesRow_61 : decode cX3_timesRow 61 = .ok (.invokevirtual 161, 3) := by decide +kernel
theorem dX3_timesRow_64 : decode cX3_timesRow 64 = .ok (.ifCond .ne 91, 3) := by decide +kernel
theorem dX3_timesRow_67 : decode cX3_timesRow 67 = .ok (.aload_n 0, 1) := by decide +kernel
theorem dX3_timesRow_68 : decode cX3_timesRow 68 = .ok (.getfield 13, 3) := by decide +kernel
theorem dX3_timesRow_71 : decode cX3_timesRow 71 = .ok (.iload_n 3, 1) := by decide +kernel
theorem dX3_timesRow_72 : decode cX3_timesRow 72 = .ok (.iload 4, 2) := by decide +kernel
theorem dX3_timesRow_74 : decode cX3_timesRow 74 = .ok (.iadd, 1) := by decide +kernel
theorem dX3_timesRow_75 : decode cX3_timesRow 75 = .ok (.iload 5, 2) := by decide +kernel
theorem dX3_timesRow_77 : decode cX3_timesRow 77 = .ok (.isub, 1) := by decide +kernel
theorem dX3_timesRow_78 : decode cX3_timesRow 78 = .ok (.aaload, 1) := by decide +kernel
theorem dX3_timesRow_79 : decode cX3_timesRow 79 = .ok (.invokevirtual 161, 3) := by decide +kernel
theorem dX3_timesRow_82 : decode cX3_timesRow 82 = .ok (.ifCond .ne 73, 3) := by decide +kernel
theorem dX3_timesRow_85 : decode cX3_timesRow 85 = .ok (.aload_n 0, 1) := by decide +kernel
theorem dX3_timesRow_86 : decode cX3_timesRow 86 = .ok (.getfield 55, 3) := by decide +kernel
theorem dX3_timesRow_89 : decode cX3_timesRow 89 = .ok (.aload_n 0, 1) := by decide +kernel
theorem dX3_timesRow_90 : decode cX3_timesRow 90 = .ok (.getfield 32, 3) := by decide +kernel
theorem dX3_timesRow_93 : decode cX3_timesRow 93 = .ok (.aload_n 0, 1) := by decide +kernel
theorem dX3_timesRow_94 : decode cX3_timesRow 94 = .ok (.getfield 24, 3) := by decide +kernel
theorem dX3_timesRow_97 : decode cX3_timesRow 97 = .ok (.iload 5, 2) := by decide +kernel
theorem dX3_timesRow_99 : decode cX3_timesRow 99 = .ok (.aaload, 1) := by decide +kernel
theorem dX3_timesRow_100 : decode cX3_timesRow 100 = .ok (.aload_n 0, 1) := by decide +kernel
theorem dX3_timesRow_101 : decode cX3_timesRow 101 = .ok (.getfield 13, 3) := by decide +kernel
theorem dX3_timesRow_104 : decode cX3_timesRow 104 = .ok (.iload_n 3, 1) := by decide +kernel
theorem dX3_timesRow_105 : decode cX3_timesRow 105 = .ok (.iload 4, 2) := by decide +kernel
theorem dX3_timesRow_107 : decode cX3_timesRow 107 = .ok (.iadd, 1) := by decide +kernel
theorem dX3_timesRow_108 : decode cX3_timesRow 108 = .ok (.iload 5, 2) := by decide +kernel
theorem dX3_timesRow_110 : decode cX3_timesRow 110 = .ok (.isub, 1) := by decide +kernel
theorem dX3_timesRow_111 : decode cX3_timesRow 111 = .ok (.aaload, 1) := by decide +kernel
theorem dX3_timesRow_112 : decode cX3_timesRow 112 = .ok (.invokevirtual 175, 3) := by decide +kernel
theorem dX3_timesRow_115 : decode cX3_timesRow 115 = .ok (.aload_n 0, 1) := by decide +kernel
theorem dX3_timesRow_116 : decode cX3_timesRow 116 = .ok (.getfield 55, 3) := by decide +kernel
theorem dX3_timesRow_119 : decode cX3_timesRow 119 = .ok (.aload_n 0, 1) := by decide +kernel
theorem dX3_timesRow_120 : decode cX3_timesRow 120 = .ok (.getfield 21, 3) := by decide +kernel
theorem dX3_timesRow_123 : decode cX3_timesRow 123 = .ok (.iload 4, 2) := by decide +kernel
theorem dX3_timesRow_125 : decode cX3_timesRow 125 = .ok (.aaload, 1) := by decide +kernel
theorem dX3_timesRow_126 : decode cX3_timesRow 126 = .ok (.aload_n 0, 1) := by decide +kernel
theorem dX3_timesRow_127 : decode cX3_timesRow 127 = .ok (.getfield 21, 3) := by decide +kernel
theorem dX3_timesRow_130 : decode cX3_timesRow 130 = .ok (.iload 4, 2) := by decide +kernel
theorem dX3_timesRow_132 : decode cX3_timesRow 132 = .ok (.aaload, 1) := by decide +kernel
theorem dX3_timesRow_133 : decode cX3_timesRow 133 = .ok (.aload_n 0, 1) := by decide +kernel
theorem dX3_timesRow_134 : decode cX3_timesRow 134 = .ok (.getfield 32, 3) := by decide +kernel
theorem dX3_timesRow_137 : decode cX3_timesRow 137 = .ok (.iconst 0, 1) := by decide +kernel
theorem dX3_timesRow_138 : decode cX3_timesRow 138 = .ok (.invokevirtual 145, 3) := by decide +kernel
theorem dX3_timesRow_141 : decode cX3_timesRow 141 = .ok (.aload_n 0, 1) := by decide +kernel
theorem dX3_timesRow_142 : decode cX3_timesRow 142 = .ok (.getfield 55, 3) := by decide +kernel
theorem dX3_timesRow_145 : decode cX3_timesRow 145 = .ok (.aload_n 0, 1) := by decide +kernel
theorem dX3_timesRow_146 : decode cX3_timesRow 146 = .ok (.getfield 21, 3) := by decide +kernel
theorem dX3_timesRow_149 : decode cX3_timesRow 149 = .ok (.iload 4, 2) := by decide +kernel
theorem dX3_timesRow_151 : decode cX3_timesRow 151 = .ok (.aaload, 1) := by decide +kernel
theorem dX3_timesRow_152 : decode cX3_timesRow 152 = .ok (.invokevirtual 151, 3) := by decide +kernel
theorem dX3_timesRow_155 : decode cX3_timesRow 155 = .ok (.iinc 5 1, 3) := by decide +kernel
theorem dX3_timesRow_158 : decode cX3_timesRow 158 = .ok (.goto (-117), 3) := by decide +kernel
theorem dX3_timesRow_161 : decode cX3_timesRow 161 = .ok (.iinc 4 1, 3) := by decide +kernel
theorem dX3_timesRow_164 : decode cX3_timesRow 164 = .ok (.goto (-156), 3) := by decide +kernel
theorem dX3_timesRow_167 : decode cX3_timesRow 167 = .ok (.return_, 1) := by decide +kernel
theorem dX3_takeProduct_0 : decode cX3_takeProduct 0 = .ok (.iconst 0, 1) := by decide +kernel
theorem dX3_takeProduct_1 : decode cX3_takeProduct 1 = .ok (.istore_n 3, 1) := by decide +kernel
theorem dX3_takeProduct_2 : decode cX3_takeProduct 2 = .ok (.iload_n 3, 1) := by decide +kernel
theorem dX3_takeProduct_3 : decode cX3_takeProduct 3 = .ok (.bipush 9, 2) := by decide +kernel
theorem dX3_takeProduct_5 : decode cX3_takeProduct 5 = .ok (.if_icmp .ge 23, 3) := by decide +kernel
theorem dX3_takeProduct_8 : decode cX3_takeProduct 8 = .ok (.aload_n 0, 1) := by decide +kernel
theorem dX3_takeProduct_9 : decode cX3_takeProduct 9 = .ok (.getfield 21, 3) := by decide +kernel
theorem dX3_takeProduct_12 : decode cX3_takeProduct 12 = .ok (.iload_n 3, 1) := by decide +kernel
theorem dX3_takeProduct_13 : decode cX3_takeProduct 13 = .ok (.aaload, 1) := by decide +kernel
theorem dX3_takeProduct_14 : decode cX3_takeProduct 14 = .ok (.invokevirtual 154, 3) := by decide +kernel
theorem dX3_takeProduct_17 : decode cX3_takeProduct 17 = .ok (.ifCond .ne 5, 3) := by decide +kernel
theorem dX3_takeProduct_20 : decode cX3_takeProduct 20 = .ok (.iconst 0, 1) := by decide +kernel
theorem dX3_takeProduct_21 : decode cX3_takeProduct 21 = .ok (.ireturn, 1) := by decide +kernel
theorem dX3_takeProduct_22 : decode cX3_takeProduct 22 = .ok (.iinc 3 1, 3) := by decide +kernel
theorem dX3_takeProduct_25 : decode cX3_takeProduct 25 = .ok (.goto (-23), 3) := by decide +kernel
theorem dX3_takeProduct_28 : decode cX3_takeProduct 28 = .ok (.iconst 0, 1) := by decide +kernel
theorem dX3_takeProduct_29 : decode cX3_takeProduct 29 = .ok (.istore_n 3, 1) := by decide +kernel
theorem dX3_takeProduct_30 : decode cX3_takeProduct 30 = .ok (.iload_n 3, 1) := by decide +kernel
theorem dX3_takeProduct_31 : decode cX3_takeProduct 31 = .ok (.bipush 9, 2) := by decide +kernel
theorem dX3_takeProduct_33 : decode cX3_takeProduct 33 = .ok (.if_icmp .ge 29, 3) := by decide +kernel
theorem dX3_takeProduct_36 : decode cX3_takeProduct 36 = .ok (.aload_n 0, 1) := by decide +kernel
theorem dX3_takeProduct_37 : decode cX3_takeProduct 37 = .ok (.getfield 13, 3) := by decide +kernel
theorem dX3_takeProduct_40 : decode cX3_takeProduct 40 = .ok (.iload_n 1, 1) := by decide +kernel
theorem dX3_takeProduct_41 : decode cX3_takeProduct 41 = .ok (.bipush 9, 2) := by decide +kernel
theorem dX3_takeProduct_43 : decode cX3_takeProduct 43 = .ok (.imul, 1) := by decide +kernel
theorem dX3_takeProduct_44 : decode cX3_takeProduct 44 = .ok (.iload_n 3, 1) := by decide +kernel
theorem dX3_takeProduct_45 : decode cX3_takeProduct 45 = .ok (.iadd, 1) := by decide +kernel
theorem dX3_takeProduct_46 : decode cX3_takeProduct 46 = .ok (.aaload, 1) := by decide +kernel
theorem dX3_takeProduct_47 : decode cX3_takeProduct 47 = .ok (.aload_n 0, 1) := by decide +kernel
theorem dX3_takeProduct_48 : decode cX3_takeProduct 48 = .ok (.getfield 21, 3) := by decide +kernel
theorem dX3_takeProduct_51 : decode cX3_takeProduct 51 = .ok (.iload_n 3, 1) := by decide +kernel
theorem dX3_takeProduct_52 : decode cX3_takeProduct 52 = .ok (.aaload, 1) := by decide +kernel
theorem dX3_takeProduct_53 : decode cX3_takeProduct 53 = .ok (.invokevirtual 79, 3) := by decide +kernel
theorem dX3_takeProduct_56 : decode cX3_takeProduct 56 = .ok (.iinc 3 1, 3) := by decide +kernel
theorem dX3_takeProduct_59 : decode cX3_takeProduct 59 = .ok (.goto (-29), 3) := by decide +kernel
theorem dX3_takeProduct_62 : decode cX3_takeProduct 62 = .ok (.aload_n 0, 1) := by decide +kernel
theorem dX3_takeProduct_63 : decode cX3_takeProduct 63 = .ok (.getfield 17, 3) := by decide +kernel
theorem dX3_takeProduct_66 : decode cX3_takeProduct 66 = .ok (.iload_n 1, 1) := by decide +kernel
theorem dX3_takeProduct_67 : decode cX3_takeProduct 67 = .ok (.aload_n 0, 1) := by decide +kernel
theorem dX3_takeProduct_68 : decode cX3_takeProduct 68 = .ok (.iload_n 1, 1) := by decide +kernel
theorem dX3_takeProduct_69 : decode cX3_takeProduct 69 = .ok (.iload_n 2, 1) := by decide +kernel
theorem dX3_takeProduct_70 : decode cX3_takeProduct 70 = .ok (.invokevirtual 158, 3) := by decide +kernel
theorem dX3_takeProduct_73 : decode cX3_takeProduct 73 = .ok (.iastore, 1) := by decide +kernel
theorem dX3_takeProduct_74 : decode cX3_takeProduct 74 = .ok (.iconst 1, 1) := by decide +kernel
theorem dX3_takeProduct_75 : decode cX3_takeProduct 75 = .ok (.ireturn, 1) := by decide +kernel
theorem dX3_raiseRow_0 : decode cX3_raiseRow 0 = .ok (.aload_n 0, 1) := by decide +kernel
theorem dX3_raiseRow_1 : decode cX3_raiseRow 1 = .ok (.getfield 17, 3) := by decide +kernel
theorem dX3_raiseRow_4 : decode cX3_raiseRow 4 = .ok (.iload_n 1, 1) := by decide +kernel
theorem dX3_raiseRow_5 : decode cX3_raiseRow 5 = .ok (.iaload, 1) := by decide +kernel
theorem dX3_raiseRow_6 : decode cX3_raiseRow 6 = .ok (.istore_n 3, 1) := by decide +kernel
theorem dX3_raiseRow_7 : decode cX3_raiseRow 7 = .ok (.iload_n 3, 1) := by decide +kernel
theorem dX3_raiseRow_8 : decode cX3_raiseRow 8 = .ok (.iload_n 2, 1) := by decide +kernel
theorem dX3_raiseRow_9 : decode cX3_raiseRow 9 = .ok (.imul, 1) := by decide +kernel
theorem dX3_raiseRow_10 : decode cX3_raiseRow 10 = .ok (.bipush 9, 2) := by decide +kernel
theorem dX3_raiseRow_12 : decode cX3_raiseRow 12 = .ok (.if_icmp .lt 5, 3) := by decide +kernel
theorem dX3_raiseRow_15 : decode cX3_raiseRow 15 = .ok (.iconst 0, 1) := by decide +kernel
theorem dX3_raiseRow_16 : decode cX3_raiseRow 16 = .ok (.ireturn, 1) := by decide +kernel
theorem dX3_raiseRow_17 : decode cX3_raiseRow 17 = .ok (.iconst 0, 1) := by decide +kernel
theorem dX3_raiseRow_18 : decode cX3_raiseRow 18 = .ok (.istore 4, 2) := by decide +kernel
theorem dX3_raiseRow_20 : decode cX3_raiseRow 20 = .ok (.iload 4, 2) := by decide +kernel
theorem dX3_raiseRow_22 : decode cX3_raiseRow 22 = .ok (.bipush 9, 2) := by decide +kernel
theorem dX3_raiseRow_24 : decode cX3_raiseRow 24 = .ok (.if_icmp .ge 29, 3) := by decide +kernel
theorem dX3_raiseRow_27 : decode cX3_raiseRow 27 = .ok (.aload_n 0, 1) := by decide +kernel
theorem dX3_raiseRow_28 : decode cX3_raiseRow 28 = .ok (.getfield 21, 3) := by decide +kernel
theorem dX3_raiseRow_31 : decode cX3_raiseRow 31 = .ok (.iload 4, 2) := by decide +kernel
theorem dX3_raiseRow_33 : decode cX3_raiseRow 33 = .ok (.aaload, 1) := by decide +kernel
theorem dX3_raiseRow_34 : decode cX3_raiseRow 34 = .ok (.iload 4, 2) := by decide +kernel
theorem dX3_raiseRow_36 : decode cX3_raiseRow 36 = .ok (.ifCond .ne 7, 3) := by decide +kernel
theorem dX3_raiseRow_39 : decode cX3_raiseRow 39 = .ok (.lconst 1, 1) := by decide +kernel
theorem dX3_raiseRow_40 : decode cX3_raiseRow 40 = .ok (.goto 4, 3) := by decide +kernel
theorem dX3_raiseRow_43 : decode cX3_raiseRow 43 = .ok (.lconst 0, 1) := by decide +kernel
theorem dX3_raiseRow_44 : decode cX3_raiseRow 44 = .ok (.invokevirtual 126, 3) := by decide +kernel
theorem dX3_raiseRow_47 : decode cX3_raiseRow 47 = .ok (.iinc 4 1, 3) := by decide +kernel
theorem dX3_raiseRow_50 : decode cX3_raiseRow 50 = .ok (.goto (-30), 3) := by decide +kernel
theorem dX3_raiseRow_53 : decode cX3_raiseRow 53 = .ok (.iconst 1, 1) := by decide +kernel
theorem dX3_raiseRow_54 : decode cX3_raiseRow 54 = .ok (.istore 4, 2) := by decide +kernel
theorem dX3_raiseRow_56 : decode cX3_raiseRow 56 = .ok (.iload 4, 2) := by decide +kernel
theorem dX3_raiseRow_58 : decode cX3_raiseRow 58 = .ok (.iload_n 2, 1) := by decide +kernel
theorem dX3_raiseRow_59 : decode cX3_raiseRow 59 = .ok (.if_icmp .gt 77, 3) := by decide +kernel
theorem dX3_raiseRow_62 : decode cX3_raiseRow 62 = .ok (.iconst 0, 1) := by decide +kernel
theorem dX3_raiseRow_63 : decode cX3_raiseRow 63 = .ok (.istore 5, 2) := by decide +kernel
theorem dX3_raiseRow_65 : decode cX3_raiseRow 65 = .ok (.iload 5, 2) := by decide +kernel
theorem dX3_raiseRow_67 : decode cX3_raiseRow 67 = .ok (.bipush 9, 2) := by decide +kernel
theorem dX3_raiseRow_69 : decode cX3_raiseRow 69 = .ok (.if_icmp .ge 26, 3) := by decide +kernel
theorem dX3_raiseRow_72 : decode cX3_raiseRow 72 = .ok (.aload_n 0, 1) := by decide +kernel
theorem dX3_raiseRow_73 : decode cX3_raiseRow 73 = .ok (.getfield 24, 3) := by decide +kernel
theorem dX3_raiseRow_76 : decode cX3_raiseRow 76 = .ok (.iload 5, 2) := by decide +kernel
theorem dX3_raiseRow_78 : decode cX3_raiseRow 78 = .ok (.aaload, 1) := by decide +kernel
theorem dX3_raiseRow_79 : decode cX3_raiseRow 79 = .ok (.aload_n 0, 1) := by decide +kernel
theorem dX3_raiseRow_80 : decode cX3_raiseRow 80 = .ok (.getfield 21, 3) := by decide +kernel
theorem dX3_raiseRow_83 : decode cX3_raiseRow 83 = .ok (.iload 5, 2) := by decide +kernel
theorem dX3_raiseRow_85 : decode cX3_raiseRow 85 = .ok (.aaload, 1) := by decide +kernel
theorem dX3_raiseRow_86 : decode cX3_raiseRow 86 = .ok (.invokevirtual 79, 3) := by decide +kernel
theorem dX3_raiseRow_89 : decode cX3_raiseRow 89 = .ok (.iinc 5 1, 3) := by decide +kernel
theorem dX3_raiseRow_92 : decode cX3_raiseRow 92 = .ok (.goto (-27), 3) := by decide +kernel
theorem dX3_raiseRow_95 : decode cX3_raiseRow 95 = .ok (.aload_n 0, 1) := by decide +kernel
theorem dX3_raiseRow_96 : decode cX3_raiseRow 96 = .ok (.iload_n 1, 1) := by decide +kernel
theorem dX3_raiseRow_97 : decode cX3_raiseRow 97 = .ok (.iload_n 3, 1) := by decide +kernel
theorem dX3_raiseRow_98 : decode cX3_raiseRow 98 = .ok (.iload 4, 2) := by decide +kernel
theorem dX3_raiseRow_100 : decode cX3_raiseRow 100 = .ok (.iconst 1, 1) := by decide +kernel
theorem dX3_raiseRow_101 : decode cX3_raiseRow 101 = .ok (.isub, 1) := by decide +kernel
theorem dX3_raiseRow_102 : decode cX3_raiseRow 102 = .ok (.imul, 1) := by decide +kernel
theorem dX3_raiseRow_103 : decode cX3_raiseRow 103 = .ok (.invokevirtual 168, 3) := by decide +kernel
theorem dX3_raiseRow_106 : decode cX3_raiseRow 106 = .ok (.aload_n 0, 1) := by decide +kernel
theorem dX3_raiseRow_107 : decode cX3_raiseRow 107 = .ok (.getfield 21, 3) := by decide +kernel
theorem dX3_raiseRow_110 : decode cX3_raiseRow 110 = .ok (.iload_n 3, 1) := by decide +kernel
theorem dX3_raiseRow_111 : decode cX3_raiseRow 111 = .ok (.iload 4, 2) := by decide +kernel
theorem dX3_raiseRow_113 : decode cX3_raiseRow 113 = .ok (.imul, 1) := by decide +kernel
theorem dX3_raiseRow_114 : decode cX3_raiseRow 114 = .ok (.aaload, 1) := by decide +kernel
theorem dX3_raiseRow_115 : decode cX3_raiseRow 115 = .ok (.invokevirtual 154, 3) := by decide +kernel
theorem dX3_raiseRow_118 : decode cX3_raiseRow 118 = .ok (.ifCond .eq 10, 3) := by decide +kernel
theorem dX3_raiseRow_121 : decode cX3_raiseRow 121 = .ok (.aload_n 0, 1) := by decide +kernel
theorem dX3_raiseRow_122 : decode cX3_raiseRow 122 = .ok (.invokevirtual 178, 3) := by decide +kernel
theorem dX3_raiseRow_125 : decode cX3_raiseRow 125 = .ok (.ifCond .ne 5, 3) := by decide +kernel
theorem dX3_raiseRow_128 : decode cX3_raiseRow 128 = .ok (.iconst 0, 1) := by decide +kernel
theorem dX3_raiseRow_129 : decode cX3_raiseRow 129 = .ok (.ireturn, 1) := by decide +kernel
theorem dX3_raiseRow_130 : decode cX3_raiseRow 130 = .ok (.iinc 4 1, 3) := by decide +kernel
theorem dX3_raiseRow_133 : decode cX3_raiseRow 133 = .ok (.goto (-77), 3) := by decide +kernel
theorem dX3_raiseRow_136 : decode cX3_raiseRow 136 = .ok (.aload_n 0, 1) := by decide +kernel
theorem dX3_raiseRow_137 : decode cX3_raiseRow 137 = .ok (.iload_n 1, 1) := by decide +kernel
theorem dX3_raiseRow_138 : decode cX3_raiseRow 138 = .ok (.iload_n 3, 1) := by decide +kernel
theorem dX3_raiseRow_139 : decode cX3_raiseRow 139 = .ok (.iload_n 2, 1) := by decide +kernel
theorem dX3_raiseRow_140 : decode cX3_raiseRow 140 = .ok (.imul, 1) := by decide +kernel
theorem dX3_raiseRow_141 : decode cX3_raiseRow 141 = .ok (.invokevirtual 172, 3) := by decide +kernel
theorem dX3_raiseRow_144 : decode cX3_raiseRow 144 = .ok (.ireturn, 1) := by decide +kernel
theorem dX3_lowestFits_0 : decode cX3_lowestFits 0 = .ok (.iconst 0, 1) := by decide +kernel
theorem dX3_lowestFits_1 : decode cX3_lowestFits 1 = .ok (.istore_n 1, 1) := by decide +kernel
theorem dX3_lowestFits_2 : decode cX3_lowestFits 2 = .ok (.iload_n 1, 1) := by decide +kernel
theorem dX3_lowestFits_3 : decode cX3_lowestFits 3 = .ok (.bipush 9, 2) := by decide +kernel
theorem dX3_lowestFits_5 : decode cX3_lowestFits 5 = .ok (.if_icmp .ge 31, 3) := by decide +kernel
theorem dX3_lowestFits_8 : decode cX3_lowestFits 8 = .ok (.aload_n 0, 1) := by decide +kernel
theorem dX3_lowestFits_9 : decode cX3_lowestFits 9 = .ok (.getfield 21, 3) := by decide +kernel
theorem dX3_lowestFits_12 : decode cX3_lowestFits 12 = .ok (.iload_n 1, 1) := by decide +kernel
theorem dX3_lowestFits_13 : decode cX3_lowestFits 13 = .ok (.aaload, 1) := by decide +kernel
theorem dX3_lowestFits_14 : decode cX3_lowestFits 14 = .ok (.invokevirtual 161, 3) := by decide +kernel
theorem dX3_lowestFits_17 : decode cX3_lowestFits 17 = .ok (.ifCond .ne 13, 3) := by decide +kernel
theorem dX3_lowestFits_20 : decode cX3_lowestFits 20 = .ok (.aload_n 0, 1) := by decide +kernel
theorem dX3_lowestFits_21 : decode cX3_lowestFits 21 = .ok (.getfield 21, 3) := by decide +kernel
theorem dX3_lowestFits_24 : decode cX3_lowestFits 24 = .ok (.iload_n 1, 1) := by decide +kernel
theorem dX3_lowestFits_25 : decode cX3_lowestFits 25 = .ok (.aaload, 1) := by decide +kernel
theorem dX3_lowestFits_26 : decode cX3_lowestFits 26 = .ok (.invokevirtual 154, 3) := by decide +kernel
theorem dX3_lowestFits_29 : decode cX3_lowestFits 29 = .ok (.ireturn, 1) := by decide +kernel
theorem dX3_lowestFits_30 : decode cX3_lowestFits 30 = .ok (.iinc 1 1, 3) := by decide +kernel
theorem dX3_lowestFits_33 : decode cX3_lowestFits 33 = .ok (.goto (-31), 3) := by decide +kernel
theorem dX3_lowestFits_36 : decode cX3_lowestFits 36 = .ok (.iconst 1, 1) := by decide +kernel
theorem dX3_lowestFits_37 : decode cX3_lowestFits 37 = .ok (.ireturn, 1) := by decide +kernel
theorem dX3_setAside_0 : decode cX3_setAside 0 = .ok (.aload_n 0, 1) := by decide +kernel
theorem dX3_setAside_1 : decode cX3_setAside 1 = .ok (.getfield 42, 3) := by decide +kernel
theorem dX3_setAside_4 : decode cX3_setAside 4 = .ok (.aload_n 0, 1) := by decide +kernel
theorem dX3_setAside_5 : decode cX3_setAside 5 = .ok (.getfield 13, 3) := by decide +kernel
theorem dX3_setAside_8 : decode cX3_setAside 8 = .ok (.iconst 0, 1) := by decide +kernel
theorem dX3_setAside_9 : decode cX3_setAside 9 = .ok (.aaload, 1) := by decide +kernel
theorem dX3_setAside_10 : decode cX3_setAside 10 = .ok (.invokevirtual 79, 3) := by decide +kernel
theorem dX3_setAside_13 : decode cX3_setAside 13 = .ok (.aload_n 0, 1) := by decide +kernel
theorem dX3_setAside_14 : decode cX3_setAside 14 = .ok (.getfield 45, 3) := by decide +kernel
theorem dX3_setAside_17 : decode cX3_setAside 17 = .ok (.aload_n 0, 1) := by decide +kernel
theorem dX3_setAside_18 : decode cX3_setAside 18 = .ok (.getfield 13, 3) := by decide +kernel
theorem dX3_setAside_21 : decode cX3_setAside 21 = .ok (.iconst 1, 1) := by decide +kernel
theorem dX3_setAside_22 : decode cX3_setAside 22 = .ok (.aaload, 1) := by decide +kernel
theorem dX3_setAside_23 : decode cX3_setAside 23 = .ok (.invokevirtual 79, 3) := by decide +kernel
theorem dX3_setAside_26 : decode cX3_setAside 26 = .ok (.return_, 1) := by decide +kernel
theorem dX3_compareSides_0 : decode cX3_compareSides 0 = .ok (.aload_n 0, 1) := by decide +kernel
theorem dX3_compareSides_1 : decode cX3_compareSides 1 = .ok (.getfield 55, 3) := by decide +kernel
theorem dX3_compareSides_4 : decode cX3_compareSides 4 = .ok (.aload_n 0, 1) := by decide +kernel
theorem dX3_compareSides_5 : decode cX3_compareSides 5 = .ok (.getfield 32, 3) := by decide +kernel
theorem dX3_compareSides_8 : decode cX3_compareSides 8 = .ok (.aload_n 0, 1) := by decide +kernel
theorem dX3_compareSides_9 : decode cX3_compareSides 9 = .ok (.getfield 45, 3) := by decide +kernel
theorem dX3_compareSides_12 : decode cX3_compareSides 12 = .ok (.aload_n 0, 1) := by decide +kernel
theorem dX3_compareSides_13 : decode cX3_compareSides 13 = .ok (.getfield 13, 3) := by decide +kernel
theorem dX3_compareSides_16 : decode cX3_compareSides 16 = .ok (.iconst 1, 1) := by decide +kernel
theorem dX3_compareSides_17 : decode cX3_compareSides 17 = .ok (.aaload, 1) := by decide +kernel
theorem dX3_compareSides_18 : decode cX3_compareSides 18 = .ok (.iconst 1, 1) := by decide +kernel
theorem dX3_compareSides_19 : decode cX3_compareSides 19 = .ok (.invokevirtual 145, 3) := by decide +kernel
theorem dX3_compareSides_22 : decode cX3_compareSides 22 = .ok (.aload_n 0, 1) := by decide +kernel
theorem dX3_compareSides_23 : decode cX3_compareSides 23 = .ok (.getfield 55, 3) := by decide +kernel
theorem dX3_compareSides_26 : decode cX3_compareSides 26 = .ok (.aload_n 0, 1) := by decide +kernel
theorem dX3_compareSides_27 : decode cX3_compareSides 27 = .ok (.getfield 36, 3) := by decide +kernel
theorem dX3_compareSides_30 : decode cX3_compareSides 30 = .ok (.aload_n 0, 1) := by decide +kernel
theorem dX3_compareSides_31 : decode cX3_compareSides 31 = .ok (.getfield 13, 3) := by decide +kernel
theorem dX3_compareSides_34 : decode cX3_compareSides 34 = .ok (.iconst 0, 1) := by decide +kernel
theorem dX3_compareSides_35 : decode cX3_compareSides 35 = .ok (.aaload, 1) := by decide +kernel
theorem dX3_compareSides_36 : decode cX3_compareSides 36 = .ok (.aload_n 0, 1) := by decide +kernel
theorem dX3_compareSides_37 : decode cX3_compareSides 37 = .ok (.getfield 42, 3) := by decide +kernel
theorem dX3_compareSides_40 : decode cX3_compareSides 40 = .ok (.iconst 1, 1) := by decide +kernel
theorem dX3_compareSides_41 : decode cX3_compareSides 41 = .ok (.invokevirtual 145, 3) := by decide +kernel
theorem dX3_compareSides_44 : decode cX3_compareSides 44 = .ok (.aload_n 0, 1) := by decide +kernel
theorem dX3_compareSides_45 : decode cX3_compareSides 45 = .ok (.getfield 32, 3) := by decide +kernel
theorem dX3_compareSides_48 : decode cX3_compareSides 48 = .ok (.invokevirtual 161, 3) := by decide +kernel
theorem dX3_compareSides_51 : decode cX3_compareSides 51 = .ok (.ifCond .eq 19, 3) := by decide +kernel
theorem dX3_compareSides_54 : decode cX3_compareSides 54 = .ok (.aload_n 0, 1) := by decide +kernel
theorem dX3_compareSides_55 : decode cX3_compareSides 55 = .ok (.getfield 36, 3) := by decide +kernel
theorem dX3_compareSides_58 : decode cX3_compareSides 58 = .ok (.invokevirtual 161, 3) := by decide +kernel
theorem dX3_compareSides_61 : decode cX3_compareSides 61 = .ok (.ifCond .eq 7, 3) := by decide +kernel
theorem dX3_compareSides_64 : decode cX3_compareSides 64 = .ok (.iconst 2, 1) := by decide +kernel
theorem dX3_compareSides_65 : decode cX3_compareSides 65 = .ok (.goto 4, 3) := by decide +kernel
theorem dX3_compareSides_68 : decode cX3_compareSides 68 = .ok (.iconst 0, 1) := by decide +kernel
theorem dX3_compareSides_69 : decode cX3_compareSides 69 = .ok (.ireturn, 1) := by decide +kernel
theorem dX3_compareSides_70 : decode cX3_compareSides 70 = .ok (.aload_n 0, 1) := by decide +kernel
theorem dX3_compareSides_71 : decode cX3_compareSides 71 = .ok (.getfield 55, 3) := by decide +kernel
theorem dX3_compareSides_74 : decode cX3_compareSides 74 = .ok (.aload_n 0, 1) := by decide +kernel
theorem dX3_compareSides_75 : decode cX3_compareSides 75 = .ok (.getfield 32, 3) := by decide +kernel
theorem dX3_compareSides_78 : decode cX3_compareSides 78 = .ok (.aload_n 0, 1) := by decide +kernel
theorem dX3_compareSides_79 : decode cX3_compareSides 79 = .ok (.getfield 36, 3) := by decide +kernel
theorem dX3_compareSides_82 : decode cX3_compareSides 82 = .ok (.aload_n 0, 1) := by decide +kernel
theorem dX3_compareSides_83 : decode cX3_compareSides 83 = .ok (.getfield 32, 3) := by decide +kernel
theorem dX3_compareSides_86 : decode cX3_compareSides 86 = .ok (.invokevirtual 164, 3) := by decide +kernel
theorem dX3_compareSides_89 : decode cX3_compareSides 89 = .ok (.aload_n 0, 1) := by decide +kernel
theorem dX3_compareSides_90 : decode cX3_compareSides 90 = .ok (.getfield 55, 3) := by decide +kernel
theorem dX3_compareSides_93 : decode cX3_compareSides 93 = .ok (.aload_n 0, 1) := by decide +kernel
theorem dX3_compareSides_94 : decode cX3_compareSides 94 = .ok (.getfield 32, 3) := by decide +kernel
theorem dX3_compareSides_97 : decode cX3_compareSides 97 = .ok (.invokevirtual 151, 3) := by decide +kernel
theorem dX3_compareSides_100 : decode cX3_compareSides 100 = .ok (.aload_n 0, 1) := by decide +kernel
theorem dX3_compareSides_101 : decode cX3_compareSides 101 = .ok (.getfield 32, 3) := by decide +kernel
theorem dX3_compareSides_104 : decode cX3_compareSides 104 = .ok (.invokevirtual 154, 3) := by decide +kernel
theorem dX3_compareSides_107 : decode cX3_compareSides 107 = .ok (.ifCond .ne 5, 3) := by decide +kernel
theorem dX3_compareSides_110 : decode cX3_compareSides 110 = .ok (.iconst (-1), 1) := by decide +kernel
theorem dX3_compareSides_111 : decode cX3_compareSides 111 = .ok (.ireturn, 1) := by decide +kernel
theorem dX3_compareSides_112 : decode cX3_compareSides 112 = .ok (.aload_n 0, 1) := by decide +kernel
theorem dX3_compareSides_113 : decode cX3_compareSides 113 = .ok (.getfield 48, 3) := by decide +kernel
theorem dX3_compareSides_116 : decode cX3_compareSides 116 = .ok (.aload_n 0, 1) := by decide +kernel
theorem dX3_compareSides_117 : decode cX3_compareSides 117 = .ok (.getfield 32, 3) := by decide +kernel
theorem dX3_compareSides_120 : decode cX3_compareSides 120 = .ok (.invokevirtual 79, 3) := by decide +kernel
theorem dX3_compareSides_123 : decode cX3_compareSides 123 = .ok (.iconst 1, 1) := by decide +kernel
theorem dX3_compareSides_124 : decode cX3_compareSides 124 = .ok (.ireturn, 1) := by decide +kernel
theorem dX4_init_0 : decode cX4_init 0 = .ok (.aload_n 0, 1) := by decide +kernel
theorem dX4_init_1 : decode cX4_init 1 = .ok (.invokespecial 3, 3) := by decide +kernel
theorem dX4_init_4 : decode cX4_init 4 = .ok (.aload_n 0, 1) := by decide +kernel
theorem dX4_init_5 : decode cX4_init 5 = .ok (.sipush 240, 3) := by decide +kernel
theorem dX4_init_8 : decode cX4_init 8 = .ok (.anewarray 11, 3) := by decide +kernel
theorem dX4_init_11 : decode cX4_init 11 = .ok (.putfield 13, 3) := by decide +kernel
theorem dX4_init_14 : decode cX4_init 14 = .ok (.aload_n 0, 1) := by decide +kernel
theorem dX4_init_15 : decode cX4_init 15 = .ok (.new 11, 3) := by decide +kernel
theorem dX4_init_18 : decode cX4_init 18 = .ok (.dup, 1) := by decide +kernel
theorem dX4_init_19 : decode cX4_init 19 = .ok (.bipush 100, 2) := by decide +kernel
theorem dX4_init_21 : decode cX4_init 21 = .ok (.invokespecial 19, 3) := by decide +kernel
theorem dX4_init_24 : decode cX4_init 24 = .ok (.putfield 22, 3) := by decide +kernel
theorem dX4_init_27 : decode cX4_init 27 = .ok (.aload_n 0, 1) := by decide +kernel
theorem dX4_init_28 : decode cX4_init 28 = .ok (.sipush 480, 3) := by decide +kernel
theorem dX4_init_31 : decode cX4_init 31 = .ok (.newarray .int, 2) := by decide +kernel
theorem dX4_init_33 : decode cX4_init 33 = .ok (.putfield 26, 3) := by decide +kernel
theorem dX4_init_36 : decode cX4_init 36 = .ok (.aload_n 0, 1) := by decide +kernel
theorem dX4_init_37 : decode cX4_init 37 = .ok (.sipush 480, 3) := by decide +kernel
theorem dX4_init_40 : decode cX4_init 40 = .ok (.anewarray 30, 3) := by decide +kernel
theorem dX4_init_43 : decode cX4_init 43 = .ok (.putfield 32, 3) := by decide +kernel
theorem dX4_init_46 : decode cX4_init 46 = .ok (.aload_n 0, 1) := by decide +kernel
theorem dX4_init_47 : decode cX4_init 47 = .ok (.sipush 480, 3) := by decide +kernel
theorem dX4_init_50 : decode cX4_init 50 = .ok (.newarray .int, 2) := by decide +kernel
theorem dX4_init_52 : decode cX4_init 52 = .ok (.putfield 36, 3) := by decide +kernel
theorem dX4_init_55 : decode cX4_init 55 = .ok (.aload_n 0, 1) := by decide +kernel
theorem dX4_init_56 : decode cX4_init 56 = .ok (.sipush 480, 3) := by decide +kernel
theorem dX4_init_59 : decode cX4_init 59 = .ok (.newarray .int, 2) := by decide +kernel
theorem dX4_init_61 : decode cX4_init 61 = .ok (.putfield 39, 3) := by decide +kernel
theorem dX4_init_64 : decode cX4_init 64 = .ok (.aload_n 0, 1) := by decide +kernel
theorem dX4_init_65 : decode cX4_init 65 = .ok (.sipush 480, 3) := by decide +kernel
theorem dX4_init_68 : decode cX4_init 68 = .ok (.newarray .int, 2) := by decide +kernel
theorem dX4_init_70 : decode cX4_init 70 = .ok (.putfield 42, 3) := by decide +kernel
theorem dX4_init_73 : decode cX4_init 73 = .ok (.aload_n 0, 1) := by decide +kernel
theorem dX4_init_74 : decode cX4_init 74 = .ok (.sipush 480, 3) := by decide +kernel
theorem dX4_init_77 : decode cX4_init 77 = .ok (.newarray .int, 2) := by decide +kernel
theorem dX4_init_79 : decode cX4_init 79 = .ok (.putfield 45, 3) := by decide +kernel
theorem dX4_init_82 : decode cX4_init 82 = .ok (.aload_n 0, 1) := by decide +kernel
theorem dX4_init_83 : decode cX4_init 83 = .ok (.sipush 240, 3) := by decide +kernel
theorem dX4_init_86 : decode cX4_init 86 = .ok (.newarray .int, 2) := by decide +kernel
theorem dX4_init_88 : decode cX4_init 88 = .ok (.putfield 48, 3) := by decide +kernel
theorem dX4_init_91 : decode cX4_init 91 = .ok (.aload_n 0, 1) := by decide +kernel
theorem dX4_init_92 : decode cX4_init 92 = .ok (.sipush 240, 3) := by decide +kernel
theorem dX4_init_95 : decode cX4_init 95 = .ok (.newarray .int, 2) := by decide +kernel
theorem dX4_init_97 : decode cX4_init 97 = .ok (.putfield 51, 3) := by decide +kernel
theorem dX4_init_100 : decode cX4_init 100 = .ok (.aload_n 0, 1) := by decide +kernel
theorem dX4_init_101 : decode cX4_init 101 = .ok (.sipush 240, 3) := by decide +kernel
theorem dX4_init_104 : decode cX4_init 104 = .ok (.newarray .int, 2) := by decide +kernel
theorem dX4_init_106 : decode cX4_init 106 = .ok (.putfield 54, 3) := by decide +kernel
theorem dX4_init_109 : decode cX4_init 109 = .ok (.aload_n 0, 1) := by decide +kernel
theorem dX4_init_110 : decode cX4_init 110 = .ok (.sipush 240, 3) := by decide +kernel
theorem dX4_init_113 : decode cX4_init 113 = .ok (.newarray .int, 2) := by decide +kernel
theorem dX4_init_115 : decode cX4_init 115 = .ok (.putfield 57, 3) := by decide +kernel
theorem dX4_init_118 : decode cX4_init 118 = .ok (.aload_n 0, 1) := by decide +kernel
theorem dX4_init_119 : decode cX4_init 119 = .ok (.aload_n 1, 1) := by decide +kernel
theorem dX4_init_120 : decode cX4_init 120 = .ok (.putfield 60, 3) := by decide +kernel
theorem dX4_init_123 : decode cX4_init 123 = .ok (.aload_n 0, 1) := by decide +kernel
theorem dX4_init_124 : decode cX4_init 124 = .ok (.aload_n 2, 1) := by decide +kernel
theorem dX4_init_125 : decode cX4_init 125 = .ok (.putfield 64, 3) := by decide +kernel
theorem dX4_init_128 : decode cX4_init 128 = .ok (.iconst 0, 1) := by decide +kernel
theorem dX4_init_129 : decode cX4_init 129 = .ok (.istore_n 3, 1) := by decide +kernel
theorem dX4_init_130 : decode cX4_init 130 = .ok (.iload_n 3, 1) := by decide +kernel
theorem dX4_init_131 : decode cX4_init 131 = .ok (.sipush 240, 3) := by decide +kernel
theorem dX4_init_134 : decode cX4_init 134 = .ok (.if_icmp .ge 24, 3) := by decide +kernel
theorem dX4_init_137 : decode cX4_init 137 = .ok (.aload_n 0, 1) := by decide +kernel
theorem dX4_init_138 : decode cX4_init 138 = .ok (.getfield 13, 3) := by decide +kernel
theorem dX4_init_141 : decode cX4_init 141 = .ok (.iload_n 3, 1) := by decide +kernel
theorem dX4_init_142 : decode cX4_init 142 = .ok (.new 11, 3) := by decide +kernel
theorem dX4_init_145 : decode cX4_init 145 = .ok (.dup, 1) := by decide +kernel
theorem dX4_init_146 : decode cX4_init 146 = .ok (.bipush 7, 2) := by decide +kernel
theorem dX4_init_148 : decode cX4_init 148 = .ok (.invokespecial 19, 3) := by decide +kernel
theorem dX4_init_151 : decode cX4_init 151 = .ok (.aastore, 1) := by decide +kernel
theorem dX4_init_152 : decode cX4_init 152 = .ok (.iinc 3 1, 3) := by decide +kernel
theorem dX4_init_155 : decode cX4_init 155 = .ok (.goto (-25), 3) := by decide +kernel
theorem dX4_init_158 : decode cX4_init 158 = .ok (.return_, 1) := by decide +kernel
theorem dX4_restart_0 : decode cX4_restart 0 = .ok (.aload_n 0, 1) := by decide +kernel
theorem dX4_restart_1 : decode cX4_restart 1 = .ok (.iconst 0, 1) := by decide +kernel
theorem dX4_restart_2 : decode cX4_restart 2 = .ok (.putfield 68, 3) := by decide +kernel
theorem dX4_restart_5 : decode cX4_restart 5 = .ok (.aload_n 0, 1) := by decide +kernel
theorem dX4_restart_6 : decode cX4_restart 6 = .ok (.iconst 0, 1) := by decide +kernel
theorem dX4_restart_7 : decode cX4_restart 7 = .ok (.putfield 72, 3) := by decide +kernel
theorem dX4_restart_10 : decode cX4_restart 10 = .ok (.aload_n 0, 1) := by decide +kernel
theorem dX4_restart_11 : decode cX4_restart 11 = .ok (.iconst 0, 1) := by decide +kernel
theorem dX4_restart_12 : decode cX4_restart 12 = .ok (.putfield 75, 3) := by decide +kernel
theorem dX4_restart_15 : decode cX4_restart 15 = .ok (.aload_n 0, 1) := by decide +kernel
theorem dX4_restart_16 : decode cX4_restart 16 = .ok (.iconst 0, 1) := by decide +kernel
theorem dX4_restart_17 : decode cX4_restart 17 = .ok (.putfield 78, 3) := by decide +kernel
theorem dX4_restart_20 : decode cX4_restart 20 = .ok (.aload_n 0, 1) := by decide +kernel
theorem dX4_restart_21 : decode cX4_restart 21 = .ok (.iconst 0, 1) := by decide +kernel
theorem dX4_restart_22 : decode cX4_restart 22 = .ok (.putfield 81, 3) := by decide +kernel
theorem dX4_restart_25 : decode cX4_restart 25 = .ok (.return_, 1) := by decide +kernel
theorem dX4_startTree_0 : decode cX4_startTree 0 = .ok (.aload_n 0, 1) := by decide +kernel
theorem dX4_startTree_1 : decode cX4_startTree 1 = .ok (.invokevirtual 84, 3) := by decide +kernel
theorem dX4_startTree_4 : decode cX4_startTree 4 = .ok (.aload_n 0, 1) := by decide +kernel
theorem dX4_startTree_5 : decode cX4_startTree 5 = .ok (.aload_n 1, 1) := by decide +kernel
theorem dX4_startTree_6 : decode cX4_startTree 6 = .ok (.iconst 0, 1) := by decide +kernel
theorem dX4_startTree_7 : decode cX4_startTree 7 = .ok (.iconst (-1), 1) := by decide +kernel
theorem dX4_startTree_8 : decode cX4_startTree 8 = .ok (.invokevirtual 87, 3) := by decide +kernel
theorem dX4_startTree_11 : decode cX4_startTree 11 = .ok (.pop, 1) := by decide +kernel
theorem dX4_startTree_12 : decode cX4_startTree 12 = .ok (.return_, 1) := by decide +kernel
theorem dX4_startLine_0 : decode cX4_startLine 0 = .ok (.aload_n 0, 1) := by decide +kernel
theorem dX4_startLine_1 : decode cX4_startLine 1 = .ok (.invokevirtual 84, 3) := by decide +kernel
theorem dX4_startLine_4 : decode cX4_startLine 4 = .ok (.aload_n 0, 1) := by decide +kernel
theorem dX4_startLine_5 : decode cX4_startLine 5 = .ok (.iconst 4, 1) := by decide +kernel
theorem dX4_startLine_6 : decode cX4_startLine 6 = .ok (.aload_n 1, 1) := by decide +kernel
theorem dX4_startLine_7 : decode cX4_startLine 7 = .ok (.iconst 0, 1) := by decide +kernel
theorem dX4_startLine_8 : decode cX4_startLine 8 = .ok (.iconst (-1), 1) := by decide +kernel
theorem dX4_startLine_9 : decode cX4_startLine 9 = .ok (.invokevirtual 91, 3) := by decide +kernel
theorem dX4_startLine_12 : decode cX4_startLine 12 = .ok (.pop, 1) := by decide +kernel
theorem dX4_startLine_13 : decode cX4_startLine 13 = .ok (.return_, 1) := by decide +kernel
theorem dX4_result_0 : decode cX4_result 0 = .ok (.aload_n 0, 1) := by decide +kernel
theorem dX4_result_1 : decode cX4_result 1 = .ok (.getfield 13, 3) := by decide +kernel
theorem dX4_result_4 : decode cX4_result 4 = .ok (.iconst 0, 1) := by decide +kernel
theorem dX4_result_5 : decode cX4_result 5 = .ok (.aaload, 1) := by decide +kernel
theorem dX4_result_6 : decode cX4_result 6 = .ok (.areturn, 1) := by decide +kernel
theorem dX4_fromTop_0 : decode cX4_fromTop 0 = .ok (.aload_n 0, 1) := by decide +kernel
theorem dX4_fromTop_1 : decode cX4_fromTop 1 = .ok (.getfield 68, 3) := by decide +kernel
theorem dX4_fromTop_4 : decode cX4_fromTop 4 = .ok (.iconst 1, 1) := by decide +kernel
theorem dX4_fromTop_5 : decode cX4_fromTop 5 = .ok (.isub, 1) := by decide +kernel
theorem dX4_fromTop_6 : decode cX4_fromTop 6 = .ok (.iload_n 1, 1) := by decide +kernel
theorem dX4_fromTop_7 : decode cX4_fromTop 7 = .ok (.isub, 1) := by decide +kernel
theorem dX4_fromTop_8 : decode cX4_fromTop 8 = .ok (.istore_n 2, 1) := by decide +kernel
theorem dX4_fromTop_9 : decode cX4_fromTop 9 = .ok (.aload_n 0, 1) := by decide +kernel
theorem dX4_fromTop_10 : decode cX4_fromTop 10 = .ok (.getfield 13, 3) := by decide +kernel
theorem dX4_fromTop_13 : decode cX4_fromTop 13 = .ok (.iload_n 2, 1) := by decide +kernel
theorem dX4_fromTop_14 : decode cX4_fromTop 14 = .ok (.ifCond .lt 14, 3) := by decide +kernel
theorem dX4_fromTop_17 : decode cX4_fromTop 17 = .ok (.iload_n 2, 1) := by decide +kernel
theorem dX4_fromTop_18 : decode cX4_fromTop 18 = .ok (.sipush 240, 3) := by decide +kernel
theorem dX4_fromTop_21 : decode cX4_fromTop 21 = .ok (.if_icmp .ge 7, 3) := by decide +kernel
theorem dX4_fromTop_24 : decode cX4_fromTop 24 = .ok (.iload_n 2, 1) := by decide +kernel
theorem dX4_fromTop_25 : decode cX4_fromTop 25 = .ok (.goto 4, 3) := by decide +kernel
theorem dX4_fromTop_28 : decode cX4_fromTop 28 = .ok (.iconst 0, 1) := by decide +kernel
theorem dX4_fromTop_29 : decode cX4_fromTop 29 = .ok (.aaload, 1) := by decide +kernel
theorem dX4_fromTop_30 : decode cX4_fromTop 30 = .ok (.areturn, 1) := by decide +kernel
theorem dX4_begin_0 : decode cX4_begin 0 = .ok (.aload_n 1, 1) := by decide +kernel
theorem dX4_begin_1 : decode cX4_begin 1 = .ok (.iload_n 2, 1) := by decide +kernel
theorem dX4_begin_2 : decode cX4_begin 2 = .ok (.bipush 105, 2) := by decide +kernel
theorem dX4_begin_4 : decode cX4_begin 4 = .ok (.invokevirtual 95, 3) := by decide +kernel
theorem dX4_begin_7 : decode cX4_begin 7 = .ok (.ifCond .eq 7, 3) := by decide +kernel
theorem dX4_begin_10 : decode cX4_begin 10 = .ok (.iconst 1, 1) := by decide +kernel
theorem dX4_begin_11 : decode cX4_begin 11 = .ok (.goto 18, 3) := by decide +kernel
theorem dX4_begin_14 : decode cX4_begin 14 = .ok (.aload_n 1, 1) := by decide +kernel
theorem dX4_begin_15 : decode cX4_begin 15 = .ok (.iload_n 2, 1) := by decide +kernel
theorem dX4_begin_16 : decode cX4_begin 16 = .ok (.bipush 115, 2) := by decide +kernel
theorem dX4_begin_18 : decode cX4_begin 18 = .ok (.invokevirtual 95, 3) := by decide +kernel
theorem dX4_begin_21 : decode cX4_begin 21 = .ok (.ifCond .eq 7, 3) := by decide +kernel
theorem dX4_begin_24 : decode cX4_begin 24 = .ok (.iconst 2, 1) := by decide +kernel
theorem dX4_begin_25 : decode cX4_begin 25 = .ok (.goto 4, 3) := by decide +kernel
theorem dX4_begin_28 : decode cX4_begin 28 = .ok (.iconst 0, 1) := by decide +kernel
theorem dX4_begin_29 : decode cX4_begin 29 = .ok (.istore 4, 2) := by decide +kernel
theorem dX4_begin_31 : decode cX4_begin 31 = .ok (.aload_n 0, 1) := by decide +kernel
theorem dX4_begin_32 : decode cX4_begin 32 = .ok (.iload 4, 2) := by decide +kernel
theorem dX4_begin_34 : decode cX4_begin 34 = .ok (.aload_n 1, 1) := by decide +kernel
theorem dX4_begin_35 : decode cX4_begin 35 = .ok (.iload_n 2, 1) := by decide +kernel
theorem dX4_begin_36 : decode cX4_begin 36 = .ok (.iload_n 3, 1) := by decide +kernel
theorem dX4_begin_37 : decode cX4_begin 37 = .ok (.invokevirtual 91, 3) := by decide +kernel
theorem dX4_begin_40 : decode cX4_begin 40 = .ok (.ireturn, 1) := by decide +kernel
theorem dX4_addTask_0 : decode cX4_addTask 0 = .ok (.aload_n 0, 1) := by decide +kernel
theorem dX4_addTask_1 : decode cX4_addTask 1 = .ok (.getfield 75, 3) := by decide +kernel
theorem dX4_addTask_4 : decode cX4_addTask 4 = .ok (.sipush 480, 3) := by decide +kernel
theorem dX4_addTask_7 : decode cX4_addTask 7 = .ok (.if_icmp .lt 6, 3) := by decide +kernel
theorem dX4_addTask_10 : decode cX4_addTask 10 = .ok (.bipush 9, 2) := by decide +kernel
theorem dX4_addTask_12 : decode cX4_addTask 12 = .ok (.ireturn, 1) := by decide +kernel
theorem dX4_addTask_13 : decode cX4_addTask 13 = .ok (.aload_n 0, 1) := by decide +kernel
theorem dX4_addTask_14 : decode cX4_addTask 14 = .ok (.getfield 26, 3) := by decide +kernel
theorem dX4_addTask_17 : decode cX4_addTask 17 = .ok (.aload_n 0, 1) := by decide +kernel
theorem dX4_addTask_18 : decode cX4_addTask 18 = .ok (.getfield 75, 3) := by decide +kernel
theorem dX4_addTask_21 : decode cX4_addTask 21 = .ok (.iload_n 1, 1) := by decide +kernel
theorem dX4_addTask_22 : decode cX4_addTask 22 = .ok (.iastore, 1) := by decide +kernel
theorem dX4_addTask_23 : decode cX4_addTask 23 = .ok (.aload_n 0, 1) := by decide +kernel
theorem dX4_addTask_24 : decode cX4_addTask 24 = .ok (.getfield 32, 3) := by decide +kernel
theorem dX4_addTask_27 : decode cX4_addTask 27 = .ok (.aload_n 0, 1) := by decide +kernel
theorem dX4_addTask_28 : decode cX4_addTask 28 = .ok (.getfield 75, 3) := by decide +kernel
theorem dX4_addTask_31 : decode cX4_addTask 31 = .ok (.aload_n 2, 1) := by decide +kernel
theorem dX4_addTask_32 : decode cX4_addTask 32 = .ok (.aastore, 1) := by decide +kernel
theorem dX4_addTask_33 : decode cX4_addTask 33 = .ok (.aload_n 0, 1) := by decide +kernel
theorem dX4_addTask_34 : decode cX4_addTask 34 = .ok (.getfield 36, 3) := by decide +kernel
theorem dX4_addTask_37 : decode cX4_addTask 37 = .ok (.aload_n 0, 1) := by decide +kernel
theorem dX4_addTask_38 : decode cX4_addTask 38 = .ok (.getfield 75, 3) := by decide +kernel
theorem dX4_addTask_41 : decode cX4_addTask 41 = .ok (.iload_n 3, 1) := by decide +kernel
theorem dX4_addTask_42 : decode cX4_addTask 42 = .ok (.iastore, 1) := by decide +kernel
theorem dX4_addTask_43 : decode cX4_addTask 43 = .ok (.aload_n 0, 1) := by decide +kernel
theorem dX4_addTask_44 : decode cX4_addTask 44 = .ok (.getfield 39, 3) := by decide +kernel
theorem dX4_addTask_47 : decode cX4_addTask 47 = .ok (.aload_n 0, 1) := by decide +kernel
theorem dX4_addTask_48 : decode cX4_addTask 48 = .ok (.getfield 75, 3) := by decide +kernel
theorem dX4_addTask_51 : decode cX4_addTask 51 = .ok (.iconst 0, 1) := by decide +kernel
theorem dX4_addTask_52 : decode cX4_addTask 52 = .ok (.iastore, 1) := by decide +kernel
theorem dX4_addTask_53 : decode cX4_addTask 53 = .ok (.aload_n 0, 1) := by decide +kernel
theorem dX4_addTask_54 : decode cX4_addTask 54 = .ok (.getfield 42, 3) := by decide +kernel
theorem dX4_addTask_57 : decode cX4_addTask 57 = .ok (.aload_n 0, 1) := by decide +kernel
theorem dX4_addTask_58 : decode cX4_addTask 58 = .ok (.getfield 75, 3) := by decide +kernel
theorem dX4_addTask_61 : decode cX4_addTask 61 = .ok (.iload 4, 2) := by decide +kernel
theorem dX4_addTask_63 : decode cX4_addTask 63 = .ok (.iastore, 1) := by decide +kernel
theorem dX4_addTask_64 : decode cX4_addTask 64 = .ok (.aload_n 0, 1) := by decide +kernel
theorem dX4_addTask_65 : decode cX4_addTask 65 = .ok (.getfield 45, 3) := by decide +kernel
theorem dX4_addTask_68 : decode cX4_addTask 68 = .ok (.aload_n 0, 1) := by decide +kernel
theorem dX4_addTask_69 : decode cX4_addTask 69 = .ok (.getfield 75, 3) := by decide +kernel
theorem dX4_addTask_72 : decode cX4_addTask 72 = .ok (.iconst (-1), 1) := by decide +kernel
theorem dX4_addTask_73 : decode cX4_addTask 73 = .ok (.iastore, 1) := by decide +kernel
theorem dX4_addTask_74 : decode cX4_addTask 74 = .ok (.aload_n 0, 1) := by decide +kernel
theorem dX4_addTask_75 : decode cX4_addTask 75 = .ok (.dup, 1) := by decide +kernel
theorem dX4_addTask_76 : decode cX4_addTask 76 = .ok (.getfield 75, 3) := by decide +kernel
theorem dX4_addTask_79 : decode cX4_addTask 79 = .ok (.iconst 1, 1) := by decide +kernel
theorem dX4_addTask_80 : decode cX4_addTask 80 = .ok (.iadd, 1) := by decide +kernel
theorem dX4_addTask_81 : decode cX4_addTask 81 = .ok (.putfield 75, 3) := by decide +kernel
theorem dX4_addTask_84 : decode cX4_addTask 84 = .ok (.iconst 0, 1) := by decide +kernel
theorem dX4_addTask_85 : decode cX4_addTask 85 = .ok (.ireturn, 1) := by decide +kernel
theorem dX4_work_0 : decode cX4_work 0 = .ok (.iconst 0, 1) := by decide +kernel
theorem dX4_work_1 : decode cX4_work 1 = .ok (.istore_n 1, 1) := by decide +kernel
theorem dX4_work_2 : decode cX4_work 2 = .ok (.iconst 0, 1) := by decide +kernel
theorem dX4_work_3 : decode cX4_work 3 = .ok (.istore_n 2, 1) := by decide +kernel
theorem dX4_work_4 : decode cX4_work 4 = .ok (.iload_n 2, 1) := by decide +kernel
theorem dX4_work_5 : decode cX4_work 5 = .ok (.ldc 99, 2) := by decide +kernel
theorem dX4_work_7 : decode cX4_work 7 = .ok (.if_icmp .ge 240, 3) := by decide +kernel
theorem dX4_work_10 : decode cX4_work 10 = .ok (.aload_n 0, 1) := by decide +kernel
theorem dX4_work_11 : decode cX4_work 11 = .ok (.getfield 75, 3) := by decide +kernel
theorem dX4_work_14 : decode cX4_work 14 = .ok (.ifCond .le 233, 3) := by decide +kernel
theorem dX4_work_17 : decode cX4_work 17 = .ok (.iload_n 1, 1) := by decide +kernel
theorem dX4_work_18 : decode cX4_work 18 = .ok (.ifCond .ne 229, 3) := by decide +kernel
theorem dX4_work_21 : decode cX4_work 21 = .ok (.aload_n 0, 1) := by decide +kernel
theorem dX4_work_22 : decode cX4_work 22 = .ok (.getfield 75, 3) := by decide +kernel
theorem dX4_work_25 : decode cX4_work 25 = .ok (.iconst 1, 1) := by decide +kernel
theorem dX4_work_26 : decode cX4_work 26 = .ok (.isub, 1) := by decide +kernel
theorem dX4_work_27 : decode cX4_work 27 = .ok (.istore_n 3, 1) := by decide +kernel
theorem dX4_work_28 : decode cX4_work 28 = .ok (.aload_n 0, 1) := by decide +kernel
theorem dX4_work_29 : decode cX4_work 29 = .ok (.getfield 32, 3) := by decide +kernel
theorem dX4_work_32 : decode cX4_work 32 = .ok (.iload_n 3, 1) := by decide +kernel
theorem dX4_work_33 : decode cX4_work 33 = .ok (.aaload, 1) := by decide +kernel
theorem dX4_work_34 : decode cX4_work 34 = .ok (.astore 4, 2) := by decide +kernel
theorem dX4_work_36 : decode cX4_work 36 = .ok (.aload_n 0, 1) := by decide +kernel
theorem dX4_work_37 : decode cX4_work 37 = .ok (.getfield 36, 3) := by decide +kernel
theorem dX4_work_40 : decode cX4_work 40 = .ok (.iload_n 3, 1) := by decide +kernel
theorem dX4_work_41 : decode cX4_work 41 = .ok (.iaload, 1) := by decide +kernel
theorem dX4_work_42 : decode cX4_work 42 = .ok (.istore 5, 2) := by decide +kernel
theorem dX4_work_44 : decode cX4_work 44 = .ok (.aload_n 0, 1) := by decide +kernel
theorem dX4_work_45 : decode cX4_work 45 = .ok (.getfield 39, 3) := by decide +kernel
theorem dX4_work_48 : decode cX4_work 48 = .ok (.iload_n 3, 1) := by decide +kernel
theorem dX4_work_49 : decode cX4_work 49 = .ok (.iaload, 1) := by decide +kernel
theorem dX4_work_50 : decode cX4_work 50 = .ok (.istore 6, 2) := by decide +kernel
theorem dX4_work_52 : decode cX4_work 52 = .ok (.aload 4, 2) := by decide +kernel
theorem dX4_work_54 : decode cX4_work 54 = .ok (.ifnull 13, 3) := by decide +kernel
theorem dX4_work_57 : decode cX4_work 57 = .ok (.aload_n 0, 1) := by decide +kernel
theorem dX4_work_58 : decode cX4_work 58 = .ok (.getfield 26, 3) := by decide +kernel
theorem dX4_work_61 : decode cX4_work 61 = .ok (.iload_n 3, 1) := by decide +kernel
theorem dX4_work_62 : decode cX4_work 62 = .ok (.iaload, 1) := by decide +kernel
theorem dX4_work_63 : decode cX4_work 63 = .ok (.iconst 3, 1) := by decide +kernel
theorem dX4_work_64 : decode cX4_work 64 = .ok (.if_icmp .ne 14, 3) := by decide +kernel
theorem dX4_work_67 : decode cX4_work 67 = .ok (.aload_n 0, 1) := by decide +kernel
theorem dX4_work_68 : decode cX4_work 68 = .ok (.iload_n 3, 1) := by decide +kernel
theorem dX4_work_69 : decode cX4_work 69 = .ok (.iload 5, 2) := by decide +kernel
theorem dX4_work_71 : decode cX4_work 71 = .ok (.invokevirtual 100, 3) := by decide +kernel
theorem dX4_work_74 : decode cX4_work 74 = .ok (.istore_n 1, 1) := by decide +kernel
theorem dX4_work_75 : decode cX4_work 75 = .ok (.goto 166, 3) := by decide +kernel
theorem dX4_work_78 : decode cX4_work 78 = .ok (.aload_n 0, 1) := by decide +kernel
theorem dX4_work_79 : decode cX4_work 79 = .ok (.getfield 26, 3) := by decide +kernel
theorem dX4_work_82 : decode cX4_work 82 = .ok (.iload_n 3, 1) := by decide +kernel
theorem dX4_work_83 : decode cX4_work 83 = .ok (.iaload, 1) := by decide +kernel
theorem dX4_work_84 : decode cX4_work 84 = .ok (.iconst 1, 1) := by decide +kernel
theorem dX4_work_85 : decode cX4_work 85 = .ok (.if_icmp .ne 16, 3) := by decide +kernel
theorem dX4_work_88 : decode cX4_work 88 = .ok (.aload_n 0, 1) := by decide +kernel
theorem dX4_work_89 : decode cX4_work 89 = .ok (.iload_n 3, 1) := by decide +kernel
theorem dX4_work_90 : decode cX4_work 90 = .ok (.aload 4, 2) := by decide +kernel
theorem dX4_work_92 : decode cX4_work 92 = .ok (.iload 5, 2) := by decide +kernel
theorem dX4_work_94 : decode cX4_work 94 = .ok (.invokevirtual 104, 3) := by decide +kernel
theorem dX4_work_97 : decode cX4_work 97 = .ok (.istore_n 1, 1) := by decide +kernel
theorem dX4_work_98 : decode cX4_work 98 = .ok (.goto 143, 3) := by decide +kernel
theorem dX4_work_101 : decode cX4_work 101 = .ok (.aload_n 0, 1) := by decide +kernel
theorem dX4_work_102 : decode cX4_work 102 = .ok (.getfield 26, 3) := by decide +kernel
theorem dX4_work_105 : decode cX4_work 105 = .ok (.iload_n 3, 1) := by decide +kernel
theorem dX4_work_106 : decode cX4_work 106 = .ok (.iaload, 1) := by decide +kernel
theorem dX4_work_107 : decode cX4_work 107 = .ok (.iconst 2, 1) := by decide +kernel
theorem dX4_work_108 : decode cX4_work 108 = .ok (.if_icmp .ne 16, 3) := by decide +kernel
theorem dX4_work_111 : decode cX4_work 111 = .ok (.aload_n 0, 1) := by decide +kernel
theorem dX4_work_112 : decode cX4_work 112 = .ok (.iload_n 3, 1) := by decide +kernel
theorem dX4_work_113 : decode cX4_work 113 = .ok (.aload 4, 2) := by decide +kernel
theorem dX4_work_115 : decode cX4_work 115 = .ok (.iload 5, 2) := by decide +kernel
theorem dX4_work_117 : decode cX4_work 117 = .ok (.invokevirtual 108, 3) := by decide +kernel
theorem dX4_work_120 : decode cX4_work 120 = .ok (.istore_n 1, 1) := by decide +kernel
theorem dX4_work_121 : decode cX4_work 121 = .ok (.goto 120, 3) := by decide +kernel
theorem dX4_work_124 : decode cX4_work 124 = .ok (.aload_n 0, 1) := by decide +kernel
theorem dX4_work_125 : decode cX4_work 125 = .ok (.getfield 26, 3) := by decide +kernel
theorem dX4_work_128 : decode cX4_work 128 = .ok (.iload_n 3, 1) := by decide +kernel
theorem dX4_work_129 : decode cX4_work 129 = .ok (.iaload, 1) := by decide +kernel
theorem dX4_work_130 : decode cX4_work 130 = .ok (.iconst 4, 1) := by decide +kernel
theorem dX4_work_131 : decode cX4_work 131 = .ok (.if_icmp .ne 41, 3) := by decide +kernel
theorem dX4_work_134 : decode cX4_work 134 = .ok (.iload 6, 2) := by decide +kernel
theorem dX4_work_136 : decode cX4_work 136 = .ok (.aload 4, 2) := by decide +kernel
theorem dX4_work_138 : decode cX4_work 138 = .ok (.getfield 111, 3) := by decide +kernel
theorem dX4_work_141 : decode cX4_work 141 = .ok (.if_icmp .ge 31, 3) := by decide +kernel
theorem dX4_work_144 : decode cX4_work 144 = .ok (.aload_n 0, 1) := by decide +kernel
theorem dX4_work_145 : decode cX4_work 145 = .ok (.getfield 39, 3) := by decide +kernel
theorem dX4_work_148 : decode cX4_work 148 = .ok (.iload_n 3, 1) := by decide +kernel
theorem dX4_work_149 : decode cX4_work 149 = .ok (.dup2, 1) := by decide +kernel
theorem dX4_work_150 : decode cX4_work 150 = .ok (.iaload, 1) := by decide +kernel
theorem dX4_work_151 : decode cX4_work 151 = .ok (.iconst 1, 1) := by decide +kernel
theorem dX4_work_152 : decode cX4_work 152 = .ok (.iadd, 1) := by decide +kernel
theorem dX4_work_153 : decode cX4_work 153 = .ok (.iastore, 1) := by decide +kernel
theorem dX4_work_154 : decode cX4_work 154 = .ok (.aload_n 0, 1) := by decide +kernel
theorem dX4_work_155 : decode cX4_work 155 = .ok (.aload 4, 2) := by decide +kernel
theorem dX4_work_157 : decode cX4_work 157 = .ok (.aload 4, 2) := by decide +kernel
theorem dX4_work_159 : decode cX4_work 159 = .ok (.iload 6, 2) := by decide +kernel
theorem dX4_work_161 : decode cX4_work 161 = .ok (.invokevirtual 114, 3) := by decide +kernel
theorem dX4_work_164 : decode cX4_work 164 = .ok (.iconst (-1), 1) := by decide +kernel
theorem dX4_work_165 : decode cX4_work 165 = .ok (.invokevirtual 118, 3) := by decide +kernel
theorem dX4_work_168 : decode cX4_work 168 = .ok (.istore_n 1, 1) := by decide +kernel
theorem dX4_work_169 : decode cX4_work 169 = .ok (.goto 72, 3) := by decide +kernel
theorem dX4_work_172 : decode cX4_work 172 = .ok (.aload_n 0, 1) := by decide +kernel
theorem dX4_work_173 : decode cX4_work 173 = .ok (.getfield 26, 3) := by decide +kernel
theorem dX4_work_176 : decode cX4_work 176 = .ok (.iload_n 3, 1) := by decide +kernel
theorem dX4_work_177 : decode cX4_work 177 = .ok (.iaload, 1) := by decide +kernel
theorem dX4_work_178 : decode cX4_work 178 = .ok (.ifCond .ne 29, 3) := by decide +kernel
theorem dX4_work_181 : decode cX4_work 181 = .ok (.iload 6, 2) := by decide +kernel
theorem dX4_work_183 : decode cX4_work 183 = .ok (.aload 4, 2) := by decide +kernel
theorem dX4_work_185 : decode cX4_work 185 = .ok (.getfield 121, 3) := by decide +kernel
theorem dX4_work_188 : decode cX4_work 188 = .ok (.iload 5, 2) := by decide +kernel
theorem dX4_work_190 : decode cX4_work 190 = .ok (.iaload, 1) := by decide +kernel
theorem dX4_work_191 : decode cX4_work 191 = .ok (.if_icmp .ge 16, 3) := by decide +kernel
theorem dX4_work_194 : decode cX4_work 194 = .ok (.aload_n 0, 1) := by decide +kernel
theorem dX4_work_195 : decode cX4_work 195 = .ok (.iload_n 3, 1) := by decide +kernel
theorem dX4_work_196 : decode cX4_work 196 = .ok (.aload 4, 2) := by decide +kernel
theorem dX4_work_198 : decode cX4_work 198 = .ok (.iload 5, 2) := by decide +kernel
theorem dX4_work_200 : decode cX4_work 200 = .ok (.invokevirtual 124, 3) := by decide +kernel
theorem dX4_work_203 : decode cX4_work 203 = .ok (.istore_n 1, 1) := by decide +kernel
theorem dX4_work_204 : decode cX4_work 204 = .ok (.goto 37, 3) := by decide +kernel
theorem dX4_work_207 : decode cX4_work 207 = .ok (.aload_n 0, 1) := by decide +kernel
theorem dX4_work_208 : decode cX4_work 208 = .ok (.iload_n 3, 1) := by decide +kernel
theorem dX4_work_209 : decode cX4_work 209 = .ok (.putfield 75, 3) := by decide +kernel
theorem dX4_work_212 : decode cX4_work 212 = .ok (.aload_n 0, 1) := by decide +kernel
theorem dX4_work_213 : decode cX4_work 213 = .ok (.getfield 26, 3) := by decide +kernel
theorem dX4_work_216 : decode cX4_work 216 = .ok (.iload_n 3, 1) := by decide +kernel
theorem dX4_work_217 : decode cX4_work 217 = .ok (.iaload, 1) := by decide +kernel
theorem dX4_work_218 : decode cX4_work 218 = .ok (.iconst 4, 1) := by decide +kernel
theorem dX4_work_219 : decode cX4_work 219 = .ok (.if_icmp .ne 7, 3) := by decide +kernel
theorem dX4_work_222 : decode cX4_work 222 = .ok (.iconst 0, 1) := by decide +kernel
theorem dX4_work_223 : decode cX4_work 223 = .ok (.goto 17, 3) := by decide +kernel
theorem dX4_work_226 : decode cX4_work 226 = .ok (.aload_n 0, 1) := by decide +kernel
theorem dX4_work_227 : decode cX4_work 227 = .ok (.aload 4, 2) := by decide +kernel
theorem dX4_work_229 : decode cX4_work 229 = .ok (.iload 5, 2) := by decide +kernel
theorem dX4_work_231 : decode cX4_work 231 = .ok (.aload_n 0, 1) := by decide +kernel
theorem dX4_work_232 : decode cX4_work 232 = .ok (.getfield 42, 3) := by decide +kernel
theorem dX4_work_235 : decode cX4_work 235 = .ok (.iload_n 3, 1) := by decide +kernel
theorem dX4_work_236 : decode cX4_work 236 = .ok (.iaload, 1) := by decide +kernel
theorem dX4_work_237 : decode cX4_work 237 = .ok (.invokevirtual 118, 3) := by decide +kernel
theorem dX4_work_240 : decode cX4_work 240 = .ok (.istore_n 1, 1) := by decide +kernel
theorem dX4_work_241 : decode cX4_work 241 = .ok (.iinc 2 1, 3) := by decide +kernel
theorem dX4_work_244 : decode cX4_work 244 = .ok (.goto (-240), 3) := by decide +kernel
theorem dX4_work_247 : decode cX4_work 247 = .ok (.iload_n 1, 1) := by decide +kernel
theorem dX4_work_248 : decode cX4_work 248 = .ok (.ifCond .ne 15, 3) := by decide +kernel
theorem dX4_work_251 : decode cX4_work 251 = .ok (.aload_n 0, 1) := by decide +kernel
theorem dX4_work_252 : decode cX4_work 252 = .ok (.getfield 75, 3) := by decide +kernel
theorem dX4_work_255 : decode cX4_work 255 = .ok (.ifCond .le 8, 3) := by decide +kernel
theorem dX4_work_258 : decode cX4_work 258 = .ok (.bipush 9, 2) := by decide +kernel
theorem dX4_work_260 : decode cX4_work 260 = .ok (.goto 4, 3) := by decide +kernel
theorem dX4_work_263 : decode cX4_work 263 = .ok (.iload_n 1, 1) := by decide +kernel
theorem dX4_work_264 : decode cX4_work 264 = .ok (.ireturn, 1) := by decide +kernel
theorem dX4_nextOperand_0 : decode cX4_nextOperand 0 = .ok (.aload_n 2, 1) := by decide +kernel
theorem dX4_nextOperand_1 : decode cX4_nextOperand 1 = .ok (.iload_n 3, 1) := by decide +kernel
theorem dX4_nextOperand_2 : decode cX4_nextOperand 2 = .ok (.aload_n 0, 1) := by decide +kernel
theorem dX4_nextOperand_3 : decode cX4_nextOperand 3 = .ok (.getfield 39, 3) := by decide +kernel
theorem dX4_nextOperand_6 : decode cX4_nextOperand 6 = .ok (.iload_n 1, 1) := by decide +kernel
theorem dX4_nextOperand_7 : decode cX4_nextOperand 7 = .ok (.iaload, 1) := by decide +kernel
theorem dX4_nextOperand_8 : decode cX4_nextOperand 8 = .ok (.invokevirtual 127, 3) := by decide +kernel
theorem dX4_nextOperand_11 : decode cX4_nextOperand 11 = .ok (.istore 4, 2) := by decide +kernel
theorem dX4_nextOperand_13 : decode cX4_nextOperand 13 = .ok (.aload_n 0, 1) := by decide +kernel
theorem dX4_nextOperand_14 : decode cX4_nextOperand 14 = .ok (.getfield 39, 3) := by decide +kernel
theorem dX4_nextOperand_17 : decode cX4_nextOperand 17 = .ok (.iload_n 1, 1) := by decide +kernel
theorem dX4_nextOperand_18 : decode cX4_nextOperand 18 = .ok (.dup2, 1) := by decide +kernel
theorem dX4_nextOperand_19 : decode cX4_nextOperand 19 = .ok (.iaload, 1) := by decide +kernel
theorem dX4_nextOperand_20 : decode cX4_nextOperand 20 = .ok (.iconst 1, 1) := by decide +kernel
theorem dX4_nextOperand_21 : decode cX4_nextOperand 21 = .ok (.iadd, 1) := by decide +kernel
theorem dX4_nextOperand_22 : decode cX4_nextOperand 22 = .ok (.iastore, 1) := by decide +kernel
theorem dX4_nextOperand_23 : decode cX4_nextOperand 23 = .ok (.aload_n 0, 1) := by decide +kernel
theorem dX4_nextOperand_24 : decode cX4_nextOperand 24 = .ok (.aload_n 2, 1) := by decide +kernel
theorem dX4_nextOperand_25 : decode cX4_nextOperand 25 = .ok (.iload 4, 2) := by decide +kernel
theorem dX4_nextOperand_27 : decode cX4_nextOperand 27 = .ok (.aload_n 0, 1) := by decide +kernel
theorem dX4_nextOperand_28 : decode cX4_nextOperand 28 = .ok (.getfield 42, 3) := by decide +kernel
theorem dX4_nextOperand_31 : decode cX4_nextOperand 31 = .ok (.iload_n 1, 1) := by decide +kernel
theorem dX4_nextOperand_32 : decode cX4_nextOperand 32 = .ok (.iaload, 1) := by decide +kernel
theorem dX4_nextOperand_33 : decode cX4_nextOperand 33 = .ok (.invokevirtual 87, 3) := by decide +kernel
theorem dX4_nextOperand_36 : decode cX4_nextOperand 36 = .ok (.ireturn, 1) := by decide +kernel
theorem dX4_countNode_0 : decode cX4_countNode 0 = .ok (.aload_n 0, 1) := by decide +kernel
theorem dX4_countNode_1 : decode cX4_countNode 1 = .ok (.getfield 72, 3) := by decide +kernel
theorem dX4_countNode_4 : decode cX4_countNode 4 = .ok (.sipush 200, 3) := by decide +kernel
theorem dX4_countNode_7 : decode cX4_countNode 7 = .ok (.if_icmp .lt 6, 3) := by decide +kernel
theorem dX4_countNode_10 : decode cX4_countNode 10 = .ok (.bipush 9, 2) := by decide +kernel
theorem dX4_countNode_12 : decode cX4_countNode 12 = .ok (.ireturn, 1) := by decide +kernel
theorem dX4_countNode_13 : decode cX4_countNode 13 = .ok (.aload_n 0, 1) := by decide +kernel
theorem dX4_countNode_14 : decode cX4_countNode 14 = .ok (.dup, 1) := by decide +kernel
theorem dX4_countNode_15 : decode cX4_countNode 15 = .ok (.getfield 72, 3) := by decide +kernel
theorem dX4_countNode_18 : decode cX4_countNode 18 = .ok (.iconst 1, 1) := by decide +kernel
theorem dX4_countNode_19 : decode cX4_countNode 19 = .ok (.iadd, 1) := by decide +kernel
theorem dX4_countNode_20 : decode cX4_countNode 20 = .ok (.putfield 72, 3) := by decide +kernel
theorem dX4_countNode_23 : decode cX4_countNode 23 = .ok (.iconst 0, 1) := by decide +kernel
theorem dX4_countNode_24 : decode cX4_countNode 24 = .ok (.ireturn, 1) := by decide +kernel
theorem dX4_give_0 : decode cX4_give 0 = .ok (.aload_n 0, 1) := by decide +kernel
theorem dX4_give_1 : decode cX4_give 1 = .ok (.getfield 72, 3) := by decide +kernel
theorem dX4_give_4 : decode cX4_give 4 = .ok (.sipush 200, 3) := by decide +kernel
theorem dX4_give_7 : decode cX4_give 7 = .ok (.if_icmp .ge 13, 3) := by decide +kernel
theorem dX4_give_10 : decode cX4_give 10 = .ok (.aload_n 0, 1) := by decide +kernel
theorem dX4_give_11 : decode cX4_give 11 = .ok (.getfield 68, 3) := by decide +kernel
theorem dX4_give_14 : decode cX4_give 14 = .ok (.sipush 240, 3) := by decide +kernel
theorem dX4_give_17 : decode cX4_give 17 = .ok (.if_icmp .lt 6, 3) := by decide +kernel
theorem dX4_give_20 : decode cX4_give 20 = .ok (.bipush 9, 2) := by decide +kernel
theorem dX4_give_22 : decode cX4_give 22 = .ok (.ireturn, 1) := by decide +kernel
theorem dX4_give_23 : decode cX4_give 23 = .ok (.aload_n 0, 1) := by decide +kernel
theorem dX4_give_24 : decode cX4_give 24 = .ok (.dup, 1) := by decide +kernel
theorem dX4_give_25 : decode cX4_give 25 = .ok (.getfield 72, 3) := by decide +kernel
theorem dX4_give_28 : decode cX4_give 28 = .ok (.iconst 1, 1) := by decide +kernel
theorem dX4_give_29 : decode cX4_give 29 = .ok (.iadd, 1) := by decide +kernel
theorem dX4_give_30 : decode cX4_give 30 = .ok (.putfield 72, 3) := by decide +kernel
theorem dX4_give_33 : decode cX4_give 33 = .ok (.aload_n 1, 1) := by decide +kernel
theorem dX4_give_34 : decode cX4_give 34 = .ok (.getfield 130, 3) := by decide +kernel
theorem dX4_give_37 : decode cX4_give 37 = .ok (.iload_n 2, 1) := by decide +kernel
theorem dX4_give_38 : decode cX4_give 38 = .ok (.iaload, 1) := by decide +kernel
theorem dX4_give_39 : decode cX4_give 39 = .ok (.istore 4, 2) := by decide +kernel
theorem dX4_give_41 : decode cX4_give 41 = .ok (.aload_n 1, 1) := by decide +kernel
theorem dX4_give_42 : decode cX4_give 42 = .ok (.getfield 133, 3) := by decide +kernel
theorem dX4_give_45 : decode cX4_give 45 = .ok (.iload_n 2, 1) := by decide +kernel
theorem dX4_give_46 : decode cX4_give 46 = .ok (.iaload, 1) := by decide +kernel
theorem dX4_give_47 : decode cX4_give 47 = .ok (.tableswitch 76 0 2 #[25, 52, 60], 25) := by decide +kernel
theorem dX4_give_72 : decode cX4_give 72 = .ok (.aload_n 0, 1) := by decide +kernel
theorem dX4_give_73 : decode cX4_give 73 = .ok (.getfield 13, 3) := by decide +kernel
theorem dX4_give_76 : decode cX4_give 76 = .ok (.aload_n 0, 1) := by decide +kernel
theorem dX4_give_77 : decode cX4_give 77 = .ok (.getfield 68, 3) := by decide +kernel
theorem dX4_give_80 : decode cX4_give 80 = .ok (.aaload, 1) := by decide +kernel
theorem dX4_give_81 : decode cX4_give 81 = .ok (.iload 4, 2) := by decide +kernel
theorem dX4_give_83 : decode cX4_give 83 = .ok (.i2l, 1) := by decide +kernel
theorem dX4_give_84 : decode cX4_give 84 = .ok (.invokevirtual 136, 3) := by decide +kernel
theorem dX4_give_87 : decode cX4_give 87 = .ok (.aload_n 0, 1) := by decide +kernel
theorem dX4_give_88 : decode cX4_give 88 = .ok (.dup, 1) := by decide +kernel
theorem dX4_give_89 : decode cX4_give 89 = .ok (.getfield 68, 3) := by decide +kernel
theorem dX4_give_92 : decode cX4_give 92 = .ok (.iconst 1, 1) := by decide +kernel
theorem dX4_give_93 : decode cX4_give 93 = .ok (.iadd, 1) := by decide +kernel
theorem dX4_give_94 : decode cX4_give 94 = .ok (.putfield 68, 3) := by decide +kernel
theorem dX4_give_97 : decode cX4_give 97 = .ok (.iconst 0, 1) := by decide +kernel
theorem dX4_give_98 : decode cX4_give 98 = .ok (.ireturn, 1) := by decide +kernel
theorem dX4_give_99 : decode cX4_give 99 = .ok (.aload_n 0, 1) := by decide +kernel
theorem dX4_give_100 : decode cX4_give 100 = .ok (.iload 4, 2) := by decide +kernel
theorem dX4_give_102 : decode cX4_give 102 = .ok (.iload_n 3, 1) := by decide +kernel
theorem dX4_give_103 : decode cX4_give 103 = .ok (.invokevirtual 140, 3) := by decide +kernel
theorem dX4_give_106 : decode cX4_give 106 = .ok (.ireturn, 1) := by decide +kernel
theorem dX4_give_107 : decode cX4_give 107 = .ok (.aload_n 0, 1) := by decide +kernel
theorem dX4_give_108 : decode cX4_give 108 = .ok (.iload 4, 2) := by decide +kernel
theorem dX4_give_110 : decode cX4_give 110 = .ok (.bipush 97, 2) := by decide +kernel
theorem dX4_give_112 : decode cX4_give 112 = .ok (.isub, 1) := by decide +kernel
theorem dX4_give_113 : decode cX4_give 113 = .ok (.aload_n 1, 1) := by decide +kernel
theorem dX4_give_114 : decode cX4_give 114 = .ok (.getfield 121, 3) := by decide +kernel
theorem dX4_give_117 : decode cX4_give 117 = .ok (.iload_n 2, 1) := by decide +kernel
theorem dX4_give_118 : decode cX4_give 118 = .ok (.iaload, 1) := by decide +kernel
theorem dX4_give_119 : decode cX4_give 119 = .ok (.invokevirtual 143, 3) := by decide +kernel
theorem dX4_give_122 : decode cX4_give 122 = .ok (.ireturn, 1) := by decide +kernel
theorem dX4_give_123 : decode cX4_give 123 = .ok (.aload_n 0, 1) := by decide +kernel
theorem dX4_give_124 : decode cX4_give 124 = .ok (.getfield 60, 3) := by decide +kernel
theorem dX4_give_127 : decode cX4_give 127 = .ok (.iload 4, 2) := by decide +kernel
theorem dX4_give_129 : decode cX4_give 129 = .ok (.aload_n 1, 1) := by decide +kernel
theorem dX4_give_130 : decode cX4_give 130 = .ok (.getfield 146, 3) := by decide +kernel
theorem dX4_give_133 : decode cX4_give 133 = .ok (.iload_n 2, 1) := by decide +kernel
theorem dX4_give_134 : decode cX4_give 134 = .ok (.iaload, 1) := by decide +kernel
theorem dX4_give_135 : decode cX4_give 135 = .ok (.invokevirtual 149, 3) := by decide +kernel
theorem dX4_give_138 : decode cX4_give 138 = .ok (.istore 5, 2) := by decide +kernel
theorem dX4_give_140 : decode cX4_give 140 = .ok (.iload 5, 2) := by decide +kernel
theorem dX4_give_142 : decode cX4_give 142 = .ok (.bipush 100, 2) := by decide +kernel
theorem dX4_give_144 : decode cX4_give 144 = .ok (.if_icmp .lt 21, 3) := by decide +kernel
theorem dX4_give_147 : decode cX4_give 147 = .ok (.aload_n 0, 1) := by decide +kernel
theorem dX4_give_148 : decode cX4_give 148 = .ok (.iload 5, 2) := by decide +kernel
theorem dX4_give_150 : decode cX4_give 150 = .ok (.bipush 100, 2) := by decide +kernel
theorem dX4_give_152 : decode cX4_give 152 = .ok (.isub, 1) := by decide +kernel
theorem dX4_give_153 : decode cX4_give 153 = .ok (.aload_n 1, 1) := by decide +kernel
theorem dX4_give_154 : decode cX4_give 154 = .ok (.getfield 121, 3) := by decide +kernel
theorem dX4_give_157 : decode cX4_give 157 = .ok (.iload_n 2, 1) := by decide +kernel
theorem dX4_give_158 : decode cX4_give 158 = .ok (.iaload, 1) := by decide +kernel
theorem dX4_give_159 : decode cX4_give 159 = .ok (.invokevirtual 143, 3) := by decide +kernel
theorem dX4_give_162 : decode cX4_give 162 = .ok (.goto 9, 3) := by decide +kernel
theorem dX4_give_165 : decode cX4_give 165 = .ok (.aload_n 0, 1) := by decide +kernel
theorem dX4_give_166 : decode cX4_give 166 = .ok (.iload 5, 2) := by decide +kernel
theorem dX4_give_168 : decode cX4_give 168 = .ok (.invokevirtual 154, 3) := by decide +kernel
theorem dX4_give_171 : decode cX4_give 171 = .ok (.ireturn, 1) := by decide +kernel
theorem dX4_giveName_0 : decode cX4_giveName 0 = .ok (.aconst_null, 1) := by decide +kernel
theorem dX4_giveName_1 : decode cX4_giveName 1 = .ok (.astore_n 3, 1) := by decide +kernel
theorem dX4_giveName_2 : decode cX4_giveName 2 = .ok (.iload_n 2, 1) := by decide +kernel
theorem dX4_giveName_3 : decode cX4_giveName 3 = .ok (.istore 4, 2) := by decide +kernel
theorem dX4_giveName_5 : decode cX4_giveName 5 = .ok (.iconst 0, 1) := by decide +kernel
theorem dX4_giveName_6 : decode cX4_giveName 6 = .ok (.istore 5, 2) := by decide +kernel
theorem dX4_giveName_8 : decode cX4_giveName 8 = .ok (.iload 5, 2) := by decide +kernel
theorem dX4_giveName_10 : decode cX4_giveName 10 = .ok (.sipush 240, 3) := by decide +kernel
theorem dX4_giveName_13 : decode cX4_giveName 13 = .ok (.if_icmp .ge 148, 3) := by decide +kernel
theorem dX4_giveName_16 : decode cX4_giveName 16 = .ok (.iload 4, 2) := by decide +kernel
theorem dX4_giveName_18 : decode cX4_giveName 18 = .ok (.ifCond .lt 143, 3) := by decide +kernel
theorem dX4_giveName_21 : decode cX4_giveName 21 = .ok (.iload 4, 2) := by decide +kernel
theorem dX4_giveName_23 : decode cX4_giveName 23 = .ok (.aload_n 0, 1) := by decide +kernel
theorem dX4_giveName_24 : decode cX4_giveName 24 = .ok (.getfield 81, 3) := by decide +kernel
theorem dX4_giveName_27 : decode cX4_giveName 27 = .ok (.if_icmp .ge 134, 3) := by decide +kernel
theorem dX4_giveName_30 : decode cX4_giveName 30 = .ok (.aload_n 3, 1) := by decide +kernel
theorem dX4_giveName_31 : decode cX4_giveName 31 = .ok (.ifnonnull 130, 3) := by decide +kernel
theorem dX4_giveName_34 : decode cX4_giveName 34 = .ok (.aload_n 0, 1) := by decide +kernel
theorem dX4_giveName_35 : decode cX4_giveName 35 = .ok (.getfield 48, 3) := by decide +kernel
theorem dX4_giveName_38 : decode cX4_giveName 38 = .ok (.iload 4, 2) := by decide +kernel
theorem dX4_giveName_40 : decode cX4_giveName 40 = .ok (.iaload, 1) := by decide +kernel
theorem dX4_giveName_41 : decode cX4_giveName 41 = .ok (.ifCond .ne 10, 3) := by decide +kernel
theorem dX4_giveName_44 : decode cX4_giveName 44 = .ok (.iload_n 1, 1) := by decide +kernel
theorem dX4_giveName_45 : decode cX4_giveName 45 = .ok (.bipush 120, 2) := by decide +kernel
theorem dX4_giveName_47 : decode cX4_giveName 47 = .ok (.isub, 1) := by decide +kernel
theorem dX4_giveName_48 : decode cX4_giveName 48 = .ok (.goto 4, 3) := by decide +kernel
theorem dX4_giveName_51 : decode cX4_giveName 51 = .ok (.iconst 0, 1) := by decide +kernel
theorem dX4_giveName_52 : decode cX4_giveName 52 = .ok (.istore 6, 2) := by decide +kernel
theorem dX4_giveName_54 : decode cX4_giveName 54 = .ok (.aload_n 0, 1) := by decide +kernel
theorem dX4_giveName_55 : decode cX4_giveName 55 = .ok (.getfield 48, 3) := by decide +kernel
theorem dX4_giveName_58 : decode cX4_giveName 58 = .ok (.iload 4, 2) := by decide +kernel
theorem dX4_giveName_60 : decode cX4_giveName 60 = .ok (.iaload, 1) := by decide +kernel
theorem dX4_giveName_61 : decode cX4_giveName 61 = .ok (.ifCond .ne 23, 3) := by decide +kernel
theorem dX4_giveName_64 : decode cX4_giveName 64 = .ok (.iload 6, 2) := by decide +kernel
theorem dX4_giveName_66 : decode cX4_giveName 66 = .ok (.aload_n 0, 1) := by decide +kernel
theorem dX4_giveName_67 : decode cX4_giveName 67 = .ok (.getfield 51, 3) := by decide +kernel
theorem dX4_giveName_70 : decode cX4_giveName 70 = .ok (.iload 4, 2) := by decide +kernel
theorem dX4_giveName_72 : decode cX4_giveName 72 = .ok (.iaload, 1) := by decide +kernel
theorem dX4_giveName_73 : decode cX4_giveName 73 = .ok (.if_icmp .ge 7, 3) := by decide +kernel
theorem dX4_giveName_76 : decode cX4_giveName 76 = .ok (.iconst 1, 1) := by decide +kernel
theorem dX4_giveName_77 : decode cX4_giveName 77 = .ok (.goto 23, 3) := by decide +kernel
theorem dX4_giveName_80 : decode cX4_giveName 80 = .ok (.iconst 0, 1) := by decide +kernel
theorem dX4_giveName_81 : decode cX4_giveName 81 = .ok (.goto 19, 3) := by decide +kernel
theorem dX4_giveName_84 : decode cX4_giveName 84 = .ok (.aload_n 0, 1) := by decide +kernel
theorem dX4_giveName_85 : decode cX4_giveName 85 = .ok (.getfield 48, 3) := by decide +kernel
theorem dX4_giveName_88 : decode cX4_giveName 88 = .ok (.iload 4, 2) := by decide +kernel
theorem dX4_giveName_90 : decode cX4_giveName 90 = .ok (.iaload, 1) := by decide +kernel
theorem dX4_giveName_91 : decode cX4_giveName 91 = .ok (.iload_n 1, 1) := by decide +kernel
theorem dX4_giveName_92 : decode cX4_giveName 92 = .ok (.if_icmp .ne 7, 3) := by decide +kernel
theorem dX4_giveName_95 : decode cX4_giveName 95 = .ok (.iconst 1, 1) := by decide +kernel
theorem dX4_giveName_96 : decode cX4_giveName 96 = .ok (.goto 4, 3) := by decide +kernel
theorem dX4_giveName_99 : decode cX4_giveName 99 = .ok (.iconst 0, 1) := by decide +kernel
theorem dX4_giveName_100 : decode cX4_giveName 100 = .ok (.istore 7, 2) := by decide +kernel
theorem dX4_giveName_102 : decode cX4_giveName 102 = .ok (.aload_n 0, 1) := by decide +kernel
theorem dX4_giveName_103 : decode cX4_giveName 103 = .ok (.getfield 54, 3) := by decide +kernel
theorem dX4_giveName_106 : decode cX4_giveName 106 = .ok (.iload 4, 2) := by decide +kernel
theorem dX4_giveName_108 : decode cX4_giveName 108 = .ok (.iaload, 1) := by decide +kernel
theorem dX4_giveName_109 : decode cX4_giveName 109 = .ok (.iload 6, 2) := by decide +kernel
theorem dX4_giveName_111 : decode cX4_giveName 111 = .ok (.iadd, 1) := by decide +kernel
theorem dX4_giveName_112 : decode cX4_giveName 112 = .ok (.istore 8, 2) := by decide +kernel
theorem dX4_giveName_114 : decode cX4_giveName 114 = .ok (.iload 6, 2) := by decide +kernel
theorem dX4_giveName_116 : decode cX4_giveName 116 = .ok (.ifCond .lt 30, 3) := by decide +kernel
theorem dX4_giveName_119 : decode cX4_giveName 119 = .ok (.iload 7, 2) := by decide +kernel
theorem dX4_giveName_121 : decode cX4_giveName 121 = .ok (.ifCond .eq 25, 3) := by decide +kernel
theorem dX4_giveName_124 : decode cX4_giveName 124 = .ok (.iload 8, 2) := by decide +kernel
theorem dX4_giveName_126 : decode cX4_giveName 126 = .ok (.ifCond .lt 20, 3) := by decide +kernel
theorem dX4_giveName_129 : decode cX4_giveName 129 = .ok (.iload 8, 2) := by decide +kernel
theorem dX4_giveName_131 : decode cX4_giveName 131 = .ok (.aload_n 0, 1) := by decide +kernel
theorem dX4_giveName_132 : decode cX4_giveName 132 = .ok (.getfield 68, 3) := by decide +kernel
theorem dX4_giveName_135 : decode cX4_giveName 135 = .ok (.if_icmp .ge 11, 3) := by decide +kernel
theorem dX4_giveName_138 : decode cX4_giveName 138 = .ok (.aload_n 0, 1) := by decide +kernel
theorem dX4_giveName_139 : decode cX4_giveName 139 = .ok (.getfield 13, 3) := by decide +kernel
theorem dX4_giveName_142 : decode cX4_giveName 142 = .ok (.iload 8, 2) := by decide +kernel
theorem dX4_giveName_144 : decode cX4_giveName 144 = .ok (.aaload, 1) := by decide +kernel
theorem dX4_giveName_145 : decode cX4_giveName 145 = .ok (.astore_n 3, 1) := by decide +kernel
theorem dX4_giveName_146 : decode cX4_giveName 146 = .ok (.aload_n 0, 1) := by decide +kernel
theorem dX4_giveName_147 : decode cX4_giveName 147 = .ok (.getfield 57, 3) := by decide +kernel
theorem dX4_giveName_150 : decode cX4_giveName 150 = .ok (.iload 4, 2) := by decide +kernel
theorem dX4_giveName_152 : decode cX4_giveName 152 = .ok (.iaload, 1) := by decide +kernel
theorem dX4_giveName_153 : decode cX4_giveName 153 = .ok (.istore 4, 2) := by decide +kernel
theorem dX4_giveName_155 : decode cX4_giveName 155 = .ok (.iinc 5 1, 3) := by decide +kernel
theorem dX4_giveName_158 : decode cX4_giveName 158 = .ok (.goto (-150), 3) := by decide +kernel
theorem dX4_giveName_161 : decode cX4_giveName 161 = .ok (.iload_n 1, 1) := by decide +kernel
theorem dX4_giveName_162 : decode cX4_giveName 162 = .ok (.bipush 97, 2) := by decide +kernel
theorem dX4_giveName_164 : decode cX4_giveName 164 = .ok (.isub, 1) := by decide +kernel
theorem dX4_giveName_165 : decode cX4_giveName 165 = .ok (.istore 5, 2) := by decide +kernel
theorem dX4_giveName_167 : decode cX4_giveName 167 = .ok (.aload_n 3, 1) := by decide +kernel
theorem dX4_giveName_168 : decode cX4_giveName 168 = .ok (.ifnonnull 45, 3) := by decide +kernel
theorem dX4_giveName_171 : decode cX4_giveName 171 = .ok (.iload 5, 2) := by decide +kernel
theorem dX4_giveName_173 : decode cX4_giveName 173 = .ok (.ifCond .lt 40, 3) := by decide +kernel
theorem dX4_giveName_176 : decode cX4_giveName 176 = .ok (.iload 5, 2) := by decide +kernel
theorem dX4_giveName_178 : decode cX4_giveName 178 = .ok (.aload_n 0, 1) := by decide +kernel
theorem dX4_giveName_179 : decode cX4_giveName 179 = .ok (.getfield 60, 3) := by decide +kernel
theorem dX4_giveName_182 : decode cX4_giveName 182 = .ok (.getfield 157, 3) := by decide +kernel
theorem dX4_giveName_185 : decode cX4_giveName 185 = .ok (.arraylength, 1) := by decide +kernel
theorem dX4_giveName_186 : decode cX4_giveName 186 = .ok (.if_icmp .ge 27, 3) := by decide +kernel
theorem dX4_giveName_189 : decode cX4_giveName 189 = .ok (.aload_n 0, 1) := by decide +kernel
theorem dX4_giveName_190 : decode cX4_giveName 190 = .ok (.getfield 60, 3) := by decide +kernel
theorem dX4_giveName_193 : decode cX4_giveName 193 = .ok (.getfield 157, 3) := by decide +kernel
theorem dX4_giveName_196 : decode cX4_giveName 196 = .ok (.iload 5, 2) := by decide +kernel
theorem dX4_giveName_198 : decode cX4_giveName 198 = .ok (.baload, 1) := by decide +kernel
theorem dX4_giveName_199 : decode cX4_giveName 199 = .ok (.ifCond .eq 14, 3) := by decide +kernel
theorem dX4_giveName_202 : decode cX4_giveName 202 = .ok (.aload_n 0, 1) := by decide +kernel
theorem dX4_giveName_203 : decode cX4_giveName 203 = .ok (.getfield 60, 3) := by decide +kernel
theorem dX4_giveName_206 : decode cX4_giveName 206 = .ok (.getfield 161, 3) := by decide +kernel
theorem dX4_giveName_209 : decode cX4_giveName 209 = .ok (.iload 5, 2) := by decide +kernel
theorem dX4_giveName_211 : decode cX4_giveName 211 = .ok (.aaload, 1) := by decide +kernel
theorem dX4_giveName_212 : decode cX4_giveName 212 = .ok (.astore_n 3, 1) := by decide +kernel
theorem dX4_giveName_213 : decode cX4_giveName 213 = .ok (.aload_n 3, 1) := by decide +kernel
theorem dX4_giveName_214 : decode cX4_giveName 214 = .ok (.ifnonnull 5, 3) := by decide +kernel
theorem dX4_giveName_217 : decode cX4_giveName 217 = .ok (.iconst 4, 1) := by decide +kernel
theorem dX4_giveName_218 : decode cX4_giveName 218 = .ok (.ireturn, 1) := by decide +kernel
theorem dX4_giveName_219 : decode cX4_giveName 219 = .ok (.aload_n 0, 1) := by decide +kernel
theorem dX4_giveName_220 : decode cX4_giveName 220 = .ok (.getfield 13, 3) := by decide +kernel
theorem dX4_giveName_223 : decode cX4_giveName 223 = .ok (.aload_n 0, 1) := by decide +kernel
theorem dX4_giveName_224 : decode cX4_giveName 224 = .ok (.getfield 68, 3) := by decide +kernel
theorem dX4_giveName_227 : decode cX4_giveName 227 = .ok (.aaload, 1) := by decide +kernel
theorem dX4_giveName_228 : decode cX4_giveName 228 = .ok (.aload_n 3, 1) := by decide +kernel
theorem dX4_giveName_229 : decode cX4_giveName 229 = .ok (.invokevirtual 164, 3) := by decide +kernel
theorem dX4_giveName_232 : decode cX4_giveName 232 = .ok (.aload_n 0, 1) := by decide +kernel
theorem dX4_giveName_233 : decode cX4_giveName 233 = .ok (.dup, 1) := by decide +kernel
theorem dX4_giveName_234 : decode cX4_giveName 234 = .ok (.getfield 68, 3) := by decide +kernel
theorem dX4_giveName_237 : decode cX4_giveName 237 = .ok (.iconst 1, 1) := by decide +kernel
theorem dX4_giveName_238 : decode cX4_giveName 238 = .ok (.iadd, 1) := by decide +kernel
theorem dX4_giveName_239 : decode cX4_giveName 239 = .ok (.putfield 68, 3) := by decide +kernel
theorem dX4_giveName_242 : decode cX4_giveName 242 = .ok (.iconst 0, 1) := by decide +kernel
theorem dX4_giveName_243 : decode cX4_giveName 243 = .ok (.ireturn, 1) := by decide +kernel
theorem dX4_meaningOf_0 : decode cX4_meaningOf 0 = .ok (.aload_n 1, 1) := by decide +kernel
theorem dX4_meaningOf_1 : decode cX4_meaningOf 1 = .ok (.getfield 133, 3) := by decide +kernel
theorem dX4_meaningOf_4 : decode cX4_meaningOf 4 = .ok (.iload_n 2, 1) := by decide +kernel
theorem dX4_meaningOf_5 : decode cX4_meaningOf 5 = .ok (.iaload, 1) := by decide +kernel
theorem dX4_meaningOf_6 : decode cX4_meaningOf 6 = .ok (.iconst 3, 1) := by decide +kernel
theorem dX4_meaningOf_7 : decode cX4_meaningOf 7 = .ok (.if_icmp .ne 25, 3) := by decide +kernel
theorem dX4_meaningOf_10 : decode cX4_meaningOf 10 = .ok (.aload_n 0, 1) := by decide +kernel
theorem dX4_meaningOf_11 : decode cX4_meaningOf 11 = .ok (.getfield 60, 3) := by decide +kernel
theorem dX4_meaningOf_14 : decode cX4_meaningOf 14 = .ok (.aload_n 1, 1) := by decide +kernel
theorem dX4_meaningOf_15 : decode cX4_meaningOf 15 = .ok (.getfield 130, 3) := by decide +kernel
theorem dX4_meaningOf_18 : decode cX4_meaningOf 18 = .ok (.iload_n 2, 1) := by decide +kernel
theorem dX4_meaningOf_19 : decode cX4_meaningOf 19 = .ok (.iaload, 1) := by decide +kernel
theorem dX4_meaningOf_20 : decode cX4_meaningOf 20 = .ok (.aload_n 1, 1) := by decide +kernel
theorem dX4_meaningOf_21 : decode cX4_meaningOf 21 = .ok (.getfield 146, 3) := by decide +kernel
theorem dX4_meaningOf_24 : decode cX4_meaningOf 24 = .ok (.iload_n 2, 1) := by decide +kernel
theorem dX4_meaningOf_25 : decode cX4_meaningOf 25 = .ok (.iaload, 1) := by decide +kernel
theorem dX4_meaningOf_26 : decode cX4_meaningOf 26 = .ok (.invokevirtual 149, 3) := by decide +kernel
theorem dX4_meaningOf_29 : decode cX4_meaningOf 29 = .ok (.goto 4, 3) := by decide +kernel
theorem dX4_meaningOf_32 : decode cX4_meaningOf 32 = .ok (.iconst (-1), 1) := by decide +kernel
theorem dX4_meaningOf_33 : decode cX4_meaningOf 33 = .ok (.ireturn, 1) := by decide +kernel
theorem dX4_operate_0 : decode cX4_operate 0 = .ok (.iload_n 1, 1) := by decide +kernel
theorem dX4_operate_1 : decode cX4_operate 1 = .ok (.bipush 11, 2) := by decide +kernel
theorem dX4_operate_3 : decode cX4_operate 3 = .ok (.if_icmp .lt 7, 3) := by decide +kernel
theorem dX4_operate_6 : decode cX4_operate 6 = .ok (.iconst 1, 1) := by decide +kernel
theorem dX4_operate_7 : decode cX4_operate 7 = .ok (.goto 4, 3) := by decide +kernel
theorem dX4_operate_10 : decode cX4_operate 10 = .ok (.iconst 2, 1) := by decide +kernel
theorem dX4_operate_11 : decode cX4_operate 11 = .ok (.istore_n 2, 1) := by decide +kernel
theorem dX4_operate_12 : decode cX4_operate 12 = .ok (.iload_n 1, 1) := by decide +kernel
theorem dX4_operate_13 : decode cX4_operate 13 = .ok (.ifCond .lt 11, 3) := by decide +kernel
theorem dX4_operate_16 : decode cX4_operate 16 = .ok (.aload_n 0, 1) := by decide +kernel
theorem dX4_operate_17 : decode cX4_operate 17 = .ok (.getfield 68, 3) := by decide +kernel
theorem dX4_operate_20 : decode cX4_operate 20 = .ok (.iload_n 2, 1) := by decide +kernel
theorem dX4_operate_21 : decode cX4_operate 21 = .ok (.if_icmp .ge 5, 3) := by decide +kernel
theorem dX4_operate_24 : decode cX4_operate 24 = .ok (.iconst 5, 1) := by decide +kernel
theorem dX4_operate_25 : decode cX4_operate 25 = .ok (.ireturn, 1) := by decide +kernel
theorem dX4_operate_26 : decode cX4_operate 26 = .ok (.aload_n 0, 1) := by decide +kernel
theorem dX4_operate_27 : decode cX4_operate 27 = .ok (.getfield 13, 3) := by decide +kernel
theorem dX4_operate_30 : decode cX4_operate 30 = .ok (.aload_n 0, 1) := by decide +kernel
theorem dX4_operate_31 : decode cX4_operate 31 = .ok (.getfield 68, 3) := by decide +kernel
theorem dX4_operate_34 : decode cX4_operate 34 = .ok (.iconst 1, 1) := by decide +kernel
theorem dX4_operate_35 : decode cX4_operate 35 = .ok (.isub, 1) := by decide +kernel
theorem dX4_operate_36 : decode cX4_operate 36 = .ok (.aaload, 1) := by decide +kernel
theorem dX4_operate_37 : decode cX4_operate 37 = .ok (.astore_n 3, 1) := by decide +kernel
theorem dX4_operate_38 : decode cX4_operate 38 = .ok (.aload_n 0, 1) := by decide +kernel
theorem dX4_operate_39 : decode cX4_operate 39 = .ok (.getfield 13, 3) := by decide +kernel
theorem dX4_operate_42 : decode cX4_operate 42 = .ok (.aload_n 0, 1) := by decide +kernel
theorem dX4_operate_43 : decode cX4_operate 43 = .ok (.getfield 68, 3) := by decide +kernel
theorem dX4_operate_46 : decode cX4_operate 46 = .ok (.iload_n 2, 1) := by decide +kernel
theorem dX4_operate_47 : decode cX4_operate 47 = .ok (.isub, 1) := by decide +kernel
theorem dX4_operate_48 : decode cX4_operate 48 = .ok (.aaload, 1) := by decide +kernel
theorem dX4_operate_49 : decode cX4_operate 49 = .ok (.astore 4, 2) := by decide +kernel
theorem dX4_operate_51 : decode cX4_operate 51 = .ok (.iload_n 1, 1) := by decide +kernel
theorem dX4_operate_52 : decode cX4_operate 52 = .ok (.aload 4, 2) := by decide +kernel
theorem dX4_operate_54 : decode cX4_operate 54 = .ok (.aload_n 3, 1) := by decide +kernel
theorem dX4_operate_55 : decode cX4_operate 55 = .ok (.invokestatic 168, 3) := by decide +kernel
theorem dX4_operate_58 : decode cX4_operate 58 = .ok (.istore 5, 2) := by decide +kernel
theorem dX4_operate_60 : decode cX4_operate 60 = .ok (.iload 5, 2) := by decide +kernel
theorem dX4_operate_62 : decode cX4_operate 62 = .ok (.ifCond .eq 6, 3) := by decide +kernel
theorem dX4_operate_65 : decode cX4_operate 65 = .ok (.iload 5, 2) := by decide +kernel
theorem dX4_operate_67 : decode cX4_operate 67 = .ok (.ireturn, 1) := by decide +kernel
theorem dX4_operate_68 : decode cX4_operate 68 = .ok (.iconst 1, 1) := by decide +kernel
theorem dX4_operate_69 : decode cX4_operate 69 = .ok (.istore 6, 2) := by decide +kernel
theorem dX4_operate_71 : decode cX4_operate 71 = .ok (.iload_n 1, 1) := by decide +kernel
theorem dX4_operate_72 : decode cX4_operate 72 = .ok (.tableswitch 365 0 12 #[68, 86, 104, 121, 138, 155, 180, 208, 232, 260, 290, 320, 342], 68) := by decide +kernel
theorem dX4_operate_140 : decode cX4_operate 140 = .ok (.aload_n 0, 1) := by decide +kernel
theorem dX4_operate_141 : decode cX4_operate 141 = .ok (.getfield 64, 3) := by decide +kernel
theorem dX4_operate_144 : decode cX4_operate 144 = .ok (.aload_n 0, 1) := by decide +kernel
theorem dX4_operate_145 : decode cX4_operate 145 = .ok (.getfield 22, 3) := by decide +kernel
theorem dX4_operate_148 : decode cX4_operate 148 = .ok (.aload 4, 2) := by decide +kernel
theorem dX4_operate_150 : decode cX4_operate 150 = .ok (.aload_n 3, 1) := by decide +kernel
theorem dX4_operate_151 : decode cX4_operate 151 = .ok (.iconst 0, 1) := by decide +kernel
theorem dX4_operate_152 : decode cX4_operate 152 = .ok (.invokevirtual 172, 3) := by decide +kernel
theorem dX4_operate_155 : decode cX4_operate 155 = .ok (.goto 301, 3) := by decide +kernel
theorem dX4_operate_158 : decode cX4_operate 158 = .ok (.aload_n 0, 1) := by decide +kernel
theorem dX4_operate_159 : decode cX4_operate 159 = .ok (.getfield 64, 3) := by decide +kernel
theorem dX4_operate_162 : decode cX4_operate 162 = .ok (.aload_n 0, 1) := by decide +kernel
theorem dX4_operate_163 : decode cX4_operate 163 = .ok (.getfield 22, 3) := by decide +kernel
theorem dX4_operate_166 : decode cX4_operate 166 = .ok (.aload 4, 2) := by decide +kernel
theorem dX4_operate_168 : decode cX4_operate 168 = .ok (.aload_n 3, 1) := by decide +kernel
theorem dX4_operate_169 : decode cX4_operate 169 = .ok (.iconst 1, 1) := by decide +kernel
theorem dX4_operate_170 : decode cX4_operate 170 = .ok (.invokevirtual 172, 3) := by decide +kernel
theorem dX4_operate_173 : decode cX4_operate 173 = .ok (.goto 283, 3) := by decide +kernel
theorem dX4_operate_176 : decode cX4_operate 176 = .ok (.aload_n 0, 1) := by decide +kernel
theorem dX4_operate_177 : decode cX4_operate 177 = .ok (.getfield 64, 3) := by decide +kernel
theorem dX4_operate_180 : decode cX4_operate 180 = .ok (.aload_n 0, 1) := by decide +kernel
theorem dX4_operate_181 : decode cX4_operate 181 = .ok (.getfield 22, 3) := by decide +kernel
theorem dX4_operate_184 : decode cX4_operate 184 = .ok (.aload 4, 2) := by decide +kernel
theorem dX4_operate_186 : decode cX4_operate 186 = .ok (.aload_n 3, 1) := by decide +kernel
theorem dX4_operate_187 : decode cX4_operate 187 = .ok (.invokevirtual 178, 3) := by decide +kernel
theorem dX4_operate_190 : decode cX4_operate 190 = .ok (.goto 266, 3) := by decide +kernel
theorem dX4_operate_193 : decode cX4_operate 193 = .ok (.aload_n 0, 1) := by decide +kernel
theorem dX4_operate_194 : decode cX4_operate 194 = .ok (.getfield 64, 3) := by decide +kernel
theorem dX4_operate_197 : decode cX4_operate 197 = .ok (.aload_n 0, 1) := by decide +kernel
theorem dX4_operate_198 : decode cX4_operate 198 = .ok (.getfield 22, 3) := by decide +kernel
theorem dX4_operate_201 : decode cX4_operate 201 = .ok (.aload 4, 2) := by decide +kernel
theorem dX4_operate_203 : decode cX4_operate 203 = .ok (.aload_n 3, 1) := by decide +kernel
theorem dX4_operate_204 : decode cX4_operate 204 = .ok (.invokevirtual 182, 3) := by decide +kernel
theorem dX4_operate_207 : decode cX4_operate 207 = .ok (.goto 249, 3) := by decide +kernel
theorem dX4_operate_210 : decode cX4_operate 210 = .ok (.aload_n 0, 1) := by decide +kernel
theorem dX4_operate_211 : decode cX4_operate 211 = .ok (.getfield 64, 3) := by decide +kernel
theorem dX4_operate_214 : decode cX4_operate 214 = .ok (.aload_n 0, 1) := by decide +kernel
theorem dX4_operate_215 : decode cX4_operate 215 = .ok (.getfield 22, 3) := by decide +kernel
theorem dX4_operate_218 : decode cX4_operate 218 = .ok (.aload 4, 2) := by decide +kernel
theorem dX4_operate_220 : decode cX4_operate 220 = .ok (.aload_n 3, 1) := by decide +kernel
theorem dX4_operate_221 : decode cX4_operate 221 = .ok (.invokevirtual 185, 3) := by decide +kernel
theorem dX4_operate_224 : decode cX4_operate 224 = .ok (.goto 232, 3) := by decide +kernel
theorem dX4_operate_227 : decode cX4_operate 227 = .ok (.aload_n 0, 1) := by decide +kernel
theorem dX4_operate_228 : decode cX4_operate 228 = .ok (.getfield 64, 3) := by decide +kernel
theorem dX4_operate_231 : decode cX4_operate 231 = .ok (.aload_n 0, 1) := by decide +kernel
theorem dX4_operate_232 : decode cX4_operate 232 = .ok (.getfield 22, 3) := by decide +kernel
theorem dX4_operate_235 : decode cX4_operate 235 = .ok (.aload 4, 2) := by decide +kernel
theorem dX4_operate_237 : decode cX4_operate 237 = .ok (.aload_n 3, 1) := by decide +kernel
theorem dX4_operate_238 : decode cX4_operate 238 = .ok (.getfield 188, 3) := by decide +kernel
theorem dX4_operate_241 : decode cX4_operate 241 = .ok (.invokevirtual 192, 3) := by decide +kernel
theorem dX4_operate_244 : decode cX4_operate 244 = .ok (.invokevirtual 196, 3) := by decide +kernel
theorem dX4_operate_247 : decode cX4_operate 247 = .ok (.istore 6, 2) := by decide +kernel
theorem dX4_operate_249 : decode cX4_operate 249 = .ok (.goto 207, 3) := by decide +kernel
theorem dX4_operate_252 : decode cX4_operate 252 = .ok (.aload_n 0, 1) := by decide +kernel
theorem dX4_operate_253 : decode cX4_operate 253 = .ok (.getfield 22, 3) := by decide +kernel
theorem dX4_operate_256 : decode cX4_operate 256 = .ok (.aload_n 0, 1) := by decide +kernel
theorem dX4_operate_257 : decode cX4_operate 257 = .ok (.getfield 64, 3) := by decide +kernel
theorem dX4_operate_260 : decode cX4_operate 260 = .ok (.aload 4, 2) := by decide +kernel
theorem dX4_operate_262 : decode cX4_operate 262 = .ok (.aload_n 3, 1) := by decide +kernel
theorem dX4_operate_263 : decode cX4_operate 263 = .ok (.invokevirtual 200, 3) := by decide +kernel
theorem dX4_operate_266 : decode cX4_operate 266 = .ok (.ifCond .ge 7, 3) := by decide +kernel
theorem dX4_operate_269 : decode cX4_operate 269 = .ok (.lconst 1, 1) := by decide +kernel
theorem dX4_operate_270 : decode cX4_operate 270 = .ok (.goto 4, 3) := by decide +kernel
theorem dX4_operate_273 : decode cX4_operate 273 = .ok (.lconst 0, 1) := by decide +kernel
theorem dX4_operate_274 : decode cX4_operate 274 = .ok (.invokevirtual 136, 3) := by decide +kernel
theorem dX4_operate_277 : decode cX4_operate 277 = .ok (.goto 179, 3) := by decide +kernel
theorem dX4_operate_280 : decode cX4_operate 280 = .ok (.aload_n 0, 1) := by decide +kernel
theorem dX4_operate_281 : decode cX4_operate 281 = .ok (.getfield 22, 3) := by decide +kernel
theorem dX4_operate_284 : decode cX4_operate 284 = .ok (.aload 4, 2) := by decide +kernel
theorem dX4_operate_286 : decode cX4_operate 286 = .ok (.aload_n 3, 1) := by decide +kernel
theorem dX4_operate_287 : decode cX4_operate 287 = .ok (.invokevirtual 204, 3) := by decide +kernel
theorem dX4_operate_290 : decode cX4_operate 290 = .ok (.ifCond .eq 7, 3) := by decide +kernel
theorem dX4_operate_293 : decode cX4_operate 293 = .ok (.lconst 1, 1) := by decide +kernel
theorem dX4_operate_294 : decode cX4_operate 294 = .ok (.goto 4, 3) := by decide +kernel
theorem dX4_operate_297 : decode cX4_operate 297 = .ok (.lconst 0, 1) := by decide +kernel
theorem dX4_operate_298 : decode cX4_operate 298 = .ok (.invokevirtual 136, 3) := by decide +kernel
theorem dX4_operate_301 : decode cX4_operate 301 = .ok (.goto 155, 3) := by decide +kernel
theorem dX4_operate_304 : decode cX4_operate 304 = .ok (.aload_n 0, 1) := by decide +kernel
theorem dX4_operate_305 : decode cX4_operate 305 = .ok (.getfield 22, 3) := by decide +kernel
theorem dX4_operate_308 : decode cX4_operate 308 = .ok (.aload_n 0, 1) := by decide +kernel
theorem dX4_operate_309 : decode cX4_operate 309 = .ok (.getfield 64, 3) := by decide +kernel
theorem dX4_operate_312 : decode cX4_operate 312 = .ok (.aload 4, 2) := by decide +kernel
theorem dX4_operate_314 : decode cX4_operate 314 = .ok (.aload_n 3, 1) := by decide +kernel
theorem dX4_operate_315 : decode cX4_operate 315 = .ok (.invokevirtual 200, 3) := by decide +kernel
theorem dX4_operate_318 : decode cX4_operate 318 = .ok (.ifCond .le 7, 3) := by decide +kernel
theorem dX4_operate_321 : decode cX4_operate 321 = .ok (.lconst 1, 1) := by decide +kernel
theorem dX4_operate_322 : decode cX4_operate 322 = .ok (.goto 4, 3) := by decide +kernel
theorem dX4_operate_325 : decode cX4_operate 325 = .ok (.lconst 0, 1) := by decide +kernel
theorem dX4_operate_326 : decode cX4_operate 326 = .ok (.invokevirtual 136, 3) := by decide +kernel
theorem dX4_operate_329 : decode cX4_operate 329 = .ok (.goto 127, 3) := by decide +kernel
theorem dX4_operate_332 : decode cX4_operate 332 = .ok (.aload_n 0, 1) := by decide +kernel
theorem dX4_operate_333 : decode cX4_operate 333 = .ok (.getfield 22, 3) := by decide +kernel
theorem dX4_operate_336 : decode cX4_operate 336 = .ok (.aload 4, 2) := by decide +kernel
theorem dX4_operate_338 : decode cX4_operate 338 = .ok (.invokevirtual 208, 3) := by decide +kernel
theorem dX4_operate_341 : decode cX4_operate 341 = .ok (.ifCond .ne 10, 3) := by decide +kernel
theorem dX4_operate_344 : decode cX4_operate 344 = .ok (.aload_n 3, 1) := by decide +kernel
theorem dX4_operate_345 : decode cX4_operate 345 = .ok (.invokevirtual 208, 3) := by decide +kernel
theorem dX4_operate_348 : decode cX4_operate 348 = .ok (.ifCond .eq 7, 3) := by decide +kernel
theorem dX4_operate_351 : decode cX4_operate 351 = .ok (.lconst 0, 1) := by decide +kernel
theorem dX4_operate_352 : decode cX4_operate 352 = .ok (.goto 4, 3) := by decide +kernel
theorem dX4_operate_355 : decode cX4_operate 355 = .ok (.lconst 1, 1) := by decide +kernel
theorem dX4_operate_356 : decode cX4_operate 356 = .ok (.invokevirtual 136, 3) := by decide +kernel
theorem dX4_operate_359 : decode cX4_operate 359 = .ok (.goto 97, 3) := by decide +kernel
theorem dX4_operate_362 : decode cX4_operate 362 = .ok (.aload_n 0, 1) := by decide +kernel
theorem dX4_operate_363 : decode cX4_operate 363 = .ok (.getfield 22, 3) := by decide +kernel
theorem dX4_operate_366 : decode cX4_operate 366 = .ok (.aload 4, 2) := by decide +kernel
theorem dX4_operate_368 : decode cX4_operate 368 = .ok (.invokevirtual 208, 3) := by decide +kernel
theorem dX4_operate_371 : decode cX4_operate 371 = .ok (.ifCond .eq 14, 3) := by decide +kernel
theorem dX4_operate_374 : decode cX4_operate 374 = .ok (.aload_n 3, 1) := by decide +kernel
theorem dX4_operate_375 : decode cX4_operate 375 = .ok (.invokevirtual 208, 3) := by decide +kernel
theorem dX4_operate_378 : decode cX4_operate 378 = .ok (.ifCond .eq 7, 3) := by decide +kernel
theorem dX4_operate_381 : decode cX4_operate 381 = .ok (.lconst 0, 1) := by decide +kernel
theorem dX4_operate_382 : decode cX4_operate 382 = .ok (.goto 4, 3) := by decide +kernel
theorem dX4_operate_385 : decode cX4_operate 385 = .ok (.lconst 1, 1) := by decide +kernel
theorem dX4_operate_386 : decode cX4_operate 386 = .ok (.invokevirtual 136, 3) := by decide +kernel
theorem dX4_operate_389 : decode cX4_operate 389 = .ok (.goto 67, 3) := by decide +kernel
theorem dX4_operate_392 : decode cX4_operate 392 = .ok (.aload_n 0, 1) := by decide +kernel
theorem dX4_operate_393 : decode cX4_operate 393 = .ok (.getfield 22, 3) := by decide +kernel
theorem dX4_operate_396 : decode cX4_operate 396 = .ok (.aload 4, 2) := by decide +kernel
theorem dX4_operate_398 : decode cX4_operate 398 = .ok (.invokevirtual 164, 3) := by decide +kernel
theorem dX4_operate_401 : decode cX4_operate 401 = .ok (.aload_n 0, 1) := by decide +kernel
theorem dX4_operate_402 : decode cX4_operate 402 = .ok (.getfield 22, 3) := by decide +kernel
theorem dX4_operate_405 : decode cX4_operate 405 = .ok (.getfield 188, 3) := by decide +kernel
theorem dX4_operate_408 : decode cX4_operate 408 = .ok (.invokevirtual 212, 3) := by decide +kernel
theorem dX4_operate_411 : decode cX4_operate 411 = .ok (.goto 45, 3) := by decide +kernel
theorem dX4_operate_414 : decode cX4_operate 414 = .ok (.aload_n 0, 1) := by decide +kernel
theorem dX4_operate_415 : decode cX4_operate 415 = .ok (.getfield 22, 3) := by decide +kernel
theorem dX4_operate_418 : decode cX4_operate 418 = .ok (.aload 4, 2) := by decide +kernel
theorem dX4_operate_420 : decode cX4_operate 420 = .ok (.invokevirtual 208, 3) := by decide +kernel
theorem dX4_operate_423 : decode cX4_operate 423 = .ok (.ifCond .eq 7, 3) := by decide +kernel
theorem dX4_operate_426 : decode cX4_operate 426 = .ok (.lconst 1, 1) := by decide +kernel
theorem dX4_operate_427 : decode cX4_operate 427 = .ok (.goto 4, 3) := by decide +kernel
theorem dX4_operate_430 : decode cX4_operate 430 = .ok (.lconst 0, 1) := by decide +kernel
theorem dX4_operate_431 : decode cX4_operate 431 = .ok (.invokevirtual 136, 3) := by decide +kernel
theorem dX4_operate_434 : decode cX4_operate 434 = .ok (.goto 22, 3) := by decide +kernel
theorem dX4_operate_437 : decode cX4_operate 437 = .ok (.aload_n 0, 1) := by decide +kernel
theorem dX4_operate_438 : decode cX4_operate 438 = .ok (.getfield 64, 3) := by decide +kernel
theorem dX4_operate_441 : decode cX4_operate 441 = .ok (.aload_n 0, 1) := by decide +kernel
theorem dX4_operate_442 : decode cX4_operate 442 = .ok (.getfield 22, 3) := by decide +kernel
theorem dX4_operate_445 : decode cX4_operate 445 = .ok (.aload 4, 2) := by decide +kernel
theorem dX4_operate_447 : decode cX4_operate 447 = .ok (.getfield 188, 3) := by decide +kernel
theorem dX4_operate_450 : decode cX4_operate 450 = .ok (.invokevirtual 192, 3) := by decide +kernel
theorem dX4_operate_453 : decode cX4_operate 453 = .ok (.invokevirtual 215, 3) := by decide +kernel
theorem dX4_operate_456 : decode cX4_operate 456 = .ok (.iload 6, 2) := by decide +kernel
theorem dX4_operate_458 : decode cX4_operate 458 = .ok (.ifCond .eq 14, 3) := by decide +kernel
theorem dX4_operate_461 : decode cX4_operate 461 = .ok (.aload_n 0, 1) := by decide +kernel
theorem dX4_operate_462 : decode cX4_operate 462 = .ok (.getfield 64, 3) := by decide +kernel
theorem dX4_operate_465 : decode cX4_operate 465 = .ok (.aload_n 0, 1) := by decide +kernel
theorem dX4_operate_466 : decode cX4_operate 466 = .ok (.getfield 22, 3) := by decide +kernel
theorem dX4_operate_469 : decode cX4_operate 469 = .ok (.invokevirtual 219, 3) := by decide +kernel
theorem dX4_operate_472 : decode cX4_operate 472 = .ok (.iload 6, 2) := by decide +kernel
theorem dX4_operate_474 : decode cX4_operate 474 = .ok (.ifCond .eq 13, 3) := by decide +kernel
theorem dX4_operate_477 : decode cX4_operate 477 = .ok (.aload_n 0, 1) := by decide +kernel
theorem dX4_operate_478 : decode cX4_operate 478 = .ok (.getfield 22, 3) := by decide +kernel
theorem dX4_operate_481 : decode cX4_operate 481 = .ok (.invokevirtual 222, 3) := by decide +kernel
theorem dX4_operate_484 : decode cX4_operate 484 = .ok (.ifCond .ne 5, 3) := by decide +kernel
theorem dX4_operate_487 : decode cX4_operate 487 = .ok (.iconst 3, 1) := by decide +kernel
theorem dX4_operate_488 : decode cX4_operate 488 = .ok (.ireturn, 1) := by decide +kernel
theorem dX4_operate_489 : decode cX4_operate 489 = .ok (.aload_n 0, 1) := by decide +kernel
theorem dX4_operate_490 : decode cX4_operate 490 = .ok (.dup, 1) := by decide +kernel
theorem dX4_operate_491 : decode cX4_operate 491 = .ok (.getfield 68, 3) := by decide +kernel
theorem dX4_operate_494 : decode cX4_operate 494 = .ok (.iload_n 2, 1) := by decide +kernel
theorem dX4_operate_495 : decode cX4_operate 495 = .ok (.iconst 1, 1) := by decide +kernel
theorem dX4_operate_496 : decode cX4_operate 496 = .ok (.isub, 1) := by decide +kernel
theorem dX4_operate_497 : decode cX4_operate 497 = .ok (.isub, 1) := by decide +kernel
theorem dX4_operate_498 : decode cX4_operate 498 = .ok (.putfield 68, 3) := by decide +kernel
theorem dX4_operate_501 : decode cX4_operate 501 = .ok (.aload 4, 2) := by decide +kernel
theorem dX4_operate_503 : decode cX4_operate 503 = .ok (.aload_n 0, 1) := by decide +kernel
theorem dX4_operate_504 : decode cX4_operate 504 = .ok (.getfield 22, 3) := by decide +kernel
theorem dX4_operate_507 : decode cX4_operate 507 = .ok (.invokevirtual 164, 3) := by decide +kernel
theorem dX4_operate_510 : decode cX4_operate 510 = .ok (.iconst 0, 1) := by decide +kernel
theorem dX4_operate_511 : decode cX4_operate 511 = .ok (.ireturn, 1) := by decide +kernel
theorem dX4_faultOf_0 : decode cX4_faultOf 0 = .ok (.aload_n 2, 1) := by decide +kernel
theorem dX4_faultOf_1 : decode cX4_faultOf 1 = .ok (.getfield 188, 3) := by decide +kernel
theorem dX4_faultOf_4 : decode cX4_faultOf 4 = .ok (.invokevirtual 192, 3) := by decide +kernel
theorem dX4_faultOf_7 : decode cX4_faultOf 7 = .ok (.istore_n 3, 1) := by decide +kernel
theorem dX4_faultOf_8 : decode cX4_faultOf 8 = .ok (.iload_n 0, 1) := by decide +kernel
theorem dX4_faultOf_9 : decode cX4_faultOf 9 = .ok (.lookupswitch 150 #[(3, 43), (4, 56), (5, 85), (13, 125)], 43) := by decide +kernel
theorem dX4_faultOf_52 : decode cX4_faultOf 52 = .ok (.aload_n 2, 1) := by decide +kernel
theorem dX4_faultOf_53 : decode cX4_faultOf 53 = .ok (.invokevirtual 208, 3) := by decide +kernel
theorem dX4_faultOf_56 : decode cX4_faultOf 56 = .ok (.ifCond .eq 7, 3) := by decide +kernel
theorem dX4_faultOf_59 : decode cX4_faultOf 59 = .ok (.iconst 1, 1) := by decide +kernel
theorem dX4_faultOf_60 : decode cX4_faultOf 60 = .ok (.goto 4, 3) := by decide +kernel
theorem dX4_faultOf_63 : decode cX4_faultOf 63 = .ok (.iconst 0, 1) := by decide +kernel
theorem dX4_faultOf_64 : decode cX4_faultOf 64 = .ok (.ireturn, 1) := by decide +kernel
theorem dX4_faultOf_65 : decode cX4_faultOf 65 = .ok (.aload_n 1, 1) := by decide +kernel
theorem dX4_faultOf_66 : decode cX4_faultOf 66 = .ok (.invokevirtual 225, 3) := by decide +kernel
theorem dX4_faultOf_69 : decode cX4_faultOf 69 = .ok (.ifCond .eq 10, 3) := by decide +kernel
theorem dX4_faultOf_72 : decode cX4_faultOf 72 = .ok (.aload_n 2, 1) := by decide +kernel
theorem dX4_faultOf_73 : decode cX4_faultOf 73 = .ok (.invokevirtual 225, 3) := by decide +kernel
theorem dX4_faultOf_76 : decode cX4_faultOf 76 = .ok (.ifCond .ne 5, 3) := by decide +kernel
theorem dX4_faultOf_79 : decode cX4_faultOf 79 = .ok (.iconst 2, 1) := by decide +kernel
theorem dX4_faultOf_80 : decode cX4_faultOf 80 = .ok (.ireturn, 1) := by decide +kernel
theorem dX4_faultOf_81 : decode cX4_faultOf 81 = .ok (.aload_n 2, 1) := by decide +kernel
theorem dX4_faultOf_82 : decode cX4_faultOf 82 = .ok (.invokevirtual 208, 3) := by decide +kernel
theorem dX4_faultOf_85 : decode cX4_faultOf 85 = .ok (.ifCond .eq 7, 3) := by decide +kernel
theorem dX4_faultOf_88 : decode cX4_faultOf 88 = .ok (.iconst 1, 1) := by decide +kernel
theorem dX4_faultOf_89 : decode cX4_faultOf 89 = .ok (.goto 4, 3) := by decide +kernel
theorem dX4_faultOf_92 : decode cX4_faultOf 92 = .ok (.iconst 0, 1) := by decide +kernel
theorem dX4_faultOf_93 : decode cX4_faultOf 93 = .ok (.ireturn, 1) := by decide +kernel
theorem dX4_faultOf_94 : decode cX4_faultOf 94 = .ok (.aload_n 2, 1) := by decide +kernel
theorem dX4_faultOf_95 : decode cX4_faultOf 95 = .ok (.invokevirtual 225, 3) := by decide +kernel
theorem dX4_faultOf_98 : decode cX4_faultOf 98 = .ok (.ifCond .ne 5, 3) := by decide +kernel
theorem dX4_faultOf_101 : decode cX4_faultOf 101 = .ok (.iconst 2, 1) := by decide +kernel
theorem dX4_faultOf_102 : decode cX4_faultOf 102 = .ok (.ireturn, 1) := by decide +kernel
theorem dX4_faultOf_103 : decode cX4_faultOf 103 = .ok (.aload_n 1, 1) := by decide +kernel
theorem dX4_faultOf_104 : decode cX4_faultOf 104 = .ok (.invokevirtual 208, 3) := by decide +kernel
theorem dX4_faultOf_107 : decode cX4_faultOf 107 = .ok (.ifCond .eq 9, 3) := by decide +kernel
theorem dX4_faultOf_110 : decode cX4_faultOf 110 = .ok (.iload_n 3, 1) := by decide +kernel
theorem dX4_faultOf_111 : decode cX4_faultOf 111 = .ok (.ifCond .ge 5, 3) := by decide +kernel
theorem dX4_faultOf_114 : decode cX4_faultOf 114 = .ok (.iconst 1, 1) := by decide +kernel
theorem dX4_faultOf_115 : decode cX4_faultOf 115 = .ok (.ireturn, 1) := by decide +kernel
theorem dX4_faultOf_116 : decode cX4_faultOf 116 = .ok (.iload_n 3, 1) := by decide +kernel
theorem dX4_faultOf_117 : decode cX4_faultOf 117 = .ok (.bipush 64, 2) := by decide +kernel
theorem dX4_faultOf_119 : decode cX4_faultOf 119 = .ok (.if_icmp .gt 9, 3) := by decide +kernel
theorem dX4_faultOf_122 : decode cX4_faultOf 122 = .ok (.iload_n 3, 1) := by decide +kernel
theorem dX4_faultOf_123 : decode cX4_faultOf 123 = .ok (.bipush (-64), 2) := by decide +kernel
theorem dX4_faultOf_125 : decode cX4_faultOf 125 = .ok (.if_icmp .ge 7, 3) := by decide +kernel
theorem dX4_faultOf_128 : decode cX4_faultOf 128 = .ok (.iconst 3, 1) := by decide +kernel
theorem dX4_faultOf_129 : decode cX4_faultOf 129 = .ok (.goto 4, 3) := by decide +kernel
theorem dX4_faultOf_132 : decode cX4_faultOf 132 = .ok (.iconst 0, 1) := by decide +kernel
theorem dX4_faultOf_133 : decode cX4_faultOf 133 = .ok (.ireturn, 1) := by decide +kernel
theorem dX4_faultOf_134 : decode cX4_faultOf 134 = .ok (.aload_n 1, 1) := by decide +kernel
theorem dX4_faultOf_135 : decode cX4_faultOf 135 = .ok (.invokevirtual 225, 3) := by decide +kernel
theorem dX4_faultOf_138 : decode cX4_faultOf 138 = .ok (.ifCond .eq 7, 3) := by decide +kernel
theorem dX4_faultOf_141 : decode cX4_faultOf 141 = .ok (.iload_n 3, 1) := by decide +kernel
theorem dX4_faultOf_142 : decode cX4_faultOf 142 = .ok (.ifCond .ge 5, 3) := by decide +kernel
theorem dX4_faultOf_145 : decode cX4_faultOf 145 = .ok (.iconst 2, 1) := by decide +kernel
theorem dX4_faultOf_146 : decode cX4_faultOf 146 = .ok (.ireturn, 1) := by decide +kernel
theorem dX4_faultOf_147 : decode cX4_faultOf 147 = .ok (.iload_n 3, 1) := by decide +kernel
theorem dX4_faultOf_148 : decode cX4_faultOf 148 = .ok (.bipush 30, 2) := by decide +kernel
theorem dX4_faultOf_150 : decode cX4_faultOf 150 = .ok (.if_icmp .le 7, 3) := by decide +kernel
theorem dX4_faultOf_153 : decode cX4_faultOf 153 = .ok (.iconst 3, 1) := by decide +kernel
theorem dX4_faultOf_154 : decode cX4_faultOf 154 = .ok (.goto 4, 3) := by decide +kernel
theorem dX4_faultOf_157 : decode cX4_faultOf 157 = .ok (.iconst 0, 1) := by decide +kernel
theorem dX4_faultOf_158 : decode cX4_faultOf 158 = .ok (.ireturn, 1) := by decide +kernel
theorem dX4_faultOf_159 : decode cX4_faultOf 159 = .ok (.iconst 0, 1) := by decide +kernel
theorem dX4_faultOf_160 : decode cX4_faultOf 160 = .ok (.ireturn, 1) := by decide +kernel
theorem dX4_openCall_0 : decode cX4_openCall 0 = .ok (.aload_n 0, 1) := by decide +kernel
theorem dX4_openCall_1 : decode cX4_openCall 1 = .ok (.getfield 60, 3) := by decide +kernel
theorem dX4_openCall_4 : decode cX4_openCall 4 = .ok (.iload_n 1, 1) := by decide +kernel
theorem dX4_openCall_5 : decode cX4_openCall 5 = .ok (.invokevirtual 228, 3) := by decide +kernel
theorem dX4_openCall_8 : decode cX4_openCall 8 = .ok (.iload_n 2, 1) := by decide +kernel
theorem dX4_openCall_9 : decode cX4_openCall 9 = .ok (.if_icmp .ne 11, 3) := by decide +kernel
theorem dX4_openCall_12 : decode cX4_openCall 12 = .ok (.iload_n 2, 1) := by decide +kernel
theorem dX4_openCall_13 : decode cX4_openCall 13 = .ok (.aload_n 0, 1) := by decide +kernel
theorem dX4_openCall_14 : decode cX4_openCall 14 = .ok (.getfield 68, 3) := by decide +kernel
theorem dX4_openCall_17 : decode cX4_openCall 17 = .ok (.if_icmp .le 5, 3) := by decide +kernel
theorem dX4_openCall_20 : decode cX4_openCall 20 = .ok (.iconst 5, 1) := by decide +kernel
theorem dX4_openCall_21 : decode cX4_openCall 21 = .ok (.ireturn, 1) := by decide +kernel
theorem dX4_openCall_22 : decode cX4_openCall 22 = .ok (.aload_n 0, 1) := by decide +kernel
theorem dX4_openCall_23 : decode cX4_openCall 23 = .ok (.getfield 78, 3) := by decide +kernel
theorem dX4_openCall_26 : decode cX4_openCall 26 = .ok (.bipush 12, 2) := by decide +kernel
theorem dX4_openCall_28 : decode cX4_openCall 28 = .ok (.if_icmp .lt 6, 3) := by decide +kernel
theorem dX4_openCall_31 : decode cX4_openCall 31 = .ok (.bipush 8, 2) := by decide +kernel
theorem dX4_openCall_33 : decode cX4_openCall 33 = .ok (.ireturn, 1) := by decide +kernel
theorem dX4_openCall_34 : decode cX4_openCall 34 = .ok (.aload_n 0, 1) := by decide +kernel
theorem dX4_openCall_35 : decode cX4_openCall 35 = .ok (.iconst 0, 1) := by decide +kernel
theorem dX4_openCall_36 : decode cX4_openCall 36 = .ok (.iload_n 2, 1) := by decide +kernel
theorem dX4_openCall_37 : decode cX4_openCall 37 = .ok (.aload_n 0, 1) := by decide +kernel
theorem dX4_openCall_38 : decode cX4_openCall 38 = .ok (.getfield 68, 3) := by decide +kernel
theorem dX4_openCall_41 : decode cX4_openCall 41 = .ok (.iload_n 2, 1) := by decide +kernel
theorem dX4_openCall_42 : decode cX4_openCall 42 = .ok (.isub, 1) := by decide +kernel
theorem dX4_openCall_43 : decode cX4_openCall 43 = .ok (.iconst (-1), 1) := by decide +kernel
theorem dX4_openCall_44 : decode cX4_openCall 44 = .ok (.invokevirtual 231, 3) := by decide +kernel
theorem dX4_openCall_47 : decode cX4_openCall 47 = .ok (.ifCond .ne 6, 3) := by decide +kernel
theorem dX4_openCall_50 : decode cX4_openCall 50 = .ok (.bipush 9, 2) := by decide +kernel
theorem dX4_openCall_52 : decode cX4_openCall 52 = .ok (.ireturn, 1) := by decide +kernel
theorem dX4_openCall_53 : decode cX4_openCall 53 = .ok (.aload_n 0, 1) := by decide +kernel
theorem dX4_openCall_54 : decode cX4_openCall 54 = .ok (.dup, 1) := by decide +kernel
theorem dX4_openCall_55 : decode cX4_openCall 55 = .ok (.getfield 78, 3) := by decide +kernel
theorem dX4_openCall_58 : decode cX4_openCall 58 = .ok (.iconst 1, 1) := by decide +kernel
theorem dX4_openCall_59 : decode cX4_openCall 59 = .ok (.iadd, 1) := by decide +kernel
theorem dX4_openCall_60 : decode cX4_openCall 60 = .ok (.putfield 78, 3) := by decide +kernel
theorem dX4_openCall_63 : decode cX4_openCall 63 = .ok (.aload_n 0, 1) := by decide +kernel
theorem dX4_openCall_64 : decode cX4_openCall 64 = .ok (.iconst 3, 1) := by decide +kernel
theorem dX4_openCall_65 : decode cX4_openCall 65 = .ok (.aconst_null, 1) := by decide +kernel
theorem dX4_openCall_66 : decode cX4_openCall 66 = .ok (.iload_n 1, 1) := by decide +kernel
theorem dX4_openCall_67 : decode cX4_openCall 67 = .ok (.aload_n 0, 1) := by decide +kernel
theorem dX4_openCall_68 : decode cX4_openCall 68 = .ok (.getfield 81, 3) := by decide +kernel
theorem dX4_openCall_71 : decode cX4_openCall 71 = .ok (.iconst 1, 1) := by decide +kernel
theorem dX4_openCall_72 : decode cX4_openCall 72 = .ok (.isub, 1) := by decide +kernel
theorem dX4_openCall_73 : decode cX4_openCall 73 = .ok (.invokevirtual 91, 3) := by decide +kernel
theorem dX4_openCall_76 : decode cX4_openCall 76 = .ok (.ireturn, 1) := by decide +kernel
theorem dX4_openScope_0 : decode cX4_openScope 0 = .ok (.aload_n 0, 1) := by decide +kernel
theorem dX4_openScope_1 : decode cX4_openScope 1 = .ok (.getfield 81, 3) := by decide +kernel
theorem dX4_openScope_4 : decode cX4_openScope 4 = .ok (.sipush 240, 3) := by decide +kernel
theorem dX4_openScope_7 : decode cX4_openScope 7 = .ok (.if_icmp .lt 5, 3) := by decide +kernel
theorem dX4_openScope_10 : decode cX4_openScope 10 = .ok (.iconst 0, 1) := by decide +kernel
theorem dX4_openScope_11 : decode cX4_openScope 11 = .ok (.ireturn, 1) := by decide +kernel
theorem dX4_openScope_12 : decode cX4_openScope 12 = .ok (.aload_n 0, 1) := by decide +kernel
theorem dX4_openScope_13 : decode cX4_openScope 13 = .ok (.getfield 48, 3) := by decide +kernel
theorem dX4_openScope_16 : decode cX4_openScope 16 = .ok (.aload_n 0, 1) := by decide +kernel
theorem dX4_openScope_17 : decode cX4_openScope 17 = .ok (.getfield 81, 3) := by decide +kernel
theorem dX4_openScope_20 : decode cX4_openScope 20 = .ok (.iload_n 1, 1) := by decide +kernel
theorem dX4_openScope_21 : decode cX4_openScope 21 = .ok (.iastore, 1) := by decide +kernel
theorem dX4_openScope_22 : decode cX4_openScope 22 = .ok (.aload_n 0, 1) := by decide +kernel
theorem dX4_openScope_23 : decode cX4_openScope 23 = .ok (.getfield 51, 3) := by decide +kernel
theorem dX4_openScope_26 : decode cX4_openScope 26 = .ok (.aload_n 0, 1) := by decide +kernel
theorem dX4_openScope_27 : decode cX4_openScope 27 = .ok (.getfield 81, 3) := by decide +kernel
theorem dX4_openScope_30 : decode cX4_openScope 30 = .ok (.iload_n 2, 1) := by decide +kernel
theorem dX4_openScope_31 : decode cX4_openScope 31 = .ok (.iastore, 1) := by decide +kernel
theorem dX4_openScope_32 : decode cX4_openScope 32 = .ok (.aload_n 0, 1) := by decide +kernel
theorem dX4_openScope_33 : decode cX4_openScope 33 = .ok (.getfield 54, 3) := by decide +kernel
theorem dX4_openScope_36 : decode cX4_openScope 36 = .ok (.aload_n 0, 1) := by decide +kernel
theorem dX4_openScope_37 : decode cX4_openScope 37 = .ok (.getfield 81, 3) := by decide +kernel
theorem dX4_openScope_40 : decode cX4_openScope 40 = .ok (.iload_n 3, 1) := by decide +kernel
theorem dX4_openScope_41 : decode cX4_openScope 41 = .ok (.iastore, 1) := by decide +kernel
theorem dX4_openScope_42 : decode cX4_openScope 42 = .ok (.aload_n 0, 1) := by decide +kernel
theorem dX4_openScope_43 : decode cX4_openScope 43 = .ok (.getfield 57, 3) := by decide +kernel
theorem dX4_openScope_46 : decode cX4_openScope 46 = .ok (.aload_n 0, 1) := by decide +kernel
theorem dX4_openScope_47 : decode cX4_openScope 47 = .ok (.getfield 81, 3) := by decide +kernel
theorem dX4_openScope_50 : decode cX4_openScope 50 = .ok (.iload 4, 2) := by decide +kernel
theorem dX4_openScope_52 : decode cX4_openScope 52 = .ok (.iastore, 1) := by decide +kernel
theorem dX4_openScope_53 : decode cX4_openScope 53 = .ok (.aload_n 0, 1) := by decide +kernel
theorem dX4_openScope_54 : decode cX4_openScope 54 = .ok (.dup, 1) := by decide +kernel
theorem dX4_openScope_55 : decode cX4_openScope 55 = .ok (.getfield 81, 3) := by decide +kernel
theorem dX4_openScope_58 : decode cX4_openScope 58 = .ok (.iconst 1, 1) := by decide +kernel
theorem dX4_openScope_59 : decode cX4_openScope 59 = .ok (.iadd, 1) := by decide +kernel
theorem dX4_openScope_60 : decode cX4_openScope 60 = .ok (.putfield 81, 3) := by decide +kernel
theorem dX4_openScope_63 : decode cX4_openScope 63 = .ok (.iconst 1, 1) := by decide +kernel
theorem dX4_openScope_64 : decode cX4_openScope 64 = .ok (.ireturn, 1) := by decide +kernel
theorem dX4_advanceCall_0 : decode cX4_advanceCall 0 = .ok (.aload_n 0, 1) := by decide +kernel
theorem dX4_advanceCall_1 : decode cX4_advanceCall 1 = .ok (.getfield 39, 3) := by decide +kernel
theorem dX4_advanceCall_4 : decode cX4_advanceCall 4 = .ok (.iload_n 1, 1) := by decide +kernel
theorem dX4_advanceCall_5 : decode cX4_advanceCall 5 = .ok (.iaload, 1) := by decide +kernel
theorem dX4_advanceCall_6 : decode cX4_advanceCall 6 = .ok (.istore_n 3, 1) := by decide +kernel
theorem dX4_advanceCall_7 : decode cX4_advanceCall 7 = .ok (.iload_n 3, 1) := by decide +kernel
theorem dX4_advanceCall_8 : decode cX4_advanceCall 8 = .ok (.iconst 2, 1) := by decide +kernel
theorem dX4_advanceCall_9 : decode cX4_advanceCall 9 = .ok (.idiv, 1) := by decide +kernel
theorem dX4_advanceCall_10 : decode cX4_advanceCall 10 = .ok (.istore 4, 2) := by decide +kernel
theorem dX4_advanceCall_12 : decode cX4_advanceCall 12 = .ok (.aload_n 0, 1) := by decide +kernel
theorem dX4_advanceCall_13 : decode cX4_advanceCall 13 = .ok (.getfield 42, 3) := by decide +kernel
theorem dX4_advanceCall_16 : decode cX4_advanceCall 16 = .ok (.iload_n 1, 1) := by decide +kernel
theorem dX4_advanceCall_17 : decode cX4_advanceCall 17 = .ok (.iaload, 1) := by decide +kernel
theorem dX4_advanceCall_18 : decode cX4_advanceCall 18 = .ok (.istore 5, 2) := by decide +kernel
theorem dX4_advanceCall_20 : decode cX4_advanceCall 20 = .ok (.aload_n 0, 1) := by decide +kernel
theorem dX4_advanceCall_21 : decode cX4_advanceCall 21 = .ok (.getfield 39, 3) := by decide +kernel
theorem dX4_advanceCall_24 : decode cX4_advanceCall 24 = .ok (.iload_n 1, 1) := by decide +kernel
theorem dX4_advanceCall_25 : decode cX4_advanceCall 25 = .ok (.dup2, 1) := by decide +kernel
theorem dX4_advanceCall_26 : decode cX4_advanceCall 26 = .ok (.iaload, 1) := by decide +kernel
theorem dX4_advanceCall_27 : decode cX4_advanceCall 27 = .ok (.iconst 1, 1) := by decide +kernel
theorem dX4_advanceCall_28 : decode cX4_advanceCall 28 = .ok (.iadd, 1) := by decide +kernel
theorem dX4_advanceCall_29 : decode cX4_advanceCall 29 = .ok (.iastore, 1) := by decide +kernel
theorem dX4_advanceCall_30 : decode cX4_advanceCall 30 = .ok (.iload 4, 2) := by decide +kernel
theorem dX4_advanceCall_32 : decode cX4_advanceCall 32 = .ok (.aload_n 0, 1) := by decide +kernel
theorem dX4_advanceCall_33 : decode cX4_advanceCall 33 = .ok (.getfield 60, 3) := by decide +kernel
theorem dX4_advanceCall_36 : decode cX4_advanceCall 36 = .ok (.iload_n 2, 1) := by decide +kernel
theorem dX4_advanceCall_37 : decode cX4_advanceCall 37 = .ok (.invokevirtual 235, 3) := by decide +kernel
theorem dX4_advanceCall_40 : decode cX4_advanceCall 40 = .ok (.if_icmp .lt 29, 3) := by decide +kernel
theorem dX4_advanceCall_43 : decode cX4_advanceCall 43 = .ok (.iload_n 3, 1) := by decide +kernel
theorem dX4_advanceCall_44 : decode cX4_advanceCall 44 = .ok (.iconst 2, 1) := by decide +kernel
theorem dX4_advanceCall_45 : decode cX4_advanceCall 45 = .ok (.irem, 1) := by decide +kernel
theorem dX4_advanceCall_46 : decode cX4_advanceCall 46 = .ok (.iconst 1, 1) := by decide +kernel
theorem dX4_advanceCall_47 : decode cX4_advanceCall 47 = .ok (.if_icmp .ne 13, 3) := by decide +kernel
theorem dX4_advanceCall_50 : decode cX4_advanceCall 50 = .ok (.aload_n 0, 1) := by decide +kernel
theorem dX4_advanceCall_51 : decode cX4_advanceCall 51 = .ok (.iload_n 1, 1) := by decide +kernel
theorem dX4_advanceCall_52 : decode cX4_advanceCall 52 = .ok (.iload 5, 2) := by decide +kernel
theorem dX4_advanceCall_54 : decode cX4_advanceCall 54 = .ok (.invokevirtual 238, 3) := by decide +kernel
theorem dX4_advanceCall_57 : decode cX4_advanceCall 57 = .ok (.goto 11, 3) := by decide +kernel
theorem dX4_advanceCall_60 : decode cX4_advanceCall 60 = .ok (.aload_n 0, 1) := by decide +kernel
theorem dX4_advanceCall_61 : decode cX4_advanceCall 61 = .ok (.iload_n 1, 1) := by decide +kernel
theorem dX4_advanceCall_62 : decode cX4_advanceCall 62 = .ok (.iload_n 2, 1) := by decide +kernel
theorem dX4_advanceCall_63 : decode cX4_advanceCall 63 = .ok (.iload 5, 2) := by decide +kernel
theorem dX4_advanceCall_65 : decode cX4_advanceCall 65 = .ok (.invokevirtual 241, 3) := by decide +kernel
theorem dX4_advanceCall_68 : decode cX4_advanceCall 68 = .ok (.ireturn, 1) := by decide +kernel
theorem dX4_advanceCall_69 : decode cX4_advanceCall 69 = .ok (.iload_n 3, 1) := by decide +kernel
theorem dX4_advanceCall_70 : decode cX4_advanceCall 70 = .ok (.iconst 2, 1) := by decide +kernel
theorem dX4_advanceCall_71 : decode cX4_advanceCall 71 = .ok (.irem, 1) := by decide +kernel
theorem dX4_advanceCall_72 : decode cX4_advanceCall 72 = .ok (.iconst 1, 1) := by decide +kernel
theorem dX4_advanceCall_73 : decode cX4_advanceCall 73 = .ok (.if_icmp .ne 49, 3) := by decide +kernel
theorem dX4_advanceCall_76 : decode cX4_advanceCall 76 = .ok (.aload_n 0, 1) := by decide +kernel
theorem dX4_advanceCall_77 : decode cX4_advanceCall 77 = .ok (.getfield 68, 3) := by decide +kernel
theorem dX4_advanceCall_80 : decode cX4_advanceCall 80 = .ok (.ifCond .le 40, 3) := by decide +kernel
theorem dX4_advanceCall_83 : decode cX4_advanceCall 83 = .ok (.aload_n 0, 1) := by decide +kernel
theorem dX4_advanceCall_84 : decode cX4_advanceCall 84 = .ok (.dup, 1) := by decide +kernel
theorem dX4_advanceCall_85 : decode cX4_advanceCall 85 = .ok (.getfield 68, 3) := by decide +kernel
theorem dX4_advanceCall_88 : decode cX4_advanceCall 88 = .ok (.iconst 1, 1) := by decide +kernel
theorem dX4_advanceCall_89 : decode cX4_advanceCall 89 = .ok (.isub, 1) := by decide +kernel
theorem dX4_advanceCall_90 : decode cX4_advanceCall 90 = .ok (.putfield 68, 3) := by decide +kernel
theorem dX4_advanceCall_93 : decode cX4_advanceCall 93 = .ok (.aload_n 0, 1) := by decide +kernel
theorem dX4_advanceCall_94 : decode cX4_advanceCall 94 = .ok (.iload_n 1, 1) := by decide +kernel
theorem dX4_advanceCall_95 : decode cX4_advanceCall 95 = .ok (.iload 4, 2) := by decide +kernel
theorem dX4_advanceCall_97 : decode cX4_advanceCall 97 = .ok (.aload_n 0, 1) := by decide +kernel
theorem dX4_advanceCall_98 : decode cX4_advanceCall 98 = .ok (.getfield 13, 3) := by decide +kernel
theorem dX4_advanceCall_101 : decode cX4_advanceCall 101 = .ok (.aload_n 0, 1) := by decide +kernel
theorem dX4_advanceCall_102 : decode cX4_advanceCall 102 = .ok (.getfield 68, 3) := by decide +kernel
theorem dX4_advanceCall_105 : decode cX4_advanceCall 105 = .ok (.aaload, 1) := by decide +kernel
theorem dX4_advanceCall_106 : decode cX4_advanceCall 106 = .ok (.invokevirtual 208, 3) := by decide +kernel
theorem dX4_advanceCall_109 : decode cX4_advanceCall 109 = .ok (.ifCond .ne 7, 3) := by decide +kernel
theorem dX4_advanceCall_112 : decode cX4_advanceCall 112 = .ok (.iconst 1, 1) := by decide +kernel
theorem dX4_advanceCall_113 : decode cX4_advanceCall 113 = .ok (.goto 4, 3) := by decide +kernel
theorem dX4_advanceCall_116 : decode cX4_advanceCall 116 = .ok (.iconst 0, 1) := by decide +kernel
theorem dX4_advanceCall_117 : decode cX4_advanceCall 117 = .ok (.invokevirtual 245, 3) := by decide +kernel
theorem dX4_advanceCall_120 : decode cX4_advanceCall 120 = .ok (.iconst 0, 1) := by decide +kernel
theorem dX4_advanceCall_121 : decode cX4_advanceCall 121 = .ok (.ireturn, 1) := by decide +kernel
theorem dX4_advanceCall_122 : decode cX4_advanceCall 122 = .ok (.aload_n 0, 1) := by decide +kernel
theorem dX4_advanceCall_123 : decode cX4_advanceCall 123 = .ok (.getfield 60, 3) := by decide +kernel
theorem dX4_advanceCall_126 : decode cX4_advanceCall 126 = .ok (.iload_n 2, 1) := by decide +kernel
theorem dX4_advanceCall_127 : decode cX4_advanceCall 127 = .ok (.iload 4, 2) := by decide +kernel
theorem dX4_advanceCall_129 : decode cX4_advanceCall 129 = .ok (.invokevirtual 249, 3) := by decide +kernel
theorem dX4_advanceCall_132 : decode cX4_advanceCall 132 = .ok (.astore 6, 2) := by decide +kernel
theorem dX4_advanceCall_134 : decode cX4_advanceCall 134 = .ok (.aload 6, 2) := by decide +kernel
theorem dX4_advanceCall_136 : decode cX4_advanceCall 136 = .ok (.ifnonnull 23, 3) := by decide +kernel
theorem dX4_advanceCall_139 : decode cX4_advanceCall 139 = .ok (.aload_n 0, 1) := by decide +kernel
theorem dX4_advanceCall_140 : decode cX4_advanceCall 140 = .ok (.iload_n 1, 1) := by decide +kernel
theorem dX4_advanceCall_141 : decode cX4_advanceCall 141 = .ok (.iload 4, 2) := by decide +kernel
theorem dX4_advanceCall_143 : decode cX4_advanceCall 143 = .ok (.iconst 1, 1) := by decide +kernel
theorem dX4_advanceCall_144 : decode cX4_advanceCall 144 = .ok (.invokevirtual 245, 3) := by decide +kernel
theorem dX4_advanceCall_147 : decode cX4_advanceCall 147 = .ok (.aload_n 0, 1) := by decide +kernel
theorem dX4_advanceCall_148 : decode cX4_advanceCall 148 = .ok (.getfield 39, 3) := by decide +kernel
theorem dX4_advanceCall_151 : decode cX4_advanceCall 151 = .ok (.iload_n 1, 1) := by decide +kernel
theorem dX4_advanceCall_152 : decode cX4_advanceCall 152 = .ok (.dup2, 1) := by decide +kernel
theorem dX4_advanceCall_153 : decode cX4_advanceCall 153 = .ok (.iaload, 1) := by decide +kernel
theorem dX4_advanceCall_154 : decode cX4_advanceCall 154 = .ok (.iconst 1, 1) := by decide +kernel
theorem dX4_advanceCall_155 : decode cX4_advanceCall 155 = .ok (.iadd, 1) := by decide +kernel
theorem dX4_advanceCall_156 : decode cX4_advanceCall 156 = .ok (.iastore, 1) := by decide +kernel
theorem dX4_advanceCall_157 : decode cX4_advanceCall 157 = .ok (.iconst 0, 1) := by decide +kernel
theorem dX4_advanceCall_158 : decode cX4_advanceCall 158 = .ok (.ireturn, 1) := by decide +kernel
theorem dX4_advanceCall_159 : decode cX4_advanceCall 159 = .ok (.aload_n 0, 1) := by decide +kernel
theorem dX4_advanceCall_160 : decode cX4_advanceCall 160 = .ok (.aload 6, 2) := by decide +kernel
theorem dX4_advanceCall_162 : decode cX4_advanceCall 162 = .ok (.iconst 0, 1) := by decide +kernel
theorem dX4_advanceCall_163 : decode cX4_advanceCall 163 = .ok (.iload 5, 2) := by decide +kernel
theorem dX4_advanceCall_165 : decode cX4_advanceCall 165 = .ok (.invokevirtual 87, 3) := by decide +kernel
theorem dX4_advanceCall_168 : decode cX4_advanceCall 168 = .ok (.ireturn, 1) := by decide +kernel
theorem dX4_noteCase_0 : decode cX4_noteCase 0 = .ok (.iload_n 3, 1) := by decide +kernel
theorem dX4_noteCase_1 : decode cX4_noteCase 1 = .ok (.ifCond .eq 25, 3) := by decide +kernel
theorem dX4_noteCase_4 : decode cX4_noteCase 4 = .ok (.aload_n 0, 1) := by decide +kernel
theorem dX4_noteCase_5 : decode cX4_noteCase 5 = .ok (.getfield 45, 3) := by decide +kernel
theorem dX4_noteCase_8 : decode cX4_noteCase 8 = .ok (.iload_n 1, 1) := by decide +kernel
theorem dX4_noteCase_9 : decode cX4_noteCase 9 = .ok (.aload_n 0, 1) := by decide +kernel
theorem dX4_noteCase_10 : decode cX4_noteCase 10 = .ok (.getfield 45, 3) := by decide +kernel
theorem dX4_noteCase_13 : decode cX4_noteCase 13 = .ok (.iload_n 1, 1) := by decide +kernel
theorem dX4_noteCase_14 : decode cX4_noteCase 14 = .ok (.iaload, 1) := by decide +kernel
theorem dX4_noteCase_15 : decode cX4_noteCase 15 = .ok (.iconst (-1), 1) := by decide +kernel
theorem dX4_noteCase_16 : decode cX4_noteCase 16 = .ok (.if_icmp .ne 7, 3) := by decide +kernel
theorem dX4_noteCase_19 : decode cX4_noteCase 19 = .ok (.iload_n 2, 1) := by decide +kernel
theorem dX4_noteCase_20 : decode cX4_noteCase 20 = .ok (.goto 5, 3) := by decide +kernel
theorem dX4_noteCase_23 : decode cX4_noteCase 23 = .ok (.bipush (-2), 2) := by decide +kernel
theorem dX4_noteCase_25 : decode cX4_noteCase 25 = .ok (.iastore, 1) := by decide +kernel
theorem dX4_noteCase_26 : decode cX4_noteCase 26 = .ok (.return_, 1) := by decide +kernel
theorem dX4_beginValue_0 : decode cX4_beginValue 0 = .ok (.aload_n 0, 1) := by decide +kernel
theorem dX4_beginValue_1 : decode cX4_beginValue 1 = .ok (.getfield 45, 3) := by decide +kernel
theorem dX4_beginValue_4 : decode cX4_beginValue 4 = .ok (.iload_n 1, 1) := by decide +kernel
theorem dX4_beginValue_5 : decode cX4_beginValue 5 = .ok (.iaload, 1) := by decide +kernel
theorem dX4_beginValue_6 : decode cX4_beginValue 6 = .ok (.ifCond .ge 22, 3) := by decide +kernel
theorem dX4_beginValue_9 : decode cX4_beginValue 9 = .ok (.aload_n 0, 1) := by decide +kernel
theorem dX4_beginValue_10 : decode cX4_beginValue 10 = .ok (.getfield 45, 3) := by decide +kernel
theorem dX4_beginValue_13 : decode cX4_beginValue 13 = .ok (.iload_n 1, 1) := by decide +kernel
theorem dX4_beginValue_14 : decode cX4_beginValue 14 = .ok (.iaload, 1) := by decide +kernel
theorem dX4_beginValue_15 : decode cX4_beginValue 15 = .ok (.bipush (-2), 2) := by decide +kernel
theorem dX4_beginValue_17 : decode cX4_beginValue 17 = .ok (.if_icmp .ne 8, 3) := by decide +kernel
theorem dX4_beginValue_20 : decode cX4_beginValue 20 = .ok (.bipush 7, 2) := by decide +kernel
theorem dX4_beginValue_22 : decode cX4_beginValue 22 = .ok (.goto 5, 3) := by decide +kernel
theorem dX4_beginValue_25 : decode cX4_beginValue 25 = .ok (.bipush 6, 2) := by decide +kernel
theorem dX4_beginValue_27 : decode cX4_beginValue 27 = .ok (.ireturn, 1) := by decide +kernel
theorem dX4_beginValue_28 : decode cX4_beginValue 28 = .ok (.aload_n 0, 1) := by decide +kernel
theorem dX4_beginValue_29 : decode cX4_beginValue 29 = .ok (.getfield 60, 3) := by decide +kernel
theorem dX4_beginValue_32 : decode cX4_beginValue 32 = .ok (.iload_n 2, 1) := by decide +kernel
theorem dX4_beginValue_33 : decode cX4_beginValue 33 = .ok (.aload_n 0, 1) := by decide +kernel
theorem dX4_beginValue_34 : decode cX4_beginValue 34 = .ok (.getfield 45, 3) := by decide +kernel
theorem dX4_beginValue_37 : decode cX4_beginValue 37 = .ok (.iload_n 1, 1) := by decide +kernel
theorem dX4_beginValue_38 : decode cX4_beginValue 38 = .ok (.iaload, 1) := by decide +kernel
theorem dX4_beginValue_39 : decode cX4_beginValue 39 = .ok (.invokevirtual 253, 3) := by decide +kernel
theorem dX4_beginValue_42 : decode cX4_beginValue 42 = .ok (.astore 4, 2) := by decide +kernel
theorem dX4_beginValue_44 : decode cX4_beginValue 44 = .ok (.aload 4, 2) := by decide +kernel
theorem dX4_beginValue_46 : decode cX4_beginValue 46 = .ok (.ifnonnull 8, 3) := by decide +kernel
theorem dX4_beginValue_49 : decode cX4_beginValue 49 = .ok (.bipush 6, 2) := by decide +kernel
theorem dX4_beginValue_51 : decode cX4_beginValue 51 = .ok (.goto 11, 3) := by decide +kernel
theorem dX4_beginValue_54 : decode cX4_beginValue 54 = .ok (.aload_n 0, 1) := by decide +kernel
theorem dX4_beginValue_55 : decode cX4_beginValue 55 = .ok (.aload 4, 2) := by decide +kernel
theorem dX4_beginValue_57 : decode cX4_beginValue 57 = .ok (.iconst 0, 1) := by decide +kernel
theorem dX4_beginValue_58 : decode cX4_beginValue 58 = .ok (.iload_n 3, 1) := by decide +kernel
theorem dX4_beginValue_59 : decode cX4_beginValue 59 = .ok (.invokevirtual 87, 3) := by decide +kernel
theorem dX4_beginValue_62 : decode cX4_beginValue 62 = .ok (.ireturn, 1) := by decide +kernel
theorem dX4_closeCall_0 : decode cX4_closeCall 0 = .ok (.iload_n 2, 1) := by decide +kernel
theorem dX4_closeCall_1 : decode cX4_closeCall 1 = .ok (.ifCond .lt 19, 3) := by decide +kernel
theorem dX4_closeCall_4 : decode cX4_closeCall 4 = .ok (.iload_n 2, 1) := by decide +kernel
theorem dX4_closeCall_5 : decode cX4_closeCall 5 = .ok (.sipush 240, 3) := by decide +kernel
theorem dX4_closeCall_8 : decode cX4_closeCall 8 = .ok (.if_icmp .ge 12, 3) := by decide +kernel
theorem dX4_closeCall_11 : decode cX4_closeCall 11 = .ok (.aload_n 0, 1) := by decide +kernel
theorem dX4_closeCall_12 : decode cX4_closeCall 12 = .ok (.getfield 54, 3) := by decide +kernel
theorem dX4_closeCall_15 : decode cX4_closeCall 15 = .ok (.iload_n 2, 1) := by decide +kernel
theorem dX4_closeCall_16 : decode cX4_closeCall 16 = .ok (.iaload, 1) := by decide +kernel
theorem dX4_closeCall_17 : decode cX4_closeCall 17 = .ok (.goto 4, 3) := by decide +kernel
theorem dX4_closeCall_20 : decode cX4_closeCall 20 = .ok (.iconst (-1), 1) := by decide +kernel
theorem dX4_closeCall_21 : decode cX4_closeCall 21 = .ok (.istore_n 3, 1) := by decide +kernel
theorem dX4_closeCall_22 : decode cX4_closeCall 22 = .ok (.iload_n 3, 1) := by decide +kernel
theorem dX4_closeCall_23 : decode cX4_closeCall 23 = .ok (.ifCond .lt 11, 3) := by decide +kernel
theorem dX4_closeCall_26 : decode cX4_closeCall 26 = .ok (.iload_n 3, 1) := by decide +kernel
theorem dX4_closeCall_27 : decode cX4_closeCall 27 = .ok (.aload_n 0, 1) := by decide +kernel
theorem dX4_closeCall_28 : decode cX4_closeCall 28 = .ok (.getfield 68, 3) := by decide +kernel
theorem dX4_closeCall_31 : decode cX4_closeCall 31 = .ok (.if_icmp .lt 6, 3) := by decide +kernel
theorem dX4_closeCall_34 : decode cX4_closeCall 34 = .ok (.bipush 6, 2) := by decide +kernel
theorem dX4_closeCall_36 : decode cX4_closeCall 36 = .ok (.ireturn, 1) := by decide +kernel
theorem dX4_closeCall_37 : decode cX4_closeCall 37 = .ok (.aload_n 0, 1) := by decide +kernel
theorem dX4_closeCall_38 : decode cX4_closeCall 38 = .ok (.getfield 13, 3) := by decide +kernel
theorem dX4_closeCall_41 : decode cX4_closeCall 41 = .ok (.iload_n 3, 1) := by decide +kernel
theorem dX4_closeCall_42 : decode cX4_closeCall 42 = .ok (.aaload, 1) := by decide +kernel
theorem dX4_closeCall_43 : decode cX4_closeCall 43 = .ok (.aload_n 0, 1) := by decide +kernel
theorem dX4_closeCall_44 : decode cX4_closeCall 44 = .ok (.getfield 13, 3) := by decide +kernel
theorem dX4_closeCall_47 : decode cX4_closeCall 47 = .ok (.aload_n 0, 1) := by decide +kernel
theorem dX4_closeCall_48 : decode cX4_closeCall 48 = .ok (.getfield 68, 3) := by decide +kernel
theorem dX4_closeCall_51 : decode cX4_closeCall 51 = .ok (.iconst 1, 1) := by decide +kernel
theorem dX4_closeCall_52 : decode cX4_closeCall 52 = .ok (.isub, 1) := by decide +kernel
theorem dX4_closeCall_53 : decode cX4_closeCall 53 = .ok (.aaload, 1) := by decide +kernel
theorem dX4_closeCall_54 : decode cX4_closeCall 54 = .ok (.invokevirtual 164, 3) := by decide +kernel
theorem dX4_closeCall_57 : decode cX4_closeCall 57 = .ok (.aload_n 0, 1) := by decide +kernel
theorem dX4_closeCall_58 : decode cX4_closeCall 58 = .ok (.iload_n 3, 1) := by decide +kernel
theorem dX4_closeCall_59 : decode cX4_closeCall 59 = .ok (.iconst 1, 1) := by decide +kernel
theorem dX4_closeCall_60 : decode cX4_closeCall 60 = .ok (.iadd, 1) := by decide +kernel
theorem dX4_closeCall_61 : decode cX4_closeCall 61 = .ok (.putfield 68, 3) := by decide +kernel
theorem dX4_closeCall_64 : decode cX4_closeCall 64 = .ok (.aload_n 0, 1) := by decide +kernel
theorem dX4_closeCall_65 : decode cX4_closeCall 65 = .ok (.iload_n 2, 1) := by decide +kernel
theorem dX4_closeCall_66 : decode cX4_closeCall 66 = .ok (.putfield 81, 3) := by decide +kernel
theorem dX4_closeCall_69 : decode cX4_closeCall 69 = .ok (.aload_n 0, 1) := by decide +kernel
theorem dX4_closeCall_70 : decode cX4_closeCall 70 = .ok (.dup, 1) := by decide +kernel
theorem dX4_closeCall_71 : decode cX4_closeCall 71 = .ok (.getfield 78, 3) := by decide +kernel
theorem dX4_closeCall_74 : decode cX4_closeCall 74 = .ok (.iconst 1, 1) := by decide +kernel
theorem dX4_closeCall_75 : decode cX4_closeCall 75 = .ok (.isub, 1) := by decide +kernel
theorem dX4_closeCall_76 : decode cX4_closeCall 76 = .ok (.putfield 78, 3) := by decide +kernel
theorem dX4_closeCall_79 : decode cX4_closeCall 79 = .ok (.aload_n 0, 1) := by decide +kernel
theorem dX4_closeCall_80 : decode cX4_closeCall 80 = .ok (.iload_n 1, 1) := by decide +kernel
theorem dX4_closeCall_81 : decode cX4_closeCall 81 = .ok (.putfield 75, 3) := by decide +kernel
theorem dX4_closeCall_84 : decode cX4_closeCall 84 = .ok (.iconst 0, 1) := by decide +kernel
theorem dX4_closeCall_85 : decode cX4_closeCall 85 = .ok (.ireturn, 1) := by decide +kernel
theorem dX4_advanceChoice_0 : decode cX4_advanceChoice 0 = .ok (.aload_n 0, 1) := by decide +kernel
theorem dX4_advanceChoice_1 : decode cX4_advanceChoice 1 = .ok (.getfield 39, 3) := by decide +kernel
theorem dX4_advanceChoice_4 : decode cX4_advanceChoice 4 = .ok (.iload_n 1, 1) := by decide +kernel
theorem dX4_advanceChoice_5 : decode cX4_advanceChoice 5 = .ok (.iaload, 1) := by decide +kernel
theorem dX4_advanceChoice_6 : decode cX4_advanceChoice 6 = .ok (.istore 4, 2) := by decide +kernel
theorem dX4_advanceChoice_8 : decode cX4_advanceChoice 8 = .ok (.iload 4, 2) := by decide +kernel
theorem dX4_advanceChoice_10 : decode cX4_advanceChoice 10 = .ok (.ifCond .ne 44, 3) := by decide +kernel
theorem dX4_advanceChoice_13 : decode cX4_advanceChoice 13 = .ok (.aload_n 0, 1) := by decide +kernel
theorem dX4_advanceChoice_14 : decode cX4_advanceChoice 14 = .ok (.invokevirtual 256, 3) := by decide +kernel
theorem dX4_advanceChoice_17 : decode cX4_advanceChoice 17 = .ok (.istore 5, 2) := by decide +kernel
theorem dX4_advanceChoice_19 : decode cX4_advanceChoice 19 = .ok (.iload 5, 2) := by decide +kernel
theorem dX4_advanceChoice_21 : decode cX4_advanceChoice 21 = .ok (.ifCond .ne 13, 3) := by decide +kernel
theorem dX4_advanceChoice_24 : decode cX4_advanceChoice 24 = .ok (.aload_n 2, 1) := by decide +kernel
theorem dX4_advanceChoice_25 : decode cX4_advanceChoice 25 = .ok (.getfield 121, 3) := by decide +kernel
theorem dX4_advanceChoice_28 : decode cX4_advanceChoice 28 = .ok (.iload_n 3, 1) := by decide +kernel
theorem dX4_advanceChoice_29 : decode cX4_advanceChoice 29 = .ok (.iaload, 1) := by decide +kernel
theorem dX4_advanceChoice_30 : decode cX4_advanceChoice 30 = .ok (.iconst 3, 1) := by decide +kernel
theorem dX4_advanceChoice_31 : decode cX4_advanceChoice 31 = .ok (.if_icmp .eq 15, 3) := by decide +kernel
theorem dX4_advanceChoice_34 : decode cX4_advanceChoice 34 = .ok (.iload 5, 2) := by decide +kernel
theorem dX4_advanceChoice_36 : decode cX4_advanceChoice 36 = .ok (.ifCond .eq 8, 3) := by decide +kernel
theorem dX4_advanceChoice_39 : decode cX4_advanceChoice 39 = .ok (.iload 5, 2) := by decide +kernel
theorem dX4_advanceChoice_41 : decode cX4_advanceChoice 41 = .ok (.goto 4, 3) := by decide +kernel
theorem dX4_advanceChoice_44 : decode cX4_advanceChoice 44 = .ok (.iconst 5, 1) := by decide +kernel
theorem dX4_advanceChoice_45 : decode cX4_advanceChoice 45 = .ok (.ireturn, 1) := by decide +kernel
theorem dX4_advanceChoice_46 : decode cX4_advanceChoice 46 = .ok (.aload_n 0, 1) := by decide +kernel
theorem dX4_advanceChoice_47 : decode cX4_advanceChoice 47 = .ok (.iload_n 1, 1) := by decide +kernel
theorem dX4_advanceChoice_48 : decode cX4_advanceChoice 48 = .ok (.aload_n 2, 1) := by decide +kernel
theorem dX4_advanceChoice_49 : decode cX4_advanceChoice 49 = .ok (.iload_n 3, 1) := by decide +kernel
theorem dX4_advanceChoice_50 : decode cX4_advanceChoice 50 = .ok (.invokevirtual 124, 3) := by decide +kernel
theorem dX4_advanceChoice_53 : decode cX4_advanceChoice 53 = .ok (.ireturn, 1) := by decide +kernel
theorem dX4_advanceChoice_54 : decode cX4_advanceChoice 54 = .ok (.iload 4, 2) := by decide +kernel
theorem dX4_advanceChoice_56 : decode cX4_advanceChoice 56 = .ok (.iconst 1, 1) := by decide +kernel
theorem dX4_advanceChoice_57 : decode cX4_advanceChoice 57 = .ok (.if_icmp .ne 64, 3) := by decide +kernel
theorem dX4_advanceChoice_60 : decode cX4_advanceChoice 60 = .ok (.aload_n 0, 1) := by decide +kernel
theorem dX4_advanceChoice_61 : decode cX4_advanceChoice 61 = .ok (.getfield 68, 3) := by decide +kernel
theorem dX4_advanceChoice_64 : decode cX4_advanceChoice 64 = .ok (.ifCond .le 57, 3) := by decide +kernel
theorem dX4_advanceChoice_67 : decode cX4_advanceChoice 67 = .ok (.aload_n 0, 1) := by decide +kernel
theorem dX4_advanceChoice_68 : decode cX4_advanceChoice 68 = .ok (.dup, 1) := by decide +kernel
theorem dX4_advanceChoice_69 : decode cX4_advanceChoice 69 = .ok (.getfield 68, 3) := by decide +kernel
theorem dX4_advanceChoice_72 : decode cX4_advanceChoice 72 = .ok (.iconst 1, 1) := by decide +kernel
theorem dX4_advanceChoice_73 : decode cX4_advanceChoice 73 = .ok (.isub, 1) := by decide +kernel
theorem dX4_advanceChoice_74 : decode cX4_advanceChoice 74 = .ok (.putfield 68, 3) := by decide +kernel
theorem dX4_advanceChoice_77 : decode cX4_advanceChoice 77 = .ok (.aload_n 0, 1) := by decide +kernel
theorem dX4_advanceChoice_78 : decode cX4_advanceChoice 78 = .ok (.getfield 39, 3) := by decide +kernel
theorem dX4_advanceChoice_81 : decode cX4_advanceChoice 81 = .ok (.iload_n 1, 1) := by decide +kernel
theorem dX4_advanceChoice_82 : decode cX4_advanceChoice 82 = .ok (.iconst 2, 1) := by decide +kernel
theorem dX4_advanceChoice_83 : decode cX4_advanceChoice 83 = .ok (.iastore, 1) := by decide +kernel
theorem dX4_advanceChoice_84 : decode cX4_advanceChoice 84 = .ok (.aload_n 0, 1) := by decide +kernel
theorem dX4_advanceChoice_85 : decode cX4_advanceChoice 85 = .ok (.aload_n 2, 1) := by decide +kernel
theorem dX4_advanceChoice_86 : decode cX4_advanceChoice 86 = .ok (.aload_n 2, 1) := by decide +kernel
theorem dX4_advanceChoice_87 : decode cX4_advanceChoice 87 = .ok (.iload_n 3, 1) := by decide +kernel
theorem dX4_advanceChoice_88 : decode cX4_advanceChoice 88 = .ok (.aload_n 0, 1) := by decide +kernel
theorem dX4_advanceChoice_89 : decode cX4_advanceChoice 89 = .ok (.getfield 13, 3) := by decide +kernel
theorem dX4_advanceChoice_92 : decode cX4_advanceChoice 92 = .ok (.aload_n 0, 1) := by decide +kernel
theorem dX4_advanceChoice_93 : decode cX4_advanceChoice 93 = .ok (.getfield 68, 3) := by decide +kernel
theorem dX4_advanceChoice_96 : decode cX4_advanceChoice 96 = .ok (.aaload, 1) := by decide +kernel
theorem dX4_advanceChoice_97 : decode cX4_advanceChoice 97 = .ok (.invokevirtual 208, 3) := by decide +kernel
theorem dX4_advanceChoice_100 : decode cX4_advanceChoice 100 = .ok (.ifCond .eq 7, 3) := by decide +kernel
theorem dX4_advanceChoice_103 : decode cX4_advanceChoice 103 = .ok (.iconst 2, 1) := by decide +kernel
theorem dX4_advanceChoice_104 : decode cX4_advanceChoice 104 = .ok (.goto 4, 3) := by decide +kernel
theorem dX4_advanceChoice_107 : decode cX4_advanceChoice 107 = .ok (.iconst 1, 1) := by decide +kernel
theorem dX4_advanceChoice_108 : decode cX4_advanceChoice 108 = .ok (.invokevirtual 127, 3) := by decide +kernel
theorem dX4_advanceChoice_111 : decode cX4_advanceChoice 111 = .ok (.aload_n 0, 1) := by decide +kernel
theorem dX4_advanceChoice_112 : decode cX4_advanceChoice 112 = .ok (.getfield 42, 3) := by decide +kernel
theorem dX4_advanceChoice_115 : decode cX4_advanceChoice 115 = .ok (.iload_n 1, 1) := by decide +kernel
theorem dX4_advanceChoice_116 : decode cX4_advanceChoice 116 = .ok (.iaload, 1) := by decide +kernel
theorem dX4_advanceChoice_117 : decode cX4_advanceChoice 117 = .ok (.invokevirtual 87, 3) := by decide +kernel
theorem dX4_advanceChoice_120 : decode cX4_advanceChoice 120 = .ok (.ireturn, 1) := by decide +kernel
theorem dX4_advanceChoice_121 : decode cX4_advanceChoice 121 = .ok (.aload_n 0, 1) := by decide +kernel
theorem dX4_advanceChoice_122 : decode cX4_advanceChoice 122 = .ok (.iload_n 1, 1) := by decide +kernel
theorem dX4_advanceChoice_123 : decode cX4_advanceChoice 123 = .ok (.putfield 75, 3) := by decide +kernel
theorem dX4_advanceChoice_126 : decode cX4_advanceChoice 126 = .ok (.iconst 0, 1) := by decide +kernel
theorem dX4_advanceChoice_127 : decode cX4_advanceChoice 127 = .ok (.ireturn, 1) := by decide +kernel
theorem dX4_advanceSum_0 : decode cX4_advanceSum 0 = .ok (.aload_n 0, 1) := by decide +kernel
theorem dX4_advanceSum_1 : decode cX4_advanceSum 1 = .ok (.getfield 39, 3) := by decide +kernel
theorem dX4_advanceSum_4 : decode cX4_advanceSum 4 = .ok (.iload_n 1, 1) := by decide +kernel
theorem dX4_advanceSum_5 : decode cX4_advanceSum 5 = .ok (.iaload, 1) := by decide +kernel
theorem dX4_advanceSum_6 : decode cX4_advanceSum 6 = .ok (.tableswitch 133 0 4 #[34, 133, 100, 108, 125], 34) := by decide +kernel
theorem dX4_advanceSum_40 : decode cX4_advanceSum 40 = .ok (.aload_n 0, 1) := by decide +kernel
theorem dX4_advanceSum_41 : decode cX4_advanceSum 41 = .ok (.invokevirtual 256, 3) := by decide +kernel
theorem dX4_advanceSum_44 : decode cX4_advanceSum 44 = .ok (.istore 4, 2) := by decide +kernel
theorem dX4_advanceSum_46 : decode cX4_advanceSum 46 = .ok (.iload 4, 2) := by decide +kernel
theorem dX4_advanceSum_48 : decode cX4_advanceSum 48 = .ok (.ifCond .ne 13, 3) := by decide +kernel
theorem dX4_advanceSum_51 : decode cX4_advanceSum 51 = .ok (.aload_n 2, 1) := by decide +kernel
theorem dX4_advanceSum_52 : decode cX4_advanceSum 52 = .ok (.getfield 121, 3) := by decide +kernel
theorem dX4_advanceSum_55 : decode cX4_advanceSum 55 = .ok (.iload_n 3, 1) := by decide +kernel
theorem dX4_advanceSum_56 : decode cX4_advanceSum 56 = .ok (.iaload, 1) := by decide +kernel
theorem dX4_advanceSum_57 : decode cX4_advanceSum 57 = .ok (.iconst 4, 1) := by decide +kernel
theorem dX4_advanceSum_58 : decode cX4_advanceSum 58 = .ok (.if_icmp .eq 15, 3) := by decide +kernel
theorem dX4_advanceSum_61 : decode cX4_advanceSum 61 = .ok (.iload 4, 2) := by decide +kernel
theorem dX4_advanceSum_63 : decode cX4_advanceSum 63 = .ok (.ifCond .eq 8, 3) := by decide +kernel
theorem dX4_advanceSum_66 : decode cX4_advanceSum 66 = .ok (.iload 4, 2) := by decide +kernel
theorem dX4_advanceSum_68 : decode cX4_advanceSum 68 = .ok (.goto 4, 3) := by decide +kernel
theorem dX4_advanceSum_71 : decode cX4_advanceSum 71 = .ok (.iconst 5, 1) := by decide +kernel
theorem dX4_advanceSum_72 : decode cX4_advanceSum 72 = .ok (.ireturn, 1) := by decide +kernel
theorem dX4_advanceSum_73 : decode cX4_advanceSum 73 = .ok (.aload_n 2, 1) := by decide +kernel
theorem dX4_advanceSum_74 : decode cX4_advanceSum 74 = .ok (.getfield 133, 3) := by decide +kernel
theorem dX4_advanceSum_77 : decode cX4_advanceSum 77 = .ok (.aload_n 2, 1) := by decide +kernel
theorem dX4_advanceSum_78 : decode cX4_advanceSum 78 = .ok (.iload_n 3, 1) := by decide +kernel
theorem dX4_advanceSum_79 : decode cX4_advanceSum 79 = .ok (.iconst 0, 1) := by decide +kernel
theorem dX4_advanceSum_80 : decode cX4_advanceSum 80 = .ok (.invokevirtual 127, 3) := by decide +kernel
theorem dX4_advanceSum_83 : decode cX4_advanceSum 83 = .ok (.iaload, 1) := by decide +kernel
theorem dX4_advanceSum_84 : decode cX4_advanceSum 84 = .ok (.iconst 1, 1) := by decide +kernel
theorem dX4_advanceSum_85 : decode cX4_advanceSum 85 = .ok (.if_icmp .eq 6, 3) := by decide +kernel
theorem dX4_advanceSum_88 : decode cX4_advanceSum 88 = .ok (.bipush 10, 2) := by decide +kernel
theorem dX4_advanceSum_90 : decode cX4_advanceSum 90 = .ok (.ireturn, 1) := by decide +kernel
theorem dX4_advanceSum_91 : decode cX4_advanceSum 91 = .ok (.aload_n 0, 1) := by decide +kernel
theorem dX4_advanceSum_92 : decode cX4_advanceSum 92 = .ok (.getfield 39, 3) := by decide +kernel
theorem dX4_advanceSum_95 : decode cX4_advanceSum 95 = .ok (.iload_n 1, 1) := by decide +kernel
theorem dX4_advanceSum_96 : decode cX4_advanceSum 96 = .ok (.iconst 1, 1) := by decide +kernel
theorem dX4_advanceSum_97 : decode cX4_advanceSum 97 = .ok (.iastore, 1) := by decide +kernel
theorem dX4_advanceSum_98 : decode cX4_advanceSum 98 = .ok (.aload_n 0, 1) := by decide +kernel
theorem dX4_advanceSum_99 : decode cX4_advanceSum 99 = .ok (.iload_n 1, 1) := by decide +kernel
theorem dX4_advanceSum_100 : decode cX4_advanceSum 100 = .ok (.aload_n 2, 1) := by decide +kernel
theorem dX4_advanceSum_101 : decode cX4_advanceSum 101 = .ok (.iload_n 3, 1) := by decide +kernel
theorem dX4_advanceSum_102 : decode cX4_advanceSum 102 = .ok (.invokevirtual 124, 3) := by decide +kernel
theorem dX4_advanceSum_105 : decode cX4_advanceSum 105 = .ok (.ireturn, 1) := by decide +kernel
theorem dX4_advanceSum_106 : decode cX4_advanceSum 106 = .ok (.aload_n 0, 1) := by decide +kernel
theorem dX4_advanceSum_107 : decode cX4_advanceSum 107 = .ok (.iload_n 1, 1) := by decide +kernel
theorem dX4_advanceSum_108 : decode cX4_advanceSum 108 = .ok (.aload_n 2, 1) := by decide +kernel
theorem dX4_advanceSum_109 : decode cX4_advanceSum 109 = .ok (.iload_n 3, 1) := by decide +kernel
theorem dX4_advanceSum_110 : decode cX4_advanceSum 110 = .ok (.invokevirtual 124, 3) := by decide +kernel
theorem dX4_advanceSum_113 : decode cX4_advanceSum 113 = .ok (.ireturn, 1) := by decide +kernel
theorem dX4_advanceSum_114 : decode cX4_advanceSum 114 = .ok (.aload_n 0, 1) := by decide +kernel
theorem dX4_advanceSum_115 : decode cX4_advanceSum 115 = .ok (.iload_n 1, 1) := by decide +kernel
theorem dX4_advanceSum_116 : decode cX4_advanceSum 116 = .ok (.aload_n 2, 1) := by decide +kernel
theorem dX4_advanceSum_117 : decode cX4_advanceSum 117 = .ok (.getfield 130, 3) := by decide +kernel
theorem dX4_advanceSum_120 : decode cX4_advanceSum 120 = .ok (.aload_n 2, 1) := by decide +kernel
theorem dX4_advanceSum_121 : decode cX4_advanceSum 121 = .ok (.iload_n 3, 1) := by decide +kernel
theorem dX4_advanceSum_122 : decode cX4_advanceSum 122 = .ok (.iconst 0, 1) := by decide +kernel
theorem dX4_advanceSum_123 : decode cX4_advanceSum 123 = .ok (.invokevirtual 127, 3) := by decide +kernel
theorem dX4_advanceSum_126 : decode cX4_advanceSum 126 = .ok (.iaload, 1) := by decide +kernel
theorem dX4_advanceSum_127 : decode cX4_advanceSum 127 = .ok (.invokevirtual 259, 3) := by decide +kernel
theorem dX4_advanceSum_130 : decode cX4_advanceSum 130 = .ok (.ireturn, 1) := by decide +kernel
theorem dX4_advanceSum_131 : decode cX4_advanceSum 131 = .ok (.aload_n 0, 1) := by decide +kernel
theorem dX4_advanceSum_132 : decode cX4_advanceSum 132 = .ok (.iload_n 1, 1) := by decide +kernel
theorem dX4_advanceSum_133 : decode cX4_advanceSum 133 = .ok (.aload_n 2, 1) := by decide +kernel
theorem dX4_advanceSum_134 : decode cX4_advanceSum 134 = .ok (.iload_n 3, 1) := by decide +kernel
theorem dX4_advanceSum_135 : decode cX4_advanceSum 135 = .ok (.invokevirtual 262, 3) := by decide +kernel
theorem dX4_advanceSum_138 : decode cX4_advanceSum 138 = .ok (.ireturn, 1) := by decide +kernel
theorem dX4_advanceSum_139 : decode cX4_advanceSum 139 = .ok (.aload_n 0, 1) := by decide +kernel
theorem dX4_advanceSum_140 : decode cX4_advanceSum 140 = .ok (.iload_n 1, 1) := by decide +kernel
theorem dX4_advanceSum_141 : decode cX4_advanceSum 141 = .ok (.invokevirtual 265, 3) := by decide +kernel
theorem dX4_advanceSum_144 : decode cX4_advanceSum 144 = .ok (.ireturn, 1) := by decide +kernel
theorem dX4_openSum_0 : decode cX4_openSum 0 = .ok (.aload_n 0, 1) := by decide +kernel
theorem dX4_openSum_1 : decode cX4_openSum 1 = .ok (.getfield 68, 3) := by decide +kernel
theorem dX4_openSum_4 : decode cX4_openSum 4 = .ok (.iconst 2, 1) := by decide +kernel
theorem dX4_openSum_5 : decode cX4_openSum 5 = .ok (.if_icmp .ge 6, 3) := by decide +kernel
theorem dX4_openSum_8 : decode cX4_openSum 8 = .ok (.bipush 10, 2) := by decide +kernel
theorem dX4_openSum_10 : decode cX4_openSum 10 = .ok (.ireturn, 1) := by decide +kernel
theorem dX4_openSum_11 : decode cX4_openSum 11 = .ok (.aload_n 0, 1) := by decide +kernel
theorem dX4_openSum_12 : decode cX4_openSum 12 = .ok (.getfield 13, 3) := by decide +kernel
theorem dX4_openSum_15 : decode cX4_openSum 15 = .ok (.aload_n 0, 1) := by decide +kernel
theorem dX4_openSum_16 : decode cX4_openSum 16 = .ok (.getfield 68, 3) := by decide +kernel
theorem dX4_openSum_19 : decode cX4_openSum 19 = .ok (.iconst 2, 1) := by decide +kernel
theorem dX4_openSum_20 : decode cX4_openSum 20 = .ok (.isub, 1) := by decide +kernel
theorem dX4_openSum_21 : decode cX4_openSum 21 = .ok (.aaload, 1) := by decide +kernel
theorem dX4_openSum_22 : decode cX4_openSum 22 = .ok (.astore_n 3, 1) := by decide +kernel
theorem dX4_openSum_23 : decode cX4_openSum 23 = .ok (.aload_n 0, 1) := by decide +kernel
theorem dX4_openSum_24 : decode cX4_openSum 24 = .ok (.getfield 13, 3) := by decide +kernel
theorem dX4_openSum_27 : decode cX4_openSum 27 = .ok (.aload_n 0, 1) := by decide +kernel
theorem dX4_openSum_28 : decode cX4_openSum 28 = .ok (.getfield 68, 3) := by decide +kernel
theorem dX4_openSum_31 : decode cX4_openSum 31 = .ok (.iconst 1, 1) := by decide +kernel
theorem dX4_openSum_32 : decode cX4_openSum 32 = .ok (.isub, 1) := by decide +kernel
theorem dX4_openSum_33 : decode cX4_openSum 33 = .ok (.aaload, 1) := by decide +kernel
theorem dX4_openSum_34 : decode cX4_openSum 34 = .ok (.astore 4, 2) := by decide +kernel
theorem dX4_openSum_36 : decode cX4_openSum 36 = .ok (.aload_n 3, 1) := by decide +kernel
theorem dX4_openSum_37 : decode cX4_openSum 37 = .ok (.invokevirtual 225, 3) := by decide +kernel
theorem dX4_openSum_40 : decode cX4_openSum 40 = .ok (.ifCond .eq 11, 3) := by decide +kernel
theorem dX4_openSum_43 : decode cX4_openSum 43 = .ok (.aload 4, 2) := by decide +kernel
theorem dX4_openSum_45 : decode cX4_openSum 45 = .ok (.invokevirtual 225, 3) := by decide +kernel
theorem dX4_openSum_48 : decode cX4_openSum 48 = .ok (.ifCond .ne 5, 3) := by decide +kernel
theorem dX4_openSum_51 : decode cX4_openSum 51 = .ok (.iconst 2, 1) := by decide +kernel
theorem dX4_openSum_52 : decode cX4_openSum 52 = .ok (.ireturn, 1) := by decide +kernel
theorem dX4_openSum_53 : decode cX4_openSum 53 = .ok (.aload_n 0, 1) := by decide +kernel
theorem dX4_openSum_54 : decode cX4_openSum 54 = .ok (.getfield 64, 3) := by decide +kernel
theorem dX4_openSum_57 : decode cX4_openSum 57 = .ok (.aload_n 0, 1) := by decide +kernel
theorem dX4_openSum_58 : decode cX4_openSum 58 = .ok (.getfield 22, 3) := by decide +kernel
theorem dX4_openSum_61 : decode cX4_openSum 61 = .ok (.aload 4, 2) := by decide +kernel
theorem dX4_openSum_63 : decode cX4_openSum 63 = .ok (.aload_n 3, 1) := by decide +kernel
theorem dX4_openSum_64 : decode cX4_openSum 64 = .ok (.iconst 1, 1) := by decide +kernel
theorem dX4_openSum_65 : decode cX4_openSum 65 = .ok (.invokevirtual 172, 3) := by decide +kernel
theorem dX4_openSum_68 : decode cX4_openSum 68 = .ok (.aload_n 0, 1) := by decide +kernel
theorem dX4_openSum_69 : decode cX4_openSum 69 = .ok (.getfield 22, 3) := by decide +kernel
theorem dX4_openSum_72 : decode cX4_openSum 72 = .ok (.getfield 188, 3) := by decide +kernel
theorem dX4_openSum_75 : decode cX4_openSum 75 = .ok (.invokevirtual 192, 3) := by decide +kernel
theorem dX4_openSum_78 : decode cX4_openSum 78 = .ok (.istore 5, 2) := by decide +kernel
theorem dX4_openSum_80 : decode cX4_openSum 80 = .ok (.iload 5, 2) := by decide +kernel
theorem dX4_openSum_82 : decode cX4_openSum 82 = .ok (.bipush 30, 2) := by decide +kernel
theorem dX4_openSum_84 : decode cX4_openSum 84 = .ok (.if_icmp .lt 5, 3) := by decide +kernel
theorem dX4_openSum_87 : decode cX4_openSum 87 = .ok (.iconst 3, 1) := by decide +kernel
theorem dX4_openSum_88 : decode cX4_openSum 88 = .ok (.ireturn, 1) := by decide +kernel
theorem dX4_openSum_89 : decode cX4_openSum 89 = .ok (.aload_n 0, 1) := by decide +kernel
theorem dX4_openSum_90 : decode cX4_openSum 90 = .ok (.iload_n 2, 1) := by decide +kernel
theorem dX4_openSum_91 : decode cX4_openSum 91 = .ok (.iconst 0, 1) := by decide +kernel
theorem dX4_openSum_92 : decode cX4_openSum 92 = .ok (.aload_n 0, 1) := by decide +kernel
theorem dX4_openSum_93 : decode cX4_openSum 93 = .ok (.getfield 68, 3) := by decide +kernel
theorem dX4_openSum_96 : decode cX4_openSum 96 = .ok (.iconst 2, 1) := by decide +kernel
theorem dX4_openSum_97 : decode cX4_openSum 97 = .ok (.isub, 1) := by decide +kernel
theorem dX4_openSum_98 : decode cX4_openSum 98 = .ok (.aload_n 0, 1) := by decide +kernel
theorem dX4_openSum_99 : decode cX4_openSum 99 = .ok (.getfield 42, 3) := by decide +kernel
theorem dX4_openSum_102 : decode cX4_openSum 102 = .ok (.iload_n 1, 1) := by decide +kernel
theorem dX4_openSum_103 : decode cX4_openSum 103 = .ok (.iaload, 1) := by decide +kernel
theorem dX4_openSum_104 : decode cX4_openSum 104 = .ok (.invokevirtual 231, 3) := by decide +kernel
theorem dX4_openSum_107 : decode cX4_openSum 107 = .ok (.ifCond .ne 6, 3) := by decide +kernel
theorem dX4_openSum_110 : decode cX4_openSum 110 = .ok (.bipush 9, 2) := by decide +kernel
theorem dX4_openSum_112 : decode cX4_openSum 112 = .ok (.ireturn, 1) := by decide +kernel
theorem dX4_openSum_113 : decode cX4_openSum 113 = .ok (.aload 4, 2) := by decide +kernel
theorem dX4_openSum_115 : decode cX4_openSum 115 = .ok (.lconst 0, 1) := by decide +kernel
theorem dX4_openSum_116 : decode cX4_openSum 116 = .ok (.invokevirtual 136, 3) := by decide +kernel
theorem dX4_openSum_119 : decode cX4_openSum 119 = .ok (.aload_n 0, 1) := by decide +kernel
theorem dX4_openSum_120 : decode cX4_openSum 120 = .ok (.getfield 45, 3) := by decide +kernel
theorem dX4_openSum_123 : decode cX4_openSum 123 = .ok (.iload_n 1, 1) := by decide +kernel
theorem dX4_openSum_124 : decode cX4_openSum 124 = .ok (.iload 5, 2) := by decide +kernel
theorem dX4_openSum_126 : decode cX4_openSum 126 = .ok (.ifCond .ge 7, 3) := by decide +kernel
theorem dX4_openSum_129 : decode cX4_openSum 129 = .ok (.iconst 0, 1) := by decide +kernel
theorem dX4_openSum_130 : decode cX4_openSum 130 = .ok (.goto 7, 3) := by decide +kernel
theorem dX4_openSum_133 : decode cX4_openSum 133 = .ok (.iload 5, 2) := by decide +kernel
theorem dX4_openSum_135 : decode cX4_openSum 135 = .ok (.iconst 1, 1) := by decide +kernel
theorem dX4_openSum_136 : decode cX4_openSum 136 = .ok (.iadd, 1) := by decide +kernel
theorem dX4_openSum_137 : decode cX4_openSum 137 = .ok (.iastore, 1) := by decide +kernel
theorem dX4_openSum_138 : decode cX4_openSum 138 = .ok (.aload_n 0, 1) := by decide +kernel
theorem dX4_openSum_139 : decode cX4_openSum 139 = .ok (.getfield 39, 3) := by decide +kernel
theorem dX4_openSum_142 : decode cX4_openSum 142 = .ok (.iload_n 1, 1) := by decide +kernel
theorem dX4_openSum_143 : decode cX4_openSum 143 = .ok (.iconst 4, 1) := by decide +kernel
theorem dX4_openSum_144 : decode cX4_openSum 144 = .ok (.iastore, 1) := by decide +kernel
theorem dX4_openSum_145 : decode cX4_openSum 145 = .ok (.iconst 0, 1) := by decide +kernel
theorem dX4_openSum_146 : decode cX4_openSum 146 = .ok (.ireturn, 1) := by decide +kernel
theorem dX4_nextOfSum_0 : decode cX4_nextOfSum 0 = .ok (.aload_n 0, 1) := by decide +kernel
theorem dX4_nextOfSum_1 : decode cX4_nextOfSum 1 = .ok (.getfield 45, 3) := by decide +kernel
theorem dX4_nextOfSum_4 : decode cX4_nextOfSum 4 = .ok (.iload_n 1, 1) := by decide +kernel
theorem dX4_nextOfSum_5 : decode cX4_nextOfSum 5 = .ok (.iaload, 1) := by decide +kernel
theorem dX4_nextOfSum_6 : decode cX4_nextOfSum 6 = .ok (.ifCond .le 28, 3) := by decide +kernel
theorem dX4_nextOfSum_9 : decode cX4_nextOfSum 9 = .ok (.aload_n 0, 1) := by decide +kernel
theorem dX4_nextOfSum_10 : decode cX4_nextOfSum 10 = .ok (.getfield 39, 3) := by decide +kernel
theorem dX4_nextOfSum_13 : decode cX4_nextOfSum 13 = .ok (.iload_n 1, 1) := by decide +kernel
theorem dX4_nextOfSum_14 : decode cX4_nextOfSum 14 = .ok (.iconst 5, 1) := by decide +kernel
theorem dX4_nextOfSum_15 : decode cX4_nextOfSum 15 = .ok (.iastore, 1) := by decide +kernel
theorem dX4_nextOfSum_16 : decode cX4_nextOfSum 16 = .ok (.aload_n 0, 1) := by decide +kernel
theorem dX4_nextOfSum_17 : decode cX4_nextOfSum 17 = .ok (.aload_n 2, 1) := by decide +kernel
theorem dX4_nextOfSum_18 : decode cX4_nextOfSum 18 = .ok (.aload_n 2, 1) := by decide +kernel
theorem dX4_nextOfSum_19 : decode cX4_nextOfSum 19 = .ok (.iload_n 3, 1) := by decide +kernel
theorem dX4_nextOfSum_20 : decode cX4_nextOfSum 20 = .ok (.iconst 3, 1) := by decide +kernel
theorem dX4_nextOfSum_21 : decode cX4_nextOfSum 21 = .ok (.invokevirtual 127, 3) := by decide +kernel
theorem dX4_nextOfSum_24 : decode cX4_nextOfSum 24 = .ok (.aload_n 0, 1) := by decide +kernel
theorem dX4_nextOfSum_25 : decode cX4_nextOfSum 25 = .ok (.getfield 81, 3) := by decide +kernel
theorem dX4_nextOfSum_28 : decode cX4_nextOfSum 28 = .ok (.iconst 1, 1) := by decide +kernel
theorem dX4_nextOfSum_29 : decode cX4_nextOfSum 29 = .ok (.isub, 1) := by decide +kernel
theorem dX4_nextOfSum_30 : decode cX4_nextOfSum 30 = .ok (.invokevirtual 87, 3) := by decide +kernel
theorem dX4_nextOfSum_33 : decode cX4_nextOfSum 33 = .ok (.ireturn, 1) := by decide +kernel
theorem dX4_nextOfSum_34 : decode cX4_nextOfSum 34 = .ok (.aload_n 0, 1) := by decide +kernel
theorem dX4_nextOfSum_35 : decode cX4_nextOfSum 35 = .ok (.getfield 68, 3) := by decide +kernel
theorem dX4_nextOfSum_38 : decode cX4_nextOfSum 38 = .ok (.iconst 1, 1) := by decide +kernel
theorem dX4_nextOfSum_39 : decode cX4_nextOfSum 39 = .ok (.if_icmp .le 38, 3) := by decide +kernel
theorem dX4_nextOfSum_42 : decode cX4_nextOfSum 42 = .ok (.aload_n 0, 1) := by decide +kernel
theorem dX4_nextOfSum_43 : decode cX4_nextOfSum 43 = .ok (.getfield 13, 3) := by decide +kernel
theorem dX4_nextOfSum_46 : decode cX4_nextOfSum 46 = .ok (.aload_n 0, 1) := by decide +kernel
theorem dX4_nextOfSum_47 : decode cX4_nextOfSum 47 = .ok (.getfield 68, 3) := by decide +kernel
theorem dX4_nextOfSum_50 : decode cX4_nextOfSum 50 = .ok (.iconst 2, 1) := by decide +kernel
theorem dX4_nextOfSum_51 : decode cX4_nextOfSum 51 = .ok (.isub, 1) := by decide +kernel
theorem dX4_nextOfSum_52 : decode cX4_nextOfSum 52 = .ok (.aaload, 1) := by decide +kernel
theorem dX4_nextOfSum_53 : decode cX4_nextOfSum 53 = .ok (.aload_n 0, 1) := by decide +kernel
theorem dX4_nextOfSum_54 : decode cX4_nextOfSum 54 = .ok (.getfield 13, 3) := by decide +kernel
theorem dX4_nextOfSum_57 : decode cX4_nextOfSum 57 = .ok (.aload_n 0, 1) := by decide +kernel
theorem dX4_nextOfSum_58 : decode cX4_nextOfSum 58 = .ok (.getfield 68, 3) := by decide +kernel
theorem dX4_nextOfSum_61 : decode cX4_nextOfSum 61 = .ok (.iconst 1, 1) := by decide +kernel
theorem dX4_nextOfSum_62 : decode cX4_nextOfSum 62 = .ok (.isub, 1) := by decide +kernel
theorem dX4_nextOfSum_63 : decode cX4_nextOfSum 63 = .ok (.aaload, 1) := by decide +kernel
theorem dX4_nextOfSum_64 : decode cX4_nextOfSum 64 = .ok (.invokevirtual 164, 3) := by decide +kernel
theorem dX4_nextOfSum_67 : decode cX4_nextOfSum 67 = .ok (.aload_n 0, 1) := by decide +kernel
theorem dX4_nextOfSum_68 : decode cX4_nextOfSum 68 = .ok (.dup, 1) := by decide +kernel
theorem dX4_nextOfSum_69 : decode cX4_nextOfSum 69 = .ok (.getfield 68, 3) := by decide +kernel
theorem dX4_nextOfSum_72 : decode cX4_nextOfSum 72 = .ok (.iconst 1, 1) := by decide +kernel
theorem dX4_nextOfSum_73 : decode cX4_nextOfSum 73 = .ok (.isub, 1) := by decide +kernel
theorem dX4_nextOfSum_74 : decode cX4_nextOfSum 74 = .ok (.putfield 68, 3) := by decide +kernel
theorem dX4_nextOfSum_77 : decode cX4_nextOfSum 77 = .ok (.aload_n 0, 1) := by decide +kernel
theorem dX4_nextOfSum_78 : decode cX4_nextOfSum 78 = .ok (.dup, 1) := by decide +kernel
theorem dX4_nextOfSum_79 : decode cX4_nextOfSum 79 = .ok (.getfield 81, 3) := by decide +kernel
theorem dX4_nextOfSum_82 : decode cX4_nextOfSum 82 = .ok (.iconst 1, 1) := by decide +kernel
theorem dX4_nextOfSum_83 : decode cX4_nextOfSum 83 = .ok (.isub, 1) := by decide +kernel
theorem dX4_nextOfSum_84 : decode cX4_nextOfSum 84 = .ok (.putfield 81, 3) := by decide +kernel
theorem dX4_nextOfSum_87 : decode cX4_nextOfSum 87 = .ok (.aload_n 0, 1) := by decide +kernel
theorem dX4_nextOfSum_88 : decode cX4_nextOfSum 88 = .ok (.iload_n 1, 1) := by decide +kernel
theorem dX4_nextOfSum_89 : decode cX4_nextOfSum 89 = .ok (.putfield 75, 3) := by decide +kernel
theorem dX4_nextOfSum_92 : decode cX4_nextOfSum 92 = .ok (.iconst 0, 1) := by decide +kernel
theorem dX4_nextOfSum_93 : decode cX4_nextOfSum 93 = .ok (.ireturn, 1) := by decide +kernel
theorem dX4_addToSum_0 : decode cX4_addToSum 0 = .ok (.aload_n 0, 1) := by decide +kernel
theorem dX4_addToSum_1 : decode cX4_addToSum 1 = .ok (.getfield 68, 3) := by decide +kernel
theorem dX4_addToSum_4 : decode cX4_addToSum 4 = .ok (.iconst 3, 1) := by decide +kernel
theorem dX4_addToSum_5 : decode cX4_addToSum 5 = .ok (.if_icmp .ge 6, 3) := by decide +kernel
theorem dX4_addToSum_8 : decode cX4_addToSum 8 = .ok (.bipush 10, 2) := by decide +kernel
theorem dX4_addToSum_10 : decode cX4_addToSum 10 = .ok (.ireturn, 1) := by decide +kernel
theorem dX4_addToSum_11 : decode cX4_addToSum 11 = .ok (.aload_n 0, 1) := by decide +kernel
theorem dX4_addToSum_12 : decode cX4_addToSum 12 = .ok (.getfield 13, 3) := by decide +kernel
theorem dX4_addToSum_15 : decode cX4_addToSum 15 = .ok (.aload_n 0, 1) := by decide +kernel
theorem dX4_addToSum_16 : decode cX4_addToSum 16 = .ok (.getfield 68, 3) := by decide +kernel
theorem dX4_addToSum_19 : decode cX4_addToSum 19 = .ok (.iconst 3, 1) := by decide +kernel
theorem dX4_addToSum_20 : decode cX4_addToSum 20 = .ok (.isub, 1) := by decide +kernel
theorem dX4_addToSum_21 : decode cX4_addToSum 21 = .ok (.aaload, 1) := by decide +kernel
theorem dX4_addToSum_22 : decode cX4_addToSum 22 = .ok (.astore_n 2, 1) := by decide +kernel
theorem dX4_addToSum_23 : decode cX4_addToSum 23 = .ok (.aload_n 0, 1) := by decide +kernel
theorem dX4_addToSum_24 : decode cX4_addToSum 24 = .ok (.getfield 13, 3) := by decide +kernel
theorem dX4_addToSum_27 : decode cX4_addToSum 27 = .ok (.aload_n 0, 1) := by decide +kernel
theorem dX4_addToSum_28 : decode cX4_addToSum 28 = .ok (.getfield 68, 3) := by decide +kernel
theorem dX4_addToSum_31 : decode cX4_addToSum 31 = .ok (.iconst 2, 1) := by decide +kernel
theorem dX4_addToSum_32 : decode cX4_addToSum 32 = .ok (.isub, 1) := by decide +kernel
theorem dX4_addToSum_33 : decode cX4_addToSum 33 = .ok (.aaload, 1) := by decide +kernel
theorem dX4_addToSum_34 : decode cX4_addToSum 34 = .ok (.astore_n 3, 1) := by decide +kernel
theorem dX4_addToSum_35 : decode cX4_addToSum 35 = .ok (.aload_n 0, 1) := by decide +kernel
theorem dX4_addToSum_36 : decode cX4_addToSum 36 = .ok (.getfield 64, 3) := by decide +kernel
theorem dX4_addToSum_39 : decode cX4_addToSum 39 = .ok (.aload_n 0, 1) := by decide +kernel
theorem dX4_addToSum_40 : decode cX4_addToSum 40 = .ok (.getfield 22, 3) := by decide +kernel
theorem dX4_addToSum_43 : decode cX4_addToSum 43 = .ok (.aload_n 3, 1) := by decide +kernel
theorem dX4_addToSum_44 : decode cX4_addToSum 44 = .ok (.aload_n 0, 1) := by decide +kernel
theorem dX4_addToSum_45 : decode cX4_addToSum 45 = .ok (.getfield 13, 3) := by decide +kernel
theorem dX4_addToSum_48 : decode cX4_addToSum 48 = .ok (.aload_n 0, 1) := by decide +kernel
theorem dX4_addToSum_49 : decode cX4_addToSum 49 = .ok (.getfield 68, 3) := by decide +kernel
theorem dX4_addToSum_52 : decode cX4_addToSum 52 = .ok (.iconst 1, 1) := by decide +kernel
theorem dX4_addToSum_53 : decode cX4_addToSum 53 = .ok (.isub, 1) := by decide +kernel
theorem dX4_addToSum_54 : decode cX4_addToSum 54 = .ok (.aaload, 1) := by decide +kernel
theorem dX4_addToSum_55 : decode cX4_addToSum 55 = .ok (.iconst 0, 1) := by decide +kernel
theorem dX4_addToSum_56 : decode cX4_addToSum 56 = .ok (.invokevirtual 172, 3) := by decide +kernel
theorem dX4_addToSum_59 : decode cX4_addToSum 59 = .ok (.aload_n 0, 1) := by decide +kernel
theorem dX4_addToSum_60 : decode cX4_addToSum 60 = .ok (.getfield 64, 3) := by decide +kernel
theorem dX4_addToSum_63 : decode cX4_addToSum 63 = .ok (.aload_n 0, 1) := by decide +kernel
theorem dX4_addToSum_64 : decode cX4_addToSum 64 = .ok (.getfield 22, 3) := by decide +kernel
theorem dX4_addToSum_67 : decode cX4_addToSum 67 = .ok (.invokevirtual 219, 3) := by decide +kernel
theorem dX4_addToSum_70 : decode cX4_addToSum 70 = .ok (.aload_n 0, 1) := by decide +kernel
theorem dX4_addToSum_71 : decode cX4_addToSum 71 = .ok (.getfield 22, 3) := by decide +kernel
theorem dX4_addToSum_74 : decode cX4_addToSum 74 = .ok (.invokevirtual 222, 3) := by decide +kernel
theorem dX4_addToSum_77 : decode cX4_addToSum 77 = .ok (.ifCond .ne 5, 3) := by decide +kernel
theorem dX4_addToSum_80 : decode cX4_addToSum 80 = .ok (.iconst 3, 1) := by decide +kernel
theorem dX4_addToSum_81 : decode cX4_addToSum 81 = .ok (.ireturn, 1) := by decide +kernel
theorem dX4_addToSum_82 : decode cX4_addToSum 82 = .ok (.aload_n 3, 1) := by decide +kernel
theorem dX4_addToSum_83 : decode cX4_addToSum 83 = .ok (.aload_n 0, 1) := by decide +kernel
theorem dX4_addToSum_84 : decode cX4_addToSum 84 = .ok (.getfield 22, 3) := by decide +kernel
theorem dX4_addToSum_87 : decode cX4_addToSum 87 = .ok (.invokevirtual 164, 3) := by decide +kernel
theorem dX4_addToSum_90 : decode cX4_addToSum 90 = .ok (.aload_n 0, 1) := by decide +kernel
theorem dX4_addToSum_91 : decode cX4_addToSum 91 = .ok (.dup, 1) := by decide +kernel
theorem dX4_addToSum_92 : decode cX4_addToSum 92 = .ok (.getfield 68, 3) := by decide +kernel
theorem dX4_addToSum_95 : decode cX4_addToSum 95 = .ok (.iconst 1, 1) := by decide +kernel
theorem dX4_addToSum_96 : decode cX4_addToSum 96 = .ok (.isub, 1) := by decide +kernel
theorem dX4_addToSum_97 : decode cX4_addToSum 97 = .ok (.putfield 68, 3) := by decide +kernel
theorem dX4_addToSum_100 : decode cX4_addToSum 100 = .ok (.aload_n 0, 1) := by decide +kernel
theorem dX4_addToSum_101 : decode cX4_addToSum 101 = .ok (.getfield 13, 3) := by decide +kernel
theorem dX4_addToSum_104 : decode cX4_addToSum 104 = .ok (.aload_n 0, 1) := by decide +kernel
theorem dX4_addToSum_105 : decode cX4_addToSum 105 = .ok (.getfield 68, 3) := by decide +kernel
theorem dX4_addToSum_108 : decode cX4_addToSum 108 = .ok (.aaload, 1) := by decide +kernel
theorem dX4_addToSum_109 : decode cX4_addToSum 109 = .ok (.lconst 1, 1) := by decide +kernel
theorem dX4_addToSum_110 : decode cX4_addToSum 110 = .ok (.invokevirtual 136, 3) := by decide +kernel
theorem dX4_addToSum_113 : decode cX4_addToSum 113 = .ok (.aload_n 0, 1) := by decide +kernel
theorem dX4_addToSum_114 : decode cX4_addToSum 114 = .ok (.getfield 64, 3) := by decide +kernel
theorem dX4_addToSum_117 : decode cX4_addToSum 117 = .ok (.aload_n 0, 1) := by decide +kernel
theorem dX4_addToSum_118 : decode cX4_addToSum 118 = .ok (.getfield 22, 3) := by decide +kernel
theorem dX4_addToSum_121 : decode cX4_addToSum 121 = .ok (.aload_n 2, 1) := by decide +kernel
theorem dX4_addToSum_122 : decode cX4_addToSum 122 = .ok (.aload_n 0, 1) := by decide +kernel
theorem dX4_addToSum_123 : decode cX4_addToSum 123 = .ok (.getfield 13, 3) := by decide +kernel
theorem dX4_addToSum_126 : decode cX4_addToSum 126 = .ok (.aload_n 0, 1) := by decide +kernel
theorem dX4_addToSum_127 : decode cX4_addToSum 127 = .ok (.getfield 68, 3) := by decide +kernel
theorem dX4_addToSum_130 : decode cX4_addToSum 130 = .ok (.aaload, 1) := by decide +kernel
theorem dX4_addToSum_131 : decode cX4_addToSum 131 = .ok (.iconst 0, 1) := by decide +kernel
theorem dX4_addToSum_132 : decode cX4_addToSum 132 = .ok (.invokevirtual 172, 3) := by decide +kernel
theorem dX4_addToSum_135 : decode cX4_addToSum 135 = .ok (.aload_n 2, 1) := by decide +kernel
theorem dX4_addToSum_136 : decode cX4_addToSum 136 = .ok (.aload_n 0, 1) := by decide +kernel
theorem dX4_addToSum_137 : decode cX4_addToSum 137 = .ok (.getfield 22, 3) := by decide +kernel
theorem dX4_addToSum_140 : decode cX4_addToSum 140 = .ok (.invokevirtual 164, 3) := by decide +kernel
theorem dX4_addToSum_143 : decode cX4_addToSum 143 = .ok (.aload_n 0, 1) := by decide +kernel
theorem dX4_addToSum_144 : decode cX4_addToSum 144 = .ok (.getfield 45, 3) := by decide +kernel
theorem dX4_addToSum_147 : decode cX4_addToSum 147 = .ok (.iload_n 1, 1) := by decide +kernel
theorem dX4_addToSum_148 : decode cX4_addToSum 148 = .ok (.dup2, 1) := by decide +kernel
theorem dX4_addToSum_149 : decode cX4_addToSum 149 = .ok (.iaload, 1) := by decide +kernel
theorem dX4_addToSum_150 : decode cX4_addToSum 150 = .ok (.iconst 1, 1) := by decide +kernel
theorem dX4_addToSum_151 : decode cX4_addToSum 151 = .ok (.isub, 1) := by decide +kernel
theorem dX4_addToSum_152 : decode cX4_addToSum 152 = .ok (.iastore, 1) := by decide +kernel
theorem dX4_addToSum_153 : decode cX4_addToSum 153 = .ok (.aload_n 0, 1) := by decide +kernel
theorem dX4_addToSum_154 : decode cX4_addToSum 154 = .ok (.getfield 39, 3) := by decide +kernel
theorem dX4_addToSum_157 : decode cX4_addToSum 157 = .ok (.iload_n 1, 1) := by decide +kernel
theorem dX4_addToSum_158 : decode cX4_addToSum 158 = .ok (.iconst 4, 1) := by decide +kernel
theorem dX4_addToSum_159 : decode cX4_addToSum 159 = .ok (.iastore, 1) := by decide +kernel
theorem dX4_addToSum_160 : decode cX4_addToSum 160 = .ok (.iconst 0, 1) := by decide +kernel
theorem dX4_addToSum_161 : decode cX4_addToSum 161 = .ok (.ireturn, 1) := by decide +kernel
theorem dX5_init_0 : decode cX5_init 0 = .ok (.aload_n 0, 1) := by decide +kernel
theorem dX5_init_1 : decode cX5_init 1 = .ok (.invokespecial 3, 3) := by decide +kernel
theorem dX5_init_4 : decode cX5_init 4 = .ok (.aload_n 0, 1) := by decide +kernel
theorem dX5_init_5 : decode cX5_init 5 = .ok (.new 9, 3) := by decide +kernel
theorem dX5_init_8 : decode cX5_init 8 = .ok (.dup, 1) := by decide +kernel
theorem dX5_init_9 : decode cX5_init 9 = .ok (.bipush 7, 2) := by decide +kernel
theorem dX5_init_11 : decode cX5_init 11 = .ok (.invokespecial 11, 3) := by decide +kernel
theorem dX5_init_14 : decode cX5_init 14 = .ok (.putfield 14, 3) := by decide +kernel
theorem dX5_init_17 : decode cX5_init 17 = .ok (.aload_n 0, 1) := by decide +kernel
theorem dX5_init_18 : decode cX5_init 18 = .ok (.sipush 1000, 3) := by decide +kernel
theorem dX5_init_21 : decode cX5_init 21 = .ok (.newarray .char, 2) := by decide +kernel
theorem dX5_init_23 : decode cX5_init 23 = .ok (.putfield 20, 3) := by decide +kernel
theorem dX5_init_26 : decode cX5_init 26 = .ok (.aload_n 0, 1) := by decide +kernel
theorem dX5_init_27 : decode cX5_init 27 = .ok (.aload_n 1, 1) := by decide +kernel
theorem dX5_init_28 : decode cX5_init 28 = .ok (.putfield 24, 3) := by decide +kernel
theorem dX5_init_31 : decode cX5_init 31 = .ok (.return_, 1) := by decide +kernel
theorem dX5_put_0 : decode cX5_put 0 = .ok (.aload_n 0, 1) := by decide +kernel
theorem dX5_put_1 : decode cX5_put 1 = .ok (.getfield 28, 3) := by decide +kernel
theorem dX5_put_4 : decode cX5_put 4 = .ok (.sipush 1000, 3) := by decide +kernel
theorem dX5_put_7 : decode cX5_put 7 = .ok (.if_icmp .ge 24, 3) := by decide +kernel
theorem dX5_put_10 : decode cX5_put 10 = .ok (.aload_n 0, 1) := by decide +kernel
theorem dX5_put_11 : decode cX5_put 11 = .ok (.getfield 20, 3) := by decide +kernel
theorem dX5_put_14 : decode cX5_put 14 = .ok (.aload_n 0, 1) := by decide +kernel
theorem dX5_put_15 : decode cX5_put 15 = .ok (.getfield 28, 3) := by decide +kernel
theorem dX5_put_18 : decode cX5_put 18 = .ok (.iload_n 1, 1) := by decide +kernel
theorem dX5_put_19 : decode cX5_put 19 = .ok (.i2c, 1) := by decide +kernel
theorem dX5_put_20 : decode cX5_put 20 = .ok (.castore, 1) := by decide +kernel
theorem dX5_put_21 : decode cX5_put 21 = .ok (.aload_n 0, 1) := by decide +kernel
theorem dX5_put_22 : decode cX5_put 22 = .ok (.dup, 1) := by decide +kernel
theorem dX5_put_23 : decode cX5_put 23 = .ok (.getfield 28, 3) := by decide +kernel
theorem dX5_put_26 : decode cX5_put 26 = .ok (.iconst 1, 1) := by decide +kernel
theorem dX5_put_27 : decode cX5_put 27 = .ok (.iadd, 1) := by decide +kernel
theorem dX5_put_28 : decode cX5_put 28 = .ok (.putfield 28, 3) := by decide +kernel
theorem dX5_put_31 : decode cX5_put 31 = .ok (.return_, 1) := by decide +kernel
theorem dX5_putNumber_0 : decode cX5_putNumber 0 = .ok (.iconst 1, 1) := by decide +kernel
theorem dX5_putNumber_1 : decode cX5_putNumber 1 = .ok (.istore_n 2, 1) := by decide +kernel
theorem dX5_putNumber_2 : decode cX5_putNumber 2 = .ok (.iconst 0, 1) := by decide +kernel
theorem dX5_putNumber_3 : decode cX5_putNumber 3 = .ok (.istore_n 3, 1) := by decide +kernel
theorem dX5_putNumber_4 : decode cX5_putNumber 4 = .ok (.iload_n 3, 1) := by decide +kernel
theorem dX5_putNumber_5 : decode cX5_putNumber 5 = .ok (.bipush 8, 2) := by decide +kernel
theorem dX5_putNumber_7 : decode cX5_putNumber 7 = .ok (.if_icmp .ge 22, 3) := by decide +kernel
theorem dX5_putNumber_10 : decode cX5_putNumber 10 = .ok (.iload_n 1, 1) := by decide +kernel
theorem dX5_putNumber_11 : decode cX5_putNumber 11 = .ok (.iload_n 2, 1) := by decide +kernel
theorem dX5_putNumber_12 : decode cX5_putNumber 12 = .ok (.idiv, 1) := by decide +kernel
theorem dX5_putNumber_13 : decode cX5_putNumber 13 = .ok (.bipush 9, 2) := by decide +kernel
theorem dX5_putNumber_15 : decode cX5_putNumber 15 = .ok (.if_icmp .le 14, 3) := by decide +kernel
theorem dX5_putNumber_18 : decode cX5_putNumber 18 = .ok (.iload_n 2, 1) := by decide +kernel
theorem dX5_putNumber_19 : decode cX5_putNumber 19 = .ok (.bipush 10, 2) := by decide +kernel
theorem dX5_putNumber_21 : decode cX5_putNumber 21 = .ok (.imul, 1) := by decide +kernel
theorem dX5_putNumber_22 : decode cX5_putNumber 22 = .ok (.istore_n 2, 1) := by decide +kernel
theorem dX5_putNumber_23 : decode cX5_putNumber 23 = .ok (.iinc 3 1, 3) := by decide +kernel
theorem dX5_putNumber_26 : decode cX5_putNumber 26 = .ok (.goto (-22), 3) := by decide +kernel
theorem dX5_putNumber_29 : decode cX5_putNumber 29 = .ok (.iload_n 2, 1) := by decide +kernel
theorem dX5_putNumber_30 : decode cX5_putNumber 30 = .ok (.ifCond .le 24, 3) := by decide +kernel
theorem dX5_putNumber_33 : decode cX5_putNumber 33 = .ok (.aload_n 0, 1) := by decide +kernel
theorem dX5_putNumber_34 : decode cX5_putNumber 34 = .ok (.bipush 48, 2) := by decide +kernel
theorem dX5_putNumber_36 : decode cX5_putNumber 36 = .ok (.iload_n 1, 1) := by decide +kernel
theorem dX5_putNumber_37 : decode cX5_putNumber 37 = .ok (.iload_n 2, 1) := by decide +kernel
theorem dX5_putNumber_38 : decode cX5_putNumber 38 = .ok (.idiv, 1) := by decide +kernel
theorem dX5_putNumber_39 : decode cX5_putNumber 39 = .ok (.bipush 10, 2) := by decide +kernel
theorem dX5_putNumber_41 : decode cX5_putNumber 41 = .ok (.irem, 1) := by decide +kernel
theorem dX5_putNumber_42 : decode cX5_putNumber 42 = .ok (.iadd, 1) := by decide +kernel
theorem dX5_putNumber_43 : decode cX5_putNumber 43 = .ok (.invokevirtual 32, 3) := by decide +kernel
theorem dX5_putNumber_46 : decode cX5_putNumber 46 = .ok (.iload_n 2, 1) := by decide +kernel
theorem dX5_putNumber_47 : decode cX5_putNumber 47 = .ok (.bipush 10, 2) := by decide +kernel
theorem dX5_putNumber_49 : decode cX5_putNumber 49 = .ok (.idiv, 1) := by decide +kernel
theorem dX5_putNumber_50 : decode cX5_putNumber 50 = .ok (.istore_n 2, 1) := by decide +kernel
theorem dX5_putNumber_51 : decode cX5_putNumber 51 = .ok (.goto (-22), 3) := by decide +kernel
theorem dX5_putNumber_54 : decode cX5_putNumber 54 = .ok (.return_, 1) := by decide +kernel
theorem dX5_putValue_0 : decode cX5_putValue 0 = .ok (.iload_n 1, 1) := by decide +kernel
theorem dX5_putValue_1 : decode cX5_putValue 1 = .ok (.ifCond .ne 11, 3) := by decide +kernel
theorem dX5_putValue_4 : decode cX5_putValue 4 = .ok (.aload_n 0, 1) := by decide +kernel
theorem dX5_putValue_5 : decode cX5_putValue 5 = .ok (.iload_n 2, 1) := by decide +kernel
theorem dX5_putValue_6 : decode cX5_putValue 6 = .ok (.invokevirtual 35, 3) := by decide +kernel
theorem dX5_putValue_9 : decode cX5_putValue 9 = .ok (.goto 8, 3) := by decide +kernel
theorem dX5_putValue_12 : decode cX5_putValue 12 = .ok (.aload_n 0, 1) := by decide +kernel
theorem dX5_putValue_13 : decode cX5_putValue 13 = .ok (.iload_n 2, 1) := by decide +kernel
theorem dX5_putValue_14 : decode cX5_putValue 14 = .ok (.invokevirtual 32, 3) := by decide +kernel
theorem dX5_putValue_17 : decode cX5_putValue 17 = .ok (.return_, 1) := by decide +kernel
theorem dX5_fewest_0 : decode cX5_fewest 0 = .ok (.aload_n 0, 1) := by decide +kernel
theorem dX5_fewest_1 : decode cX5_fewest 1 = .ok (.getfield 24, 3) := by decide +kernel
theorem dX5_fewest_4 : decode cX5_fewest 4 = .ok (.invokevirtual 38, 3) := by decide +kernel
theorem dX5_fewest_7 : decode cX5_fewest 7 = .ok (.aload_n 0, 1) := by decide +kernel
theorem dX5_fewest_8 : decode cX5_fewest 8 = .ok (.aload_n 1, 1) := by decide +kernel
theorem dX5_fewest_9 : decode cX5_fewest 9 = .ok (.iconst 0, 1) := by decide +kernel
theorem dX5_fewest_10 : decode cX5_fewest 10 = .ok (.iconst 0, 1) := by decide +kernel
theorem dX5_fewest_11 : decode cX5_fewest 11 = .ok (.invokevirtual 43, 3) := by decide +kernel
theorem dX5_fewest_14 : decode cX5_fewest 14 = .ok (.aload_n 0, 1) := by decide +kernel
theorem dX5_fewest_15 : decode cX5_fewest 15 = .ok (.getfield 24, 3) := by decide +kernel
theorem dX5_fewest_18 : decode cX5_fewest 18 = .ok (.aload_n 1, 1) := by decide +kernel
theorem dX5_fewest_19 : decode cX5_fewest 19 = .ok (.invokevirtual 47, 3) := by decide +kernel
theorem dX5_fewest_22 : decode cX5_fewest 22 = .ok (.aload_n 0, 1) := by decide +kernel
theorem dX5_fewest_23 : decode cX5_fewest 23 = .ok (.iconst 0, 1) := by decide +kernel
theorem dX5_fewest_24 : decode cX5_fewest 24 = .ok (.putfield 28, 3) := by decide +kernel
theorem dX5_fewest_27 : decode cX5_fewest 27 = .ok (.iconst 0, 1) := by decide +kernel
theorem dX5_fewest_28 : decode cX5_fewest 28 = .ok (.istore_n 2, 1) := by decide +kernel
theorem dX5_fewest_29 : decode cX5_fewest 29 = .ok (.iload_n 2, 1) := by decide +kernel
theorem dX5_fewest_30 : decode cX5_fewest 30 = .ok (.aload_n 0, 1) := by decide +kernel
theorem dX5_fewest_31 : decode cX5_fewest 31 = .ok (.getfield 24, 3) := by decide +kernel
theorem dX5_fewest_34 : decode cX5_fewest 34 = .ok (.getfield 51, 3) := by decide +kernel
theorem dX5_fewest_37 : decode cX5_fewest 37 = .ok (.if_icmp .ge 43, 3) := by decide +kernel
theorem dX5_fewest_40 : decode cX5_fewest 40 = .ok (.aload_n 0, 1) := by decide +kernel
theorem dX5_fewest_41 : decode cX5_fewest 41 = .ok (.getfield 24, 3) := by decide +kernel
theorem dX5_fewest_44 : decode cX5_fewest 44 = .ok (.getfield 52, 3) := by decide +kernel
theorem dX5_fewest_47 : decode cX5_fewest 47 = .ok (.iload_n 2, 1) := by decide +kernel
theorem dX5_fewest_48 : decode cX5_fewest 48 = .ok (.baload, 1) := by decide +kernel
theorem dX5_fewest_49 : decode cX5_fewest 49 = .ok (.ifCond .ne 25, 3) := by decide +kernel
theorem dX5_fewest_52 : decode cX5_fewest 52 = .ok (.aload_n 0, 1) := by decide +kernel
theorem dX5_fewest_53 : decode cX5_fewest 53 = .ok (.aload_n 0, 1) := by decide +kernel
theorem dX5_fewest_54 : decode cX5_fewest 54 = .ok (.getfield 24, 3) := by decide +kernel
theorem dX5_fewest_57 : decode cX5_fewest 57 = .ok (.getfield 56, 3) := by decide +kernel
theorem dX5_fewest_60 : decode cX5_fewest 60 = .ok (.iload_n 2, 1) := by decide +kernel
theorem dX5_fewest_61 : decode cX5_fewest 61 = .ok (.iaload, 1) := by decide +kernel
theorem dX5_fewest_62 : decode cX5_fewest 62 = .ok (.aload_n 0, 1) := by decide +kernel
theorem dX5_fewest_63 : decode cX5_fewest 63 = .ok (.getfield 24, 3) := by decide +kernel
theorem dX5_fewest_66 : decode cX5_fewest 66 = .ok (.getfield 60, 3) := by decide +kernel
theorem dX5_fewest_69 : decode cX5_fewest 69 = .ok (.iload_n 2, 1) := by decide +kernel
theorem dX5_fewest_70 : decode cX5_fewest 70 = .ok (.iaload, 1) := by decide +kernel
theorem dX5_fewest_71 : decode cX5_fewest 71 = .ok (.invokevirtual 63, 3) := by decide +kernel
theorem dX5_fewest_74 : decode cX5_fewest 74 = .ok (.iinc 2 1, 3) := by decide +kernel
theorem dX5_fewest_77 : decode cX5_fewest 77 = .ok (.goto (-48), 3) := by decide +kernel
theorem dX5_fewest_80 : decode cX5_fewest 80 = .ok (.return_, 1) := by decide +kernel
theorem dX5_spell_0 : decode cX5_spell 0 = .ok (.iload_n 3, 1) := by decide +kernel
theorem dX5_spell_1 : decode cX5_spell 1 = .ok (.bipush 80, 2) := by decide +kernel
theorem dX5_spell_3 : decode cX5_spell 3 = .ok (.if_icmp .le 4, 3) := by decide +kernel
theorem dX5_spell_6 : decode cX5_spell 6 = .ok (.return_, 1) := by decide +kernel
theorem dX5_spell_7 : decode cX5_spell 7 = .ok (.aload_n 1, 1) := by decide +kernel
theorem dX5_spell_8 : decode cX5_spell 8 = .ok (.getfield 69, 3) := by decide +kernel
theorem dX5_spell_11 : decode cX5_spell 11 = .ok (.iload_n 2, 1) := by decide +kernel
theorem dX5_spell_12 : decode cX5_spell 12 = .ok (.iaload, 1) := by decide +kernel
theorem dX5_spell_13 : decode cX5_spell 13 = .ok (.istore 4, 2) := by decide +kernel
theorem dX5_spell_15 : decode cX5_spell 15 = .ok (.aload_n 1, 1) := by decide +kernel
theorem dX5_spell_16 : decode cX5_spell 16 = .ok (.getfield 70, 3) := by decide +kernel
theorem dX5_spell_19 : decode cX5_spell 19 = .ok (.iload_n 2, 1) := by decide +kernel
theorem dX5_spell_20 : decode cX5_spell 20 = .ok (.iaload, 1) := by decide +kernel
theorem dX5_spell_21 : decode cX5_spell 21 = .ok (.istore 5, 2) := by decide +kernel
theorem dX5_spell_23 : decode cX5_spell 23 = .ok (.iload 4, 2) := by decide +kernel
theorem dX5_spell_25 : decode cX5_spell 25 = .ok (.iconst 2, 1) := by decide +kernel
theorem dX5_spell_26 : decode cX5_spell 26 = .ok (.if_icmp .ne 7, 3) := by decide +kernel
theorem dX5_spell_29 : decode cX5_spell 29 = .ok (.iconst 1, 1) := by decide +kernel
theorem dX5_spell_30 : decode cX5_spell 30 = .ok (.goto 4, 3) := by decide +kernel
theorem dX5_spell_33 : decode cX5_spell 33 = .ok (.iconst 0, 1) := by decide +kernel
theorem dX5_spell_34 : decode cX5_spell 34 = .ok (.istore 6, 2) := by decide +kernel
theorem dX5_spell_36 : decode cX5_spell 36 = .ok (.iload 4, 2) := by decide +kernel
theorem dX5_spell_38 : decode cX5_spell 38 = .ok (.iconst 3, 1) := by decide +kernel
theorem dX5_spell_39 : decode cX5_spell 39 = .ok (.if_icmp .ne 12, 3) := by decide +kernel
theorem dX5_spell_42 : decode cX5_spell 42 = .ok (.aload_n 1, 1) := by decide +kernel
theorem dX5_spell_43 : decode cX5_spell 43 = .ok (.getfield 71, 3) := by decide +kernel
theorem dX5_spell_46 : decode cX5_spell 46 = .ok (.iload_n 2, 1) := by decide +kernel
theorem dX5_spell_47 : decode cX5_spell 47 = .ok (.iaload, 1) := by decide +kernel
theorem dX5_spell_48 : decode cX5_spell 48 = .ok (.ifCond .ne 24, 3) := by decide +kernel
theorem dX5_spell_51 : decode cX5_spell 51 = .ok (.aload_n 0, 1) := by decide +kernel
theorem dX5_spell_52 : decode cX5_spell 52 = .ok (.getfield 24, 3) := by decide +kernel
theorem dX5_spell_55 : decode cX5_spell 55 = .ok (.iload 6, 2) := by decide +kernel
theorem dX5_spell_57 : decode cX5_spell 57 = .ok (.ifCond .eq 7, 3) := by decide +kernel
theorem dX5_spell_60 : decode cX5_spell 60 = .ok (.iconst 1, 1) := by decide +kernel
theorem dX5_spell_61 : decode cX5_spell 61 = .ok (.goto 5, 3) := by decide +kernel
theorem dX5_spell_64 : decode cX5_spell 64 = .ok (.iload 4, 2) := by decide +kernel
theorem dX5_spell_66 : decode cX5_spell 66 = .ok (.iload 5, 2) := by decide +kernel
theorem dX5_spell_68 : decode cX5_spell 68 = .ok (.iconst 0, 1) := by decide +kernel
theorem dX5_spell_69 : decode cX5_spell 69 = .ok (.invokevirtual 74, 3) := by decide +kernel
theorem dX5_spell_72 : decode cX5_spell 72 = .ok (.iload 6, 2) := by decide +kernel
theorem dX5_spell_74 : decode cX5_spell 74 = .ok (.ifCond .eq 14, 3) := by decide +kernel
theorem dX5_spell_77 : decode cX5_spell 77 = .ok (.aload_n 0, 1) := by decide +kernel
theorem dX5_spell_78 : decode cX5_spell 78 = .ok (.getfield 24, 3) := by decide +kernel
theorem dX5_spell_81 : decode cX5_spell 81 = .ok (.iconst 4, 1) := by decide +kernel
theorem dX5_spell_82 : decode cX5_spell 82 = .ok (.bipush 40, 2) := by decide +kernel
theorem dX5_spell_84 : decode cX5_spell 84 = .ok (.iconst 0, 1) := by decide +kernel
theorem dX5_spell_85 : decode cX5_spell 85 = .ok (.invokevirtual 74, 3) := by decide +kernel
theorem dX5_spell_88 : decode cX5_spell 88 = .ok (.iload_n 2, 1) := by decide +kernel
theorem dX5_spell_89 : decode cX5_spell 89 = .ok (.iconst 1, 1) := by decide +kernel
theorem dX5_spell_90 : decode cX5_spell 90 = .ok (.iadd, 1) := by decide +kernel
theorem dX5_spell_91 : decode cX5_spell 91 = .ok (.istore 7, 2) := by decide +kernel
theorem dX5_spell_93 : decode cX5_spell 93 = .ok (.iconst 0, 1) := by decide +kernel
theorem dX5_spell_94 : decode cX5_spell 94 = .ok (.istore 8, 2) := by decide +kernel
theorem dX5_spell_96 : decode cX5_spell 96 = .ok (.iload 8, 2) := by decide +kernel
theorem dX5_spell_98 : decode cX5_spell 98 = .ok (.aload_n 1, 1) := by decide +kernel
theorem dX5_spell_99 : decode cX5_spell 99 = .ok (.getfield 78, 3) := by decide +kernel
theorem dX5_spell_102 : decode cX5_spell 102 = .ok (.iload_n 2, 1) := by decide +kernel
theorem dX5_spell_103 : decode cX5_spell 103 = .ok (.iaload, 1) := by decide +kernel
theorem dX5_spell_104 : decode cX5_spell 104 = .ok (.if_icmp .ge 132, 3) := by decide +kernel
theorem dX5_spell_107 : decode cX5_spell 107 = .ok (.iload 7, 2) := by decide +kernel
theorem dX5_spell_109 : decode cX5_spell 109 = .ok (.aload_n 1, 1) := by decide +kernel
theorem dX5_spell_110 : decode cX5_spell 110 = .ok (.getfield 81, 3) := by decide +kernel
theorem dX5_spell_113 : decode cX5_spell 113 = .ok (.if_icmp .ge 123, 3) := by decide +kernel
theorem dX5_spell_116 : decode cX5_spell 116 = .ok (.iload 8, 2) := by decide +kernel
theorem dX5_spell_118 : decode cX5_spell 118 = .ok (.ifCond .le 34, 3) := by decide +kernel
theorem dX5_spell_121 : decode cX5_spell 121 = .ok (.aload_n 0, 1) := by decide +kernel
theorem dX5_spell_122 : decode cX5_spell 122 = .ok (.getfield 24, 3) := by decide +kernel
theorem dX5_spell_125 : decode cX5_spell 125 = .ok (.iload 6, 2) := by decide +kernel
theorem dX5_spell_127 : decode cX5_spell 127 = .ok (.ifCond .eq 8, 3) := by decide +kernel
theorem dX5_spell_130 : decode cX5_spell 130 = .ok (.bipush 6, 2) := by decide +kernel
theorem dX5_spell_132 : decode cX5_spell 132 = .ok (.goto 4, 3) := by decide +kernel
theorem dX5_spell_135 : decode cX5_spell 135 = .ok (.iconst 3, 1) := by decide +kernel
theorem dX5_spell_136 : decode cX5_spell 136 = .ok (.iload 6, 2) := by decide +kernel
theorem dX5_spell_138 : decode cX5_spell 138 = .ok (.ifCond .eq 8, 3) := by decide +kernel
theorem dX5_spell_141 : decode cX5_spell 141 = .ok (.bipush 44, 2) := by decide +kernel
theorem dX5_spell_143 : decode cX5_spell 143 = .ok (.goto 5, 3) := by decide +kernel
theorem dX5_spell_146 : decode cX5_spell 146 = .ok (.iload 5, 2) := by decide +kernel
theorem dX5_spell_148 : decode cX5_spell 148 = .ok (.iconst 0, 1) := by decide +kernel
theorem dX5_spell_149 : decode cX5_spell 149 = .ok (.invokevirtual 74, 3) := by decide +kernel
theorem dX5_spell_152 : decode cX5_spell 152 = .ok (.iload 4, 2) := by decide +kernel
theorem dX5_spell_154 : decode cX5_spell 154 = .ok (.iconst 3, 1) := by decide +kernel
theorem dX5_spell_155 : decode cX5_spell 155 = .ok (.if_icmp .ne 18, 3) := by decide +kernel
theorem dX5_spell_158 : decode cX5_spell 158 = .ok (.aload_n 1, 1) := by decide +kernel
theorem dX5_spell_159 : decode cX5_spell 159 = .ok (.getfield 69, 3) := by decide +kernel
theorem dX5_spell_162 : decode cX5_spell 162 = .ok (.iload 7, 2) := by decide +kernel
theorem dX5_spell_164 : decode cX5_spell 164 = .ok (.iaload, 1) := by decide +kernel
theorem dX5_spell_165 : decode cX5_spell 165 = .ok (.iconst 3, 1) := by decide +kernel
theorem dX5_spell_166 : decode cX5_spell 166 = .ok (.if_icmp .ne 7, 3) := by decide +kernel
theorem dX5_spell_169 : decode cX5_spell 169 = .ok (.iconst 1, 1) := by decide +kernel
theorem dX5_spell_170 : decode cX5_spell 170 = .ok (.goto 4, 3) := by decide +kernel
theorem dX5_spell_173 : decode cX5_spell 173 = .ok (.iconst 0, 1) := by decide +kernel
theorem dX5_spell_174 : decode cX5_spell 174 = .ok (.istore 9, 2) := by decide +kernel
theorem dX5_spell_176 : decode cX5_spell 176 = .ok (.iload 9, 2) := by decide +kernel
theorem dX5_spell_178 : decode cX5_spell 178 = .ok (.ifCond .eq 14, 3) := by decide +kernel
theorem dX5_spell_181 : decode cX5_spell 181 = .ok (.aload_n 0, 1) := by decide +kernel
theorem dX5_spell_182 : decode cX5_spell 182 = .ok (.getfield 24, 3) := by decide +kernel
theorem dX5_spell_185 : decode cX5_spell 185 = .ok (.iconst 4, 1) := by decide +kernel
theorem dX5_spell_186 : decode cX5_spell 186 = .ok (.bipush 40, 2) := by decide +kernel
theorem dX5_spell_188 : decode cX5_spell 188 = .ok (.iconst 0, 1) := by decide +kernel
theorem dX5_spell_189 : decode cX5_spell 189 = .ok (.invokevirtual 74, 3) := by decide +kernel
theorem dX5_spell_192 : decode cX5_spell 192 = .ok (.aload_n 0, 1) := by decide +kernel
theorem dX5_spell_193 : decode cX5_spell 193 = .ok (.aload_n 1, 1) := by decide +kernel
theorem dX5_spell_194 : decode cX5_spell 194 = .ok (.iload 7, 2) := by decide +kernel
theorem dX5_spell_196 : decode cX5_spell 196 = .ok (.iload_n 3, 1) := by decide +kernel
theorem dX5_spell_197 : decode cX5_spell 197 = .ok (.iconst 1, 1) := by decide +kernel
theorem dX5_spell_198 : decode cX5_spell 198 = .ok (.iadd, 1) := by decide +kernel
theorem dX5_spell_199 : decode cX5_spell 199 = .ok (.invokevirtual 43, 3) := by decide +kernel
theorem dX5_spell_202 : decode cX5_spell 202 = .ok (.iload 9, 2) := by decide +kernel
theorem dX5_spell_204 : decode cX5_spell 204 = .ok (.ifCond .eq 14, 3) := by decide +kernel
theorem dX5_spell_207 : decode cX5_spell 207 = .ok (.aload_n 0, 1) := by decide +kernel
theorem dX5_spell_208 : decode cX5_spell 208 = .ok (.getfield 24, 3) := by decide +kernel
theorem dX5_spell_211 : decode cX5_spell 211 = .ok (.iconst 5, 1) := by decide +kernel
theorem dX5_spell_212 : decode cX5_spell 212 = .ok (.bipush 41, 2) := by decide +kernel
theorem dX5_spell_214 : decode cX5_spell 214 = .ok (.iconst 0, 1) := by decide +kernel
theorem dX5_spell_215 : decode cX5_spell 215 = .ok (.invokevirtual 74, 3) := by decide +kernel
theorem dX5_spell_218 : decode cX5_spell 218 = .ok (.iload 7, 2) := by decide +kernel
theorem dX5_spell_220 : decode cX5_spell 220 = .ok (.aload_n 1, 1) := by decide +kernel
theorem dX5_spell_221 : decode cX5_spell 221 = .ok (.getfield 82, 3) := by decide +kernel
theorem dX5_spell_224 : decode cX5_spell 224 = .ok (.iload 7, 2) := by decide +kernel
theorem dX5_spell_226 : decode cX5_spell 226 = .ok (.iaload, 1) := by decide +kernel
theorem dX5_spell_227 : decode cX5_spell 227 = .ok (.iadd, 1) := by decide +kernel
theorem dX5_spell_228 : decode cX5_spell 228 = .ok (.istore 7, 2) := by decide +kernel
theorem dX5_spell_230 : decode cX5_spell 230 = .ok (.iinc 8 1, 3) := by decide +kernel
theorem dX5_spell_233 : decode cX5_spell 233 = .ok (.goto (-137), 3) := by decide +kernel
theorem dX5_spell_236 : decode cX5_spell 236 = .ok (.iload 6, 2) := by decide +kernel
theorem dX5_spell_238 : decode cX5_spell 238 = .ok (.ifCond .eq 14, 3) := by decide +kernel
theorem dX5_spell_241 : decode cX5_spell 241 = .ok (.aload_n 0, 1) := by decide +kernel
theorem dX5_spell_242 : decode cX5_spell 242 = .ok (.getfield 24, 3) := by decide +kernel
theorem dX5_spell_245 : decode cX5_spell 245 = .ok (.iconst 5, 1) := by decide +kernel
theorem dX5_spell_246 : decode cX5_spell 246 = .ok (.bipush 41, 2) := by decide +kernel
theorem dX5_spell_248 : decode cX5_spell 248 = .ok (.iconst 0, 1) := by decide +kernel
theorem dX5_spell_249 : decode cX5_spell 249 = .ok (.invokevirtual 74, 3) := by decide +kernel
theorem dX5_spell_252 : decode cX5_spell 252 = .ok (.iload 4, 2) := by decide +kernel
theorem dX5_spell_254 : decode cX5_spell 254 = .ok (.iconst 3, 1) := by decide +kernel
theorem dX5_spell_255 : decode cX5_spell 255 = .ok (.if_icmp .ne 24, 3) := by decide +kernel
theorem dX5_spell_258 : decode cX5_spell 258 = .ok (.aload_n 1, 1) := by decide +kernel
theorem dX5_spell_259 : decode cX5_spell 259 = .ok (.getfield 71, 3) := by decide +kernel
theorem dX5_spell_262 : decode cX5_spell 262 = .ok (.iload_n 2, 1) := by decide +kernel
theorem dX5_spell_263 : decode cX5_spell 263 = .ok (.iaload, 1) := by decide +kernel
theorem dX5_spell_264 : decode cX5_spell 264 = .ok (.iconst 1, 1) := by decide +kernel
theorem dX5_spell_265 : decode cX5_spell 265 = .ok (.if_icmp .ne 14, 3) := by decide +kernel
theorem dX5_spell_268 : decode cX5_spell 268 = .ok (.aload_n 0, 1) := by decide +kernel
theorem dX5_spell_269 : decode cX5_spell 269 = .ok (.getfield 24, 3) := by decide +kernel
theorem dX5_spell_272 : decode cX5_spell 272 = .ok (.iconst 3, 1) := by decide +kernel
theorem dX5_spell_273 : decode cX5_spell 273 = .ok (.iload 5, 2) := by decide +kernel
theorem dX5_spell_275 : decode cX5_spell 275 = .ok (.iconst 0, 1) := by decide +kernel
theorem dX5_spell_276 : decode cX5_spell 276 = .ok (.invokevirtual 74, 3) := by decide +kernel
theorem dX5_spell_279 : decode cX5_spell 279 = .ok (.return_, 1) := by decide +kernel
theorem dX5_line_0 : decode cX5_line 0 = .ok (.aload_n 0, 1) := by decide +kernel
theorem dX5_line_1 : decode cX5_line 1 = .ok (.iconst 0, 1) := by decide +kernel
theorem dX5_line_2 : decode cX5_line 2 = .ok (.putfield 28, 3) := by decide +kernel
theorem dX5_line_5 : decode cX5_line 5 = .ok (.iconst 0, 1) := by decide +kernel
theorem dX5_line_6 : decode cX5_line 6 = .ok (.istore_n 2, 1) := by decide +kernel
theorem dX5_line_7 : decode cX5_line 7 = .ok (.iload_n 2, 1) := by decide +kernel
theorem dX5_line_8 : decode cX5_line 8 = .ok (.aload_n 1, 1) := by decide +kernel
theorem dX5_line_9 : decode cX5_line 9 = .ok (.getfield 81, 3) := by decide +kernel
theorem dX5_line_12 : decode cX5_line 12 = .ok (.if_icmp .ge 79, 3) := by decide +kernel
theorem dX5_line_15 : decode cX5_line 15 = .ok (.aload_n 1, 1) := by decide +kernel
theorem dX5_line_16 : decode cX5_line 16 = .ok (.iload_n 2, 1) := by decide +kernel
theorem dX5_line_17 : decode cX5_line 17 = .ok (.invokevirtual 85, 3) := by decide +kernel
theorem dX5_line_20 : decode cX5_line 20 = .ok (.istore_n 3, 1) := by decide +kernel
theorem dX5_line_21 : decode cX5_line 21 = .ok (.iload_n 2, 1) := by decide +kernel
theorem dX5_line_22 : decode cX5_line 22 = .ok (.ifCond .le 9, 3) := by decide +kernel
theorem dX5_line_25 : decode cX5_line 25 = .ok (.aload_n 0, 1) := by decide +kernel
theorem dX5_line_26 : decode cX5_line 26 = .ok (.bipush 32, 2) := by decide +kernel
theorem dX5_line_28 : decode cX5_line 28 = .ok (.invokevirtual 32, 3) := by decide +kernel
theorem dX5_line_31 : decode cX5_line 31 = .ok (.aload_n 0, 1) := by decide +kernel
theorem dX5_line_32 : decode cX5_line 32 = .ok (.aload_n 1, 1) := by decide +kernel
theorem dX5_line_33 : decode cX5_line 33 = .ok (.getfield 69, 3) := by decide +kernel
theorem dX5_line_36 : decode cX5_line 36 = .ok (.iload_n 3, 1) := by decide +kernel
theorem dX5_line_37 : decode cX5_line 37 = .ok (.iaload, 1) := by decide +kernel
theorem dX5_line_38 : decode cX5_line 38 = .ok (.aload_n 1, 1) := by decide +kernel
theorem dX5_line_39 : decode cX5_line 39 = .ok (.getfield 70, 3) := by decide +kernel
theorem dX5_line_42 : decode cX5_line 42 = .ok (.iload_n 3, 1) := by decide +kernel
theorem dX5_line_43 : decode cX5_line 43 = .ok (.iaload, 1) := by decide +kernel
theorem dX5_line_44 : decode cX5_line 44 = .ok (.invokevirtual 63, 3) := by decide +kernel
theorem dX5_line_47 : decode cX5_line 47 = .ok (.aload_n 1, 1) := by decide +kernel
theorem dX5_line_48 : decode cX5_line 48 = .ok (.getfield 69, 3) := by decide +kernel
theorem dX5_line_51 : decode cX5_line 51 = .ok (.iload_n 3, 1) := by decide +kernel
theorem dX5_line_52 : decode cX5_line 52 = .ok (.iaload, 1) := by decide +kernel
theorem dX5_line_53 : decode cX5_line 53 = .ok (.iconst 2, 1) := by decide +kernel
theorem dX5_line_54 : decode cX5_line 54 = .ok (.if_icmp .ne 16, 3) := by decide +kernel
theorem dX5_line_57 : decode cX5_line 57 = .ok (.aload_n 0, 1) := by decide +kernel
theorem dX5_line_58 : decode cX5_line 58 = .ok (.aload_n 1, 1) := by decide +kernel
theorem dX5_line_59 : decode cX5_line 59 = .ok (.getfield 78, 3) := by decide +kernel
theorem dX5_line_62 : decode cX5_line 62 = .ok (.iload_n 3, 1) := by decide +kernel
theorem dX5_line_63 : decode cX5_line 63 = .ok (.iaload, 1) := by decide +kernel
theorem dX5_line_64 : decode cX5_line 64 = .ok (.invokevirtual 35, 3) := by decide +kernel
theorem dX5_line_67 : decode cX5_line 67 = .ok (.goto 18, 3) := by decide +kernel
theorem dX5_line_70 : decode cX5_line 70 = .ok (.aload_n 1, 1) := by decide +kernel
theorem dX5_line_71 : decode cX5_line 71 = .ok (.getfield 71, 3) := by decide +kernel
theorem dX5_line_74 : decode cX5_line 74 = .ok (.iload_n 3, 1) := by decide +kernel
theorem dX5_line_75 : decode cX5_line 75 = .ok (.iaload, 1) := by decide +kernel
theorem dX5_line_76 : decode cX5_line 76 = .ok (.ifCond .ne 9, 3) := by decide +kernel
theorem dX5_line_79 : decode cX5_line 79 = .ok (.aload_n 0, 1) := by decide +kernel
theorem dX5_line_80 : decode cX5_line 80 = .ok (.bipush 39, 2) := by decide +kernel
theorem dX5_line_82 : decode cX5_line 82 = .ok (.invokevirtual 32, 3) := by decide +kernel
theorem dX5_line_85 : decode cX5_line 85 = .ok (.iinc 2 1, 3) := by decide +kernel
theorem dX5_line_88 : decode cX5_line 88 = .ok (.goto (-81), 3) := by decide +kernel
theorem dX5_line_91 : decode cX5_line 91 = .ok (.return_, 1) := by decide +kernel
theorem dX5_digits_0 : decode cX5_digits 0 = .ok (.aload_n 0, 1) := by decide +kernel
theorem dX5_digits_1 : decode cX5_digits 1 = .ok (.iconst 0, 1) := by decide +kernel
theorem dX5_digits_2 : decode cX5_digits 2 = .ok (.putfield 28, 3) := by decide +kernel
theorem dX5_digits_5 : decode cX5_digits 5 = .ok (.aload_n 1, 1) := by decide +kernel
theorem dX5_digits_6 : decode cX5_digits 6 = .ok (.getfield 89, 3) := by decide +kernel
theorem dX5_digits_9 : decode cX5_digits 9 = .ok (.ifCond .eq 9, 3) := by decide +kernel
theorem dX5_digits_12 : decode cX5_digits 12 = .ok (.aload_n 0, 1) := by decide +kernel
theorem dX5_digits_13 : decode cX5_digits 13 = .ok (.bipush 45, 2) := by decide +kernel
theorem dX5_digits_15 : decode cX5_digits 15 = .ok (.invokevirtual 32, 3) := by decide +kernel
theorem dX5_digits_18 : decode cX5_digits 18 = .ok (.aload_n 0, 1) := by decide +kernel
theorem dX5_digits_19 : decode cX5_digits 19 = .ok (.getfield 28, 3) := by decide +kernel
theorem dX5_digits_22 : decode cX5_digits 22 = .ok (.istore_n 3, 1) := by decide +kernel
theorem dX5_digits_23 : decode cX5_digits 23 = .ok (.aload_n 0, 1) := by decide +kernel
theorem dX5_digits_24 : decode cX5_digits 24 = .ok (.getfield 14, 3) := by decide +kernel
theorem dX5_digits_27 : decode cX5_digits 27 = .ok (.aload_n 1, 1) := by decide +kernel
theorem dX5_digits_28 : decode cX5_digits 28 = .ok (.invokevirtual 93, 3) := by decide +kernel
theorem dX5_digits_31 : decode cX5_digits 31 = .ok (.iconst 0, 1) := by decide +kernel
theorem dX5_digits_32 : decode cX5_digits 32 = .ok (.istore 4, 2) := by decide +kernel
theorem dX5_digits_34 : decode cX5_digits 34 = .ok (.iload 4, 2) := by decide +kernel
theorem dX5_digits_36 : decode cX5_digits 36 = .ok (.sipush 1000, 3) := by decide +kernel
theorem dX5_digits_39 : decode cX5_digits 39 = .ok (.if_icmp .ge 61, 3) := by decide +kernel
theorem dX5_digits_42 : decode cX5_digits 42 = .ok (.iload 4, 2) := by decide +kernel
theorem dX5_digits_44 : decode cX5_digits 44 = .ok (.ifCond .eq 13, 3) := by decide +kernel
theorem dX5_digits_47 : decode cX5_digits 47 = .ok (.aload_n 0, 1) := by decide +kernel
theorem dX5_digits_48 : decode cX5_digits 48 = .ok (.getfield 14, 3) := by decide +kernel
theorem dX5_digits_51 : decode cX5_digits 51 = .ok (.invokevirtual 97, 3) := by decide +kernel
theorem dX5_digits_54 : decode cX5_digits 54 = .ok (.ifCond .ne 46, 3) := by decide +kernel
theorem dX5_digits_57 : decode cX5_digits 57 = .ok (.aload_n 0, 1) := by decide +kernel
theorem dX5_digits_58 : decode cX5_digits 58 = .ok (.getfield 14, 3) := by decide +kernel
theorem dX5_digits_61 : decode cX5_digits 61 = .ok (.iload_n 2, 1) := by decide +kernel
theorem dX5_digits_62 : decode cX5_digits 62 = .ok (.invokevirtual 101, 3) := by decide +kernel
theorem dX5_digits_65 : decode cX5_digits 65 = .ok (.istore 5, 2) := by decide +kernel
theorem dX5_digits_67 : decode cX5_digits 67 = .ok (.aload_n 0, 1) := by decide +kernel
theorem dX5_digits_68 : decode cX5_digits 68 = .ok (.iload 5, 2) := by decide +kernel
theorem dX5_digits_70 : decode cX5_digits 70 = .ok (.bipush 10, 2) := by decide +kernel
theorem dX5_digits_72 : decode cX5_digits 72 = .ok (.if_icmp .ge 11, 3) := by decide +kernel
theorem dX5_digits_75 : decode cX5_digits 75 = .ok (.bipush 48, 2) := by decide +kernel
theorem dX5_digits_77 : decode cX5_digits 77 = .ok (.iload 5, 2) := by decide +kernel
theorem dX5_digits_79 : decode cX5_digits 79 = .ok (.iadd, 1) := by decide +kernel
theorem dX5_digits_80 : decode cX5_digits 80 = .ok (.goto 11, 3) := by decide +kernel
theorem dX5_digits_83 : decode cX5_digits 83 = .ok (.bipush 97, 2) := by decide +kernel
theorem dX5_digits_85 : decode cX5_digits 85 = .ok (.iload 5, 2) := by decide +kernel
theorem dX5_digits_87 : decode cX5_digits 87 = .ok (.iadd, 1) := by decide +kernel
theorem dX5_digits_88 : decode cX5_digits 88 = .ok (.bipush 10, 2) := by decide +kernel
theorem dX5_digits_90 : decode cX5_digits 90 = .ok (.isub, 1) := by decide +kernel
theorem dX5_digits_91 : decode cX5_digits 91 = .ok (.invokevirtual 32, 3) := by decide +kernel
theorem dX5_digits_94 : decode cX5_digits 94 = .ok (.iinc 4 1, 3) := by decide +kernel
theorem dX5_digits_97 : decode cX5_digits 97 = .ok (.goto (-63), 3) := by decide +kernel
theorem dX5_digits_100 : decode cX5_digits 100 = .ok (.iload_n 3, 1) := by decide +kernel
theorem dX5_digits_101 : decode cX5_digits 101 = .ok (.istore 4, 2) := by decide +kernel
theorem dX5_digits_103 : decode cX5_digits 103 = .ok (.aload_n 0, 1) := by decide +kernel
theorem dX5_digits_104 : decode cX5_digits 104 = .ok (.getfield 28, 3) := by decide +kernel
theorem dX5_digits_107 : decode cX5_digits 107 = .ok (.iconst 1, 1) := by decide +kernel
theorem dX5_digits_108 : decode cX5_digits 108 = .ok (.isub, 1) := by decide +kernel
theorem dX5_digits_109 : decode cX5_digits 109 = .ok (.istore 5, 2) := by decide +kernel
theorem dX5_digits_111 : decode cX5_digits 111 = .ok (.iload 4, 2) := by decide +kernel
theorem dX5_digits_113 : decode cX5_digits 113 = .ok (.iload 5, 2) := by decide +kernel
theorem dX5_digits_115 : decode cX5_digits 115 = .ok (.if_icmp .ge 44, 3) := by decide +kernel
theorem dX5_digits_118 : decode cX5_digits 118 = .ok (.aload_n 0, 1) := by decide +kernel
theorem dX5_digits_119 : decode cX5_digits 119 = .ok (.getfield 20, 3) := by decide +kernel
theorem dX5_digits_122 : decode cX5_digits 122 = .ok (.iload 4, 2) := by decide +kernel
theorem dX5_digits_124 : decode cX5_digits 124 = .ok (.caload, 1) := by decide +kernel
theorem dX5_digits_125 : decode cX5_digits 125 = .ok (.istore 6, 2) := by decide +kernel
theorem dX5_digits_127 : decode cX5_digits 127 = .ok (.aload_n 0, 1) := by decide +kernel
theorem dX5_digits_128 : decode cX5_digits 128 = .ok (.getfield 20, 3) := by decide +kernel
theorem dX5_digits_131 : decode cX5_digits 131 = .ok (.iload 4, 2) := by decide +kernel
theorem dX5_digits_133 : decode cX5_digits 133 = .ok (.aload_n 0, 1) := by decide +kernel
theorem dX5_digits_134 : decode cX5_digits 134 = .ok (.getfield 20, 3) := by decide +kernel
theorem dX5_digits_137 : decode cX5_digits 137 = .ok (.iload 5, 2) := by decide +kernel
theorem dX5_digits_139 : decode cX5_digits 139 = .ok (.caload, 1) := by decide +kernel
theorem dX5_digits_140 : decode cX5_digits 140 = .ok (.castore, 1) := by decide +kernel
theorem dX5_digits_141 : decode cX5_digits 141 = .ok (.aload_n 0, 1) := by decide +kernel
theorem dX5_digits_142 : decode cX5_digits 142 = .ok (.getfield 20, 3) := by decide +kernel
theorem dX5_digits_145 : decode cX5_digits 145 = .ok (.iload 5, 2) := by decide +kernel
theorem dX5_digits_147 : decode cX5_digits 147 = .ok (.iload 6, 2) := by decide +kernel
theorem dX5_digits_149 : decode cX5_digits 149 = .ok (.castore, 1) := by decide +kernel
theorem dX5_digits_150 : decode cX5_digits 150 = .ok (.iinc 4 1, 3) := by decide +kernel
theorem dX5_digits_153 : decode cX5_digits 153 = .ok (.iinc 5 (-1), 3) := by decide +kernel
theorem dX5_digits_156 : decode cX5_digits 156 = .ok (.goto (-45), 3) := by decide +kernel
theorem dX5_digits_159 : decode cX5_digits 159 = .ok (.return_, 1) := by decide +kernel
theorem dX6_init_0 : decode cX6_init 0 = .ok (.aload_n 0, 1) := by decide +kernel
theorem dX6_init_1 : decode cX6_init 1 = .ok (.invokespecial 3, 3) := by decide +kernel
theorem dX6_init_4 : decode cX6_init 4 = .ok (.aload_n 0, 1) := by decide +kernel
theorem dX6_init_5 : decode cX6_init 5 = .ok (.sipush 300, 3) := by decide +kernel
theorem dX6_init_8 : decode cX6_init 8 = .ok (.newarray .int, 2) := by decide +kernel
theorem dX6_init_10 : decode cX6_init 10 = .ok (.putfield 11, 3) := by decide +kernel
theorem dX6_init_13 : decode cX6_init 13 = .ok (.aload_n 0, 1) := by decide +kernel
theorem dX6_init_14 : decode cX6_init 14 = .ok (.sipush 300, 3) := by decide +kernel
theorem dX6_init_17 : decode cX6_init 17 = .ok (.newarray .int, 2) := by decide +kernel
theorem dX6_init_19 : decode cX6_init 19 = .ok (.putfield 15, 3) := by decide +kernel
theorem dX6_init_22 : decode cX6_init 22 = .ok (.aload_n 0, 1) := by decide +kernel
theorem dX6_init_23 : decode cX6_init 23 = .ok (.sipush 300, 3) := by decide +kernel
theorem dX6_init_26 : decode cX6_init 26 = .ok (.newarray .int, 2) := by decide +kernel
theorem dX6_init_28 : decode cX6_init 28 = .ok (.putfield 18, 3) := by decide +kernel
theorem dX6_init_31 : decode cX6_init 31 = .ok (.aload_n 0, 1) := by decide +kernel
theorem dX6_init_32 : decode cX6_init 32 = .ok (.sipush 300, 3) := by decide +kernel
theorem dX6_init_35 : decode cX6_init 35 = .ok (.newarray .boolean, 2) := by decide +kernel
theorem dX6_init_37 : decode cX6_init 37 = .ok (.putfield 21, 3) := by decide +kernel
theorem dX6_init_40 : decode cX6_init 40 = .ok (.aload_n 0, 1) := by decide +kernel
theorem dX6_init_41 : decode cX6_init 41 = .ok (.sipush 300, 3) := by decide +kernel
theorem dX6_init_44 : decode cX6_init 44 = .ok (.newarray .int, 2) := by decide +kernel
theorem dX6_init_46 : decode cX6_init 46 = .ok (.putfield 25, 3) := by decide +kernel
theorem dX6_init_49 : decode cX6_init 49 = .ok (.aload_n 0, 1) := by decide +kernel
theorem dX6_init_50 : decode cX6_init 50 = .ok (.sipush 300, 3) := by decide +kernel
theorem dX6_init_53 : decode cX6_init 53 = .ok (.newarray .int, 2) := by decide +kernel
theorem dX6_init_55 : decode cX6_init 55 = .ok (.putfield 28, 3) := by decide +kernel
theorem dX6_init_58 : decode cX6_init 58 = .ok (.aload_n 0, 1) := by decide +kernel
theorem dX6_init_59 : decode cX6_init 59 = .ok (.sipush 300, 3) := by decide +kernel
theorem dX6_init_62 : decode cX6_init 62 = .ok (.newarray .int, 2) := by decide +kernel
theorem dX6_init_64 : decode cX6_init 64 = .ok (.putfield 31, 3) := by decide +kernel
theorem dX6_init_67 : decode cX6_init 67 = .ok (.aload_n 0, 1) := by decide +kernel
theorem dX6_init_68 : decode cX6_init 68 = .ok (.sipush 300, 3) := by decide +kernel
theorem dX6_init_71 : decode cX6_init 71 = .ok (.newarray .int, 2) := by decide +kernel
theorem dX6_init_73 : decode cX6_init 73 = .ok (.putfield 34, 3) := by decide +kernel
theorem dX6_init_76 : decode cX6_init 76 = .ok (.aload_n 0, 1) := by decide +kernel
theorem dX6_init_77 : decode cX6_init 77 = .ok (.sipush 300, 3) := by decide +kernel
theorem dX6_init_80 : decode cX6_init 80 = .ok (.newarray .int, 2) := by decide +kernel
theorem dX6_init_82 : decode cX6_init 82 = .ok (.putfield 37, 3) := by decide +kernel
theorem dX6_init_85 : decode cX6_init 85 = .ok (.aload_n 0, 1) := by decide +kernel
theorem dX6_init_86 : decode cX6_init 86 = .ok (.sipush 300, 3) := by decide +kernel
theorem dX6_init_89 : decode cX6_init 89 = .ok (.newarray .int, 2) := by decide +kernel
theorem dX6_init_91 : decode cX6_init 91 = .ok (.putfield 40, 3) := by decide +kernel
theorem dX6_init_94 : decode cX6_init 94 = .ok (.aload_n 0, 1) := by decide +kernel
theorem dX6_init_95 : decode cX6_init 95 = .ok (.new 43, 3) := by decide +kernel
theorem dX6_init_98 : decode cX6_init 98 = .ok (.dup, 1) := by decide +kernel
theorem dX6_init_99 : decode cX6_init 99 = .ok (.invokespecial 45, 3) := by decide +kernel
theorem dX6_init_102 : decode cX6_init 102 = .ok (.putfield 46, 3) := by decide +kernel
theorem dX6_init_105 : decode cX6_init 105 = .ok (.aload_n 0, 1) := by decide +kernel
theorem dX6_init_106 : decode cX6_init 106 = .ok (.aload_n 1, 1) := by decide +kernel
theorem dX6_init_107 : decode cX6_init 107 = .ok (.putfield 50, 3) := by decide +kernel
theorem dX6_init_110 : decode cX6_init 110 = .ok (.return_, 1) := by decide +kernel
theorem dX6_startWords_0 : decode cX6_startWords 0 = .ok (.aload_n 0, 1) := by decide +kernel
theorem dX6_startWords_1 : decode cX6_startWords 1 = .ok (.iconst 0, 1) := by decide +kernel
theorem dX6_startWords_2 : decode cX6_startWords 2 = .ok (.putfield 54, 3) := by decide +kernel
theorem dX6_startWords_5 : decode cX6_startWords 5 = .ok (.aload_n 0, 1) := by decide +kernel
theorem dX6_startWords_6 : decode cX6_startWords 6 = .ok (.iconst 0, 1) := by decide +kernel
theorem dX6_startWords_7 : decode cX6_startWords 7 = .ok (.putfield 58, 3) := by decide +kernel
theorem dX6_startWords_10 : decode cX6_startWords 10 = .ok (.return_, 1) := by decide +kernel
theorem dX6_addWord_0 : decode cX6_addWord 0 = .ok (.aload_n 0, 1) := by decide +kernel
theorem dX6_addWord_1 : decode cX6_addWord 1 = .ok (.getfield 54, 3) := by decide +kernel
theorem dX6_addWord_4 : decode cX6_addWord 4 = .ok (.sipush 300, 3) := by decide +kernel
theorem dX6_addWord_7 : decode cX6_addWord 7 = .ok (.if_icmp .ge 53, 3) := by decide +kernel
theorem dX6_addWord_10 : decode cX6_addWord 10 = .ok (.aload_n 0, 1) := by decide +kernel
theorem dX6_addWord_11 : decode cX6_addWord 11 = .ok (.getfield 11, 3) := by decide +kernel
theorem dX6_addWord_14 : decode cX6_addWord 14 = .ok (.aload_n 0, 1) := by decide +kernel
theorem dX6_addWord_15 : decode cX6_addWord 15 = .ok (.getfield 54, 3) := by decide +kernel
theorem dX6_addWord_18 : decode cX6_addWord 18 = .ok (.iload_n 1, 1) := by decide +kernel
theorem dX6_addWord_19 : decode cX6_addWord 19 = .ok (.iastore, 1) := by decide +kernel
theorem dX6_addWord_20 : decode cX6_addWord 20 = .ok (.aload_n 0, 1) := by decide +kernel
theorem dX6_addWord_21 : decode cX6_addWord 21 = .ok (.getfield 15, 3) := by decide +kernel
theorem dX6_addWord_24 : decode cX6_addWord 24 = .ok (.aload_n 0, 1) := by decide +kernel
theorem dX6_addWord_25 : decode cX6_addWord 25 = .ok (.getfield 54, 3) := by decide +kernel
theorem dX6_addWord_28 : decode cX6_addWord 28 = .ok (.iload_n 2, 1) := by decide +kernel
theorem dX6_addWord_29 : decode cX6_addWord 29 = .ok (.iastore, 1) := by decide +kernel
theorem dX6_addWord_30 : decode cX6_addWord 30 = .ok (.aload_n 0, 1) := by decide +kernel
theorem dX6_addWord_31 : decode cX6_addWord 31 = .ok (.getfield 18, 3) := by decide +kernel
theorem dX6_addWord_34 : decode cX6_addWord 34 = .ok (.aload_n 0, 1) := by decide +kernel
theorem dX6_addWord_35 : decode cX6_addWord 35 = .ok (.getfield 54, 3) := by decide +kernel
theorem dX6_addWord_38 : decode cX6_addWord 38 = .ok (.iload_n 3, 1) := by decide +kernel
theorem dX6_addWord_39 : decode cX6_addWord 39 = .ok (.iastore, 1) := by decide +kernel
theorem dX6_addWord_40 : decode cX6_addWord 40 = .ok (.aload_n 0, 1) := by decide +kernel
theorem dX6_addWord_41 : decode cX6_addWord 41 = .ok (.getfield 21, 3) := by decide +kernel
theorem dX6_addWord_44 : decode cX6_addWord 44 = .ok (.aload_n 0, 1) := by decide +kernel
theorem dX6_addWord_45 : decode cX6_addWord 45 = .ok (.getfield 54, 3) := by decide +kernel
theorem dX6_addWord_48 : decode cX6_addWord 48 = .ok (.iconst 0, 1) := by decide +kernel
theorem dX6_addWord_49 : decode cX6_addWord 49 = .ok (.bastore, 1) := by decide +kernel
theorem dX6_addWord_50 : decode cX6_addWord 50 = .ok (.aload_n 0, 1) := by decide +kernel
theorem dX6_addWord_51 : decode cX6_addWord 51 = .ok (.dup, 1) := by decide +kernel
theorem dX6_addWord_52 : decode cX6_addWord 52 = .ok (.getfield 54, 3) := by decide +kernel
theorem dX6_addWord_55 : decode cX6_addWord 55 = .ok (.iconst 1, 1) := by decide +kernel
theorem dX6_addWord_56 : decode cX6_addWord 56 = .ok (.iadd, 1) := by decide +kernel
theorem dX6_addWord_57 : decode cX6_addWord 57 = .ok (.putfield 54, 3) := by decide +kernel
theorem dX6_addWord_60 : decode cX6_addWord 60 = .ok (.return_, 1) := by decide +kernel
theorem dX6_split_0 : decode cX6_split 0 = .ok (.aload_n 0, 1) := by decide +kernel
theorem dX6_split_1 : decode cX6_split 1 = .ok (.invokevirtual 61, 3) := by decide +kernel
theorem dX6_split_4 : decode cX6_split 4 = .ok (.aload_n 0, 1) := by decide +kernel
theorem dX6_split_5 : decode cX6_split 5 = .ok (.iload_n 2, 1) := by decide +kernel
theorem dX6_split_6 : decode cX6_split 6 = .ok (.aload_n 1, 1) := by decide +kernel
theorem dX6_split_7 : decode cX6_split 7 = .ok (.arraylength, 1) := by decide +kernel
theorem dX6_split_8 : decode cX6_split 8 = .ok (.invokestatic 64, 3) := by decide +kernel
theorem dX6_split_11 : decode cX6_split 11 = .ok (.putfield 58, 3) := by decide +kernel
theorem dX6_split_14 : decode cX6_split 14 = .ok (.iconst 0, 1) := by decide +kernel
theorem dX6_split_15 : decode cX6_split 15 = .ok (.istore_n 3, 1) := by decide +kernel
theorem dX6_split_16 : decode cX6_split 16 = .ok (.iconst 0, 1) := by decide +kernel
theorem dX6_split_17 : decode cX6_split 17 = .ok (.istore 4, 2) := by decide +kernel
theorem dX6_split_19 : decode cX6_split 19 = .ok (.iload 4, 2) := by decide +kernel
theorem dX6_split_21 : decode cX6_split 21 = .ok (.aload_n 0, 1) := by decide +kernel
theorem dX6_split_22 : decode cX6_split 22 = .ok (.getfield 58, 3) := by decide +kernel
theorem dX6_split_25 : decode cX6_split 25 = .ok (.if_icmp .ge 65, 3) := by decide +kernel
theorem dX6_split_28 : decode cX6_split 28 = .ok (.iload_n 3, 1) := by decide +kernel
theorem dX6_split_29 : decode cX6_split 29 = .ok (.aload_n 0, 1) := by decide +kernel
theorem dX6_split_30 : decode cX6_split 30 = .ok (.getfield 58, 3) := by decide +kernel
theorem dX6_split_33 : decode cX6_split 33 = .ok (.if_icmp .ge 57, 3) := by decide +kernel
theorem dX6_split_36 : decode cX6_split 36 = .ok (.aload_n 1, 1) := by decide +kernel
theorem dX6_split_37 : decode cX6_split 37 = .ok (.iload_n 3, 1) := by decide +kernel
theorem dX6_split_38 : decode cX6_split 38 = .ok (.caload, 1) := by decide +kernel
theorem dX6_split_39 : decode cX6_split 39 = .ok (.bipush 32, 2) := by decide +kernel
theorem dX6_split_41 : decode cX6_split 41 = .ok (.if_icmp .ne 9, 3) := by decide +kernel
theorem dX6_split_44 : decode cX6_split 44 = .ok (.iinc 3 1, 3) := by decide +kernel
theorem dX6_split_47 : decode cX6_split 47 = .ok (.goto 37, 3) := by decide +kernel
theorem dX6_split_50 : decode cX6_split 50 = .ok (.aload_n 1, 1) := by decide +kernel
theorem dX6_split_51 : decode cX6_split 51 = .ok (.iload_n 3, 1) := by decide +kernel
theorem dX6_split_52 : decode cX6_split 52 = .ok (.caload, 1) := by decide +kernel
theorem dX6_split_53 : decode cX6_split 53 = .ok (.bipush 48, 2) := by decide +kernel
theorem dX6_split_55 : decode cX6_split 55 = .ok (.if_icmp .lt 20, 3) := by decide +kernel
theorem dX6_split_58 : decode cX6_split 58 = .ok (.aload_n 1, 1) := by decide +kernel
theorem dX6_split_59 : decode cX6_split 59 = .ok (.iload_n 3, 1) := by decide +kernel
theorem dX6_split_60 : decode cX6_split 60 = .ok (.caload, 1) := by decide +kernel
theorem dX6_split_61 : decode cX6_split 61 = .ok (.bipush 57, 2) := by decide +kernel
theorem dX6_split_63 : decode cX6_split 63 = .ok (.if_icmp .gt 12, 3) := by decide +kernel
theorem dX6_split_66 : decode cX6_split 66 = .ok (.aload_n 0, 1) := by decide +kernel
theorem dX6_split_67 : decode cX6_split 67 = .ok (.aload_n 1, 1) := by decide +kernel
theorem dX6_split_68 : decode cX6_split 68 = .ok (.iload_n 3, 1) := by decide +kernel
theorem dX6_split_69 : decode cX6_split 69 = .ok (.invokevirtual 70, 3) := by decide +kernel
theorem dX6_split_72 : decode cX6_split 72 = .ok (.goto 11, 3) := by decide +kernel
theorem dX6_split_75 : decode cX6_split 75 = .ok (.aload_n 0, 1) := by decide +kernel
theorem dX6_split_76 : decode cX6_split 76 = .ok (.aload_n 1, 1) := by decide +kernel
theorem dX6_split_77 : decode cX6_split 77 = .ok (.iload_n 3, 1) := by decide +kernel
theorem dX6_split_78 : decode cX6_split 78 = .ok (.caload, 1) := by decide +kernel
theorem dX6_split_79 : decode cX6_split 79 = .ok (.iload_n 3, 1) := by decide +kernel
theorem dX6_split_80 : decode cX6_split 80 = .ok (.invokevirtual 74, 3) := by decide +kernel
theorem dX6_split_83 : decode cX6_split 83 = .ok (.istore_n 3, 1) := by decide +kernel
theorem dX6_split_84 : decode cX6_split 84 = .ok (.iinc 4 1, 3) := by decide +kernel
theorem dX6_split_87 : decode cX6_split 87 = .ok (.goto (-68), 3) := by decide +kernel
theorem dX6_split_90 : decode cX6_split 90 = .ok (.return_, 1) := by decide +kernel
theorem dX6_splitOther_0 : decode cX6_splitOther 0 = .ok (.bipush 8, 2) := by decide +kernel
theorem dX6_splitOther_2 : decode cX6_splitOther 2 = .ok (.istore_n 3, 1) := by decide +kernel
theorem dX6_splitOther_3 : decode cX6_splitOther 3 = .ok (.iload_n 1, 1) := by decide +kernel
theorem dX6_splitOther_4 : decode cX6_splitOther 4 = .ok (.bipush 97, 2) := by decide +kernel
theorem dX6_splitOther_6 : decode cX6_splitOther 6 = .ok (.if_icmp .lt 14, 3) := by decide +kernel
theorem dX6_splitOther_9 : decode cX6_splitOther 9 = .ok (.iload_n 1, 1) := by decide +kernel
theorem dX6_splitOther_10 : decode cX6_splitOther 10 = .ok (.bipush 122, 2) := by decide +kernel
theorem dX6_splitOther_12 : decode cX6_splitOther 12 = .ok (.if_icmp .gt 8, 3) := by decide +kernel
theorem dX6_splitOther_15 : decode cX6_splitOther 15 = .ok (.iconst 1, 1) := by decide +kernel
theorem dX6_splitOther_16 : decode cX6_splitOther 16 = .ok (.istore_n 3, 1) := by decide +kernel
theorem dX6_splitOther_17 : decode cX6_splitOther 17 = .ok (.goto 50, 3) := by decide +kernel
theorem dX6_splitOther_20 : decode cX6_splitOther 20 = .ok (.iload_n 1, 1) := by decide +kernel
theorem dX6_splitOther_21 : decode cX6_splitOther 21 = .ok (.bipush 40, 2) := by decide +kernel
theorem dX6_splitOther_23 : decode cX6_splitOther 23 = .ok (.if_icmp .ne 8, 3) := by decide +kernel
theorem dX6_splitOther_26 : decode cX6_splitOther 26 = .ok (.iconst 4, 1) := by decide +kernel
theorem dX6_splitOther_27 : decode cX6_splitOther 27 = .ok (.istore_n 3, 1) := by decide +kernel
theorem dX6_splitOther_28 : decode cX6_splitOther 28 = .ok (.goto 39, 3) := by decide +kernel
theorem dX6_splitOther_31 : decode cX6_splitOther 31 = .ok (.iload_n 1, 1) := by decide +kernel
theorem dX6_splitOther_32 : decode cX6_splitOther 32 = .ok (.bipush 41, 2) := by decide +kernel
theorem dX6_splitOther_34 : decode cX6_splitOther 34 = .ok (.if_icmp .ne 8, 3) := by decide +kernel
theorem dX6_splitOther_37 : decode cX6_splitOther 37 = .ok (.iconst 5, 1) := by decide +kernel
theorem dX6_splitOther_38 : decode cX6_splitOther 38 = .ok (.istore_n 3, 1) := by decide +kernel
theorem dX6_splitOther_39 : decode cX6_splitOther 39 = .ok (.goto 28, 3) := by decide +kernel
theorem dX6_splitOther_42 : decode cX6_splitOther 42 = .ok (.iload_n 1, 1) := by decide +kernel
theorem dX6_splitOther_43 : decode cX6_splitOther 43 = .ok (.bipush 44, 2) := by decide +kernel
theorem dX6_splitOther_45 : decode cX6_splitOther 45 = .ok (.if_icmp .ne 9, 3) := by decide +kernel
theorem dX6_splitOther_48 : decode cX6_splitOther 48 = .ok (.bipush 6, 2) := by decide +kernel
theorem dX6_splitOther_50 : decode cX6_splitOther 50 = .ok (.istore_n 3, 1) := by decide +kernel
theorem dX6_splitOther_51 : decode cX6_splitOther 51 = .ok (.goto 16, 3) := by decide +kernel
theorem dX6_splitOther_54 : decode cX6_splitOther 54 = .ok (.aload_n 0, 1) := by decide +kernel
theorem dX6_splitOther_55 : decode cX6_splitOther 55 = .ok (.getfield 50, 3) := by decide +kernel
theorem dX6_splitOther_58 : decode cX6_splitOther 58 = .ok (.iload_n 1, 1) := by decide +kernel
theorem dX6_splitOther_59 : decode cX6_splitOther 59 = .ok (.invokevirtual 78, 3) := by decide +kernel
theorem dX6_splitOther_62 : decode cX6_splitOther 62 = .ok (.ifCond .eq 5, 3) := by decide +kernel
theorem dX6_splitOther_65 : decode cX6_splitOther 65 = .ok (.iconst 3, 1) := by decide +kernel
theorem dX6_splitOther_66 : decode cX6_splitOther 66 = .ok (.istore_n 3, 1) := by decide +kernel
theorem dX6_splitOther_67 : decode cX6_splitOther 67 = .ok (.aload_n 0, 1) := by decide +kernel
theorem dX6_splitOther_68 : decode cX6_splitOther 68 = .ok (.iload_n 3, 1) := by decide +kernel
theorem dX6_splitOther_69 : decode cX6_splitOther 69 = .ok (.iload_n 1, 1) := by decide +kernel
theorem dX6_splitOther_70 : decode cX6_splitOther 70 = .ok (.iload_n 2, 1) := by decide +kernel
theorem dX6_splitOther_71 : decode cX6_splitOther 71 = .ok (.invokevirtual 84, 3) := by decide +kernel
theorem dX6_splitOther_74 : decode cX6_splitOther 74 = .ok (.iload_n 3, 1) := by decide +kernel
theorem dX6_splitOther_75 : decode cX6_splitOther 75 = .ok (.bipush 8, 2) := by decide +kernel
theorem dX6_splitOther_77 : decode cX6_splitOther 77 = .ok (.if_icmp .ne 10, 3) := by decide +kernel
theorem dX6_splitOther_80 : decode cX6_splitOther 80 = .ok (.aload_n 0, 1) := by decide +kernel
theorem dX6_splitOther_81 : decode cX6_splitOther 81 = .ok (.getfield 58, 3) := by decide +kernel
theorem dX6_splitOther_84 : decode cX6_splitOther 84 = .ok (.goto 6, 3) := by decide +kernel
theorem dX6_splitOther_87 : decode cX6_splitOther 87 = .ok (.iload_n 2, 1) := by decide +kernel
theorem dX6_splitOther_88 : decode cX6_splitOther 88 = .ok (.iconst 1, 1) := by decide +kernel
theorem dX6_splitOther_89 : decode cX6_splitOther 89 = .ok (.iadd, 1) := by decide +kernel
theorem dX6_splitOther_90 : decode cX6_splitOther 90 = .ok (.ireturn, 1) := by decide +kernel
theorem dX6_splitNumber_0 : decode cX6_splitNumber 0 = .ok (.aload_n 1, 1) := by decide +kernel
theorem dX6_splitNumber_1 : decode cX6_splitNumber 1 = .ok (.iload_n 2, 1) := by decide +kernel
theorem dX6_splitNumber_2 : decode cX6_splitNumber 2 = .ok (.caload, 1) := by decide +kernel
theorem dX6_splitNumber_3 : decode cX6_splitNumber 3 = .ok (.bipush 48, 2) := by decide +kernel
theorem dX6_splitNumber_5 : decode cX6_splitNumber 5 = .ok (.if_icmp .ne 21, 3) := by decide +kernel
theorem dX6_splitNumber_8 : decode cX6_splitNumber 8 = .ok (.iload_n 2, 1) := by decide +kernel
theorem dX6_splitNumber_9 : decode cX6_splitNumber 9 = .ok (.iconst 1, 1) := by decide +kernel
theorem dX6_splitNumber_10 : decode cX6_splitNumber 10 = .ok (.iadd, 1) := by decide +kernel
theorem dX6_splitNumber_11 : decode cX6_splitNumber 11 = .ok (.aload_n 0, 1) := by decide +kernel
theorem dX6_splitNumber_12 : decode cX6_splitNumber 12 = .ok (.getfield 58, 3) := by decide +kernel
theorem dX6_splitNumber_15 : decode cX6_splitNumber 15 = .ok (.if_icmp .ge 11, 3) := by decide +kernel
theorem dX6_splitNumber_18 : decode cX6_splitNumber 18 = .ok (.aload_n 1, 1) := by decide +kernel
theorem dX6_splitNumber_19 : decode cX6_splitNumber 19 = .ok (.iload_n 2, 1) := by decide +kernel
theorem dX6_splitNumber_20 : decode cX6_splitNumber 20 = .ok (.iconst 1, 1) := by decide +kernel
theorem dX6_splitNumber_21 : decode cX6_splitNumber 21 = .ok (.iadd, 1) := by decide +kernel
theorem dX6_splitNumber_22 : decode cX6_splitNumber 22 = .ok (.caload, 1) := by decide +kernel
theorem dX6_splitNumber_23 : decode cX6_splitNumber 23 = .ok (.goto 5, 3) := by decide +kernel
theorem dX6_splitNumber_26 : decode cX6_splitNumber 26 = .ok (.bipush 32, 2) := by decide +kernel
theorem dX6_splitNumber_28 : decode cX6_splitNumber 28 = .ok (.istore_n 3, 1) := by decide +kernel
theorem dX6_splitNumber_29 : decode cX6_splitNumber 29 = .ok (.iload_n 3, 1) := by decide +kernel
theorem dX6_splitNumber_30 : decode cX6_splitNumber 30 = .ok (.bipush 120, 2) := by decide +kernel
theorem dX6_splitNumber_32 : decode cX6_splitNumber 32 = .ok (.if_icmp .ne 8, 3) := by decide +kernel
theorem dX6_splitNumber_35 : decode cX6_splitNumber 35 = .ok (.bipush 16, 2) := by decide +kernel
theorem dX6_splitNumber_37 : decode cX6_splitNumber 37 = .ok (.goto 26, 3) := by decide +kernel
theorem dX6_splitNumber_40 : decode cX6_splitNumber 40 = .ok (.iload_n 3, 1) := by decide +kernel
theorem dX6_splitNumber_41 : decode cX6_splitNumber 41 = .ok (.bipush 111, 2) := by decide +kernel
theorem dX6_splitNumber_43 : decode cX6_splitNumber 43 = .ok (.if_icmp .ne 8, 3) := by decide +kernel
theorem dX6_splitNumber_46 : decode cX6_splitNumber 46 = .ok (.bipush 8, 2) := by decide +kernel
theorem dX6_splitNumber_48 : decode cX6_splitNumber 48 = .ok (.goto 15, 3) := by decide +kernel
theorem dX6_splitNumber_51 : decode cX6_splitNumber 51 = .ok (.iload_n 3, 1) := by decide +kernel
theorem dX6_splitNumber_52 : decode cX6_splitNumber 52 = .ok (.bipush 98, 2) := by decide +kernel
theorem dX6_splitNumber_54 : decode cX6_splitNumber 54 = .ok (.if_icmp .ne 7, 3) := by decide +kernel
theorem dX6_splitNumber_57 : decode cX6_splitNumber 57 = .ok (.iconst 2, 1) := by decide +kernel
theorem dX6_splitNumber_58 : decode cX6_splitNumber 58 = .ok (.goto 5, 3) := by decide +kernel
theorem dX6_splitNumber_61 : decode cX6_splitNumber 61 = .ok (.bipush 10, 2) := by decide +kernel
theorem dX6_splitNumber_63 : decode cX6_splitNumber 63 = .ok (.istore 4, 2) := by decide +kernel
theorem dX6_splitNumber_65 : decode cX6_splitNumber 65 = .ok (.iload 4, 2) := by decide +kernel
theorem dX6_splitNumber_67 : decode cX6_splitNumber 67 = .ok (.bipush 10, 2) := by decide +kernel
theorem dX6_splitNumber_69 : decode cX6_splitNumber 69 = .ok (.if_icmp .ne 7, 3) := by decide +kernel
theorem dX6_splitNumber_72 : decode cX6_splitNumber 72 = .ok (.iload_n 2, 1) := by decide +kernel
theorem dX6_splitNumber_73 : decode cX6_splitNumber 73 = .ok (.goto 6, 3) := by decide +kernel
theorem dX6_splitNumber_76 : decode cX6_splitNumber 76 = .ok (.iload_n 2, 1) := by decide +kernel
theorem dX6_splitNumber_77 : decode cX6_splitNumber 77 = .ok (.iconst 2, 1) := by decide +kernel
theorem dX6_splitNumber_78 : decode cX6_splitNumber 78 = .ok (.iadd, 1) := by decide +kernel
theorem dX6_splitNumber_79 : decode cX6_splitNumber 79 = .ok (.istore 5, 2) := by decide +kernel
theorem dX6_splitNumber_81 : decode cX6_splitNumber 81 = .ok (.aload_n 0, 1) := by decide +kernel
theorem dX6_splitNumber_82 : decode cX6_splitNumber 82 = .ok (.getfield 58, 3) := by decide +kernel
theorem dX6_splitNumber_85 : decode cX6_splitNumber 85 = .ok (.iload 5, 2) := by decide +kernel
theorem dX6_splitNumber_87 : decode cX6_splitNumber 87 = .ok (.iload 4, 2) := by decide +kernel
theorem dX6_splitNumber_89 : decode cX6_splitNumber 89 = .ok (.bipush 10, 2) := by decide +kernel
theorem dX6_splitNumber_91 : decode cX6_splitNumber 91 = .ok (.if_icmp .ne 8, 3) := by decide +kernel
theorem dX6_splitNumber_94 : decode cX6_splitNumber 94 = .ok (.bipush 9, 2) := by decide +kernel
theorem dX6_splitNumber_96 : decode cX6_splitNumber 96 = .ok (.goto 5, 3) := by decide +kernel
theorem dX6_splitNumber_99 : decode cX6_splitNumber 99 = .ok (.bipush 7, 2) := by decide +kernel
theorem dX6_splitNumber_101 : decode cX6_splitNumber 101 = .ok (.iadd, 1) := by decide +kernel
theorem dX6_splitNumber_102 : decode cX6_splitNumber 102 = .ok (.invokestatic 64, 3) := by decide +kernel
theorem dX6_splitNumber_105 : decode cX6_splitNumber 105 = .ok (.istore 6, 2) := by decide +kernel
theorem dX6_splitNumber_107 : decode cX6_splitNumber 107 = .ok (.iconst 0, 1) := by decide +kernel
theorem dX6_splitNumber_108 : decode cX6_splitNumber 108 = .ok (.istore 7, 2) := by decide +kernel
theorem dX6_splitNumber_110 : decode cX6_splitNumber 110 = .ok (.iload 5, 2) := by decide +kernel
theorem dX6_splitNumber_112 : decode cX6_splitNumber 112 = .ok (.istore 8, 2) := by decide +kernel
theorem dX6_splitNumber_114 : decode cX6_splitNumber 114 = .ok (.iload 8, 2) := by decide +kernel
theorem dX6_splitNumber_116 : decode cX6_splitNumber 116 = .ok (.iload 6, 2) := by decide +kernel
theorem dX6_splitNumber_118 : decode cX6_splitNumber 118 = .ok (.if_icmp .ge 36, 3) := by decide +kernel
theorem dX6_splitNumber_121 : decode cX6_splitNumber 121 = .ok (.aload_n 1, 1) := by decide +kernel
theorem dX6_splitNumber_122 : decode cX6_splitNumber 122 = .ok (.iload 8, 2) := by decide +kernel
theorem dX6_splitNumber_124 : decode cX6_splitNumber 124 = .ok (.caload, 1) := by decide +kernel
theorem dX6_splitNumber_125 : decode cX6_splitNumber 125 = .ok (.invokestatic 88, 3) := by decide +kernel
theorem dX6_splitNumber_128 : decode cX6_splitNumber 128 = .ok (.iload 4, 2) := by decide +kernel
theorem dX6_splitNumber_130 : decode cX6_splitNumber 130 = .ok (.if_icmp .ge 24, 3) := by decide +kernel
theorem dX6_splitNumber_133 : decode cX6_splitNumber 133 = .ok (.iload 7, 2) := by decide +kernel
theorem dX6_splitNumber_135 : decode cX6_splitNumber 135 = .ok (.iload 4, 2) := by decide +kernel
theorem dX6_splitNumber_137 : decode cX6_splitNumber 137 = .ok (.imul, 1) := by decide +kernel
theorem dX6_splitNumber_138 : decode cX6_splitNumber 138 = .ok (.aload_n 1, 1) := by decide +kernel
theorem dX6_splitNumber_139 : decode cX6_splitNumber 139 = .ok (.iload 8, 2) := by decide +kernel
theorem dX6_splitNumber_141 : decode cX6_splitNumber 141 = .ok (.caload, 1) := by decide +kernel
theorem dX6_splitNumber_142 : decode cX6_splitNumber 142 = .ok (.invokestatic 88, 3) := by decide +kernel
theorem dX6_splitNumber_145 : decode cX6_splitNumber 145 = .ok (.iadd, 1) := by decide +kernel
theorem dX6_splitNumber_146 : decode cX6_splitNumber 146 = .ok (.istore 7, 2) := by decide +kernel
theorem dX6_splitNumber_148 : decode cX6_splitNumber 148 = .ok (.iinc 8 1, 3) := by decide +kernel
theorem dX6_splitNumber_151 : decode cX6_splitNumber 151 = .ok (.goto (-37), 3) := by decide +kernel
theorem dX6_splitNumber_154 : decode cX6_splitNumber 154 = .ok (.iload 8, 2) := by decide +kernel
theorem dX6_splitNumber_156 : decode cX6_splitNumber 156 = .ok (.iload 5, 2) := by decide +kernel
theorem dX6_splitNumber_158 : decode cX6_splitNumber 158 = .ok (.if_icmp .ne 17, 3) := by decide +kernel
theorem dX6_splitNumber_161 : decode cX6_splitNumber 161 = .ok (.aload_n 0, 1) := by decide +kernel
theorem dX6_splitNumber_162 : decode cX6_splitNumber 162 = .ok (.bipush 7, 2) := by decide +kernel
theorem dX6_splitNumber_164 : decode cX6_splitNumber 164 = .ok (.iload 8, 2) := by decide +kernel
theorem dX6_splitNumber_166 : decode cX6_splitNumber 166 = .ok (.iload_n 2, 1) := by decide +kernel
theorem dX6_splitNumber_167 : decode cX6_splitNumber 167 = .ok (.invokevirtual 84, 3) := by decide +kernel
theorem dX6_splitNumber_170 : decode cX6_splitNumber 170 = .ok (.aload_n 0, 1) := by decide +kernel
theorem dX6_splitNumber_171 : decode cX6_splitNumber 171 = .ok (.getfield 58, 3) := by decide +kernel
theorem dX6_splitNumber_174 : decode cX6_splitNumber 174 = .ok (.ireturn, 1) := by decide +kernel
theorem dX6_splitNumber_175 : decode cX6_splitNumber 175 = .ok (.aload_n 0, 1) := by decide +kernel
theorem dX6_splitNumber_176 : decode cX6_splitNumber 176 = .ok (.iconst 0, 1) := by decide +kernel
theorem dX6_splitNumber_177 : decode cX6_splitNumber 177 = .ok (.iload 7, 2) := by decide +kernel
theorem dX6_splitNumber_179 : decode cX6_splitNumber 179 = .ok (.iload_n 2, 1) := by decide +kernel
theorem dX6_splitNumber_180 : decode cX6_splitNumber 180 = .ok (.invokevirtual 84, 3) := by decide +kernel
theorem dX6_splitNumber_183 : decode cX6_splitNumber 183 = .ok (.iload 8, 2) := by decide +kernel
theorem dX6_splitNumber_185 : decode cX6_splitNumber 185 = .ok (.ireturn, 1) := by decide +kernel
theorem dX6_digit_0 : decode cX6_digit 0 = .ok (.iload_n 0, 1) := by decide +kernel
theorem dX6_digit_1 : decode cX6_digit 1 = .ok (.bipush 48, 2) := by decide +kernel
theorem dX6_digit_3 : decode cX6_digit 3 = .ok (.if_icmp .lt 14, 3) := by decide +kernel
theorem dX6_digit_6 : decode cX6_digit 6 = .ok (.iload_n 0, 1) := by decide +kernel
theorem dX6_digit_7 : decode cX6_digit 7 = .ok (.bipush 57, 2) := by decide +kernel
theorem dX6_digit_9 : decode cX6_digit 9 = .ok (.if_icmp .gt 8, 3) := by decide +kernel
theorem dX6_digit_12 : decode cX6_digit 12 = .ok (.iload_n 0, 1) := by decide +kernel
theorem dX6_digit_13 : decode cX6_digit 13 = .ok (.bipush 48, 2) := by decide +kernel
theorem dX6_digit_15 : decode cX6_digit 15 = .ok (.isub, 1) := by decide +kernel
theorem dX6_digit_16 : decode cX6_digit 16 = .ok (.ireturn, 1) := by decide +kernel
theorem dX6_digit_17 : decode cX6_digit 17 = .ok (.iload_n 0, 1) := by decide +kernel
theorem dX6_digit_18 : decode cX6_digit 18 = .ok (.bipush 97, 2) := by decide +kernel
theorem dX6_digit_20 : decode cX6_digit 20 = .ok (.if_icmp .lt 19, 3) := by decide +kernel
theorem dX6_digit_23 : decode cX6_digit 23 = .ok (.iload_n 0, 1) := by decide +kernel
theorem dX6_digit_24 : decode cX6_digit 24 = .ok (.bipush 102, 2) := by decide +kernel
theorem dX6_digit_26 : decode cX6_digit 26 = .ok (.if_icmp .gt 13, 3) := by decide +kernel
theorem dX6_digit_29 : decode cX6_digit 29 = .ok (.iload_n 0, 1) := by decide +kernel
theorem dX6_digit_30 : decode cX6_digit 30 = .ok (.bipush 97, 2) := by decide +kernel
theorem dX6_digit_32 : decode cX6_digit 32 = .ok (.isub, 1) := by decide +kernel
theorem dX6_digit_33 : decode cX6_digit 33 = .ok (.bipush 10, 2) := by decide +kernel
theorem dX6_digit_35 : decode cX6_digit 35 = .ok (.iadd, 1) := by decide +kernel
theorem dX6_digit_36 : decode cX6_digit 36 = .ok (.goto 5, 3) := by decide +kernel
theorem dX6_digit_39 : decode cX6_digit 39 = .ok (.bipush 16, 2) := by decide +kernel
theorem dX6_digit_41 : decode cX6_digit 41 = .ok (.ireturn, 1) := by decide +kernel
theorem dX6_nextWord_0 : decode cX6_nextWord 0 = .ok (.aload_n 0, 1) := by decide +kernel
theorem dX6_nextWord_1 : decode cX6_nextWord 1 = .ok (.getfield 92, 3) := by decide +kernel
theorem dX6_nextWord_4 : decode cX6_nextWord 4 = .ok (.istore_n 1, 1) := by decide +kernel
theorem dX6_nextWord_5 : decode cX6_nextWord 5 = .ok (.iconst 0, 1) := by decide +kernel
theorem dX6_nextWord_6 : decode cX6_nextWord 6 = .ok (.istore_n 2, 1) := by decide +kernel
theorem dX6_nextWord_7 : decode cX6_nextWord 7 = .ok (.iload_n 2, 1) := by decide +kernel
theorem dX6_nextWord_8 : decode cX6_nextWord 8 = .ok (.aload_n 0, 1) := by decide +kernel
theorem dX6_nextWord_9 : decode cX6_nextWord 9 = .ok (.getfield 54, 3) := by decide +kernel
theorem dX6_nextWord_12 : decode cX6_nextWord 12 = .ok (.if_icmp .ge 29, 3) := by decide +kernel
theorem dX6_nextWord_15 : decode cX6_nextWord 15 = .ok (.iload_n 1, 1) := by decide +kernel
theorem dX6_nextWord_16 : decode cX6_nextWord 16 = .ok (.aload_n 0, 1) := by decide +kernel
theorem dX6_nextWord_17 : decode cX6_nextWord 17 = .ok (.getfield 54, 3) := by decide +kernel
theorem dX6_nextWord_20 : decode cX6_nextWord 20 = .ok (.if_icmp .ge 21, 3) := by decide +kernel
theorem dX6_nextWord_23 : decode cX6_nextWord 23 = .ok (.aload_n 0, 1) := by decide +kernel
theorem dX6_nextWord_24 : decode cX6_nextWord 24 = .ok (.getfield 21, 3) := by decide +kernel
theorem dX6_nextWord_27 : decode cX6_nextWord 27 = .ok (.iload_n 1, 1) := by decide +kernel
theorem dX6_nextWord_28 : decode cX6_nextWord 28 = .ok (.baload, 1) := by decide +kernel
theorem dX6_nextWord_29 : decode cX6_nextWord 29 = .ok (.ifCond .eq 12, 3) := by decide +kernel
theorem dX6_nextWord_32 : decode cX6_nextWord 32 = .ok (.iinc 1 1, 3) := by decide +kernel
theorem dX6_nextWord_35 : decode cX6_nextWord 35 = .ok (.iinc 2 1, 3) := by decide +kernel
theorem dX6_nextWord_38 : decode cX6_nextWord 38 = .ok (.goto (-31), 3) := by decide +kernel
theorem dX6_nextWord_41 : decode cX6_nextWord 41 = .ok (.iload_n 1, 1) := by decide +kernel
theorem dX6_nextWord_42 : decode cX6_nextWord 42 = .ok (.ireturn, 1) := by decide +kernel
theorem dX6_kindAt_0 : decode cX6_kindAt 0 = .ok (.iload_n 1, 1) := by decide +kernel
theorem dX6_kindAt_1 : decode cX6_kindAt 1 = .ok (.ifCond .lt 20, 3) := by decide +kernel
theorem dX6_kindAt_4 : decode cX6_kindAt 4 = .ok (.iload_n 1, 1) := by decide +kernel
theorem dX6_kindAt_5 : decode cX6_kindAt 5 = .ok (.aload_n 0, 1) := by decide +kernel
theorem dX6_kindAt_6 : decode cX6_kindAt 6 = .ok (.getfield 54, 3) := by decide +kernel
theorem dX6_kindAt_9 : decode cX6_kindAt 9 = .ok (.if_icmp .ge 12, 3) := by decide +kernel
theorem dX6_kindAt_12 : decode cX6_kindAt 12 = .ok (.aload_n 0, 1) := by decide +kernel
theorem dX6_kindAt_13 : decode cX6_kindAt 13 = .ok (.getfield 11, 3) := by decide +kernel
theorem dX6_kindAt_16 : decode cX6_kindAt 16 = .ok (.iload_n 1, 1) := by decide +kernel
theorem dX6_kindAt_17 : decode cX6_kindAt 17 = .ok (.iaload, 1) := by decide +kernel
theorem dX6_kindAt_18 : decode cX6_kindAt 18 = .ok (.goto 5, 3) := by decide +kernel
theorem dX6_kindAt_21 : decode cX6_kindAt 21 = .ok (.bipush 9, 2) := by decide +kernel
theorem dX6_kindAt_23 : decode cX6_kindAt 23 = .ok (.ireturn, 1) := by decide +kernel
theorem dX6_byStacks_0 : decode cX6_byStacks 0 = .ok (.aload_n 0, 1) := by decide +kernel
theorem dX6_byStacks_1 : decode cX6_byStacks 1 = .ok (.iconst 0, 1) := by decide +kernel
theorem dX6_byStacks_2 : decode cX6_byStacks 2 = .ok (.putfield 92, 3) := by decide +kernel
theorem dX6_byStacks_5 : decode cX6_byStacks 5 = .ok (.aload_n 0, 1) := by decide +kernel
theorem dX6_byStacks_6 : decode cX6_byStacks 6 = .ok (.iconst 0, 1) := by decide +kernel
theorem dX6_byStacks_7 : decode cX6_byStacks 7 = .ok (.putfield 95, 3) := by decide +kernel
theorem dX6_byStacks_10 : decode cX6_byStacks 10 = .ok (.aload_n 0, 1) := by decide +kernel
theorem dX6_byStacks_11 : decode cX6_byStacks 11 = .ok (.iconst 0, 1) := by decide +kernel
theorem dX6_byStacks_12 : decode cX6_byStacks 12 = .ok (.putfield 98, 3) := by decide +kernel
theorem dX6_byStacks_15 : decode cX6_byStacks 15 = .ok (.aload_n 0, 1) := by decide +kernel
theorem dX6_byStacks_16 : decode cX6_byStacks 16 = .ok (.iconst 1, 1) := by decide +kernel
theorem dX6_byStacks_17 : decode cX6_byStacks 17 = .ok (.putfield 101, 3) := by decide +kernel
theorem dX6_byStacks_20 : decode cX6_byStacks 20 = .ok (.aload_n 0, 1) := by decide +kernel
theorem dX6_byStacks_21 : decode cX6_byStacks 21 = .ok (.getfield 46, 3) := by decide +kernel
theorem dX6_byStacks_24 : decode cX6_byStacks 24 = .ok (.invokevirtual 105, 3) := by decide +kernel
theorem dX6_byStacks_27 : decode cX6_byStacks 27 = .ok (.iconst 0, 1) := by decide +kernel
theorem dX6_byStacks_28 : decode cX6_byStacks 28 = .ok (.istore_n 1, 1) := by decide +kernel
theorem dX6_byStacks_29 : decode cX6_byStacks 29 = .ok (.iload_n 1, 1) := by decide +kernel
theorem dX6_byStacks_30 : decode cX6_byStacks 30 = .ok (.aload_n 0, 1) := by decide +kernel
theorem dX6_byStacks_31 : decode cX6_byStacks 31 = .ok (.getfield 54, 3) := by decide +kernel
theorem dX6_byStacks_34 : decode cX6_byStacks 34 = .ok (.if_icmp .ge 120, 3) := by decide +kernel
theorem dX6_byStacks_37 : decode cX6_byStacks 37 = .ok (.aload_n 0, 1) := by decide +kernel
theorem dX6_byStacks_38 : decode cX6_byStacks 38 = .ok (.invokevirtual 108, 3) := by decide +kernel
theorem dX6_byStacks_41 : decode cX6_byStacks 41 = .ok (.istore_n 2, 1) := by decide +kernel
theorem dX6_byStacks_42 : decode cX6_byStacks 42 = .ok (.iload_n 2, 1) := by decide +kernel
theorem dX6_byStacks_43 : decode cX6_byStacks 43 = .ok (.aload_n 0, 1) := by decide +kernel
theorem dX6_byStacks_44 : decode cX6_byStacks 44 = .ok (.getfield 54, 3) := by decide +kernel
theorem dX6_byStacks_47 : decode cX6_byStacks 47 = .ok (.if_icmp .lt 6, 3) := by decide +kernel
theorem dX6_byStacks_50 : decode cX6_byStacks 50 = .ok (.goto 104, 3) := by decide +kernel
theorem dX6_byStacks_53 : decode cX6_byStacks 53 = .ok (.aload_n 0, 1) := by decide +kernel
theorem dX6_byStacks_54 : decode cX6_byStacks 54 = .ok (.iload_n 2, 1) := by decide +kernel
theorem dX6_byStacks_55 : decode cX6_byStacks 55 = .ok (.iconst 1, 1) := by decide +kernel
theorem dX6_byStacks_56 : decode cX6_byStacks 56 = .ok (.iadd, 1) := by decide +kernel
theorem dX6_byStacks_57 : decode cX6_byStacks 57 = .ok (.putfield 92, 3) := by decide +kernel
theorem dX6_byStacks_60 : decode cX6_byStacks 60 = .ok (.aload_n 0, 1) := by decide +kernel
theorem dX6_byStacks_61 : decode cX6_byStacks 61 = .ok (.getfield 101, 3) := by decide +kernel
theorem dX6_byStacks_64 : decode cX6_byStacks 64 = .ok (.ifCond .eq 12, 3) := by decide +kernel
theorem dX6_byStacks_67 : decode cX6_byStacks 67 = .ok (.aload_n 0, 1) := by decide +kernel
theorem dX6_byStacks_68 : decode cX6_byStacks 68 = .ok (.iload_n 2, 1) := by decide +kernel
theorem dX6_byStacks_69 : decode cX6_byStacks 69 = .ok (.invokevirtual 112, 3) := by decide +kernel
theorem dX6_byStacks_72 : decode cX6_byStacks 72 = .ok (.istore_n 3, 1) := by decide +kernel
theorem dX6_byStacks_73 : decode cX6_byStacks 73 = .ok (.goto 37, 3) := by decide +kernel
theorem dX6_byStacks_76 : decode cX6_byStacks 76 = .ok (.aload_n 0, 1) := by decide +kernel
theorem dX6_byStacks_77 : decode cX6_byStacks 77 = .ok (.getfield 11, 3) := by decide +kernel
theorem dX6_byStacks_80 : decode cX6_byStacks 80 = .ok (.iload_n 2, 1) := by decide +kernel
theorem dX6_byStacks_81 : decode cX6_byStacks 81 = .ok (.iaload, 1) := by decide +kernel
theorem dX6_byStacks_82 : decode cX6_byStacks 82 = .ok (.iconst 3, 1) := by decide +kernel
theorem dX6_byStacks_83 : decode cX6_byStacks 83 = .ok (.if_icmp .ne 16, 3) := by decide +kernel
theorem dX6_byStacks_86 : decode cX6_byStacks 86 = .ok (.aload_n 0, 1) := by decide +kernel
theorem dX6_byStacks_87 : decode cX6_byStacks 87 = .ok (.aload_n 0, 1) := by decide +kernel
theorem dX6_byStacks_88 : decode cX6_byStacks 88 = .ok (.getfield 15, 3) := by decide +kernel
theorem dX6_byStacks_91 : decode cX6_byStacks 91 = .ok (.iload_n 2, 1) := by decide +kernel
theorem dX6_byStacks_92 : decode cX6_byStacks 92 = .ok (.iaload, 1) := by decide +kernel
theorem dX6_byStacks_93 : decode cX6_byStacks 93 = .ok (.invokevirtual 115, 3) := by decide +kernel
theorem dX6_byStacks_96 : decode cX6_byStacks 96 = .ok (.goto 13, 3) := by decide +kernel
theorem dX6_byStacks_99 : decode cX6_byStacks 99 = .ok (.aload_n 0, 1) := by decide +kernel
theorem dX6_byStacks_100 : decode cX6_byStacks 100 = .ok (.aload_n 0, 1) := by decide +kernel
theorem dX6_byStacks_101 : decode cX6_byStacks 101 = .ok (.getfield 11, 3) := by decide +kernel
theorem dX6_byStacks_104 : decode cX6_byStacks 104 = .ok (.iload_n 2, 1) := by decide +kernel
theorem dX6_byStacks_105 : decode cX6_byStacks 105 = .ok (.iaload, 1) := by decide +kernel
theorem dX6_byStacks_106 : decode cX6_byStacks 106 = .ok (.invokevirtual 118, 3) := by decide +kernel
theorem dX6_byStacks_109 : decode cX6_byStacks 109 = .ok (.istore_n 3, 1) := by decide +kernel
theorem dX6_byStacks_110 : decode cX6_byStacks 110 = .ok (.iload_n 3, 1) := by decide +kernel
theorem dX6_byStacks_111 : decode cX6_byStacks 111 = .ok (.ifCond .ne 37, 3) := by decide +kernel
theorem dX6_byStacks_114 : decode cX6_byStacks 114 = .ok (.aload_n 0, 1) := by decide +kernel
theorem dX6_byStacks_115 : decode cX6_byStacks 115 = .ok (.getfield 101, 3) := by decide +kernel
theorem dX6_byStacks_118 : decode cX6_byStacks 118 = .ok (.ifCond .eq 23, 3) := by decide +kernel
theorem dX6_byStacks_121 : decode cX6_byStacks 121 = .ok (.aload_n 0, 1) := by decide +kernel
theorem dX6_byStacks_122 : decode cX6_byStacks 122 = .ok (.getfield 11, 3) := by decide +kernel
theorem dX6_byStacks_125 : decode cX6_byStacks 125 = .ok (.iload_n 2, 1) := by decide +kernel
theorem dX6_byStacks_126 : decode cX6_byStacks 126 = .ok (.iaload, 1) := by decide +kernel
theorem dX6_byStacks_127 : decode cX6_byStacks 127 = .ok (.bipush 7, 2) := by decide +kernel
theorem dX6_byStacks_129 : decode cX6_byStacks 129 = .ok (.if_icmp .ne 12, 3) := by decide +kernel
theorem dX6_byStacks_132 : decode cX6_byStacks 132 = .ok (.aload_n 0, 1) := by decide +kernel
theorem dX6_byStacks_133 : decode cX6_byStacks 133 = .ok (.getfield 15, 3) := by decide +kernel
theorem dX6_byStacks_136 : decode cX6_byStacks 136 = .ok (.iload_n 2, 1) := by decide +kernel
theorem dX6_byStacks_137 : decode cX6_byStacks 137 = .ok (.iaload, 1) := by decide +kernel
theorem dX6_byStacks_138 : decode cX6_byStacks 138 = .ok (.goto 9, 3) := by decide +kernel
theorem dX6_byStacks_141 : decode cX6_byStacks 141 = .ok (.aload_n 0, 1) := by decide +kernel
theorem dX6_byStacks_142 : decode cX6_byStacks 142 = .ok (.getfield 18, 3) := by decide +kernel
theorem dX6_byStacks_145 : decode cX6_byStacks 145 = .ok (.iload_n 2, 1) := by decide +kernel
theorem dX6_byStacks_146 : decode cX6_byStacks 146 = .ok (.iaload, 1) := by decide +kernel
theorem dX6_byStacks_147 : decode cX6_byStacks 147 = .ok (.ireturn, 1) := by decide +kernel
theorem dX6_byStacks_148 : decode cX6_byStacks 148 = .ok (.iinc 1 1, 3) := by decide +kernel
theorem dX6_byStacks_151 : decode cX6_byStacks 151 = .ok (.goto (-122), 3) := by decide +kernel
theorem dX6_byStacks_154 : decode cX6_byStacks 154 = .ok (.aload_n 0, 1) := by decide +kernel
theorem dX6_byStacks_155 : decode cX6_byStacks 155 = .ok (.iconst 0, 1) := by decide +kernel
theorem dX6_byStacks_156 : decode cX6_byStacks 156 = .ok (.invokevirtual 121, 3) := by decide +kernel
theorem dX6_byStacks_159 : decode cX6_byStacks 159 = .ok (.aload_n 0, 1) := by decide +kernel
theorem dX6_byStacks_160 : decode cX6_byStacks 160 = .ok (.getfield 101, 3) := by decide +kernel
theorem dX6_byStacks_163 : decode cX6_byStacks 163 = .ok (.ifCond .ne 10, 3) := by decide +kernel
theorem dX6_byStacks_166 : decode cX6_byStacks 166 = .ok (.aload_n 0, 1) := by decide +kernel
theorem dX6_byStacks_167 : decode cX6_byStacks 167 = .ok (.getfield 95, 3) := by decide +kernel
theorem dX6_byStacks_170 : decode cX6_byStacks 170 = .ok (.ifCond .le 10, 3) := by decide +kernel
theorem dX6_byStacks_173 : decode cX6_byStacks 173 = .ok (.aload_n 0, 1) := by decide +kernel
theorem dX6_byStacks_174 : decode cX6_byStacks 174 = .ok (.getfield 58, 3) := by decide +kernel
theorem dX6_byStacks_177 : decode cX6_byStacks 177 = .ok (.goto 4, 3) := by decide +kernel
theorem dX6_byStacks_180 : decode cX6_byStacks 180 = .ok (.iconst (-1), 1) := by decide +kernel
theorem dX6_byStacks_181 : decode cX6_byStacks 181 = .ok (.ireturn, 1) := by decide +kernel
theorem dX6_takeOperand_0 : decode cX6_takeOperand 0 = .ok (.aload_n 0, 1) := by decide +kernel
theorem dX6_takeOperand_1 : decode cX6_takeOperand 1 = .ok (.getfield 15, 3) := by decide +kernel
theorem dX6_takeOperand_4 : decode cX6_takeOperand 4 = .ok (.iload_n 1, 1) := by decide +kernel
theorem dX6_takeOperand_5 : decode cX6_takeOperand 5 = .ok (.iaload, 1) := by decide +kernel
theorem dX6_takeOperand_6 : decode cX6_takeOperand 6 = .ok (.istore_n 2, 1) := by decide +kernel
theorem dX6_takeOperand_7 : decode cX6_takeOperand 7 = .ok (.aload_n 0, 1) := by decide +kernel
theorem dX6_takeOperand_8 : decode cX6_takeOperand 8 = .ok (.getfield 11, 3) := by decide +kernel
theorem dX6_takeOperand_11 : decode cX6_takeOperand 11 = .ok (.iload_n 1, 1) := by decide +kernel
theorem dX6_takeOperand_12 : decode cX6_takeOperand 12 = .ok (.iaload, 1) := by decide +kernel
theorem dX6_takeOperand_13 : decode cX6_takeOperand 13 = .ok (.tableswitch 127 0 4 #[35, 42, 127, 90, 80], 35) := by decide +kernel
theorem dX6_takeOperand_48 : decode cX6_takeOperand 48 = .ok (.aload_n 0, 1) := by decide +kernel
theorem dX6_takeOperand_49 : decode cX6_takeOperand 49 = .ok (.iconst 0, 1) := by decide +kernel
theorem dX6_takeOperand_50 : decode cX6_takeOperand 50 = .ok (.iload_n 2, 1) := by decide +kernel
theorem dX6_takeOperand_51 : decode cX6_takeOperand 51 = .ok (.invokevirtual 125, 3) := by decide +kernel
theorem dX6_takeOperand_54 : decode cX6_takeOperand 54 = .ok (.ireturn, 1) := by decide +kernel
theorem dX6_takeOperand_55 : decode cX6_takeOperand 55 = .ok (.aload_n 0, 1) := by decide +kernel
theorem dX6_takeOperand_56 : decode cX6_takeOperand 56 = .ok (.invokevirtual 108, 3) := by decide +kernel
theorem dX6_takeOperand_59 : decode cX6_takeOperand 59 = .ok (.istore_n 3, 1) := by decide +kernel
theorem dX6_takeOperand_60 : decode cX6_takeOperand 60 = .ok (.aload_n 0, 1) := by decide +kernel
theorem dX6_takeOperand_61 : decode cX6_takeOperand 61 = .ok (.iload_n 3, 1) := by decide +kernel
theorem dX6_takeOperand_62 : decode cX6_takeOperand 62 = .ok (.invokevirtual 129, 3) := by decide +kernel
theorem dX6_takeOperand_65 : decode cX6_takeOperand 65 = .ok (.iconst 4, 1) := by decide +kernel
theorem dX6_takeOperand_66 : decode cX6_takeOperand 66 = .ok (.if_icmp .eq 10, 3) := by decide +kernel
theorem dX6_takeOperand_69 : decode cX6_takeOperand 69 = .ok (.aload_n 0, 1) := by decide +kernel
theorem dX6_takeOperand_70 : decode cX6_takeOperand 70 = .ok (.iconst 1, 1) := by decide +kernel
theorem dX6_takeOperand_71 : decode cX6_takeOperand 71 = .ok (.iload_n 2, 1) := by decide +kernel
theorem dX6_takeOperand_72 : decode cX6_takeOperand 72 = .ok (.invokevirtual 125, 3) := by decide +kernel
theorem dX6_takeOperand_75 : decode cX6_takeOperand 75 = .ok (.ireturn, 1) := by decide +kernel
theorem dX6_takeOperand_76 : decode cX6_takeOperand 76 = .ok (.aload_n 0, 1) := by decide +kernel
theorem dX6_takeOperand_77 : decode cX6_takeOperand 77 = .ok (.iload_n 3, 1) := by decide +kernel
theorem dX6_takeOperand_78 : decode cX6_takeOperand 78 = .ok (.iconst 1, 1) := by decide +kernel
theorem dX6_takeOperand_79 : decode cX6_takeOperand 79 = .ok (.iadd, 1) := by decide +kernel
theorem dX6_takeOperand_80 : decode cX6_takeOperand 80 = .ok (.putfield 92, 3) := by decide +kernel
theorem dX6_takeOperand_83 : decode cX6_takeOperand 83 = .ok (.aload_n 0, 1) := by decide +kernel
theorem dX6_takeOperand_84 : decode cX6_takeOperand 84 = .ok (.iconst 2, 1) := by decide +kernel
theorem dX6_takeOperand_85 : decode cX6_takeOperand 85 = .ok (.iload_n 2, 1) := by decide +kernel
theorem dX6_takeOperand_86 : decode cX6_takeOperand 86 = .ok (.iconst (-1), 1) := by decide +kernel
theorem dX6_takeOperand_87 : decode cX6_takeOperand 87 = .ok (.iconst 0, 1) := by decide +kernel
theorem dX6_takeOperand_88 : decode cX6_takeOperand 88 = .ok (.iconst 1, 1) := by decide +kernel
theorem dX6_takeOperand_89 : decode cX6_takeOperand 89 = .ok (.invokevirtual 133, 3) := by decide +kernel
theorem dX6_takeOperand_92 : decode cX6_takeOperand 92 = .ok (.ireturn, 1) := by decide +kernel
theorem dX6_takeOperand_93 : decode cX6_takeOperand 93 = .ok (.aload_n 0, 1) := by decide +kernel
theorem dX6_takeOperand_94 : decode cX6_takeOperand 94 = .ok (.iconst 4, 1) := by decide +kernel
theorem dX6_takeOperand_95 : decode cX6_takeOperand 95 = .ok (.iload_n 2, 1) := by decide +kernel
theorem dX6_takeOperand_96 : decode cX6_takeOperand 96 = .ok (.iconst (-1), 1) := by decide +kernel
theorem dX6_takeOperand_97 : decode cX6_takeOperand 97 = .ok (.iconst 0, 1) := by decide +kernel
theorem dX6_takeOperand_98 : decode cX6_takeOperand 98 = .ok (.iconst 0, 1) := by decide +kernel
theorem dX6_takeOperand_99 : decode cX6_takeOperand 99 = .ok (.invokevirtual 133, 3) := by decide +kernel
theorem dX6_takeOperand_102 : decode cX6_takeOperand 102 = .ok (.ireturn, 1) := by decide +kernel
theorem dX6_takeOperand_103 : decode cX6_takeOperand 103 = .ok (.aload_n 0, 1) := by decide +kernel
theorem dX6_takeOperand_104 : decode cX6_takeOperand 104 = .ok (.getfield 50, 3) := by decide +kernel
theorem dX6_takeOperand_107 : decode cX6_takeOperand 107 = .ok (.iload_n 2, 1) := by decide +kernel
theorem dX6_takeOperand_108 : decode cX6_takeOperand 108 = .ok (.iconst 0, 1) := by decide +kernel
theorem dX6_takeOperand_109 : decode cX6_takeOperand 109 = .ok (.invokevirtual 137, 3) := by decide +kernel
theorem dX6_takeOperand_112 : decode cX6_takeOperand 112 = .ok (.istore 4, 2) := by decide +kernel
theorem dX6_takeOperand_114 : decode cX6_takeOperand 114 = .ok (.iload 4, 2) := by decide +kernel
theorem dX6_takeOperand_116 : decode cX6_takeOperand 116 = .ok (.ifCond .le 22, 3) := by decide +kernel
theorem dX6_takeOperand_119 : decode cX6_takeOperand 119 = .ok (.aload_n 0, 1) := by decide +kernel
theorem dX6_takeOperand_120 : decode cX6_takeOperand 120 = .ok (.iconst 3, 1) := by decide +kernel
theorem dX6_takeOperand_121 : decode cX6_takeOperand 121 = .ok (.iload_n 2, 1) := by decide +kernel
theorem dX6_takeOperand_122 : decode cX6_takeOperand 122 = .ok (.iconst 0, 1) := by decide +kernel
theorem dX6_takeOperand_123 : decode cX6_takeOperand 123 = .ok (.iload 4, 2) := by decide +kernel
theorem dX6_takeOperand_125 : decode cX6_takeOperand 125 = .ok (.iconst 1, 1) := by decide +kernel
theorem dX6_takeOperand_126 : decode cX6_takeOperand 126 = .ok (.iadd, 1) := by decide +kernel
theorem dX6_takeOperand_127 : decode cX6_takeOperand 127 = .ok (.iconst 0, 1) := by decide +kernel
theorem dX6_takeOperand_128 : decode cX6_takeOperand 128 = .ok (.invokevirtual 133, 3) := by decide +kernel
theorem dX6_takeOperand_131 : decode cX6_takeOperand 131 = .ok (.ifCond .eq 7, 3) := by decide +kernel
theorem dX6_takeOperand_134 : decode cX6_takeOperand 134 = .ok (.iconst 1, 1) := by decide +kernel
theorem dX6_takeOperand_135 : decode cX6_takeOperand 135 = .ok (.goto 4, 3) := by decide +kernel
theorem dX6_takeOperand_138 : decode cX6_takeOperand 138 = .ok (.iconst 0, 1) := by decide +kernel
theorem dX6_takeOperand_139 : decode cX6_takeOperand 139 = .ok (.ireturn, 1) := by decide +kernel
theorem dX6_takeOperand_140 : decode cX6_takeOperand 140 = .ok (.iconst 0, 1) := by decide +kernel
theorem dX6_takeOperand_141 : decode cX6_takeOperand 141 = .ok (.ireturn, 1) := by decide +kernel
theorem dX6_addLeaf_0 : decode cX6_addLeaf 0 = .ok (.aload_n 0, 1) := by decide +kernel
theorem dX6_addLeaf_1 : decode cX6_addLeaf 1 = .ok (.iconst 0, 1) := by decide +kernel
theorem dX6_addLeaf_2 : decode cX6_addLeaf 2 = .ok (.putfield 101, 3) := by decide +kernel
theorem dX6_addLeaf_5 : decode cX6_addLeaf 5 = .ok (.aload_n 0, 1) := by decide +kernel
theorem dX6_addLeaf_6 : decode cX6_addLeaf 6 = .ok (.iconst 0, 1) := by decide +kernel
theorem dX6_addLeaf_7 : decode cX6_addLeaf 7 = .ok (.invokevirtual 140, 3) := by decide +kernel
theorem dX6_addLeaf_10 : decode cX6_addLeaf 10 = .ok (.ifCond .eq 21, 3) := by decide +kernel
theorem dX6_addLeaf_13 : decode cX6_addLeaf 13 = .ok (.aload_n 0, 1) := by decide +kernel
theorem dX6_addLeaf_14 : decode cX6_addLeaf 14 = .ok (.getfield 46, 3) := by decide +kernel
theorem dX6_addLeaf_17 : decode cX6_addLeaf 17 = .ok (.iload_n 1, 1) := by decide +kernel
theorem dX6_addLeaf_18 : decode cX6_addLeaf 18 = .ok (.iload_n 2, 1) := by decide +kernel
theorem dX6_addLeaf_19 : decode cX6_addLeaf 19 = .ok (.iconst (-1), 1) := by decide +kernel
theorem dX6_addLeaf_20 : decode cX6_addLeaf 20 = .ok (.iconst 0, 1) := by decide +kernel
theorem dX6_addLeaf_21 : decode cX6_addLeaf 21 = .ok (.invokevirtual 143, 3) := by decide +kernel
theorem dX6_addLeaf_24 : decode cX6_addLeaf 24 = .ok (.ifCond .eq 7, 3) := by decide +kernel
theorem dX6_addLeaf_27 : decode cX6_addLeaf 27 = .ok (.iconst 1, 1) := by decide +kernel
theorem dX6_addLeaf_28 : decode cX6_addLeaf 28 = .ok (.goto 4, 3) := by decide +kernel
theorem dX6_addLeaf_31 : decode cX6_addLeaf 31 = .ok (.iconst 0, 1) := by decide +kernel
theorem dX6_addLeaf_32 : decode cX6_addLeaf 32 = .ok (.ireturn, 1) := by decide +kernel
theorem dX6_pushOperand_0 : decode cX6_pushOperand 0 = .ok (.aload_n 0, 1) := by decide +kernel
theorem dX6_pushOperand_1 : decode cX6_pushOperand 1 = .ok (.getfield 98, 3) := by decide +kernel
theorem dX6_pushOperand_4 : decode cX6_pushOperand 4 = .ok (.sipush 300, 3) := by decide +kernel
theorem dX6_pushOperand_7 : decode cX6_pushOperand 7 = .ok (.if_icmp .lt 5, 3) := by decide +kernel
theorem dX6_pushOperand_10 : decode cX6_pushOperand 10 = .ok (.iconst 0, 1) := by decide +kernel
theorem dX6_pushOperand_11 : decode cX6_pushOperand 11 = .ok (.ireturn, 1) := by decide +kernel
theorem dX6_pushOperand_12 : decode cX6_pushOperand 12 = .ok (.aload_n 0, 1) := by decide +kernel
theorem dX6_pushOperand_13 : decode cX6_pushOperand 13 = .ok (.getfield 40, 3) := by decide +kernel
theorem dX6_pushOperand_16 : decode cX6_pushOperand 16 = .ok (.aload_n 0, 1) := by decide +kernel
theorem dX6_pushOperand_17 : decode cX6_pushOperand 17 = .ok (.getfield 98, 3) := by decide +kernel
theorem dX6_pushOperand_20 : decode cX6_pushOperand 20 = .ok (.iload_n 1, 1) := by decide +kernel
theorem dX6_pushOperand_21 : decode cX6_pushOperand 21 = .ok (.iastore, 1) := by decide +kernel
theorem dX6_pushOperand_22 : decode cX6_pushOperand 22 = .ok (.aload_n 0, 1) := by decide +kernel
theorem dX6_pushOperand_23 : decode cX6_pushOperand 23 = .ok (.dup, 1) := by decide +kernel
theorem dX6_pushOperand_24 : decode cX6_pushOperand 24 = .ok (.getfield 98, 3) := by decide +kernel
theorem dX6_pushOperand_27 : decode cX6_pushOperand 27 = .ok (.iconst 1, 1) := by decide +kernel
theorem dX6_pushOperand_28 : decode cX6_pushOperand 28 = .ok (.iadd, 1) := by decide +kernel
theorem dX6_pushOperand_29 : decode cX6_pushOperand 29 = .ok (.putfield 98, 3) := by decide +kernel
theorem dX6_pushOperand_32 : decode cX6_pushOperand 32 = .ok (.iconst 1, 1) := by decide +kernel
theorem dX6_pushOperand_33 : decode cX6_pushOperand 33 = .ok (.ireturn, 1) := by decide +kernel
theorem dX6_hold_0 : decode cX6_hold 0 = .ok (.aload_n 0, 1) := by decide +kernel
theorem dX6_hold_1 : decode cX6_hold 1 = .ok (.getfield 95, 3) := by decide +kernel
theorem dX6_hold_4 : decode cX6_hold 4 = .ok (.sipush 300, 3) := by decide +kernel
theorem dX6_hold_7 : decode cX6_hold 7 = .ok (.if_icmp .lt 5, 3) := by decide +kernel
theorem dX6_hold_10 : decode cX6_hold 10 = .ok (.iconst 0, 1) := by decide +kernel
theorem dX6_hold_11 : decode cX6_hold 11 = .ok (.ireturn, 1) := by decide +kernel
theorem dX6_hold_12 : decode cX6_hold 12 = .ok (.aload_n 0, 1) := by decide +kernel
theorem dX6_hold_13 : decode cX6_hold 13 = .ok (.getfield 25, 3) := by decide +kernel
theorem dX6_hold_16 : decode cX6_hold 16 = .ok (.aload_n 0, 1) := by decide +kernel
theorem dX6_hold_17 : decode cX6_hold 17 = .ok (.getfield 95, 3) := by decide +kernel
theorem dX6_hold_20 : decode cX6_hold 20 = .ok (.iload_n 1, 1) := by decide +kernel
theorem dX6_hold_21 : decode cX6_hold 21 = .ok (.iastore, 1) := by decide +kernel
theorem dX6_hold_22 : decode cX6_hold 22 = .ok (.aload_n 0, 1) := by decide +kernel
theorem dX6_hold_23 : decode cX6_hold 23 = .ok (.getfield 28, 3) := by decide +kernel
theorem dX6_hold_26 : decode cX6_hold 26 = .ok (.aload_n 0, 1) := by decide +kernel
theorem dX6_hold_27 : decode cX6_hold 27 = .ok (.getfield 95, 3) := by decide +kernel
theorem dX6_hold_30 : decode cX6_hold 30 = .ok (.iload_n 2, 1) := by decide +kernel
theorem dX6_hold_31 : decode cX6_hold 31 = .ok (.iastore, 1) := by decide +kernel
theorem dX6_hold_32 : decode cX6_hold 32 = .ok (.aload_n 0, 1) := by decide +kernel
theorem dX6_hold_33 : decode cX6_hold 33 = .ok (.getfield 31, 3) := by decide +kernel
theorem dX6_hold_36 : decode cX6_hold 36 = .ok (.aload_n 0, 1) := by decide +kernel
theorem dX6_hold_37 : decode cX6_hold 37 = .ok (.getfield 95, 3) := by decide +kernel
theorem dX6_hold_40 : decode cX6_hold 40 = .ok (.iload_n 3, 1) := by decide +kernel
theorem dX6_hold_41 : decode cX6_hold 41 = .ok (.iastore, 1) := by decide +kernel
theorem dX6_hold_42 : decode cX6_hold 42 = .ok (.aload_n 0, 1) := by decide +kernel
theorem dX6_hold_43 : decode cX6_hold 43 = .ok (.getfield 34, 3) := by decide +kernel
theorem dX6_hold_46 : decode cX6_hold 46 = .ok (.aload_n 0, 1) := by decide +kernel
theorem dX6_hold_47 : decode cX6_hold 47 = .ok (.getfield 95, 3) := by decide +kernel
theorem dX6_hold_50 : decode cX6_hold 50 = .ok (.iload 4, 2) := by decide +kernel
theorem dX6_hold_52 : decode cX6_hold 52 = .ok (.iastore, 1) := by decide +kernel
theorem dX6_hold_53 : decode cX6_hold 53 = .ok (.aload_n 0, 1) := by decide +kernel
theorem dX6_hold_54 : decode cX6_hold 54 = .ok (.getfield 37, 3) := by decide +kernel
theorem dX6_hold_57 : decode cX6_hold 57 = .ok (.aload_n 0, 1) := by decide +kernel
theorem dX6_hold_58 : decode cX6_hold 58 = .ok (.getfield 95, 3) := by decide +kernel
theorem dX6_hold_61 : decode cX6_hold 61 = .ok (.iload 5, 2) := by decide +kernel
theorem dX6_hold_63 : decode cX6_hold 63 = .ok (.iastore, 1) := by decide +kernel
theorem dX6_hold_64 : decode cX6_hold 64 = .ok (.aload_n 0, 1) := by decide +kernel
theorem dX6_hold_65 : decode cX6_hold 65 = .ok (.dup, 1) := by decide +kernel
theorem dX6_hold_66 : decode cX6_hold 66 = .ok (.getfield 95, 3) := by decide +kernel
theorem dX6_hold_69 : decode cX6_hold 69 = .ok (.iconst 1, 1) := by decide +kernel
theorem dX6_hold_70 : decode cX6_hold 70 = .ok (.iadd, 1) := by decide +kernel
theorem dX6_hold_71 : decode cX6_hold 71 = .ok (.putfield 95, 3) := by decide +kernel
theorem dX6_hold_74 : decode cX6_hold 74 = .ok (.iconst 1, 1) := by decide +kernel
theorem dX6_hold_75 : decode cX6_hold 75 = .ok (.ireturn, 1) := by decide +kernel
theorem dX6_takeSign_0 : decode cX6_takeSign 0 = .ok (.aload_n 0, 1) := by decide +kernel
theorem dX6_takeSign_1 : decode cX6_takeSign 1 = .ok (.getfield 50, 3) := by decide +kernel
theorem dX6_takeSign_4 : decode cX6_takeSign 4 = .ok (.iload_n 1, 1) := by decide +kernel
theorem dX6_takeSign_5 : decode cX6_takeSign 5 = .ok (.iconst 1, 1) := by decide +kernel
theorem dX6_takeSign_6 : decode cX6_takeSign 6 = .ok (.invokevirtual 137, 3) := by decide +kernel
theorem dX6_takeSign_9 : decode cX6_takeSign 9 = .ok (.ifCond .le 7, 3) := by decide +kernel
theorem dX6_takeSign_12 : decode cX6_takeSign 12 = .ok (.iconst 1, 1) := by decide +kernel
theorem dX6_takeSign_13 : decode cX6_takeSign 13 = .ok (.goto 4, 3) := by decide +kernel
theorem dX6_takeSign_16 : decode cX6_takeSign 16 = .ok (.iconst 2, 1) := by decide +kernel
theorem dX6_takeSign_17 : decode cX6_takeSign 17 = .ok (.istore_n 2, 1) := by decide +kernel
theorem dX6_takeSign_18 : decode cX6_takeSign 18 = .ok (.aload_n 0, 1) := by decide +kernel
theorem dX6_takeSign_19 : decode cX6_takeSign 19 = .ok (.getfield 50, 3) := by decide +kernel
theorem dX6_takeSign_22 : decode cX6_takeSign 22 = .ok (.iload_n 1, 1) := by decide +kernel
theorem dX6_takeSign_23 : decode cX6_takeSign 23 = .ok (.iload_n 2, 1) := by decide +kernel
theorem dX6_takeSign_24 : decode cX6_takeSign 24 = .ok (.invokevirtual 137, 3) := by decide +kernel
theorem dX6_takeSign_27 : decode cX6_takeSign 27 = .ok (.istore_n 3, 1) := by decide +kernel
theorem dX6_takeSign_28 : decode cX6_takeSign 28 = .ok (.iload_n 3, 1) := by decide +kernel
theorem dX6_takeSign_29 : decode cX6_takeSign 29 = .ok (.ifCond .ne 5, 3) := by decide +kernel
theorem dX6_takeSign_32 : decode cX6_takeSign 32 = .ok (.iconst 0, 1) := by decide +kernel
theorem dX6_takeSign_33 : decode cX6_takeSign 33 = .ok (.ireturn, 1) := by decide +kernel
theorem dX6_takeSign_34 : decode cX6_takeSign 34 = .ok (.aload_n 0, 1) := by decide +kernel
theorem dX6_takeSign_35 : decode cX6_takeSign 35 = .ok (.iload_n 3, 1) := by decide +kernel
theorem dX6_takeSign_36 : decode cX6_takeSign 36 = .ok (.invokevirtual 121, 3) := by decide +kernel
theorem dX6_takeSign_39 : decode cX6_takeSign 39 = .ok (.aload_n 0, 1) := by decide +kernel
theorem dX6_takeSign_40 : decode cX6_takeSign 40 = .ok (.getfield 98, 3) := by decide +kernel
theorem dX6_takeSign_43 : decode cX6_takeSign 43 = .ok (.iconst 1, 1) := by decide +kernel
theorem dX6_takeSign_44 : decode cX6_takeSign 44 = .ok (.isub, 1) := by decide +kernel
theorem dX6_takeSign_45 : decode cX6_takeSign 45 = .ok (.istore 4, 2) := by decide +kernel
theorem dX6_takeSign_47 : decode cX6_takeSign 47 = .ok (.iload 4, 2) := by decide +kernel
theorem dX6_takeSign_49 : decode cX6_takeSign 49 = .ok (.ifCond .ge 5, 3) := by decide +kernel
theorem dX6_takeSign_52 : decode cX6_takeSign 52 = .ok (.iconst 0, 1) := by decide +kernel
theorem dX6_takeSign_53 : decode cX6_takeSign 53 = .ok (.ireturn, 1) := by decide +kernel
theorem dX6_takeSign_54 : decode cX6_takeSign 54 = .ok (.iload_n 2, 1) := by decide +kernel
theorem dX6_takeSign_55 : decode cX6_takeSign 55 = .ok (.iconst 1, 1) := by decide +kernel
theorem dX6_takeSign_56 : decode cX6_takeSign 56 = .ok (.if_icmp .ne 23, 3) := by decide +kernel
theorem dX6_takeSign_59 : decode cX6_takeSign 59 = .ok (.aload_n 0, 1) := by decide +kernel
theorem dX6_takeSign_60 : decode cX6_takeSign 60 = .ok (.getfield 40, 3) := by decide +kernel
theorem dX6_takeSign_63 : decode cX6_takeSign 63 = .ok (.iload 4, 2) := by decide +kernel
theorem dX6_takeSign_65 : decode cX6_takeSign 65 = .ok (.iconst 0, 1) := by decide +kernel
theorem dX6_takeSign_66 : decode cX6_takeSign 66 = .ok (.iastore, 1) := by decide +kernel
theorem dX6_takeSign_67 : decode cX6_takeSign 67 = .ok (.aload_n 0, 1) := by decide +kernel
theorem dX6_takeSign_68 : decode cX6_takeSign 68 = .ok (.getfield 46, 3) := by decide +kernel
theorem dX6_takeSign_71 : decode cX6_takeSign 71 = .ok (.iconst 3, 1) := by decide +kernel
theorem dX6_takeSign_72 : decode cX6_takeSign 72 = .ok (.iload_n 1, 1) := by decide +kernel
theorem dX6_takeSign_73 : decode cX6_takeSign 73 = .ok (.iconst 1, 1) := by decide +kernel
theorem dX6_takeSign_74 : decode cX6_takeSign 74 = .ok (.iconst 1, 1) := by decide +kernel
theorem dX6_takeSign_75 : decode cX6_takeSign 75 = .ok (.invokevirtual 143, 3) := by decide +kernel
theorem dX6_takeSign_78 : decode cX6_takeSign 78 = .ok (.ireturn, 1) := by decide +kernel
theorem dX6_takeSign_79 : decode cX6_takeSign 79 = .ok (.aload_n 0, 1) := by decide +kernel
theorem dX6_takeSign_80 : decode cX6_takeSign 80 = .ok (.getfield 40, 3) := by decide +kernel
theorem dX6_takeSign_83 : decode cX6_takeSign 83 = .ok (.iload 4, 2) := by decide +kernel
theorem dX6_takeSign_85 : decode cX6_takeSign 85 = .ok (.iaload, 1) := by decide +kernel
theorem dX6_takeSign_86 : decode cX6_takeSign 86 = .ok (.iload_n 3, 1) := by decide +kernel
theorem dX6_takeSign_87 : decode cX6_takeSign 87 = .ok (.if_icmp .ne 5, 3) := by decide +kernel
theorem dX6_takeSign_90 : decode cX6_takeSign 90 = .ok (.iconst 0, 1) := by decide +kernel
theorem dX6_takeSign_91 : decode cX6_takeSign 91 = .ok (.ireturn, 1) := by decide +kernel
theorem dX6_takeSign_92 : decode cX6_takeSign 92 = .ok (.aload_n 0, 1) := by decide +kernel
theorem dX6_takeSign_93 : decode cX6_takeSign 93 = .ok (.getfield 50, 3) := by decide +kernel
theorem dX6_takeSign_96 : decode cX6_takeSign 96 = .ok (.iload_n 1, 1) := by decide +kernel
theorem dX6_takeSign_97 : decode cX6_takeSign 97 = .ok (.iconst 2, 1) := by decide +kernel
theorem dX6_takeSign_98 : decode cX6_takeSign 98 = .ok (.invokevirtual 147, 3) := by decide +kernel
theorem dX6_takeSign_101 : decode cX6_takeSign 101 = .ok (.istore 5, 2) := by decide +kernel
theorem dX6_takeSign_103 : decode cX6_takeSign 103 = .ok (.aload_n 0, 1) := by decide +kernel
theorem dX6_takeSign_104 : decode cX6_takeSign 104 = .ok (.iconst 1, 1) := by decide +kernel
theorem dX6_takeSign_105 : decode cX6_takeSign 105 = .ok (.putfield 101, 3) := by decide +kernel
theorem dX6_takeSign_108 : decode cX6_takeSign 108 = .ok (.aload_n 0, 1) := by decide +kernel
theorem dX6_takeSign_109 : decode cX6_takeSign 109 = .ok (.iconst 3, 1) := by decide +kernel
theorem dX6_takeSign_110 : decode cX6_takeSign 110 = .ok (.iload_n 1, 1) := by decide +kernel
theorem dX6_takeSign_111 : decode cX6_takeSign 111 = .ok (.iconst 2, 1) := by decide +kernel
theorem dX6_takeSign_112 : decode cX6_takeSign 112 = .ok (.iload 5, 2) := by decide +kernel
theorem dX6_takeSign_114 : decode cX6_takeSign 114 = .ok (.iconst 1, 1) := by decide +kernel
theorem dX6_takeSign_115 : decode cX6_takeSign 115 = .ok (.if_icmp .ne 7, 3) := by decide +kernel
theorem dX6_takeSign_118 : decode cX6_takeSign 118 = .ok (.iload_n 3, 1) := by decide +kernel
theorem dX6_takeSign_119 : decode cX6_takeSign 119 = .ok (.goto 6, 3) := by decide +kernel
theorem dX6_takeSign_122 : decode cX6_takeSign 122 = .ok (.iload_n 3, 1) := by decide +kernel
theorem dX6_takeSign_123 : decode cX6_takeSign 123 = .ok (.iconst 1, 1) := by decide +kernel
theorem dX6_takeSign_124 : decode cX6_takeSign 124 = .ok (.iadd, 1) := by decide +kernel
theorem dX6_takeSign_125 : decode cX6_takeSign 125 = .ok (.iload 5, 2) := by decide +kernel
theorem dX6_takeSign_127 : decode cX6_takeSign 127 = .ok (.iconst 2, 1) := by decide +kernel
theorem dX6_takeSign_128 : decode cX6_takeSign 128 = .ok (.if_icmp .ne 7, 3) := by decide +kernel
theorem dX6_takeSign_131 : decode cX6_takeSign 131 = .ok (.iload_n 3, 1) := by decide +kernel
theorem dX6_takeSign_132 : decode cX6_takeSign 132 = .ok (.goto 4, 3) := by decide +kernel
theorem dX6_takeSign_135 : decode cX6_takeSign 135 = .ok (.iconst 0, 1) := by decide +kernel
theorem dX6_takeSign_136 : decode cX6_takeSign 136 = .ok (.invokevirtual 133, 3) := by decide +kernel
theorem dX6_takeSign_139 : decode cX6_takeSign 139 = .ok (.ireturn, 1) := by decide +kernel
theorem dX6_takeClosing_0 : decode cX6_takeClosing 0 = .ok (.iload_n 1, 1) := by decide +kernel
theorem dX6_takeClosing_1 : decode cX6_takeClosing 1 = .ok (.iconst 5, 1) := by decide +kernel
theorem dX6_takeClosing_2 : decode cX6_takeClosing 2 = .ok (.if_icmp .eq 11, 3) := by decide +kernel
theorem dX6_takeClosing_5 : decode cX6_takeClosing 5 = .ok (.iload_n 1, 1) := by decide +kernel
theorem dX6_takeClosing_6 : decode cX6_takeClosing 6 = .ok (.bipush 6, 2) := by decide +kernel
theorem dX6_takeClosing_8 : decode cX6_takeClosing 8 = .ok (.if_icmp .eq 5, 3) := by decide +kernel
theorem dX6_takeClosing_11 : decode cX6_takeClosing 11 = .ok (.iconst 0, 1) := by decide +kernel
theorem dX6_takeClosing_12 : decode cX6_takeClosing 12 = .ok (.ireturn, 1) := by decide +kernel
theorem dX6_takeClosing_13 : decode cX6_takeClosing 13 = .ok (.aload_n 0, 1) := by decide +kernel
theorem dX6_takeClosing_14 : decode cX6_takeClosing 14 = .ok (.iconst 0, 1) := by decide +kernel
theorem dX6_takeClosing_15 : decode cX6_takeClosing 15 = .ok (.invokevirtual 121, 3) := by decide +kernel
theorem dX6_takeClosing_18 : decode cX6_takeClosing 18 = .ok (.aload_n 0, 1) := by decide +kernel
theorem dX6_takeClosing_19 : decode cX6_takeClosing 19 = .ok (.getfield 95, 3) := by decide +kernel
theorem dX6_takeClosing_22 : decode cX6_takeClosing 22 = .ok (.iconst 1, 1) := by decide +kernel
theorem dX6_takeClosing_23 : decode cX6_takeClosing 23 = .ok (.isub, 1) := by decide +kernel
theorem dX6_takeClosing_24 : decode cX6_takeClosing 24 = .ok (.istore_n 2, 1) := by decide +kernel
theorem dX6_takeClosing_25 : decode cX6_takeClosing 25 = .ok (.iload_n 2, 1) := by decide +kernel
theorem dX6_takeClosing_26 : decode cX6_takeClosing 26 = .ok (.ifCond .ge 5, 3) := by decide +kernel
theorem dX6_takeClosing_29 : decode cX6_takeClosing 29 = .ok (.iconst 0, 1) := by decide +kernel
theorem dX6_takeClosing_30 : decode cX6_takeClosing 30 = .ok (.ireturn, 1) := by decide +kernel
theorem dX6_takeClosing_31 : decode cX6_takeClosing 31 = .ok (.aload_n 0, 1) := by decide +kernel
theorem dX6_takeClosing_32 : decode cX6_takeClosing 32 = .ok (.getfield 25, 3) := by decide +kernel
theorem dX6_takeClosing_35 : decode cX6_takeClosing 35 = .ok (.iload_n 2, 1) := by decide +kernel
theorem dX6_takeClosing_36 : decode cX6_takeClosing 36 = .ok (.iaload, 1) := by decide +kernel
theorem dX6_takeClosing_37 : decode cX6_takeClosing 37 = .ok (.iconst 2, 1) := by decide +kernel
theorem dX6_takeClosing_38 : decode cX6_takeClosing 38 = .ok (.if_icmp .ne 7, 3) := by decide +kernel
theorem dX6_takeClosing_41 : decode cX6_takeClosing 41 = .ok (.iconst 1, 1) := by decide +kernel
theorem dX6_takeClosing_42 : decode cX6_takeClosing 42 = .ok (.goto 4, 3) := by decide +kernel
theorem dX6_takeClosing_45 : decode cX6_takeClosing 45 = .ok (.iconst 0, 1) := by decide +kernel
theorem dX6_takeClosing_46 : decode cX6_takeClosing 46 = .ok (.istore_n 3, 1) := by decide +kernel
theorem dX6_takeClosing_47 : decode cX6_takeClosing 47 = .ok (.iload_n 1, 1) := by decide +kernel
theorem dX6_takeClosing_48 : decode cX6_takeClosing 48 = .ok (.bipush 6, 2) := by decide +kernel
theorem dX6_takeClosing_50 : decode cX6_takeClosing 50 = .ok (.if_icmp .ne 36, 3) := by decide +kernel
theorem dX6_takeClosing_53 : decode cX6_takeClosing 53 = .ok (.iload_n 3, 1) := by decide +kernel
theorem dX6_takeClosing_54 : decode cX6_takeClosing 54 = .ok (.ifCond .eq 13, 3) := by decide +kernel
theorem dX6_takeClosing_57 : decode cX6_takeClosing 57 = .ok (.aload_n 0, 1) := by decide +kernel
theorem dX6_takeClosing_58 : decode cX6_takeClosing 58 = .ok (.getfield 37, 3) := by decide +kernel
theorem dX6_takeClosing_61 : decode cX6_takeClosing 61 = .ok (.iload_n 2, 1) := by decide +kernel
theorem dX6_takeClosing_62 : decode cX6_takeClosing 62 = .ok (.iaload, 1) := by decide +kernel
theorem dX6_takeClosing_63 : decode cX6_takeClosing 63 = .ok (.iconst 4, 1) := by decide +kernel
theorem dX6_takeClosing_64 : decode cX6_takeClosing 64 = .ok (.if_icmp .lt 5, 3) := by decide +kernel
theorem dX6_takeClosing_67 : decode cX6_takeClosing 67 = .ok (.iconst 0, 1) := by decide +kernel
theorem dX6_takeClosing_68 : decode cX6_takeClosing 68 = .ok (.ireturn, 1) := by decide +kernel
theorem dX6_takeClosing_69 : decode cX6_takeClosing 69 = .ok (.aload_n 0, 1) := by decide +kernel
theorem dX6_takeClosing_70 : decode cX6_takeClosing 70 = .ok (.getfield 37, 3) := by decide +kernel
theorem dX6_takeClosing_73 : decode cX6_takeClosing 73 = .ok (.iload_n 2, 1) := by decide +kernel
theorem dX6_takeClosing_74 : decode cX6_takeClosing 74 = .ok (.dup2, 1) := by decide +kernel
theorem dX6_takeClosing_75 : decode cX6_takeClosing 75 = .ok (.iaload, 1) := by decide +kernel
theorem dX6_takeClosing_76 : decode cX6_takeClosing 76 = .ok (.iconst 1, 1) := by decide +kernel
theorem dX6_takeClosing_77 : decode cX6_takeClosing 77 = .ok (.iadd, 1) := by decide +kernel
theorem dX6_takeClosing_78 : decode cX6_takeClosing 78 = .ok (.iastore, 1) := by decide +kernel
theorem dX6_takeClosing_79 : decode cX6_takeClosing 79 = .ok (.aload_n 0, 1) := by decide +kernel
theorem dX6_takeClosing_80 : decode cX6_takeClosing 80 = .ok (.iconst 1, 1) := by decide +kernel
theorem dX6_takeClosing_81 : decode cX6_takeClosing 81 = .ok (.putfield 101, 3) := by decide +kernel
theorem dX6_takeClosing_84 : decode cX6_takeClosing 84 = .ok (.iconst 1, 1) := by decide +kernel
theorem dX6_takeClosing_85 : decode cX6_takeClosing 85 = .ok (.ireturn, 1) := by decide +kernel
theorem dX6_takeClosing_86 : decode cX6_takeClosing 86 = .ok (.aload_n 0, 1) := by decide +kernel
theorem dX6_takeClosing_87 : decode cX6_takeClosing 87 = .ok (.iload_n 2, 1) := by decide +kernel
theorem dX6_takeClosing_88 : decode cX6_takeClosing 88 = .ok (.putfield 95, 3) := by decide +kernel
theorem dX6_takeClosing_91 : decode cX6_takeClosing 91 = .ok (.iload_n 3, 1) := by decide +kernel
theorem dX6_takeClosing_92 : decode cX6_takeClosing 92 = .ok (.ifCond .eq 60, 3) := by decide +kernel
theorem dX6_takeClosing_95 : decode cX6_takeClosing 95 = .ok (.aload_n 0, 1) := by decide +kernel
theorem dX6_takeClosing_96 : decode cX6_takeClosing 96 = .ok (.aload_n 0, 1) := by decide +kernel
theorem dX6_takeClosing_97 : decode cX6_takeClosing 97 = .ok (.getfield 98, 3) := by decide +kernel
theorem dX6_takeClosing_100 : decode cX6_takeClosing 100 = .ok (.aload_n 0, 1) := by decide +kernel
theorem dX6_takeClosing_101 : decode cX6_takeClosing 101 = .ok (.getfield 37, 3) := by decide +kernel
theorem dX6_takeClosing_104 : decode cX6_takeClosing 104 = .ok (.iload_n 2, 1) := by decide +kernel
theorem dX6_takeClosing_105 : decode cX6_takeClosing 105 = .ok (.iaload, 1) := by decide +kernel
theorem dX6_takeClosing_106 : decode cX6_takeClosing 106 = .ok (.isub, 1) := by decide +kernel
theorem dX6_takeClosing_107 : decode cX6_takeClosing 107 = .ok (.iconst 0, 1) := by decide +kernel
theorem dX6_takeClosing_108 : decode cX6_takeClosing 108 = .ok (.invokestatic 150, 3) := by decide +kernel
theorem dX6_takeClosing_111 : decode cX6_takeClosing 111 = .ok (.putfield 98, 3) := by decide +kernel
theorem dX6_takeClosing_114 : decode cX6_takeClosing 114 = .ok (.aload_n 0, 1) := by decide +kernel
theorem dX6_takeClosing_115 : decode cX6_takeClosing 115 = .ok (.iconst 0, 1) := by decide +kernel
theorem dX6_takeClosing_116 : decode cX6_takeClosing 116 = .ok (.invokevirtual 140, 3) := by decide +kernel
theorem dX6_takeClosing_119 : decode cX6_takeClosing 119 = .ok (.ifCond .eq 31, 3) := by decide +kernel
theorem dX6_takeClosing_122 : decode cX6_takeClosing 122 = .ok (.aload_n 0, 1) := by decide +kernel
theorem dX6_takeClosing_123 : decode cX6_takeClosing 123 = .ok (.getfield 46, 3) := by decide +kernel
theorem dX6_takeClosing_126 : decode cX6_takeClosing 126 = .ok (.iconst 2, 1) := by decide +kernel
theorem dX6_takeClosing_127 : decode cX6_takeClosing 127 = .ok (.aload_n 0, 1) := by decide +kernel
theorem dX6_takeClosing_128 : decode cX6_takeClosing 128 = .ok (.getfield 28, 3) := by decide +kernel
theorem dX6_takeClosing_131 : decode cX6_takeClosing 131 = .ok (.iload_n 2, 1) := by decide +kernel
theorem dX6_takeClosing_132 : decode cX6_takeClosing 132 = .ok (.iaload, 1) := by decide +kernel
theorem dX6_takeClosing_133 : decode cX6_takeClosing 133 = .ok (.iconst (-1), 1) := by decide +kernel
theorem dX6_takeClosing_134 : decode cX6_takeClosing 134 = .ok (.aload_n 0, 1) := by decide +kernel
theorem dX6_takeClosing_135 : decode cX6_takeClosing 135 = .ok (.getfield 37, 3) := by decide +kernel
theorem dX6_takeClosing_138 : decode cX6_takeClosing 138 = .ok (.iload_n 2, 1) := by decide +kernel
theorem dX6_takeClosing_139 : decode cX6_takeClosing 139 = .ok (.iaload, 1) := by decide +kernel
theorem dX6_takeClosing_140 : decode cX6_takeClosing 140 = .ok (.invokevirtual 143, 3) := by decide +kernel
theorem dX6_takeClosing_143 : decode cX6_takeClosing 143 = .ok (.ifCond .eq 7, 3) := by decide +kernel
theorem dX6_takeClosing_146 : decode cX6_takeClosing 146 = .ok (.iconst 1, 1) := by decide +kernel
theorem dX6_takeClosing_147 : decode cX6_takeClosing 147 = .ok (.goto 4, 3) := by decide +kernel
theorem dX6_takeClosing_150 : decode cX6_takeClosing 150 = .ok (.iconst 0, 1) := by decide +kernel
theorem dX6_takeClosing_151 : decode cX6_takeClosing 151 = .ok (.ireturn, 1) := by decide +kernel
theorem dX6_takeClosing_152 : decode cX6_takeClosing 152 = .ok (.aload_n 0, 1) := by decide +kernel
theorem dX6_takeClosing_153 : decode cX6_takeClosing 153 = .ok (.aload_n 0, 1) := by decide +kernel
theorem dX6_takeClosing_154 : decode cX6_takeClosing 154 = .ok (.getfield 98, 3) := by decide +kernel
theorem dX6_takeClosing_157 : decode cX6_takeClosing 157 = .ok (.iconst 1, 1) := by decide +kernel
theorem dX6_takeClosing_158 : decode cX6_takeClosing 158 = .ok (.isub, 1) := by decide +kernel
theorem dX6_takeClosing_159 : decode cX6_takeClosing 159 = .ok (.iconst 0, 1) := by decide +kernel
theorem dX6_takeClosing_160 : decode cX6_takeClosing 160 = .ok (.invokestatic 150, 3) := by decide +kernel
theorem dX6_takeClosing_163 : decode cX6_takeClosing 163 = .ok (.putfield 98, 3) := by decide +kernel
theorem dX6_takeClosing_166 : decode cX6_takeClosing 166 = .ok (.aload_n 0, 1) := by decide +kernel
theorem dX6_takeClosing_167 : decode cX6_takeClosing 167 = .ok (.iconst 0, 1) := by decide +kernel
theorem dX6_takeClosing_168 : decode cX6_takeClosing 168 = .ok (.invokevirtual 140, 3) := by decide +kernel
theorem dX6_takeClosing_171 : decode cX6_takeClosing 171 = .ok (.ireturn, 1) := by decide +kernel
theorem dX6_reduce_0 : decode cX6_reduce 0 = .ok (.aload_n 0, 1) := by decide +kernel
theorem dX6_reduce_1 : decode cX6_reduce 1 = .ok (.getfield 95, 3) := by decide +kernel
theorem dX6_reduce_4 : decode cX6_reduce 4 = .ok (.iconst 1, 1) := by decide +kernel
theorem dX6_reduce_5 : decode cX6_reduce 5 = .ok (.isub, 1) := by decide +kernel
theorem dX6_reduce_6 : decode cX6_reduce 6 = .ok (.istore_n 2, 1) := by decide +kernel
theorem dX6_reduce_7 : decode cX6_reduce 7 = .ok (.iload_n 2, 1) := by decide +kernel
theorem dX6_reduce_8 : decode cX6_reduce 8 = .ok (.ifCond .lt 87, 3) := by decide +kernel
theorem dX6_reduce_11 : decode cX6_reduce 11 = .ok (.aload_n 0, 1) := by decide +kernel
theorem dX6_reduce_12 : decode cX6_reduce 12 = .ok (.getfield 34, 3) := by decide +kernel
theorem dX6_reduce_15 : decode cX6_reduce 15 = .ok (.iload_n 2, 1) := by decide +kernel
theorem dX6_reduce_16 : decode cX6_reduce 16 = .ok (.iaload, 1) := by decide +kernel
theorem dX6_reduce_17 : decode cX6_reduce 17 = .ok (.iload_n 1, 1) := by decide +kernel
theorem dX6_reduce_18 : decode cX6_reduce 18 = .ok (.if_icmp .le 77, 3) := by decide +kernel
theorem dX6_reduce_21 : decode cX6_reduce 21 = .ok (.aload_n 0, 1) := by decide +kernel
theorem dX6_reduce_22 : decode cX6_reduce 22 = .ok (.getfield 31, 3) := by decide +kernel
theorem dX6_reduce_25 : decode cX6_reduce 25 = .ok (.iload_n 2, 1) := by decide +kernel
theorem dX6_reduce_26 : decode cX6_reduce 26 = .ok (.iaload, 1) := by decide +kernel
theorem dX6_reduce_27 : decode cX6_reduce 27 = .ok (.iconst 2, 1) := by decide +kernel
theorem dX6_reduce_28 : decode cX6_reduce 28 = .ok (.if_icmp .ne 7, 3) := by decide +kernel
theorem dX6_reduce_31 : decode cX6_reduce 31 = .ok (.iconst 2, 1) := by decide +kernel
theorem dX6_reduce_32 : decode cX6_reduce 32 = .ok (.goto 4, 3) := by decide +kernel
theorem dX6_reduce_35 : decode cX6_reduce 35 = .ok (.iconst 1, 1) := by decide +kernel
theorem dX6_reduce_36 : decode cX6_reduce 36 = .ok (.istore_n 3, 1) := by decide +kernel
theorem dX6_reduce_37 : decode cX6_reduce 37 = .ok (.aload_n 0, 1) := by decide +kernel
theorem dX6_reduce_38 : decode cX6_reduce 38 = .ok (.getfield 46, 3) := by decide +kernel
theorem dX6_reduce_41 : decode cX6_reduce 41 = .ok (.iconst 3, 1) := by decide +kernel
theorem dX6_reduce_42 : decode cX6_reduce 42 = .ok (.aload_n 0, 1) := by decide +kernel
theorem dX6_reduce_43 : decode cX6_reduce 43 = .ok (.getfield 28, 3) := by decide +kernel
theorem dX6_reduce_46 : decode cX6_reduce 46 = .ok (.iload_n 2, 1) := by decide +kernel
theorem dX6_reduce_47 : decode cX6_reduce 47 = .ok (.iaload, 1) := by decide +kernel
theorem dX6_reduce_48 : decode cX6_reduce 48 = .ok (.aload_n 0, 1) := by decide +kernel
theorem dX6_reduce_49 : decode cX6_reduce 49 = .ok (.getfield 31, 3) := by decide +kernel
theorem dX6_reduce_52 : decode cX6_reduce 52 = .ok (.iload_n 2, 1) := by decide +kernel
theorem dX6_reduce_53 : decode cX6_reduce 53 = .ok (.iaload, 1) := by decide +kernel
theorem dX6_reduce_54 : decode cX6_reduce 54 = .ok (.iload_n 3, 1) := by decide +kernel
theorem dX6_reduce_55 : decode cX6_reduce 55 = .ok (.invokevirtual 143, 3) := by decide +kernel
theorem dX6_reduce_58 : decode cX6_reduce 58 = .ok (.pop, 1) := by decide +kernel
theorem dX6_reduce_59 : decode cX6_reduce 59 = .ok (.aload_n 0, 1) := by decide +kernel
theorem dX6_reduce_60 : decode cX6_reduce 60 = .ok (.aload_n 0, 1) := by decide +kernel
theorem dX6_reduce_61 : decode cX6_reduce 61 = .ok (.getfield 98, 3) := by decide +kernel
theorem dX6_reduce_64 : decode cX6_reduce 64 = .ok (.iload_n 3, 1) := by decide +kernel
theorem dX6_reduce_65 : decode cX6_reduce 65 = .ok (.isub, 1) := by decide +kernel
theorem dX6_reduce_66 : decode cX6_reduce 66 = .ok (.iconst 0, 1) := by decide +kernel
theorem dX6_reduce_67 : decode cX6_reduce 67 = .ok (.invokestatic 150, 3) := by decide +kernel
theorem dX6_reduce_70 : decode cX6_reduce 70 = .ok (.putfield 98, 3) := by decide +kernel
theorem dX6_reduce_73 : decode cX6_reduce 73 = .ok (.aload_n 0, 1) := by decide +kernel
theorem dX6_reduce_74 : decode cX6_reduce 74 = .ok (.aload_n 0, 1) := by decide +kernel
theorem dX6_reduce_75 : decode cX6_reduce 75 = .ok (.getfield 37, 3) := by decide +kernel
theorem dX6_reduce_78 : decode cX6_reduce 78 = .ok (.iload_n 2, 1) := by decide +kernel
theorem dX6_reduce_79 : decode cX6_reduce 79 = .ok (.iaload, 1) := by decide +kernel
theorem dX6_reduce_80 : decode cX6_reduce 80 = .ok (.invokevirtual 140, 3) := by decide +kernel
theorem dX6_reduce_83 : decode cX6_reduce 83 = .ok (.pop, 1) := by decide +kernel
theorem dX6_reduce_84 : decode cX6_reduce 84 = .ok (.aload_n 0, 1) := by decide +kernel
theorem dX6_reduce_85 : decode cX6_reduce 85 = .ok (.iload_n 2, 1) := by decide +kernel
theorem dX6_reduce_86 : decode cX6_reduce 86 = .ok (.putfield 95, 3) := by decide +kernel
theorem dX6_reduce_89 : decode cX6_reduce 89 = .ok (.iinc 2 (-1), 3) := by decide +kernel
theorem dX6_reduce_92 : decode cX6_reduce 92 = .ok (.goto (-85), 3) := by decide +kernel
theorem dX6_reduce_95 : decode cX6_reduce 95 = .ok (.return_, 1) := by decide +kernel
theorem dX6_stacksGive_0 : decode cX6_stacksGive 0 = .ok (.aload_n 0, 1) := by decide +kernel
theorem dX6_stacksGive_1 : decode cX6_stacksGive 1 = .ok (.invokevirtual 153, 3) := by decide +kernel
theorem dX6_stacksGive_4 : decode cX6_stacksGive 4 = .ok (.iconst (-1), 1) := by decide +kernel
theorem dX6_stacksGive_5 : decode cX6_stacksGive 5 = .ok (.if_icmp .ne 18, 3) := by decide +kernel
theorem dX6_stacksGive_8 : decode cX6_stacksGive 8 = .ok (.aload_n 1, 1) := by decide +kernel
theorem dX6_stacksGive_9 : decode cX6_stacksGive 9 = .ok (.aload_n 0, 1) := by decide +kernel
theorem dX6_stacksGive_10 : decode cX6_stacksGive 10 = .ok (.getfield 46, 3) := by decide +kernel
theorem dX6_stacksGive_13 : decode cX6_stacksGive 13 = .ok (.invokevirtual 156, 3) := by decide +kernel
theorem dX6_stacksGive_16 : decode cX6_stacksGive 16 = .ok (.ifCond .eq 7, 3) := by decide +kernel
theorem dX6_stacksGive_19 : decode cX6_stacksGive 19 = .ok (.iconst 1, 1) := by decide +kernel
theorem dX6_stacksGive_20 : decode cX6_stacksGive 20 = .ok (.goto 4, 3) := by decide +kernel
theorem dX6_stacksGive_23 : decode cX6_stacksGive 23 = .ok (.iconst 0, 1) := by decide +kernel
theorem dX6_stacksGive_24 : decode cX6_stacksGive 24 = .ok (.ireturn, 1) := by decide +kernel
theorem dX6_climbingGives_0 : decode cX6_climbingGives 0 = .ok (.aload_n 0, 1) := by decide +kernel
theorem dX6_climbingGives_1 : decode cX6_climbingGives 1 = .ok (.iconst 0, 1) := by decide +kernel
theorem dX6_climbingGives_2 : decode cX6_climbingGives 2 = .ok (.putfield 92, 3) := by decide +kernel
theorem dX6_climbingGives_5 : decode cX6_climbingGives 5 = .ok (.aload_n 0, 1) := by decide +kernel
theorem dX6_climbingGives_6 : decode cX6_climbingGives 6 = .ok (.getfield 46, 3) := by decide +kernel
theorem dX6_climbingGives_9 : decode cX6_climbingGives 9 = .ok (.invokevirtual 105, 3) := by decide +kernel
theorem dX6_climbingGives_12 : decode cX6_climbingGives 12 = .ok (.aload_n 0, 1) := by decide +kernel
theorem dX6_climbingGives_13 : decode cX6_climbingGives 13 = .ok (.iconst 1, 1) := by decide +kernel
theorem dX6_climbingGives_14 : decode cX6_climbingGives 14 = .ok (.iconst 0, 1) := by decide +kernel
theorem dX6_climbingGives_15 : decode cX6_climbingGives 15 = .ok (.invokevirtual 160, 3) := by decide +kernel
theorem dX6_climbingGives_18 : decode cX6_climbingGives 18 = .ok (.ifCond .eq 29, 3) := by decide +kernel
theorem dX6_climbingGives_21 : decode cX6_climbingGives 21 = .ok (.aload_n 0, 1) := by decide +kernel
theorem dX6_climbingGives_22 : decode cX6_climbingGives 22 = .ok (.invokevirtual 108, 3) := by decide +kernel
theorem dX6_climbingGives_25 : decode cX6_climbingGives 25 = .ok (.aload_n 0, 1) := by decide +kernel
theorem dX6_climbingGives_26 : decode cX6_climbingGives 26 = .ok (.getfield 54, 3) := by decide +kernel
theorem dX6_climbingGives_29 : decode cX6_climbingGives 29 = .ok (.if_icmp .lt 18, 3) := by decide +kernel
theorem dX6_climbingGives_32 : decode cX6_climbingGives 32 = .ok (.aload_n 1, 1) := by decide +kernel
theorem dX6_climbingGives_33 : decode cX6_climbingGives 33 = .ok (.aload_n 0, 1) := by decide +kernel
theorem dX6_climbingGives_34 : decode cX6_climbingGives 34 = .ok (.getfield 46, 3) := by decide +kernel
theorem dX6_climbingGives_37 : decode cX6_climbingGives 37 = .ok (.invokevirtual 156, 3) := by decide +kernel
theorem dX6_climbingGives_40 : decode cX6_climbingGives 40 = .ok (.ifCond .eq 7, 3) := by decide +kernel
theorem dX6_climbingGives_43 : decode cX6_climbingGives 43 = .ok (.iconst 1, 1) := by decide +kernel
theorem dX6_climbingGives_44 : decode cX6_climbingGives 44 = .ok (.goto 4, 3) := by decide +kernel
theorem dX6_climbingGives_47 : decode cX6_climbingGives 47 = .ok (.iconst 0, 1) := by decide +kernel
theorem dX6_climbingGives_48 : decode cX6_climbingGives 48 = .ok (.ireturn, 1) := by decide +kernel
theorem dX6_takeWord_0 : decode cX6_takeWord 0 = .ok (.aload_n 0, 1) := by decide +kernel
theorem dX6_takeWord_1 : decode cX6_takeWord 1 = .ok (.invokevirtual 108, 3) := by decide +kernel
theorem dX6_takeWord_4 : decode cX6_takeWord 4 = .ok (.istore_n 1, 1) := by decide +kernel
theorem dX6_takeWord_5 : decode cX6_takeWord 5 = .ok (.aload_n 0, 1) := by decide +kernel
theorem dX6_takeWord_6 : decode cX6_takeWord 6 = .ok (.iload_n 1, 1) := by decide +kernel
theorem dX6_takeWord_7 : decode cX6_takeWord 7 = .ok (.iconst 1, 1) := by decide +kernel
theorem dX6_takeWord_8 : decode cX6_takeWord 8 = .ok (.iadd, 1) := by decide +kernel
theorem dX6_takeWord_9 : decode cX6_takeWord 9 = .ok (.putfield 92, 3) := by decide +kernel
theorem dX6_takeWord_12 : decode cX6_takeWord 12 = .ok (.iload_n 1, 1) := by decide +kernel
theorem dX6_takeWord_13 : decode cX6_takeWord 13 = .ok (.ireturn, 1) := by decide +kernel
theorem dX6_climb_0 : decode cX6_climb 0 = .ok (.aload_n 0, 1) := by decide +kernel
theorem dX6_climb_1 : decode cX6_climb 1 = .ok (.invokevirtual 163, 3) := by decide +kernel
theorem dX6_climb_4 : decode cX6_climb 4 = .ok (.istore_n 3, 1) := by decide +kernel
theorem dX6_climb_5 : decode cX6_climb 5 = .ok (.aload_n 0, 1) := by decide +kernel
theorem dX6_climb_6 : decode cX6_climb 6 = .ok (.iload_n 3, 1) := by decide +kernel
theorem dX6_climb_7 : decode cX6_climb 7 = .ok (.invokevirtual 129, 3) := by decide +kernel
theorem dX6_climb_10 : decode cX6_climb 10 = .ok (.istore 4, 2) := by decide +kernel
theorem dX6_climb_12 : decode cX6_climb 12 = .ok (.iload_n 2, 1) := by decide +kernel
theorem dX6_climb_13 : decode cX6_climb 13 = .ok (.sipush 140, 3) := by decide +kernel
theorem dX6_climb_16 : decode cX6_climb 16 = .ok (.if_icmp .gt 11, 3) := by decide +kernel
theorem dX6_climb_19 : decode cX6_climb 19 = .ok (.iload_n 3, 1) := by decide +kernel
theorem dX6_climb_20 : decode cX6_climb 20 = .ok (.aload_n 0, 1) := by decide +kernel
theorem dX6_climb_21 : decode cX6_climb 21 = .ok (.getfield 54, 3) := by decide +kernel
theorem dX6_climb_24 : decode cX6_climb 24 = .ok (.if_icmp .lt 5, 3) := by decide +kernel
theorem dX6_climb_27 : decode cX6_climb 27 = .ok (.iconst 0, 1) := by decide +kernel
theorem dX6_climb_28 : decode cX6_climb 28 = .ok (.ireturn, 1) := by decide +kernel
theorem dX6_climb_29 : decode cX6_climb 29 = .ok (.aload_n 0, 1) := by decide +kernel
theorem dX6_climb_30 : decode cX6_climb 30 = .ok (.getfield 15, 3) := by decide +kernel
theorem dX6_climb_33 : decode cX6_climb 33 = .ok (.iload_n 3, 1) := by decide +kernel
theorem dX6_climb_34 : decode cX6_climb 34 = .ok (.iaload, 1) := by decide +kernel
theorem dX6_climb_35 : decode cX6_climb 35 = .ok (.istore 5, 2) := by decide +kernel
theorem dX6_climb_37 : decode cX6_climb 37 = .ok (.iload 4, 2) := by decide +kernel
theorem dX6_climb_39 : decode cX6_climb 39 = .ok (.ifCond .eq 21, 3) := by decide +kernel
theorem dX6_climb_42 : decode cX6_climb 42 = .ok (.iload 4, 2) := by decide +kernel
theorem dX6_climb_44 : decode cX6_climb 44 = .ok (.iconst 1, 1) := by decide +kernel
theorem dX6_climb_45 : decode cX6_climb 45 = .ok (.if_icmp .ne 32, 3) := by decide +kernel
theorem dX6_climb_48 : decode cX6_climb 48 = .ok (.aload_n 0, 1) := by decide +kernel
theorem dX6_climb_49 : decode cX6_climb 49 = .ok (.aload_n 0, 1) := by decide +kernel
theorem dX6_climb_50 : decode cX6_climb 50 = .ok (.invokevirtual 108, 3) := by decide +kernel
theorem dX6_climb_53 : decode cX6_climb 53 = .ok (.invokevirtual 129, 3) := by decide +kernel
theorem dX6_climb_56 : decode cX6_climb 56 = .ok (.iconst 4, 1) := by decide +kernel
theorem dX6_climb_57 : decode cX6_climb 57 = .ok (.if_icmp .eq 20, 3) := by decide +kernel
theorem dX6_climb_60 : decode cX6_climb 60 = .ok (.aload_n 0, 1) := by decide +kernel
theorem dX6_climb_61 : decode cX6_climb 61 = .ok (.getfield 46, 3) := by decide +kernel
theorem dX6_climb_64 : decode cX6_climb 64 = .ok (.iload 4, 2) := by decide +kernel
theorem dX6_climb_66 : decode cX6_climb 66 = .ok (.iload 5, 2) := by decide +kernel
theorem dX6_climb_68 : decode cX6_climb 68 = .ok (.iconst (-1), 1) := by decide +kernel
theorem dX6_climb_69 : decode cX6_climb 69 = .ok (.iconst 0, 1) := by decide +kernel
theorem dX6_climb_70 : decode cX6_climb 70 = .ok (.invokevirtual 143, 3) := by decide +kernel
theorem dX6_climb_73 : decode cX6_climb 73 = .ok (.pop, 1) := by decide +kernel
theorem dX6_climb_74 : decode cX6_climb 74 = .ok (.goto 108, 3) := by decide +kernel
theorem dX6_climb_77 : decode cX6_climb 77 = .ok (.iload 4, 2) := by decide +kernel
theorem dX6_climb_79 : decode cX6_climb 79 = .ok (.iconst 1, 1) := by decide +kernel
theorem dX6_climb_80 : decode cX6_climb 80 = .ok (.if_icmp .ne 15, 3) := by decide +kernel
theorem dX6_climb_83 : decode cX6_climb 83 = .ok (.aload_n 0, 1) := by decide +kernel
theorem dX6_climb_84 : decode cX6_climb 84 = .ok (.iload 5, 2) := by decide +kernel
theorem dX6_climb_86 : decode cX6_climb 86 = .ok (.iload_n 2, 1) := by decide +kernel
theorem dX6_climb_87 : decode cX6_climb 87 = .ok (.invokevirtual 166, 3) := by decide +kernel
theorem dX6_climb_90 : decode cX6_climb 90 = .ok (.ifCond .ne 92, 3) := by decide +kernel
theorem dX6_climb_93 : decode cX6_climb 93 = .ok (.iconst 0, 1) := by decide +kernel
theorem dX6_climb_94 : decode cX6_climb 94 = .ok (.ireturn, 1) := by decide +kernel
theorem dX6_climb_95 : decode cX6_climb 95 = .ok (.iload 4, 2) := by decide +kernel
theorem dX6_climb_97 : decode cX6_climb 97 = .ok (.iconst 4, 1) := by decide +kernel
theorem dX6_climb_98 : decode cX6_climb 98 = .ok (.if_icmp .ne 28, 3) := by decide +kernel
theorem dX6_climb_101 : decode cX6_climb 101 = .ok (.aload_n 0, 1) := by decide +kernel
theorem dX6_climb_102 : decode cX6_climb 102 = .ok (.iconst 1, 1) := by decide +kernel
theorem dX6_climb_103 : decode cX6_climb 103 = .ok (.iload_n 2, 1) := by decide +kernel
theorem dX6_climb_104 : decode cX6_climb 104 = .ok (.iconst 1, 1) := by decide +kernel
theorem dX6_climb_105 : decode cX6_climb 105 = .ok (.iadd, 1) := by decide +kernel
theorem dX6_climb_106 : decode cX6_climb 106 = .ok (.invokevirtual 160, 3) := by decide +kernel
theorem dX6_climb_109 : decode cX6_climb 109 = .ok (.ifCond .eq 15, 3) := by decide +kernel
theorem dX6_climb_112 : decode cX6_climb 112 = .ok (.aload_n 0, 1) := by decide +kernel
theorem dX6_climb_113 : decode cX6_climb 113 = .ok (.aload_n 0, 1) := by decide +kernel
theorem dX6_climb_114 : decode cX6_climb 114 = .ok (.invokevirtual 163, 3) := by decide +kernel
theorem dX6_climb_117 : decode cX6_climb 117 = .ok (.invokevirtual 129, 3) := by decide +kernel
theorem dX6_climb_120 : decode cX6_climb 120 = .ok (.iconst 5, 1) := by decide +kernel
theorem dX6_climb_121 : decode cX6_climb 121 = .ok (.if_icmp .eq 61, 3) := by decide +kernel
theorem dX6_climb_124 : decode cX6_climb 124 = .ok (.iconst 0, 1) := by decide +kernel
theorem dX6_climb_125 : decode cX6_climb 125 = .ok (.ireturn, 1) := by decide +kernel
theorem dX6_climb_126 : decode cX6_climb 126 = .ok (.iload 4, 2) := by decide +kernel
theorem dX6_climb_128 : decode cX6_climb 128 = .ok (.iconst 3, 1) := by decide +kernel
theorem dX6_climb_129 : decode cX6_climb 129 = .ok (.if_icmp .ne 16, 3) := by decide +kernel
theorem dX6_climb_132 : decode cX6_climb 132 = .ok (.aload_n 0, 1) := by decide +kernel
theorem dX6_climb_133 : decode cX6_climb 133 = .ok (.getfield 50, 3) := by decide +kernel
theorem dX6_climb_136 : decode cX6_climb 136 = .ok (.iload 5, 2) := by decide +kernel
theorem dX6_climb_138 : decode cX6_climb 138 = .ok (.iconst 0, 1) := by decide +kernel
theorem dX6_climb_139 : decode cX6_climb 139 = .ok (.invokevirtual 137, 3) := by decide +kernel
theorem dX6_climb_142 : decode cX6_climb 142 = .ok (.goto 4, 3) := by decide +kernel
theorem dX6_climb_145 : decode cX6_climb 145 = .ok (.iconst 0, 1) := by decide +kernel
theorem dX6_climb_146 : decode cX6_climb 146 = .ok (.istore 6, 2) := by decide +kernel
theorem dX6_climb_148 : decode cX6_climb 148 = .ok (.iload 6, 2) := by decide +kernel
theorem dX6_climb_150 : decode cX6_climb 150 = .ok (.ifCond .eq 17, 3) := by decide +kernel
theorem dX6_climb_153 : decode cX6_climb 153 = .ok (.aload_n 0, 1) := by decide +kernel
theorem dX6_climb_154 : decode cX6_climb 154 = .ok (.iload 6, 2) := by decide +kernel
theorem dX6_climb_156 : decode cX6_climb 156 = .ok (.iconst 1, 1) := by decide +kernel
theorem dX6_climb_157 : decode cX6_climb 157 = .ok (.iadd, 1) := by decide +kernel
theorem dX6_climb_158 : decode cX6_climb 158 = .ok (.iload_n 2, 1) := by decide +kernel
theorem dX6_climb_159 : decode cX6_climb 159 = .ok (.iconst 1, 1) := by decide +kernel
theorem dX6_climb_160 : decode cX6_climb 160 = .ok (.iadd, 1) := by decide +kernel
theorem dX6_climb_161 : decode cX6_climb 161 = .ok (.invokevirtual 160, 3) := by decide +kernel
theorem dX6_climb_164 : decode cX6_climb 164 = .ok (.ifCond .ne 5, 3) := by decide +kernel
theorem dX6_climb_167 : decode cX6_climb 167 = .ok (.iconst 0, 1) := by decide +kernel
theorem dX6_climb_168 : decode cX6_climb 168 = .ok (.ireturn, 1) := by decide +kernel
theorem dX6_climb_169 : decode cX6_climb 169 = .ok (.aload_n 0, 1) := by decide +kernel
theorem dX6_climb_170 : decode cX6_climb 170 = .ok (.getfield 46, 3) := by decide +kernel
theorem dX6_climb_173 : decode cX6_climb 173 = .ok (.iconst 3, 1) := by decide +kernel
theorem dX6_climb_174 : decode cX6_climb 174 = .ok (.iload 5, 2) := by decide +kernel
theorem dX6_climb_176 : decode cX6_climb 176 = .ok (.iconst 0, 1) := by decide +kernel
theorem dX6_climb_177 : decode cX6_climb 177 = .ok (.iconst 1, 1) := by decide +kernel
theorem dX6_climb_178 : decode cX6_climb 178 = .ok (.invokevirtual 143, 3) := by decide +kernel
theorem dX6_climb_181 : decode cX6_climb 181 = .ok (.pop, 1) := by decide +kernel
theorem dX6_climb_182 : decode cX6_climb 182 = .ok (.iconst 0, 1) := by decide +kernel
theorem dX6_climb_183 : decode cX6_climb 183 = .ok (.istore 6, 2) := by decide +kernel
theorem dX6_climb_185 : decode cX6_climb 185 = .ok (.iconst 0, 1) := by decide +kernel
theorem dX6_climb_186 : decode cX6_climb 186 = .ok (.istore 7, 2) := by decide +kernel
theorem dX6_climb_188 : decode cX6_climb 188 = .ok (.iload 7, 2) := by decide +kernel
theorem dX6_climb_190 : decode cX6_climb 190 = .ok (.aload_n 0, 1) := by decide +kernel
theorem dX6_climb_191 : decode cX6_climb 191 = .ok (.getfield 54, 3) := by decide +kernel
theorem dX6_climb_194 : decode cX6_climb 194 = .ok (.if_icmp .ge 175, 3) := by decide +kernel
theorem dX6_climb_197 : decode cX6_climb 197 = .ok (.aload_n 0, 1) := by decide +kernel
theorem dX6_climb_198 : decode cX6_climb 198 = .ok (.aload_n 0, 1) := by decide +kernel
theorem dX6_climb_199 : decode cX6_climb 199 = .ok (.invokevirtual 108, 3) := by decide +kernel
theorem dX6_climb_202 : decode cX6_climb 202 = .ok (.invokevirtual 129, 3) := by decide +kernel
theorem dX6_climb_205 : decode cX6_climb 205 = .ok (.iconst 3, 1) := by decide +kernel
theorem dX6_climb_206 : decode cX6_climb 206 = .ok (.if_icmp .ne 163, 3) := by decide +kernel
theorem dX6_climb_209 : decode cX6_climb 209 = .ok (.aload_n 0, 1) := by decide +kernel
theorem dX6_climb_210 : decode cX6_climb 210 = .ok (.getfield 15, 3) := by decide +kernel
theorem dX6_climb_213 : decode cX6_climb 213 = .ok (.aload_n 0, 1) := by decide +kernel
theorem dX6_climb_214 : decode cX6_climb 214 = .ok (.invokevirtual 108, 3) := by decide +kernel
theorem dX6_climb_217 : decode cX6_climb 217 = .ok (.iaload, 1) := by decide +kernel
theorem dX6_climb_218 : decode cX6_climb 218 = .ok (.istore 8, 2) := by decide +kernel
theorem dX6_climb_220 : decode cX6_climb 220 = .ok (.aload_n 0, 1) := by decide +kernel
theorem dX6_climb_221 : decode cX6_climb 221 = .ok (.getfield 50, 3) := by decide +kernel
theorem dX6_climb_224 : decode cX6_climb 224 = .ok (.iload 8, 2) := by decide +kernel
theorem dX6_climb_226 : decode cX6_climb 226 = .ok (.iconst 1, 1) := by decide +kernel
theorem dX6_climb_227 : decode cX6_climb 227 = .ok (.invokevirtual 137, 3) := by decide +kernel
theorem dX6_climb_230 : decode cX6_climb 230 = .ok (.ifCond .le 7, 3) := by decide +kernel
theorem dX6_climb_233 : decode cX6_climb 233 = .ok (.iconst 1, 1) := by decide +kernel
theorem dX6_climb_234 : decode cX6_climb 234 = .ok (.goto 4, 3) := by decide +kernel
theorem dX6_climb_237 : decode cX6_climb 237 = .ok (.iconst 2, 1) := by decide +kernel
theorem dX6_climb_238 : decode cX6_climb 238 = .ok (.istore 9, 2) := by decide +kernel
theorem dX6_climb_240 : decode cX6_climb 240 = .ok (.aload_n 0, 1) := by decide +kernel
theorem dX6_climb_241 : decode cX6_climb 241 = .ok (.getfield 50, 3) := by decide +kernel
theorem dX6_climb_244 : decode cX6_climb 244 = .ok (.iload 8, 2) := by decide +kernel
theorem dX6_climb_246 : decode cX6_climb 246 = .ok (.iload 9, 2) := by decide +kernel
theorem dX6_climb_248 : decode cX6_climb 248 = .ok (.invokevirtual 137, 3) := by decide +kernel
theorem dX6_climb_251 : decode cX6_climb 251 = .ok (.istore 10, 2) := by decide +kernel
theorem dX6_climb_253 : decode cX6_climb 253 = .ok (.iload 10, 2) := by decide +kernel
theorem dX6_climb_255 : decode cX6_climb 255 = .ok (.iload_n 1, 1) := by decide +kernel
theorem dX6_climb_256 : decode cX6_climb 256 = .ok (.if_icmp .ge 5, 3) := by decide +kernel
theorem dX6_climb_259 : decode cX6_climb 259 = .ok (.iconst 1, 1) := by decide +kernel
theorem dX6_climb_260 : decode cX6_climb 260 = .ok (.ireturn, 1) := by decide +kernel
theorem dX6_climb_261 : decode cX6_climb 261 = .ok (.aload_n 0, 1) := by decide +kernel
theorem dX6_climb_262 : decode cX6_climb 262 = .ok (.invokevirtual 163, 3) := by decide +kernel
theorem dX6_climb_265 : decode cX6_climb 265 = .ok (.pop, 1) := by decide +kernel
theorem dX6_climb_266 : decode cX6_climb 266 = .ok (.aload_n 0, 1) := by decide +kernel
theorem dX6_climb_267 : decode cX6_climb 267 = .ok (.getfield 50, 3) := by decide +kernel
theorem dX6_climb_270 : decode cX6_climb 270 = .ok (.iload 8, 2) := by decide +kernel
theorem dX6_climb_272 : decode cX6_climb 272 = .ok (.iload 9, 2) := by decide +kernel
theorem dX6_climb_274 : decode cX6_climb 274 = .ok (.invokevirtual 147, 3) := by decide +kernel
theorem dX6_climb_277 : decode cX6_climb 277 = .ok (.istore 11, 2) := by decide +kernel
theorem dX6_climb_279 : decode cX6_climb 279 = .ok (.iload 9, 2) := by decide +kernel
theorem dX6_climb_281 : decode cX6_climb 281 = .ok (.iconst 2, 1) := by decide +kernel
theorem dX6_climb_282 : decode cX6_climb 282 = .ok (.if_icmp .ne 37, 3) := by decide +kernel
theorem dX6_climb_285 : decode cX6_climb 285 = .ok (.iload 6, 2) := by decide +kernel
theorem dX6_climb_287 : decode cX6_climb 287 = .ok (.iload 10, 2) := by decide +kernel
theorem dX6_climb_289 : decode cX6_climb 289 = .ok (.if_icmp .eq 28, 3) := by decide +kernel
theorem dX6_climb_292 : decode cX6_climb 292 = .ok (.aload_n 0, 1) := by decide +kernel
theorem dX6_climb_293 : decode cX6_climb 293 = .ok (.iload 11, 2) := by decide +kernel
theorem dX6_climb_295 : decode cX6_climb 295 = .ok (.iconst 1, 1) := by decide +kernel
theorem dX6_climb_296 : decode cX6_climb 296 = .ok (.if_icmp .ne 8, 3) := by decide +kernel
theorem dX6_climb_299 : decode cX6_climb 299 = .ok (.iload 10, 2) := by decide +kernel
theorem dX6_climb_301 : decode cX6_climb 301 = .ok (.goto 7, 3) := by decide +kernel
theorem dX6_climb_304 : decode cX6_climb 304 = .ok (.iload 10, 2) := by decide +kernel
theorem dX6_climb_306 : decode cX6_climb 306 = .ok (.iconst 1, 1) := by decide +kernel
theorem dX6_climb_307 : decode cX6_climb 307 = .ok (.iadd, 1) := by decide +kernel
theorem dX6_climb_308 : decode cX6_climb 308 = .ok (.iload_n 2, 1) := by decide +kernel
theorem dX6_climb_309 : decode cX6_climb 309 = .ok (.iconst 1, 1) := by decide +kernel
theorem dX6_climb_310 : decode cX6_climb 310 = .ok (.iadd, 1) := by decide +kernel
theorem dX6_climb_311 : decode cX6_climb 311 = .ok (.invokevirtual 160, 3) := by decide +kernel
theorem dX6_climb_314 : decode cX6_climb 314 = .ok (.ifCond .ne 5, 3) := by decide +kernel
theorem dX6_climb_317 : decode cX6_climb 317 = .ok (.iconst 0, 1) := by decide +kernel
theorem dX6_climb_318 : decode cX6_climb 318 = .ok (.ireturn, 1) := by decide +kernel
theorem dX6_climb_319 : decode cX6_climb 319 = .ok (.aload_n 0, 1) := by decide +kernel
theorem dX6_climb_320 : decode cX6_climb 320 = .ok (.getfield 46, 3) := by decide +kernel
theorem dX6_climb_323 : decode cX6_climb 323 = .ok (.iconst 3, 1) := by decide +kernel
theorem dX6_climb_324 : decode cX6_climb 324 = .ok (.iload 8, 2) := by decide +kernel
theorem dX6_climb_326 : decode cX6_climb 326 = .ok (.iload 9, 2) := by decide +kernel
theorem dX6_climb_328 : decode cX6_climb 328 = .ok (.iload 9, 2) := by decide +kernel
theorem dX6_climb_330 : decode cX6_climb 330 = .ok (.iconst 2, 1) := by decide +kernel
theorem dX6_climb_331 : decode cX6_climb 331 = .ok (.if_icmp .ne 7, 3) := by decide +kernel
theorem dX6_climb_334 : decode cX6_climb 334 = .ok (.iconst 2, 1) := by decide +kernel
theorem dX6_climb_335 : decode cX6_climb 335 = .ok (.goto 4, 3) := by decide +kernel
theorem dX6_climb_338 : decode cX6_climb 338 = .ok (.iconst 1, 1) := by decide +kernel
theorem dX6_climb_339 : decode cX6_climb 339 = .ok (.invokevirtual 143, 3) := by decide +kernel
theorem dX6_climb_342 : decode cX6_climb 342 = .ok (.pop, 1) := by decide +kernel
theorem dX6_climb_343 : decode cX6_climb 343 = .ok (.iload 9, 2) := by decide +kernel
theorem dX6_climb_345 : decode cX6_climb 345 = .ok (.iconst 2, 1) := by decide +kernel
theorem dX6_climb_346 : decode cX6_climb 346 = .ok (.if_icmp .ne 14, 3) := by decide +kernel
theorem dX6_climb_349 : decode cX6_climb 349 = .ok (.iload 11, 2) := by decide +kernel
theorem dX6_climb_351 : decode cX6_climb 351 = .ok (.iconst 2, 1) := by decide +kernel
theorem dX6_climb_352 : decode cX6_climb 352 = .ok (.if_icmp .ne 8, 3) := by decide +kernel
theorem dX6_climb_355 : decode cX6_climb 355 = .ok (.iload 10, 2) := by decide +kernel
theorem dX6_climb_357 : decode cX6_climb 357 = .ok (.goto 4, 3) := by decide +kernel
theorem dX6_climb_360 : decode cX6_climb 360 = .ok (.iconst 0, 1) := by decide +kernel
theorem dX6_climb_361 : decode cX6_climb 361 = .ok (.istore 6, 2) := by decide +kernel
theorem dX6_climb_363 : decode cX6_climb 363 = .ok (.iinc 7 1, 3) := by decide +kernel
theorem dX6_climb_366 : decode cX6_climb 366 = .ok (.goto (-178), 3) := by decide +kernel
theorem dX6_climb_369 : decode cX6_climb 369 = .ok (.iconst 1, 1) := by decide +kernel
theorem dX6_climb_370 : decode cX6_climb 370 = .ok (.ireturn, 1) := by decide +kernel
theorem dX6_climbArguments_0 : decode cX6_climbArguments 0 = .ok (.aload_n 0, 1) := by decide +kernel
theorem dX6_climbArguments_1 : decode cX6_climbArguments 1 = .ok (.invokevirtual 163, 3) := by decide +kernel
theorem dX6_climbArguments_4 : decode cX6_climbArguments 4 = .ok (.pop, 1) := by decide +kernel
theorem dX6_climbArguments_5 : decode cX6_climbArguments 5 = .ok (.iconst 1, 1) := by decide +kernel
theorem dX6_climbArguments_6 : decode cX6_climbArguments 6 = .ok (.istore_n 3, 1) := by decide +kernel
theorem dX6_climbArguments_7 : decode cX6_climbArguments 7 = .ok (.iload_n 3, 1) := by decide +kernel
theorem dX6_climbArguments_8 : decode cX6_climbArguments 8 = .ok (.iconst 4, 1) := by decide +kernel
