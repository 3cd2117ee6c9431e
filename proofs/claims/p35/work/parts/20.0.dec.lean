theorem dX0_init_0 : decode cX0_init 0 = .ok (.aload_n 0, 1) := by decide +kernel
theorem dX0_init_1 : decode cX0_init 1 = .ok (.invokespecial 1, 3) := by decide +kernel
theorem dX0_init_4 : decode cX0_init 4 = .ok (.aload_n 0, 1) := by decide +kernel
theorem dX0_init_5 : decode cX0_init 5 = .ok (.new 7, 3) := by decide +kernel
theorem dX0_init_8 : decode cX0_init 8 = .ok (.dup, 1) := by decide +kernel
theorem dX0_init_9 : decode cX0_init 9 = .ok (.bipush 100, 2) := by decide +kernel
theorem dX0_init_11 : decode cX0_init 11 = .ok (.invokespecial 9, 3) := by decide +kernel
theorem dX0_init_14 : decode cX0_init 14 = .ok (.putfield 12, 3) := by decide +kernel
theorem dX0_init_17 : decode cX0_init 17 = .ok (.aload_n 0, 1) := by decide +kernel
theorem dX0_init_18 : decode cX0_init 18 = .ok (.new 7, 3) := by decide +kernel
theorem dX0_init_21 : decode cX0_init 21 = .ok (.dup, 1) := by decide +kernel
theorem dX0_init_22 : decode cX0_init 22 = .ok (.bipush 100, 2) := by decide +kernel
theorem dX0_init_24 : decode cX0_init 24 = .ok (.invokespecial 9, 3) := by decide +kernel
theorem dX0_init_27 : decode cX0_init 27 = .ok (.putfield 18, 3) := by decide +kernel
theorem dX0_init_30 : decode cX0_init 30 = .ok (.aload_n 0, 1) := by decide +kernel
theorem dX0_init_31 : decode cX0_init 31 = .ok (.new 7, 3) := by decide +kernel
theorem dX0_init_34 : decode cX0_init 34 = .ok (.dup, 1) := by decide +kernel
theorem dX0_init_35 : decode cX0_init 35 = .ok (.bipush 100, 2) := by decide +kernel
theorem dX0_init_37 : decode cX0_init 37 = .ok (.invokespecial 9, 3) := by decide +kernel
theorem dX0_init_40 : decode cX0_init 40 = .ok (.putfield 21, 3) := by decide +kernel
theorem dX0_init_43 : decode cX0_init 43 = .ok (.aload_n 0, 1) := by decide +kernel
theorem dX0_init_44 : decode cX0_init 44 = .ok (.new 7, 3) := by decide +kernel
theorem dX0_init_47 : decode cX0_init 47 = .ok (.dup, 1) := by decide +kernel
theorem dX0_init_48 : decode cX0_init 48 = .ok (.bipush 100, 2) := by decide +kernel
theorem dX0_init_50 : decode cX0_init 50 = .ok (.invokespecial 9, 3) := by decide +kernel
theorem dX0_init_53 : decode cX0_init 53 = .ok (.putfield 24, 3) := by decide +kernel
theorem dX0_init_56 : decode cX0_init 56 = .ok (.return_, 1) := by decide +kernel
theorem dX0_sum_0 : decode cX0_sum 0 = .ok (.aload_n 2, 1) := by decide +kernel
theorem dX0_sum_1 : decode cX0_sum 1 = .ok (.invokevirtual 27, 3) := by decide +kernel
theorem dX0_sum_4 : decode cX0_sum 4 = .ok (.ifCond .eq 47, 3) := by decide +kernel
theorem dX0_sum_7 : decode cX0_sum 7 = .ok (.aload_n 3, 1) := by decide +kernel
theorem dX0_sum_8 : decode cX0_sum 8 = .ok (.invokevirtual 27, 3) := by decide +kernel
theorem dX0_sum_11 : decode cX0_sum 11 = .ok (.ifCond .eq 40, 3) := by decide +kernel
theorem dX0_sum_14 : decode cX0_sum 14 = .ok (.aload_n 0, 1) := by decide +kernel
theorem dX0_sum_15 : decode cX0_sum 15 = .ok (.getfield 12, 3) := by decide +kernel
theorem dX0_sum_18 : decode cX0_sum 18 = .ok (.aload_n 2, 1) := by decide +kernel
theorem dX0_sum_19 : decode cX0_sum 19 = .ok (.getfield 33, 3) := by decide +kernel
theorem dX0_sum_22 : decode cX0_sum 22 = .ok (.aload_n 3, 1) := by decide +kernel
theorem dX0_sum_23 : decode cX0_sum 23 = .ok (.getfield 33, 3) := by decide +kernel
theorem dX0_sum_26 : decode cX0_sum 26 = .ok (.iload 4, 2) := by decide +kernel
theorem dX0_sum_28 : decode cX0_sum 28 = .ok (.invokevirtual 36, 3) := by decide +kernel
theorem dX0_sum_31 : decode cX0_sum 31 = .ok (.aload_n 1, 1) := by decide +kernel
theorem dX0_sum_32 : decode cX0_sum 32 = .ok (.getfield 33, 3) := by decide +kernel
theorem dX0_sum_35 : decode cX0_sum 35 = .ok (.aload_n 0, 1) := by decide +kernel
theorem dX0_sum_36 : decode cX0_sum 36 = .ok (.getfield 12, 3) := by decide +kernel
theorem dX0_sum_39 : decode cX0_sum 39 = .ok (.invokevirtual 40, 3) := by decide +kernel
theorem dX0_sum_42 : decode cX0_sum 42 = .ok (.aload_n 1, 1) := by decide +kernel
theorem dX0_sum_43 : decode cX0_sum 43 = .ok (.getfield 44, 3) := by decide +kernel
theorem dX0_sum_46 : decode cX0_sum 46 = .ok (.lconst 1, 1) := by decide +kernel
theorem dX0_sum_47 : decode cX0_sum 47 = .ok (.invokevirtual 47, 3) := by decide +kernel
theorem dX0_sum_50 : decode cX0_sum 50 = .ok (.return_, 1) := by decide +kernel
theorem dX0_sum_51 : decode cX0_sum 51 = .ok (.aload_n 0, 1) := by decide +kernel
theorem dX0_sum_52 : decode cX0_sum 52 = .ok (.getfield 12, 3) := by decide +kernel
theorem dX0_sum_55 : decode cX0_sum 55 = .ok (.aload_n 2, 1) := by decide +kernel
theorem dX0_sum_56 : decode cX0_sum 56 = .ok (.getfield 33, 3) := by decide +kernel
theorem dX0_sum_59 : decode cX0_sum 59 = .ok (.aload_n 3, 1) := by decide +kernel
theorem dX0_sum_60 : decode cX0_sum 60 = .ok (.getfield 44, 3) := by decide +kernel
theorem dX0_sum_63 : decode cX0_sum 63 = .ok (.invokevirtual 51, 3) := by decide +kernel
theorem dX0_sum_66 : decode cX0_sum 66 = .ok (.aload_n 0, 1) := by decide +kernel
theorem dX0_sum_67 : decode cX0_sum 67 = .ok (.getfield 18, 3) := by decide +kernel
theorem dX0_sum_70 : decode cX0_sum 70 = .ok (.aload_n 3, 1) := by decide +kernel
theorem dX0_sum_71 : decode cX0_sum 71 = .ok (.getfield 33, 3) := by decide +kernel
theorem dX0_sum_74 : decode cX0_sum 74 = .ok (.aload_n 2, 1) := by decide +kernel
theorem dX0_sum_75 : decode cX0_sum 75 = .ok (.getfield 44, 3) := by decide +kernel
theorem dX0_sum_78 : decode cX0_sum 78 = .ok (.invokevirtual 51, 3) := by decide +kernel
theorem dX0_sum_81 : decode cX0_sum 81 = .ok (.aload_n 0, 1) := by decide +kernel
theorem dX0_sum_82 : decode cX0_sum 82 = .ok (.getfield 21, 3) := by decide +kernel
theorem dX0_sum_85 : decode cX0_sum 85 = .ok (.aload_n 2, 1) := by decide +kernel
theorem dX0_sum_86 : decode cX0_sum 86 = .ok (.getfield 44, 3) := by decide +kernel
theorem dX0_sum_89 : decode cX0_sum 89 = .ok (.aload_n 3, 1) := by decide +kernel
theorem dX0_sum_90 : decode cX0_sum 90 = .ok (.getfield 44, 3) := by decide +kernel
theorem dX0_sum_93 : decode cX0_sum 93 = .ok (.invokevirtual 51, 3) := by decide +kernel
theorem dX0_sum_96 : decode cX0_sum 96 = .ok (.aload_n 1, 1) := by decide +kernel
theorem dX0_sum_97 : decode cX0_sum 97 = .ok (.getfield 44, 3) := by decide +kernel
theorem dX0_sum_100 : decode cX0_sum 100 = .ok (.aload_n 0, 1) := by decide +kernel
theorem dX0_sum_101 : decode cX0_sum 101 = .ok (.getfield 21, 3) := by decide +kernel
theorem dX0_sum_104 : decode cX0_sum 104 = .ok (.invokevirtual 40, 3) := by decide +kernel
theorem dX0_sum_107 : decode cX0_sum 107 = .ok (.aload_n 1, 1) := by decide +kernel
theorem dX0_sum_108 : decode cX0_sum 108 = .ok (.getfield 33, 3) := by decide +kernel
theorem dX0_sum_111 : decode cX0_sum 111 = .ok (.aload_n 0, 1) := by decide +kernel
theorem dX0_sum_112 : decode cX0_sum 112 = .ok (.getfield 12, 3) := by decide +kernel
theorem dX0_sum_115 : decode cX0_sum 115 = .ok (.aload_n 0, 1) := by decide +kernel
theorem dX0_sum_116 : decode cX0_sum 116 = .ok (.getfield 18, 3) := by decide +kernel
theorem dX0_sum_119 : decode cX0_sum 119 = .ok (.iload 4, 2) := by decide +kernel
theorem dX0_sum_121 : decode cX0_sum 121 = .ok (.invokevirtual 36, 3) := by decide +kernel
theorem dX0_sum_124 : decode cX0_sum 124 = .ok (.return_, 1) := by decide +kernel
theorem dX0_times_0 : decode cX0_times 0 = .ok (.aload_n 0, 1) := by decide +kernel
theorem dX0_times_1 : decode cX0_times 1 = .ok (.getfield 12, 3) := by decide +kernel
theorem dX0_times_4 : decode cX0_times 4 = .ok (.aload_n 2, 1) := by decide +kernel
theorem dX0_times_5 : decode cX0_times 5 = .ok (.getfield 33, 3) := by decide +kernel
theorem dX0_times_8 : decode cX0_times 8 = .ok (.aload_n 3, 1) := by decide +kernel
theorem dX0_times_9 : decode cX0_times 9 = .ok (.getfield 33, 3) := by decide +kernel
theorem dX0_times_12 : decode cX0_times 12 = .ok (.invokevirtual 51, 3) := by decide +kernel
theorem dX0_times_15 : decode cX0_times 15 = .ok (.aload_n 0, 1) := by decide +kernel
theorem dX0_times_16 : decode cX0_times 16 = .ok (.getfield 18, 3) := by decide +kernel
theorem dX0_times_19 : decode cX0_times 19 = .ok (.aload_n 2, 1) := by decide +kernel
theorem dX0_times_20 : decode cX0_times 20 = .ok (.getfield 44, 3) := by decide +kernel
theorem dX0_times_23 : decode cX0_times 23 = .ok (.aload_n 3, 1) := by decide +kernel
theorem dX0_times_24 : decode cX0_times 24 = .ok (.getfield 44, 3) := by decide +kernel
theorem dX0_times_27 : decode cX0_times 27 = .ok (.invokevirtual 51, 3) := by decide +kernel
theorem dX0_times_30 : decode cX0_times 30 = .ok (.aload_n 1, 1) := by decide +kernel
theorem dX0_times_31 : decode cX0_times 31 = .ok (.getfield 33, 3) := by decide +kernel
theorem dX0_times_34 : decode cX0_times 34 = .ok (.aload_n 0, 1) := by decide +kernel
theorem dX0_times_35 : decode cX0_times 35 = .ok (.getfield 12, 3) := by decide +kernel
theorem dX0_times_38 : decode cX0_times 38 = .ok (.invokevirtual 40, 3) := by decide +kernel
theorem dX0_times_41 : decode cX0_times 41 = .ok (.aload_n 1, 1) := by decide +kernel
theorem dX0_times_42 : decode cX0_times 42 = .ok (.getfield 44, 3) := by decide +kernel
theorem dX0_times_45 : decode cX0_times 45 = .ok (.aload_n 0, 1) := by decide +kernel
theorem dX0_times_46 : decode cX0_times 46 = .ok (.getfield 18, 3) := by decide +kernel
theorem dX0_times_49 : decode cX0_times 49 = .ok (.invokevirtual 40, 3) := by decide +kernel
theorem dX0_times_52 : decode cX0_times 52 = .ok (.return_, 1) := by decide +kernel
theorem dX0_over_0 : decode cX0_over 0 = .ok (.aload_n 0, 1) := by decide +kernel
theorem dX0_over_1 : decode cX0_over 1 = .ok (.getfield 12, 3) := by decide +kernel
theorem dX0_over_4 : decode cX0_over 4 = .ok (.aload_n 2, 1) := by decide +kernel
theorem dX0_over_5 : decode cX0_over 5 = .ok (.getfield 33, 3) := by decide +kernel
theorem dX0_over_8 : decode cX0_over 8 = .ok (.aload_n 3, 1) := by decide +kernel
theorem dX0_over_9 : decode cX0_over 9 = .ok (.getfield 44, 3) := by decide +kernel
theorem dX0_over_12 : decode cX0_over 12 = .ok (.invokevirtual 51, 3) := by decide +kernel
theorem dX0_over_15 : decode cX0_over 15 = .ok (.aload_n 0, 1) := by decide +kernel
theorem dX0_over_16 : decode cX0_over 16 = .ok (.getfield 18, 3) := by decide +kernel
theorem dX0_over_19 : decode cX0_over 19 = .ok (.aload_n 2, 1) := by decide +kernel
theorem dX0_over_20 : decode cX0_over 20 = .ok (.getfield 44, 3) := by decide +kernel
theorem dX0_over_23 : decode cX0_over 23 = .ok (.aload_n 3, 1) := by decide +kernel
theorem dX0_over_24 : decode cX0_over 24 = .ok (.getfield 33, 3) := by decide +kernel
theorem dX0_over_27 : decode cX0_over 27 = .ok (.invokevirtual 51, 3) := by decide +kernel
theorem dX0_over_30 : decode cX0_over 30 = .ok (.aload_n 1, 1) := by decide +kernel
theorem dX0_over_31 : decode cX0_over 31 = .ok (.getfield 33, 3) := by decide +kernel
theorem dX0_over_34 : decode cX0_over 34 = .ok (.aload_n 0, 1) := by decide +kernel
theorem dX0_over_35 : decode cX0_over 35 = .ok (.getfield 12, 3) := by decide +kernel
theorem dX0_over_38 : decode cX0_over 38 = .ok (.invokevirtual 40, 3) := by decide +kernel
theorem dX0_over_41 : decode cX0_over 41 = .ok (.aload_n 1, 1) := by decide +kernel
theorem dX0_over_42 : decode cX0_over 42 = .ok (.getfield 44, 3) := by decide +kernel
theorem dX0_over_45 : decode cX0_over 45 = .ok (.aload_n 0, 1) := by decide +kernel
theorem dX0_over_46 : decode cX0_over 46 = .ok (.getfield 18, 3) := by decide +kernel
theorem dX0_over_49 : decode cX0_over 49 = .ok (.invokevirtual 40, 3) := by decide +kernel
theorem dX0_over_52 : decode cX0_over 52 = .ok (.return_, 1) := by decide +kernel
theorem dX0_compare_0 : decode cX0_compare 0 = .ok (.aload_n 0, 1) := by decide +kernel
theorem dX0_compare_1 : decode cX0_compare 1 = .ok (.getfield 12, 3) := by decide +kernel
theorem dX0_compare_4 : decode cX0_compare 4 = .ok (.aload_n 1, 1) := by decide +kernel
theorem dX0_compare_5 : decode cX0_compare 5 = .ok (.getfield 33, 3) := by decide +kernel
theorem dX0_compare_8 : decode cX0_compare 8 = .ok (.aload_n 2, 1) := by decide +kernel
theorem dX0_compare_9 : decode cX0_compare 9 = .ok (.getfield 44, 3) := by decide +kernel
theorem dX0_compare_12 : decode cX0_compare 12 = .ok (.invokevirtual 51, 3) := by decide +kernel
theorem dX0_compare_15 : decode cX0_compare 15 = .ok (.aload_n 0, 1) := by decide +kernel
theorem dX0_compare_16 : decode cX0_compare 16 = .ok (.getfield 18, 3) := by decide +kernel
theorem dX0_compare_19 : decode cX0_compare 19 = .ok (.aload_n 2, 1) := by decide +kernel
theorem dX0_compare_20 : decode cX0_compare 20 = .ok (.getfield 33, 3) := by decide +kernel
theorem dX0_compare_23 : decode cX0_compare 23 = .ok (.aload_n 1, 1) := by decide +kernel
theorem dX0_compare_24 : decode cX0_compare 24 = .ok (.getfield 44, 3) := by decide +kernel
theorem dX0_compare_27 : decode cX0_compare 27 = .ok (.invokevirtual 51, 3) := by decide +kernel
theorem dX0_compare_30 : decode cX0_compare 30 = .ok (.aload_n 0, 1) := by decide +kernel
theorem dX0_compare_31 : decode cX0_compare 31 = .ok (.getfield 12, 3) := by decide +kernel
theorem dX0_compare_34 : decode cX0_compare 34 = .ok (.aload_n 0, 1) := by decide +kernel
theorem dX0_compare_35 : decode cX0_compare 35 = .ok (.getfield 18, 3) := by decide +kernel
theorem dX0_compare_38 : decode cX0_compare 38 = .ok (.invokestatic 55, 3) := by decide +kernel
theorem dX0_compare_41 : decode cX0_compare 41 = .ok (.ireturn, 1) := by decide +kernel
theorem dX0_remainder_0 : decode cX0_remainder 0 = .ok (.aload_n 0, 1) := by decide +kernel
theorem dX0_remainder_1 : decode cX0_remainder 1 = .ok (.getfield 12, 3) := by decide +kernel
theorem dX0_remainder_4 : decode cX0_remainder 4 = .ok (.aload_n 2, 1) := by decide +kernel
theorem dX0_remainder_5 : decode cX0_remainder 5 = .ok (.getfield 33, 3) := by decide +kernel
theorem dX0_remainder_8 : decode cX0_remainder 8 = .ok (.invokevirtual 40, 3) := by decide +kernel
theorem dX0_remainder_11 : decode cX0_remainder 11 = .ok (.aload_n 0, 1) := by decide +kernel
theorem dX0_remainder_12 : decode cX0_remainder 12 = .ok (.getfield 12, 3) := by decide +kernel
theorem dX0_remainder_15 : decode cX0_remainder 15 = .ok (.aload_n 3, 1) := by decide +kernel
theorem dX0_remainder_16 : decode cX0_remainder 16 = .ok (.getfield 33, 3) := by decide +kernel
theorem dX0_remainder_19 : decode cX0_remainder 19 = .ok (.aload_n 0, 1) := by decide +kernel
theorem dX0_remainder_20 : decode cX0_remainder 20 = .ok (.getfield 18, 3) := by decide +kernel
theorem dX0_remainder_23 : decode cX0_remainder 23 = .ok (.invokevirtual 59, 3) := by decide +kernel
theorem dX0_remainder_26 : decode cX0_remainder 26 = .ok (.aload_n 0, 1) := by decide +kernel
theorem dX0_remainder_27 : decode cX0_remainder 27 = .ok (.getfield 21, 3) := by decide +kernel
theorem dX0_remainder_30 : decode cX0_remainder 30 = .ok (.aload_n 3, 1) := by decide +kernel
theorem dX0_remainder_31 : decode cX0_remainder 31 = .ok (.getfield 33, 3) := by decide +kernel
theorem dX0_remainder_34 : decode cX0_remainder 34 = .ok (.invokevirtual 40, 3) := by decide +kernel
theorem dX0_remainder_37 : decode cX0_remainder 37 = .ok (.aload_n 0, 1) := by decide +kernel
theorem dX0_remainder_38 : decode cX0_remainder 38 = .ok (.getfield 21, 3) := by decide +kernel
theorem dX0_remainder_41 : decode cX0_remainder 41 = .ok (.getfield 62, 3) := by decide +kernel
theorem dX0_remainder_44 : decode cX0_remainder 44 = .ok (.ifCond .eq 10, 3) := by decide +kernel
theorem dX0_remainder_47 : decode cX0_remainder 47 = .ok (.aload_n 0, 1) := by decide +kernel
theorem dX0_remainder_48 : decode cX0_remainder 48 = .ok (.getfield 21, 3) := by decide +kernel
theorem dX0_remainder_51 : decode cX0_remainder 51 = .ok (.invokevirtual 66, 3) := by decide +kernel
theorem dX0_remainder_54 : decode cX0_remainder 54 = .ok (.aload_n 2, 1) := by decide +kernel
theorem dX0_remainder_55 : decode cX0_remainder 55 = .ok (.getfield 33, 3) := by decide +kernel
theorem dX0_remainder_58 : decode cX0_remainder 58 = .ok (.getfield 62, 3) := by decide +kernel
theorem dX0_remainder_61 : decode cX0_remainder 61 = .ok (.ifCond .eq 32, 3) := by decide +kernel
theorem dX0_remainder_64 : decode cX0_remainder 64 = .ok (.aload_n 0, 1) := by decide +kernel
theorem dX0_remainder_65 : decode cX0_remainder 65 = .ok (.getfield 12, 3) := by decide +kernel
theorem dX0_remainder_68 : decode cX0_remainder 68 = .ok (.invokevirtual 69, 3) := by decide +kernel
theorem dX0_remainder_71 : decode cX0_remainder 71 = .ok (.ifCond .ne 22, 3) := by decide +kernel
theorem dX0_remainder_74 : decode cX0_remainder 74 = .ok (.aload_n 1, 1) := by decide +kernel
theorem dX0_remainder_75 : decode cX0_remainder 75 = .ok (.getfield 33, 3) := by decide +kernel
theorem dX0_remainder_78 : decode cX0_remainder 78 = .ok (.aload_n 0, 1) := by decide +kernel
theorem dX0_remainder_79 : decode cX0_remainder 79 = .ok (.getfield 21, 3) := by decide +kernel
theorem dX0_remainder_82 : decode cX0_remainder 82 = .ok (.aload_n 0, 1) := by decide +kernel
theorem dX0_remainder_83 : decode cX0_remainder 83 = .ok (.getfield 12, 3) := by decide +kernel
theorem dX0_remainder_86 : decode cX0_remainder 86 = .ok (.iconst 1, 1) := by decide +kernel
theorem dX0_remainder_87 : decode cX0_remainder 87 = .ok (.invokevirtual 36, 3) := by decide +kernel
theorem dX0_remainder_90 : decode cX0_remainder 90 = .ok (.goto 14, 3) := by decide +kernel
theorem dX0_remainder_93 : decode cX0_remainder 93 = .ok (.aload_n 1, 1) := by decide +kernel
theorem dX0_remainder_94 : decode cX0_remainder 94 = .ok (.getfield 33, 3) := by decide +kernel
theorem dX0_remainder_97 : decode cX0_remainder 97 = .ok (.aload_n 0, 1) := by decide +kernel
theorem dX0_remainder_98 : decode cX0_remainder 98 = .ok (.getfield 12, 3) := by decide +kernel
theorem dX0_remainder_101 : decode cX0_remainder 101 = .ok (.invokevirtual 40, 3) := by decide +kernel
theorem dX0_remainder_104 : decode cX0_remainder 104 = .ok (.aload_n 1, 1) := by decide +kernel
theorem dX0_remainder_105 : decode cX0_remainder 105 = .ok (.getfield 44, 3) := by decide +kernel
theorem dX0_remainder_108 : decode cX0_remainder 108 = .ok (.lconst 1, 1) := by decide +kernel
theorem dX0_remainder_109 : decode cX0_remainder 109 = .ok (.invokevirtual 47, 3) := by decide +kernel
theorem dX0_remainder_112 : decode cX0_remainder 112 = .ok (.return_, 1) := by decide +kernel
theorem dX0_power_0 : decode cX0_power 0 = .ok (.iload_n 3, 1) := by decide +kernel
theorem dX0_power_1 : decode cX0_power 1 = .ok (.ifCond .ge 8, 3) := by decide +kernel
theorem dX0_power_4 : decode cX0_power 4 = .ok (.iload_n 3, 1) := by decide +kernel
theorem dX0_power_5 : decode cX0_power 5 = .ok (.ineg, 1) := by decide +kernel
theorem dX0_power_6 : decode cX0_power 6 = .ok (.goto 4, 3) := by decide +kernel
theorem dX0_power_9 : decode cX0_power 9 = .ok (.iload_n 3, 1) := by decide +kernel
theorem dX0_power_10 : decode cX0_power 10 = .ok (.istore 4, 2) := by decide +kernel
theorem dX0_power_12 : decode cX0_power 12 = .ok (.aload_n 1, 1) := by decide +kernel
theorem dX0_power_13 : decode cX0_power 13 = .ok (.lconst 1, 1) := by decide +kernel
theorem dX0_power_14 : decode cX0_power 14 = .ok (.invokevirtual 72, 3) := by decide +kernel
theorem dX0_power_17 : decode cX0_power 17 = .ok (.iconst 0, 1) := by decide +kernel
theorem dX0_power_18 : decode cX0_power 18 = .ok (.istore 5, 2) := by decide +kernel
theorem dX0_power_20 : decode cX0_power 20 = .ok (.iload 5, 2) := by decide +kernel
theorem dX0_power_22 : decode cX0_power 22 = .ok (.iload 4, 2) := by decide +kernel
theorem dX0_power_24 : decode cX0_power 24 = .ok (.if_icmp .ge 70, 3) := by decide +kernel
theorem dX0_power_27 : decode cX0_power 27 = .ok (.aload_n 0, 1) := by decide +kernel
theorem dX0_power_28 : decode cX0_power 28 = .ok (.getfield 12, 3) := by decide +kernel
theorem dX0_power_31 : decode cX0_power 31 = .ok (.aload_n 1, 1) := by decide +kernel
theorem dX0_power_32 : decode cX0_power 32 = .ok (.getfield 33, 3) := by decide +kernel
theorem dX0_power_35 : decode cX0_power 35 = .ok (.aload_n 2, 1) := by decide +kernel
theorem dX0_power_36 : decode cX0_power 36 = .ok (.getfield 33, 3) := by decide +kernel
theorem dX0_power_39 : decode cX0_power 39 = .ok (.invokevirtual 51, 3) := by decide +kernel
theorem dX0_power_42 : decode cX0_power 42 = .ok (.aload_n 0, 1) := by decide +kernel
theorem dX0_power_43 : decode cX0_power 43 = .ok (.getfield 18, 3) := by decide +kernel
theorem dX0_power_46 : decode cX0_power 46 = .ok (.aload_n 1, 1) := by decide +kernel
theorem dX0_power_47 : decode cX0_power 47 = .ok (.getfield 44, 3) := by decide +kernel
theorem dX0_power_50 : decode cX0_power 50 = .ok (.aload_n 2, 1) := by decide +kernel
theorem dX0_power_51 : decode cX0_power 51 = .ok (.getfield 44, 3) := by decide +kernel
theorem dX0_power_54 : decode cX0_power 54 = .ok (.invokevirtual 51, 3) := by decide +kernel
theorem dX0_power_57 : decode cX0_power 57 = .ok (.aload_n 1, 1) := by decide +kernel
theorem dX0_power_58 : decode cX0_power 58 = .ok (.getfield 33, 3) := by decide +kernel
theorem dX0_power_61 : decode cX0_power 61 = .ok (.aload_n 0, 1) := by decide +kernel
theorem dX0_power_62 : decode cX0_power 62 = .ok (.getfield 12, 3) := by decide +kernel
theorem dX0_power_65 : decode cX0_power 65 = .ok (.invokevirtual 40, 3) := by decide +kernel
theorem dX0_power_68 : decode cX0_power 68 = .ok (.aload_n 1, 1) := by decide +kernel
theorem dX0_power_69 : decode cX0_power 69 = .ok (.getfield 44, 3) := by decide +kernel
theorem dX0_power_72 : decode cX0_power 72 = .ok (.aload_n 0, 1) := by decide +kernel
theorem dX0_power_73 : decode cX0_power 73 = .ok (.getfield 18, 3) := by decide +kernel
theorem dX0_power_76 : decode cX0_power 76 = .ok (.invokevirtual 40, 3) := by decide +kernel
theorem dX0_power_79 : decode cX0_power 79 = .ok (.aload_n 1, 1) := by decide +kernel
theorem dX0_power_80 : decode cX0_power 80 = .ok (.invokevirtual 73, 3) := by decide +kernel
theorem dX0_power_83 : decode cX0_power 83 = .ok (.ifCond .ne 5, 3) := by decide +kernel
theorem dX0_power_86 : decode cX0_power 86 = .ok (.iconst 0, 1) := by decide +kernel
theorem dX0_power_87 : decode cX0_power 87 = .ok (.ireturn, 1) := by decide +kernel
theorem dX0_power_88 : decode cX0_power 88 = .ok (.iinc 5 1, 3) := by decide +kernel
theorem dX0_power_91 : decode cX0_power 91 = .ok (.goto (-71), 3) := by decide +kernel
theorem dX0_power_94 : decode cX0_power 94 = .ok (.iload_n 3, 1) := by decide +kernel
theorem dX0_power_95 : decode cX0_power 95 = .ok (.ifCond .ge 36, 3) := by decide +kernel
theorem dX0_power_98 : decode cX0_power 98 = .ok (.aload_n 0, 1) := by decide +kernel
theorem dX0_power_99 : decode cX0_power 99 = .ok (.getfield 12, 3) := by decide +kernel
theorem dX0_power_102 : decode cX0_power 102 = .ok (.aload_n 1, 1) := by decide +kernel
theorem dX0_power_103 : decode cX0_power 103 = .ok (.getfield 33, 3) := by decide +kernel
theorem dX0_power_106 : decode cX0_power 106 = .ok (.invokevirtual 40, 3) := by decide +kernel
theorem dX0_power_109 : decode cX0_power 109 = .ok (.aload_n 1, 1) := by decide +kernel
theorem dX0_power_110 : decode cX0_power 110 = .ok (.getfield 33, 3) := by decide +kernel
theorem dX0_power_113 : decode cX0_power 113 = .ok (.aload_n 1, 1) := by decide +kernel
theorem dX0_power_114 : decode cX0_power 114 = .ok (.getfield 44, 3) := by decide +kernel
theorem dX0_power_117 : decode cX0_power 117 = .ok (.invokevirtual 40, 3) := by decide +kernel
theorem dX0_power_120 : decode cX0_power 120 = .ok (.aload_n 1, 1) := by decide +kernel
theorem dX0_power_121 : decode cX0_power 121 = .ok (.getfield 44, 3) := by decide +kernel
theorem dX0_power_124 : decode cX0_power 124 = .ok (.aload_n 0, 1) := by decide +kernel
theorem dX0_power_125 : decode cX0_power 125 = .ok (.getfield 12, 3) := by decide +kernel
theorem dX0_power_128 : decode cX0_power 128 = .ok (.invokevirtual 40, 3) := by decide +kernel
theorem dX0_power_131 : decode cX0_power 131 = .ok (.iconst 1, 1) := by decide +kernel
theorem dX0_power_132 : decode cX0_power 132 = .ok (.ireturn, 1) := by decide +kernel
theorem dX0_factorial_0 : decode cX0_factorial 0 = .ok (.aload_n 1, 1) := by decide +kernel
theorem dX0_factorial_1 : decode cX0_factorial 1 = .ok (.lconst 1, 1) := by decide +kernel
theorem dX0_factorial_2 : decode cX0_factorial 2 = .ok (.invokevirtual 72, 3) := by decide +kernel
theorem dX0_factorial_5 : decode cX0_factorial 5 = .ok (.iconst 2, 1) := by decide +kernel
theorem dX0_factorial_6 : decode cX0_factorial 6 = .ok (.istore_n 3, 1) := by decide +kernel
theorem dX0_factorial_7 : decode cX0_factorial 7 = .ok (.iload_n 3, 1) := by decide +kernel
theorem dX0_factorial_8 : decode cX0_factorial 8 = .ok (.iload_n 2, 1) := by decide +kernel
theorem dX0_factorial_9 : decode cX0_factorial 9 = .ok (.if_icmp .gt 44, 3) := by decide +kernel
theorem dX0_factorial_12 : decode cX0_factorial 12 = .ok (.aload_n 0, 1) := by decide +kernel
theorem dX0_factorial_13 : decode cX0_factorial 13 = .ok (.getfield 18, 3) := by decide +kernel
theorem dX0_factorial_16 : decode cX0_factorial 16 = .ok (.iload_n 3, 1) := by decide +kernel
theorem dX0_factorial_17 : decode cX0_factorial 17 = .ok (.i2l, 1) := by decide +kernel
theorem dX0_factorial_18 : decode cX0_factorial 18 = .ok (.invokevirtual 47, 3) := by decide +kernel
theorem dX0_factorial_21 : decode cX0_factorial 21 = .ok (.aload_n 0, 1) := by decide +kernel
theorem dX0_factorial_22 : decode cX0_factorial 22 = .ok (.getfield 12, 3) := by decide +kernel
theorem dX0_factorial_25 : decode cX0_factorial 25 = .ok (.aload_n 1, 1) := by decide +kernel
theorem dX0_factorial_26 : decode cX0_factorial 26 = .ok (.getfield 33, 3) := by decide +kernel
theorem dX0_factorial_29 : decode cX0_factorial 29 = .ok (.aload_n 0, 1) := by decide +kernel
theorem dX0_factorial_30 : decode cX0_factorial 30 = .ok (.getfield 18, 3) := by decide +kernel
theorem dX0_factorial_33 : decode cX0_factorial 33 = .ok (.invokevirtual 51, 3) := by decide +kernel
theorem dX0_factorial_36 : decode cX0_factorial 36 = .ok (.aload_n 1, 1) := by decide +kernel
theorem dX0_factorial_37 : decode cX0_factorial 37 = .ok (.getfield 33, 3) := by decide +kernel
theorem dX0_factorial_40 : decode cX0_factorial 40 = .ok (.aload_n 0, 1) := by decide +kernel
theorem dX0_factorial_41 : decode cX0_factorial 41 = .ok (.getfield 12, 3) := by decide +kernel
theorem dX0_factorial_44 : decode cX0_factorial 44 = .ok (.invokevirtual 40, 3) := by decide +kernel
theorem dX0_factorial_47 : decode cX0_factorial 47 = .ok (.iinc 3 1, 3) := by decide +kernel
theorem dX0_factorial_50 : decode cX0_factorial 50 = .ok (.goto (-43), 3) := by decide +kernel
theorem dX0_factorial_53 : decode cX0_factorial 53 = .ok (.return_, 1) := by decide +kernel
theorem dX0_settle_0 : decode cX0_settle 0 = .ok (.aload_n 1, 1) := by decide +kernel
theorem dX0_settle_1 : decode cX0_settle 1 = .ok (.getfield 44, 3) := by decide +kernel
theorem dX0_settle_4 : decode cX0_settle 4 = .ok (.getfield 62, 3) := by decide +kernel
theorem dX0_settle_7 : decode cX0_settle 7 = .ok (.ifCond .eq 17, 3) := by decide +kernel
theorem dX0_settle_10 : decode cX0_settle 10 = .ok (.aload_n 1, 1) := by decide +kernel
theorem dX0_settle_11 : decode cX0_settle 11 = .ok (.getfield 44, 3) := by decide +kernel
theorem dX0_settle_14 : decode cX0_settle 14 = .ok (.invokevirtual 66, 3) := by decide +kernel
theorem dX0_settle_17 : decode cX0_settle 17 = .ok (.aload_n 1, 1) := by decide +kernel
theorem dX0_settle_18 : decode cX0_settle 18 = .ok (.getfield 33, 3) := by decide +kernel
theorem dX0_settle_21 : decode cX0_settle 21 = .ok (.invokevirtual 66, 3) := by decide +kernel
theorem dX0_settle_24 : decode cX0_settle 24 = .ok (.aload_n 1, 1) := by decide +kernel
theorem dX0_settle_25 : decode cX0_settle 25 = .ok (.invokevirtual 76, 3) := by decide +kernel
theorem dX0_settle_28 : decode cX0_settle 28 = .ok (.ifCond .eq 8, 3) := by decide +kernel
theorem dX0_settle_31 : decode cX0_settle 31 = .ok (.aload_n 1, 1) := by decide +kernel
theorem dX0_settle_32 : decode cX0_settle 32 = .ok (.lconst 0, 1) := by decide +kernel
theorem dX0_settle_33 : decode cX0_settle 33 = .ok (.invokevirtual 72, 3) := by decide +kernel
theorem dX0_settle_36 : decode cX0_settle 36 = .ok (.aload_n 1, 1) := by decide +kernel
theorem dX0_settle_37 : decode cX0_settle 37 = .ok (.invokevirtual 27, 3) := by decide +kernel
theorem dX0_settle_40 : decode cX0_settle 40 = .ok (.ifCond .eq 4, 3) := by decide +kernel
theorem dX0_settle_43 : decode cX0_settle 43 = .ok (.return_, 1) := by decide +kernel
theorem dX0_settle_44 : decode cX0_settle 44 = .ok (.aload_n 0, 1) := by decide +kernel
theorem dX0_settle_45 : decode cX0_settle 45 = .ok (.getfield 12, 3) := by decide +kernel
theorem dX0_settle_48 : decode cX0_settle 48 = .ok (.astore_n 2, 1) := by decide +kernel
theorem dX0_settle_49 : decode cX0_settle 49 = .ok (.aload_n 0, 1) := by decide +kernel
theorem dX0_settle_50 : decode cX0_settle 50 = .ok (.getfield 18, 3) := by decide +kernel
theorem dX0_settle_53 : decode cX0_settle 53 = .ok (.astore_n 3, 1) := by decide +kernel
theorem dX0_settle_54 : decode cX0_settle 54 = .ok (.aload_n 2, 1) := by decide +kernel
theorem dX0_settle_55 : decode cX0_settle 55 = .ok (.aload_n 1, 1) := by decide +kernel
theorem dX0_settle_56 : decode cX0_settle 56 = .ok (.getfield 33, 3) := by decide +kernel
theorem dX0_settle_59 : decode cX0_settle 59 = .ok (.invokevirtual 40, 3) := by decide +kernel
theorem dX0_settle_62 : decode cX0_settle 62 = .ok (.aload_n 3, 1) := by decide +kernel
theorem dX0_settle_63 : decode cX0_settle 63 = .ok (.aload_n 1, 1) := by decide +kernel
theorem dX0_settle_64 : decode cX0_settle 64 = .ok (.getfield 44, 3) := by decide +kernel
theorem dX0_settle_67 : decode cX0_settle 67 = .ok (.invokevirtual 40, 3) := by decide +kernel
theorem dX0_settle_70 : decode cX0_settle 70 = .ok (.iconst 0, 1) := by decide +kernel
theorem dX0_settle_71 : decode cX0_settle 71 = .ok (.istore 4, 2) := by decide +kernel
theorem dX0_settle_73 : decode cX0_settle 73 = .ok (.iload 4, 2) := by decide +kernel
theorem dX0_settle_75 : decode cX0_settle 75 = .ok (.ldc 77, 2) := by decide +kernel
theorem dX0_settle_77 : decode cX0_settle 77 = .ok (.if_icmp .ge 47, 3) := by decide +kernel
theorem dX0_settle_80 : decode cX0_settle 80 = .ok (.aload_n 2, 1) := by decide +kernel
theorem dX0_settle_81 : decode cX0_settle 81 = .ok (.invokevirtual 78, 3) := by decide +kernel
theorem dX0_settle_84 : decode cX0_settle 84 = .ok (.ifCond .eq 10, 3) := by decide +kernel
theorem dX0_settle_87 : decode cX0_settle 87 = .ok (.aload_n 3, 1) := by decide +kernel
theorem dX0_settle_88 : decode cX0_settle 88 = .ok (.invokevirtual 78, 3) := by decide +kernel
theorem dX0_settle_91 : decode cX0_settle 91 = .ok (.ifCond .ne 33, 3) := by decide +kernel
theorem dX0_settle_94 : decode cX0_settle 94 = .ok (.aload_n 3, 1) := by decide +kernel
theorem dX0_settle_95 : decode cX0_settle 95 = .ok (.invokevirtual 69, 3) := by decide +kernel
theorem dX0_settle_98 : decode cX0_settle 98 = .ok (.ifCond .ne 26, 3) := by decide +kernel
theorem dX0_settle_101 : decode cX0_settle 101 = .ok (.aload_n 2, 1) := by decide +kernel
theorem dX0_settle_102 : decode cX0_settle 102 = .ok (.aload_n 3, 1) := by decide +kernel
theorem dX0_settle_103 : decode cX0_settle 103 = .ok (.aload_n 0, 1) := by decide +kernel
theorem dX0_settle_104 : decode cX0_settle 104 = .ok (.getfield 21, 3) := by decide +kernel
theorem dX0_settle_107 : decode cX0_settle 107 = .ok (.invokevirtual 59, 3) := by decide +kernel
theorem dX0_settle_110 : decode cX0_settle 110 = .ok (.aload_n 2, 1) := by decide +kernel
theorem dX0_settle_111 : decode cX0_settle 111 = .ok (.astore 5, 2) := by decide +kernel
theorem dX0_settle_113 : decode cX0_settle 113 = .ok (.aload_n 3, 1) := by decide +kernel
theorem dX0_settle_114 : decode cX0_settle 114 = .ok (.astore_n 2, 1) := by decide +kernel
theorem dX0_settle_115 : decode cX0_settle 115 = .ok (.aload 5, 2) := by decide +kernel
theorem dX0_settle_117 : decode cX0_settle 117 = .ok (.astore_n 3, 1) := by decide +kernel
theorem dX0_settle_118 : decode cX0_settle 118 = .ok (.iinc 4 1, 3) := by decide +kernel
theorem dX0_settle_121 : decode cX0_settle 121 = .ok (.goto (-48), 3) := by decide +kernel
theorem dX0_settle_124 : decode cX0_settle 124 = .ok (.aload_n 3, 1) := by decide +kernel
theorem dX0_settle_125 : decode cX0_settle 125 = .ok (.invokevirtual 69, 3) := by decide +kernel
theorem dX0_settle_128 : decode cX0_settle 128 = .ok (.ifCond .ne 18, 3) := by decide +kernel
theorem dX0_settle_131 : decode cX0_settle 131 = .ok (.aload_n 2, 1) := by decide +kernel
theorem dX0_settle_132 : decode cX0_settle 132 = .ok (.aload_n 2, 1) := by decide +kernel
theorem dX0_settle_133 : decode cX0_settle 133 = .ok (.invokevirtual 81, 3) := by decide +kernel
theorem dX0_settle_136 : decode cX0_settle 136 = .ok (.aload_n 3, 1) := by decide +kernel
theorem dX0_settle_137 : decode cX0_settle 137 = .ok (.invokevirtual 81, 3) := by decide +kernel
theorem dX0_settle_140 : decode cX0_settle 140 = .ok (.invokestatic 85, 3) := by decide +kernel
theorem dX0_settle_143 : decode cX0_settle 143 = .ok (.invokevirtual 47, 3) := by decide +kernel
theorem dX0_settle_146 : decode cX0_settle 146 = .ok (.aload_n 2, 1) := by decide +kernel
theorem dX0_settle_147 : decode cX0_settle 147 = .ok (.invokevirtual 89, 3) := by decide +kernel
theorem dX0_settle_150 : decode cX0_settle 150 = .ok (.ifCond .ne 71, 3) := by decide +kernel
theorem dX0_settle_153 : decode cX0_settle 153 = .ok (.aload_n 0, 1) := by decide +kernel
theorem dX0_settle_154 : decode cX0_settle 154 = .ok (.getfield 24, 3) := by decide +kernel
theorem dX0_settle_157 : decode cX0_settle 157 = .ok (.aload_n 1, 1) := by decide +kernel
theorem dX0_settle_158 : decode cX0_settle 158 = .ok (.getfield 33, 3) := by decide +kernel
theorem dX0_settle_161 : decode cX0_settle 161 = .ok (.invokevirtual 40, 3) := by decide +kernel
theorem dX0_settle_164 : decode cX0_settle 164 = .ok (.aload_n 0, 1) := by decide +kernel
theorem dX0_settle_165 : decode cX0_settle 165 = .ok (.getfield 24, 3) := by decide +kernel
theorem dX0_settle_168 : decode cX0_settle 168 = .ok (.aload_n 2, 1) := by decide +kernel
theorem dX0_settle_169 : decode cX0_settle 169 = .ok (.aload_n 0, 1) := by decide +kernel
theorem dX0_settle_170 : decode cX0_settle 170 = .ok (.getfield 21, 3) := by decide +kernel
theorem dX0_settle_173 : decode cX0_settle 173 = .ok (.invokevirtual 59, 3) := by decide +kernel
theorem dX0_settle_176 : decode cX0_settle 176 = .ok (.aload_n 1, 1) := by decide +kernel
theorem dX0_settle_177 : decode cX0_settle 177 = .ok (.getfield 33, 3) := by decide +kernel
theorem dX0_settle_180 : decode cX0_settle 180 = .ok (.aload_n 0, 1) := by decide +kernel
theorem dX0_settle_181 : decode cX0_settle 181 = .ok (.getfield 21, 3) := by decide +kernel
theorem dX0_settle_184 : decode cX0_settle 184 = .ok (.invokevirtual 92, 3) := by decide +kernel
theorem dX0_settle_187 : decode cX0_settle 187 = .ok (.aload_n 0, 1) := by decide +kernel
theorem dX0_settle_188 : decode cX0_settle 188 = .ok (.getfield 24, 3) := by decide +kernel
theorem dX0_settle_191 : decode cX0_settle 191 = .ok (.aload_n 1, 1) := by decide +kernel
theorem dX0_settle_192 : decode cX0_settle 192 = .ok (.getfield 44, 3) := by decide +kernel
theorem dX0_settle_195 : decode cX0_settle 195 = .ok (.invokevirtual 40, 3) := by decide +kernel
theorem dX0_settle_198 : decode cX0_settle 198 = .ok (.aload_n 0, 1) := by decide +kernel
theorem dX0_settle_199 : decode cX0_settle 199 = .ok (.getfield 24, 3) := by decide +kernel
theorem dX0_settle_202 : decode cX0_settle 202 = .ok (.aload_n 2, 1) := by decide +kernel
theorem dX0_settle_203 : decode cX0_settle 203 = .ok (.aload_n 0, 1) := by decide +kernel
theorem dX0_settle_204 : decode cX0_settle 204 = .ok (.getfield 21, 3) := by decide +kernel
theorem dX0_settle_207 : decode cX0_settle 207 = .ok (.invokevirtual 59, 3) := by decide +kernel
theorem dX0_settle_210 : decode cX0_settle 210 = .ok (.aload_n 1, 1) := by decide +kernel
theorem dX0_settle_211 : decode cX0_settle 211 = .ok (.getfield 44, 3) := by decide +kernel
theorem dX0_settle_214 : decode cX0_settle 214 = .ok (.aload_n 0, 1) := by decide +kernel
theorem dX0_settle_215 : decode cX0_settle 215 = .ok (.getfield 21, 3) := by decide +kernel
theorem dX0_settle_218 : decode cX0_settle 218 = .ok (.invokevirtual 92, 3) := by decide +kernel
theorem dX0_settle_221 : decode cX0_settle 221 = .ok (.return_, 1) := by decide +kernel
theorem dX0_commonDivisor_0 : decode cX0_commonDivisor 0 = .ok (.lload_n 0, 1) := by decide +kernel
theorem dX0_commonDivisor_1 : decode cX0_commonDivisor 1 = .ok (.lstore 4, 2) := by decide +kernel
theorem dX0_commonDivisor_3 : decode cX0_commonDivisor 3 = .ok (.lload_n 2, 1) := by decide +kernel
theorem dX0_commonDivisor_4 : decode cX0_commonDivisor 4 = .ok (.lstore 6, 2) := by decide +kernel
theorem dX0_commonDivisor_6 : decode cX0_commonDivisor 6 = .ok (.iconst 0, 1) := by decide +kernel
theorem dX0_commonDivisor_7 : decode cX0_commonDivisor 7 = .ok (.istore 8, 2) := by decide +kernel
theorem dX0_commonDivisor_9 : decode cX0_commonDivisor 9 = .ok (.iload 8, 2) := by decide +kernel
theorem dX0_commonDivisor_11 : decode cX0_commonDivisor 11 = .ok (.ldc 77, 2) := by decide +kernel
theorem dX0_commonDivisor_13 : decode cX0_commonDivisor 13 = .ok (.if_icmp .ge 31, 3) := by decide +kernel
theorem dX0_commonDivisor_16 : decode cX0_commonDivisor 16 = .ok (.lload 6, 2) := by decide +kernel
theorem dX0_commonDivisor_18 : decode cX0_commonDivisor 18 = .ok (.lconst 0, 1) := by decide +kernel
theorem dX0_commonDivisor_19 : decode cX0_commonDivisor 19 = .ok (.lcmp, 1) := by decide +kernel
theorem dX0_commonDivisor_20 : decode cX0_commonDivisor 20 = .ok (.ifCond .le 24, 3) := by decide +kernel
theorem dX0_commonDivisor_23 : decode cX0_commonDivisor 23 = .ok (.lload 4, 2) := by decide +kernel
theorem dX0_commonDivisor_25 : decode cX0_commonDivisor 25 = .ok (.lload 6, 2) := by decide +kernel
theorem dX0_commonDivisor_27 : decode cX0_commonDivisor 27 = .ok (.lrem, 1) := by decide +kernel
theorem dX0_commonDivisor_28 : decode cX0_commonDivisor 28 = .ok (.lstore 9, 2) := by decide +kernel
theorem dX0_commonDivisor_30 : decode cX0_commonDivisor 30 = .ok (.lload 6, 2) := by decide +kernel
theorem dX0_commonDivisor_32 : decode cX0_commonDivisor 32 = .ok (.lstore 4, 2) := by decide +kernel
theorem dX0_commonDivisor_34 : decode cX0_commonDivisor 34 = .ok (.lload 9, 2) := by decide +kernel
theorem dX0_commonDivisor_36 : decode cX0_commonDivisor 36 = .ok (.lstore 6, 2) := by decide +kernel
theorem dX0_commonDivisor_38 : decode cX0_commonDivisor 38 = .ok (.iinc 8 1, 3) := by decide +kernel
theorem dX0_commonDivisor_41 : decode cX0_commonDivisor 41 = .ok (.goto (-32), 3) := by decide +kernel
theorem dX0_commonDivisor_44 : decode cX0_commonDivisor 44 = .ok (.lload 4, 2) := by decide +kernel
theorem dX0_commonDivisor_46 : decode cX0_commonDivisor 46 = .ok (.lreturn, 1) := by decide +kernel
theorem dX1_init_0 : decode cX1_init 0 = .ok (.aload_n 0, 1) := by decide +kernel
theorem dX1_init_1 : decode cX1_init 1 = .ok (.invokespecial 5, 3) := by decide +kernel
theorem dX1_init_4 : decode cX1_init 4 = .ok (.aload_n 0, 1) := by decide +kernel
theorem dX1_init_5 : decode cX1_init 5 = .ok (.sipush 128, 3) := by decide +kernel
theorem dX1_init_8 : decode cX1_init 8 = .ok (.newarray .int, 2) := by decide +kernel
theorem dX1_init_10 : decode cX1_init 10 = .ok (.putfield 11, 3) := by decide +kernel
theorem dX1_init_13 : decode cX1_init 13 = .ok (.aload_n 0, 1) := by decide +kernel
theorem dX1_init_14 : decode cX1_init 14 = .ok (.bipush 48, 2) := by decide +kernel
theorem dX1_init_16 : decode cX1_init 16 = .ok (.newarray .int, 2) := by decide +kernel
theorem dX1_init_18 : decode cX1_init 18 = .ok (.putfield 15, 3) := by decide +kernel
theorem dX1_init_21 : decode cX1_init 21 = .ok (.aload_n 0, 1) := by decide +kernel
theorem dX1_init_22 : decode cX1_init 22 = .ok (.bipush 48, 2) := by decide +kernel
theorem dX1_init_24 : decode cX1_init 24 = .ok (.newarray .int, 2) := by decide +kernel
theorem dX1_init_26 : decode cX1_init 26 = .ok (.putfield 18, 3) := by decide +kernel
theorem dX1_init_29 : decode cX1_init 29 = .ok (.aload_n 0, 1) := by decide +kernel
theorem dX1_init_30 : decode cX1_init 30 = .ok (.bipush 48, 2) := by decide +kernel
theorem dX1_init_32 : decode cX1_init 32 = .ok (.newarray .int, 2) := by decide +kernel
theorem dX1_init_34 : decode cX1_init 34 = .ok (.putfield 21, 3) := by decide +kernel
theorem dX1_init_37 : decode cX1_init 37 = .ok (.aload_n 0, 1) := by decide +kernel
theorem dX1_init_38 : decode cX1_init 38 = .ok (.bipush 30, 2) := by decide +kernel
theorem dX1_init_40 : decode cX1_init 40 = .ok (.anewarray 24, 3) := by decide +kernel
theorem dX1_init_43 : decode cX1_init 43 = .ok (.putfield 26, 3) := by decide +kernel
theorem dX1_init_46 : decode cX1_init 46 = .ok (.aload_n 0, 1) := by decide +kernel
theorem dX1_init_47 : decode cX1_init 47 = .ok (.bipush 26, 2) := by decide +kernel
theorem dX1_init_49 : decode cX1_init 49 = .ok (.anewarray 30, 3) := by decide +kernel
theorem dX1_init_52 : decode cX1_init 52 = .ok (.putfield 32, 3) := by decide +kernel
theorem dX1_init_55 : decode cX1_init 55 = .ok (.aload_n 0, 1) := by decide +kernel
theorem dX1_init_56 : decode cX1_init 56 = .ok (.bipush 26, 2) := by decide +kernel
theorem dX1_init_58 : decode cX1_init 58 = .ok (.newarray .boolean, 2) := by decide +kernel
theorem dX1_init_60 : decode cX1_init 60 = .ok (.putfield 36, 3) := by decide +kernel
theorem dX1_init_63 : decode cX1_init 63 = .ok (.aload_n 0, 1) := by decide +kernel
theorem dX1_init_64 : decode cX1_init 64 = .ok (.bipush 26, 2) := by decide +kernel
theorem dX1_init_66 : decode cX1_init 66 = .ok (.bipush 10, 2) := by decide +kernel
theorem dX1_init_68 : decode cX1_init 68 = .ok (.multianewarray 40 2, 4) := by decide +kernel
theorem dX1_init_72 : decode cX1_init 72 = .ok (.putfield 42, 3) := by decide +kernel
theorem dX1_init_75 : decode cX1_init 75 = .ok (.aload_n 0, 1) := by decide +kernel
theorem dX1_init_76 : decode cX1_init 76 = .ok (.bipush 20, 2) := by decide +kernel
theorem dX1_init_78 : decode cX1_init 78 = .ok (.newarray .int, 2) := by decide +kernel
theorem dX1_init_80 : decode cX1_init 80 = .ok (.putfield 45, 3) := by decide +kernel
theorem dX1_init_83 : decode cX1_init 83 = .ok (.aload_n 0, 1) := by decide +kernel
theorem dX1_init_84 : decode cX1_init 84 = .ok (.bipush 20, 2) := by decide +kernel
theorem dX1_init_86 : decode cX1_init 86 = .ok (.newarray .int, 2) := by decide +kernel
theorem dX1_init_88 : decode cX1_init 88 = .ok (.putfield 48, 3) := by decide +kernel
theorem dX1_init_91 : decode cX1_init 91 = .ok (.aload_n 0, 1) := by decide +kernel
theorem dX1_init_92 : decode cX1_init 92 = .ok (.bipush 20, 2) := by decide +kernel
theorem dX1_init_94 : decode cX1_init 94 = .ok (.bipush 10, 2) := by decide +kernel
theorem dX1_init_96 : decode cX1_init 96 = .ok (.multianewarray 40 2, 4) := by decide +kernel
theorem dX1_init_100 : decode cX1_init 100 = .ok (.putfield 51, 3) := by decide +kernel
theorem dX1_init_103 : decode cX1_init 103 = .ok (.aload_n 0, 1) := by decide +kernel
theorem dX1_init_104 : decode cX1_init 104 = .ok (.bipush 20, 2) := by decide +kernel
theorem dX1_init_106 : decode cX1_init 106 = .ok (.anewarray 30, 3) := by decide +kernel
theorem dX1_init_109 : decode cX1_init 109 = .ok (.putfield 54, 3) := by decide +kernel
theorem dX1_init_112 : decode cX1_init 112 = .ok (.aload_n 0, 1) := by decide +kernel
theorem dX1_init_113 : decode cX1_init 113 = .ok (.invokevirtual 57, 3) := by decide +kernel
theorem dX1_init_116 : decode cX1_init 116 = .ok (.iconst 0, 1) := by decide +kernel
theorem dX1_init_117 : decode cX1_init 117 = .ok (.istore_n 1, 1) := by decide +kernel
theorem dX1_init_118 : decode cX1_init 118 = .ok (.iload_n 1, 1) := by decide +kernel
theorem dX1_init_119 : decode cX1_init 119 = .ok (.bipush 30, 2) := by decide +kernel
theorem dX1_init_121 : decode cX1_init 121 = .ok (.if_icmp .ge 22, 3) := by decide +kernel
theorem dX1_init_124 : decode cX1_init 124 = .ok (.aload_n 0, 1) := by decide +kernel
theorem dX1_init_125 : decode cX1_init 125 = .ok (.getfield 26, 3) := by decide +kernel
theorem dX1_init_128 : decode cX1_init 128 = .ok (.iload_n 1, 1) := by decide +kernel
theorem dX1_init_129 : decode cX1_init 129 = .ok (.new 24, 3) := by decide +kernel
theorem dX1_init_132 : decode cX1_init 132 = .ok (.dup, 1) := by decide +kernel
theorem dX1_init_133 : decode cX1_init 133 = .ok (.invokespecial 60, 3) := by decide +kernel
theorem dX1_init_136 : decode cX1_init 136 = .ok (.aastore, 1) := by decide +kernel
theorem dX1_init_137 : decode cX1_init 137 = .ok (.iinc 1 1, 3) := by decide +kernel
theorem dX1_init_140 : decode cX1_init 140 = .ok (.goto (-22), 3) := by decide +kernel
theorem dX1_init_143 : decode cX1_init 143 = .ok (.iconst 0, 1) := by decide +kernel
theorem dX1_init_144 : decode cX1_init 144 = .ok (.istore_n 1, 1) := by decide +kernel
theorem dX1_init_145 : decode cX1_init 145 = .ok (.iload_n 1, 1) := by decide +kernel
theorem dX1_init_146 : decode cX1_init 146 = .ok (.bipush 26, 2) := by decide +kernel
theorem dX1_init_148 : decode cX1_init 148 = .ok (.if_icmp .ge 24, 3) := by decide +kernel
theorem dX1_init_151 : decode cX1_init 151 = .ok (.aload_n 0, 1) := by decide +kernel
theorem dX1_init_152 : decode cX1_init 152 = .ok (.getfield 32, 3) := by decide +kernel
theorem dX1_init_155 : decode cX1_init 155 = .ok (.iload_n 1, 1) := by decide +kernel
theorem dX1_init_156 : decode cX1_init 156 = .ok (.new 30, 3) := by decide +kernel
theorem dX1_init_159 : decode cX1_init 159 = .ok (.dup, 1) := by decide +kernel
theorem dX1_init_160 : decode cX1_init 160 = .ok (.bipush 7, 2) := by decide +kernel
theorem dX1_init_162 : decode cX1_init 162 = .ok (.invokespecial 63, 3) := by decide +kernel
theorem dX1_init_165 : decode cX1_init 165 = .ok (.aastore, 1) := by decide +kernel
theorem dX1_init_166 : decode cX1_init 166 = .ok (.iinc 1 1, 3) := by decide +kernel
theorem dX1_init_169 : decode cX1_init 169 = .ok (.goto (-24), 3) := by decide +kernel
theorem dX1_init_172 : decode cX1_init 172 = .ok (.iconst 0, 1) := by decide +kernel
theorem dX1_init_173 : decode cX1_init 173 = .ok (.istore_n 1, 1) := by decide +kernel
theorem dX1_init_174 : decode cX1_init 174 = .ok (.iload_n 1, 1) := by decide +kernel
theorem dX1_init_175 : decode cX1_init 175 = .ok (.bipush 20, 2) := by decide +kernel
theorem dX1_init_177 : decode cX1_init 177 = .ok (.if_icmp .ge 24, 3) := by decide +kernel
theorem dX1_init_180 : decode cX1_init 180 = .ok (.aload_n 0, 1) := by decide +kernel
theorem dX1_init_181 : decode cX1_init 181 = .ok (.getfield 54, 3) := by decide +kernel
theorem dX1_init_184 : decode cX1_init 184 = .ok (.iload_n 1, 1) := by decide +kernel
theorem dX1_init_185 : decode cX1_init 185 = .ok (.new 30, 3) := by decide +kernel
theorem dX1_init_188 : decode cX1_init 188 = .ok (.dup, 1) := by decide +kernel
theorem dX1_init_189 : decode cX1_init 189 = .ok (.bipush 7, 2) := by decide +kernel
theorem dX1_init_191 : decode cX1_init 191 = .ok (.invokespecial 63, 3) := by decide +kernel
theorem dX1_init_194 : decode cX1_init 194 = .ok (.aastore, 1) := by decide +kernel
theorem dX1_init_195 : decode cX1_init 195 = .ok (.iinc 1 1, 3) := by decide +kernel
theorem dX1_init_198 : decode cX1_init 198 = .ok (.goto (-24), 3) := by decide +kernel
theorem dX1_init_201 : decode cX1_init 201 = .ok (.return_, 1) := by decide +kernel
theorem dX1_beginOperators_0 : decode cX1_beginOperators 0 = .ok (.iconst 0, 1) := by decide +kernel
theorem dX1_beginOperators_1 : decode cX1_beginOperators 1 = .ok (.istore_n 1, 1) := by decide +kernel
theorem dX1_beginOperators_2 : decode cX1_beginOperators 2 = .ok (.iload_n 1, 1) := by decide +kernel
theorem dX1_beginOperators_3 : decode cX1_beginOperators 3 = .ok (.aload_n 0, 1) := by decide +kernel
theorem dX1_beginOperators_4 : decode cX1_beginOperators 4 = .ok (.getfield 11, 3) := by decide +kernel
theorem dX1_beginOperators_7 : decode cX1_beginOperators 7 = .ok (.arraylength, 1) := by decide +kernel
theorem dX1_beginOperators_8 : decode cX1_beginOperators 8 = .ok (.if_icmp .ge 22, 3) := by decide +kernel
theorem dX1_beginOperators_11 : decode cX1_beginOperators 11 = .ok (.aload_n 0, 1) := by decide +kernel
theorem dX1_beginOperators_12 : decode cX1_beginOperators 12 = .ok (.getfield 11, 3) := by decide +kernel
theorem dX1_beginOperators_15 : decode cX1_beginOperators 15 = .ok (.iload_n 1, 1) := by decide +kernel
theorem dX1_beginOperators_16 : decode cX1_beginOperators 16 = .ok (.ldc 66, 2) := by decide +kernel
theorem dX1_beginOperators_18 : decode cX1_beginOperators 18 = .ok (.iload_n 1, 1) := by decide +kernel
theorem dX1_beginOperators_19 : decode cX1_beginOperators 19 = .ok (.i2c, 1) := by decide +kernel
theorem dX1_beginOperators_20 : decode cX1_beginOperators 20 = .ok (.invokevirtual 68, 3) := by decide +kernel
theorem dX1_beginOperators_23 : decode cX1_beginOperators 23 = .ok (.iastore, 1) := by decide +kernel
theorem dX1_beginOperators_24 : decode cX1_beginOperators 24 = .ok (.iinc 1 1, 3) := by decide +kernel
theorem dX1_beginOperators_27 : decode cX1_beginOperators 27 = .ok (.goto (-25), 3) := by decide +kernel
theorem dX1_beginOperators_30 : decode cX1_beginOperators 30 = .ok (.aload_n 0, 1) := by decide +kernel
theorem dX1_beginOperators_31 : decode cX1_beginOperators 31 = .ok (.bipush 124, 2) := by decide +kernel
theorem dX1_beginOperators_33 : decode cX1_beginOperators 33 = .ok (.iconst 2, 1) := by decide +kernel
theorem dX1_beginOperators_34 : decode cX1_beginOperators 34 = .ok (.iconst 1, 1) := by decide +kernel
theorem dX1_beginOperators_35 : decode cX1_beginOperators 35 = .ok (.iconst 0, 1) := by decide +kernel
theorem dX1_beginOperators_36 : decode cX1_beginOperators 36 = .ok (.bipush 10, 2) := by decide +kernel
theorem dX1_beginOperators_38 : decode cX1_beginOperators 38 = .ok (.invokevirtual 74, 3) := by decide +kernel
theorem dX1_beginOperators_41 : decode cX1_beginOperators 41 = .ok (.aload_n 0, 1) := by decide +kernel
theorem dX1_beginOperators_42 : decode cX1_beginOperators 42 = .ok (.bipush 38, 2) := by decide +kernel
theorem dX1_beginOperators_44 : decode cX1_beginOperators 44 = .ok (.iconst 2, 1) := by decide +kernel
theorem dX1_beginOperators_45 : decode cX1_beginOperators 45 = .ok (.iconst 2, 1) := by decide +kernel
theorem dX1_beginOperators_46 : decode cX1_beginOperators 46 = .ok (.iconst 0, 1) := by decide +kernel
theorem dX1_beginOperators_47 : decode cX1_beginOperators 47 = .ok (.bipush 9, 2) := by decide +kernel
theorem dX1_beginOperators_49 : decode cX1_beginOperators 49 = .ok (.invokevirtual 74, 3) := by decide +kernel
theorem dX1_beginOperators_52 : decode cX1_beginOperators 52 = .ok (.aload_n 0, 1) := by decide +kernel
theorem dX1_beginOperators_53 : decode cX1_beginOperators 53 = .ok (.bipush 60, 2) := by decide +kernel
theorem dX1_beginOperators_55 : decode cX1_beginOperators 55 = .ok (.iconst 2, 1) := by decide +kernel
theorem dX1_beginOperators_56 : decode cX1_beginOperators 56 = .ok (.iconst 3, 1) := by decide +kernel
theorem dX1_beginOperators_57 : decode cX1_beginOperators 57 = .ok (.iconst 2, 1) := by decide +kernel
theorem dX1_beginOperators_58 : decode cX1_beginOperators 58 = .ok (.bipush 6, 2) := by decide +kernel
theorem dX1_beginOperators_60 : decode cX1_beginOperators 60 = .ok (.invokevirtual 74, 3) := by decide +kernel
theorem dX1_beginOperators_63 : decode cX1_beginOperators 63 = .ok (.aload_n 0, 1) := by decide +kernel
theorem dX1_beginOperators_64 : decode cX1_beginOperators 64 = .ok (.bipush 61, 2) := by decide +kernel
theorem dX1_beginOperators_66 : decode cX1_beginOperators 66 = .ok (.iconst 2, 1) := by decide +kernel
theorem dX1_beginOperators_67 : decode cX1_beginOperators 67 = .ok (.iconst 3, 1) := by decide +kernel
theorem dX1_beginOperators_68 : decode cX1_beginOperators 68 = .ok (.iconst 2, 1) := by decide +kernel
theorem dX1_beginOperators_69 : decode cX1_beginOperators 69 = .ok (.bipush 7, 2) := by decide +kernel
theorem dX1_beginOperators_71 : decode cX1_beginOperators 71 = .ok (.invokevirtual 74, 3) := by decide +kernel
theorem dX1_beginOperators_74 : decode cX1_beginOperators 74 = .ok (.aload_n 0, 1) := by decide +kernel
theorem dX1_beginOperators_75 : decode cX1_beginOperators 75 = .ok (.bipush 62, 2) := by decide +kernel
theorem dX1_beginOperators_77 : decode cX1_beginOperators 77 = .ok (.iconst 2, 1) := by decide +kernel
theorem dX1_beginOperators_78 : decode cX1_beginOperators 78 = .ok (.iconst 3, 1) := by decide +kernel
theorem dX1_beginOperators_79 : decode cX1_beginOperators 79 = .ok (.iconst 2, 1) := by decide +kernel
theorem dX1_beginOperators_80 : decode cX1_beginOperators 80 = .ok (.bipush 8, 2) := by decide +kernel
theorem dX1_beginOperators_82 : decode cX1_beginOperators 82 = .ok (.invokevirtual 74, 3) := by decide +kernel
theorem dX1_beginOperators_85 : decode cX1_beginOperators 85 = .ok (.aload_n 0, 1) := by decide +kernel
theorem dX1_beginOperators_86 : decode cX1_beginOperators 86 = .ok (.bipush 43, 2) := by decide +kernel
theorem dX1_beginOperators_88 : decode cX1_beginOperators 88 = .ok (.iconst 2, 1) := by decide +kernel
theorem dX1_beginOperators_89 : decode cX1_beginOperators 89 = .ok (.iconst 4, 1) := by decide +kernel
theorem dX1_beginOperators_90 : decode cX1_beginOperators 90 = .ok (.iconst 0, 1) := by decide +kernel
theorem dX1_beginOperators_91 : decode cX1_beginOperators 91 = .ok (.iconst 0, 1) := by decide +kernel
theorem dX1_beginOperators_92 : decode cX1_beginOperators 92 = .ok (.invokevirtual 74, 3) := by decide +kernel
theorem dX1_beginOperators_95 : decode cX1_beginOperators 95 = .ok (.aload_n 0, 1) := by decide +kernel
theorem dX1_beginOperators_96 : decode cX1_beginOperators 96 = .ok (.bipush 45, 2) := by decide +kernel
theorem dX1_beginOperators_98 : decode cX1_beginOperators 98 = .ok (.iconst 2, 1) := by decide +kernel
theorem dX1_beginOperators_99 : decode cX1_beginOperators 99 = .ok (.iconst 4, 1) := by decide +kernel
theorem dX1_beginOperators_100 : decode cX1_beginOperators 100 = .ok (.iconst 0, 1) := by decide +kernel
theorem dX1_beginOperators_101 : decode cX1_beginOperators 101 = .ok (.iconst 1, 1) := by decide +kernel
theorem dX1_beginOperators_102 : decode cX1_beginOperators 102 = .ok (.invokevirtual 74, 3) := by decide +kernel
theorem dX1_beginOperators_105 : decode cX1_beginOperators 105 = .ok (.aload_n 0, 1) := by decide +kernel
theorem dX1_beginOperators_106 : decode cX1_beginOperators 106 = .ok (.bipush 42, 2) := by decide +kernel
theorem dX1_beginOperators_108 : decode cX1_beginOperators 108 = .ok (.iconst 2, 1) := by decide +kernel
theorem dX1_beginOperators_109 : decode cX1_beginOperators 109 = .ok (.iconst 5, 1) := by decide +kernel
theorem dX1_beginOperators_110 : decode cX1_beginOperators 110 = .ok (.iconst 0, 1) := by decide +kernel
theorem dX1_beginOperators_111 : decode cX1_beginOperators 111 = .ok (.iconst 2, 1) := by decide +kernel
theorem dX1_beginOperators_112 : decode cX1_beginOperators 112 = .ok (.invokevirtual 74, 3) := by decide +kernel
theorem dX1_beginOperators_115 : decode cX1_beginOperators 115 = .ok (.aload_n 0, 1) := by decide +kernel
theorem dX1_beginOperators_116 : decode cX1_beginOperators 116 = .ok (.bipush 47, 2) := by decide +kernel
theorem dX1_beginOperators_118 : decode cX1_beginOperators 118 = .ok (.iconst 2, 1) := by decide +kernel
theorem dX1_beginOperators_119 : decode cX1_beginOperators 119 = .ok (.iconst 5, 1) := by decide +kernel
theorem dX1_beginOperators_120 : decode cX1_beginOperators 120 = .ok (.iconst 0, 1) := by decide +kernel
theorem dX1_beginOperators_121 : decode cX1_beginOperators 121 = .ok (.iconst 3, 1) := by decide +kernel
theorem dX1_beginOperators_122 : decode cX1_beginOperators 122 = .ok (.invokevirtual 74, 3) := by decide +kernel
theorem dX1_beginOperators_125 : decode cX1_beginOperators 125 = .ok (.aload_n 0, 1) := by decide +kernel
theorem dX1_beginOperators_126 : decode cX1_beginOperators 126 = .ok (.bipush 37, 2) := by decide +kernel
theorem dX1_beginOperators_128 : decode cX1_beginOperators 128 = .ok (.iconst 2, 1) := by decide +kernel
theorem dX1_beginOperators_129 : decode cX1_beginOperators 129 = .ok (.iconst 5, 1) := by decide +kernel
theorem dX1_beginOperators_130 : decode cX1_beginOperators 130 = .ok (.iconst 0, 1) := by decide +kernel
theorem dX1_beginOperators_131 : decode cX1_beginOperators 131 = .ok (.iconst 4, 1) := by decide +kernel
theorem dX1_beginOperators_132 : decode cX1_beginOperators 132 = .ok (.invokevirtual 74, 3) := by decide +kernel
theorem dX1_beginOperators_135 : decode cX1_beginOperators 135 = .ok (.aload_n 0, 1) := by decide +kernel
theorem dX1_beginOperators_136 : decode cX1_beginOperators 136 = .ok (.bipush 94, 2) := by decide +kernel
theorem dX1_beginOperators_138 : decode cX1_beginOperators 138 = .ok (.iconst 2, 1) := by decide +kernel
theorem dX1_beginOperators_139 : decode cX1_beginOperators 139 = .ok (.bipush 7, 2) := by decide +kernel
theorem dX1_beginOperators_141 : decode cX1_beginOperators 141 = .ok (.iconst 1, 1) := by decide +kernel
theorem dX1_beginOperators_142 : decode cX1_beginOperators 142 = .ok (.iconst 5, 1) := by decide +kernel
theorem dX1_beginOperators_143 : decode cX1_beginOperators 143 = .ok (.invokevirtual 74, 3) := by decide +kernel
theorem dX1_beginOperators_146 : decode cX1_beginOperators 146 = .ok (.aload_n 0, 1) := by decide +kernel
theorem dX1_beginOperators_147 : decode cX1_beginOperators 147 = .ok (.bipush 45, 2) := by decide +kernel
theorem dX1_beginOperators_149 : decode cX1_beginOperators 149 = .ok (.iconst 0, 1) := by decide +kernel
theorem dX1_beginOperators_150 : decode cX1_beginOperators 150 = .ok (.bipush 6, 2) := by decide +kernel
theorem dX1_beginOperators_152 : decode cX1_beginOperators 152 = .ok (.iconst 0, 1) := by decide +kernel
theorem dX1_beginOperators_153 : decode cX1_beginOperators 153 = .ok (.bipush 11, 2) := by decide +kernel
theorem dX1_beginOperators_155 : decode cX1_beginOperators 155 = .ok (.invokevirtual 74, 3) := by decide +kernel
theorem dX1_beginOperators_158 : decode cX1_beginOperators 158 = .ok (.aload_n 0, 1) := by decide +kernel
theorem dX1_beginOperators_159 : decode cX1_beginOperators 159 = .ok (.bipush 126, 2) := by decide +kernel
theorem dX1_beginOperators_161 : decode cX1_beginOperators 161 = .ok (.iconst 0, 1) := by decide +kernel
theorem dX1_beginOperators_162 : decode cX1_beginOperators 162 = .ok (.bipush 6, 2) := by decide +kernel
theorem dX1_beginOperators_164 : decode cX1_beginOperators 164 = .ok (.iconst 0, 1) := by decide +kernel
theorem dX1_beginOperators_165 : decode cX1_beginOperators 165 = .ok (.bipush 12, 2) := by decide +kernel
theorem dX1_beginOperators_167 : decode cX1_beginOperators 167 = .ok (.invokevirtual 74, 3) := by decide +kernel
theorem dX1_beginOperators_170 : decode cX1_beginOperators 170 = .ok (.aload_n 0, 1) := by decide +kernel
theorem dX1_beginOperators_171 : decode cX1_beginOperators 171 = .ok (.bipush 33, 2) := by decide +kernel
theorem dX1_beginOperators_173 : decode cX1_beginOperators 173 = .ok (.iconst 1, 1) := by decide +kernel
theorem dX1_beginOperators_174 : decode cX1_beginOperators 174 = .ok (.bipush 8, 2) := by decide +kernel
theorem dX1_beginOperators_176 : decode cX1_beginOperators 176 = .ok (.iconst 0, 1) := by decide +kernel
theorem dX1_beginOperators_177 : decode cX1_beginOperators 177 = .ok (.bipush 13, 2) := by decide +kernel
theorem dX1_beginOperators_179 : decode cX1_beginOperators 179 = .ok (.invokevirtual 74, 3) := by decide +kernel
theorem dX1_beginOperators_182 : decode cX1_beginOperators 182 = .ok (.return_, 1) := by decide +kernel
theorem dX1_begin_0 : decode cX1_begin 0 = .ok (.aload_n 0, 1) := by decide +kernel
theorem dX1_begin_1 : decode cX1_begin 1 = .ok (.aload_n 0, 1) := by decide +kernel
theorem dX1_begin_2 : decode cX1_begin 2 = .ok (.iload_n 1, 1) := by decide +kernel
theorem dX1_begin_3 : decode cX1_begin 3 = .ok (.iload_n 2, 1) := by decide +kernel
theorem dX1_begin_4 : decode cX1_begin 4 = .ok (.invokevirtual 78, 3) := by decide +kernel
theorem dX1_begin_7 : decode cX1_begin 7 = .ok (.iload_n 3, 1) := by decide +kernel
theorem dX1_begin_8 : decode cX1_begin 8 = .ok (.iload 4, 2) := by decide +kernel
theorem dX1_begin_10 : decode cX1_begin 10 = .ok (.iload 5, 2) := by decide +kernel
theorem dX1_begin_12 : decode cX1_begin 12 = .ok (.invokevirtual 82, 3) := by decide +kernel
theorem dX1_begin_15 : decode cX1_begin 15 = .ok (.return_, 1) := by decide +kernel
theorem dX1_putOperator_0 : decode cX1_putOperator 0 = .ok (.iload_n 1, 1) := by decide +kernel
theorem dX1_putOperator_1 : decode cX1_putOperator 1 = .ok (.ifCond .lt 34, 3) := by decide +kernel
theorem dX1_putOperator_4 : decode cX1_putOperator 4 = .ok (.iload_n 1, 1) := by decide +kernel
theorem dX1_putOperator_5 : decode cX1_putOperator 5 = .ok (.aload_n 0, 1) := by decide +kernel
theorem dX1_putOperator_6 : decode cX1_putOperator 6 = .ok (.getfield 15, 3) := by decide +kernel
theorem dX1_putOperator_9 : decode cX1_putOperator 9 = .ok (.arraylength, 1) := by decide +kernel
theorem dX1_putOperator_10 : decode cX1_putOperator 10 = .ok (.if_icmp .ge 25, 3) := by decide +kernel
theorem dX1_putOperator_13 : decode cX1_putOperator 13 = .ok (.aload_n 0, 1) := by decide +kernel
theorem dX1_putOperator_14 : decode cX1_putOperator 14 = .ok (.getfield 15, 3) := by decide +kernel
theorem dX1_putOperator_17 : decode cX1_putOperator 17 = .ok (.iload_n 1, 1) := by decide +kernel
theorem dX1_putOperator_18 : decode cX1_putOperator 18 = .ok (.iload_n 2, 1) := by decide +kernel
theorem dX1_putOperator_19 : decode cX1_putOperator 19 = .ok (.iastore, 1) := by decide +kernel
theorem dX1_putOperator_20 : decode cX1_putOperator 20 = .ok (.aload_n 0, 1) := by decide +kernel
theorem dX1_putOperator_21 : decode cX1_putOperator 21 = .ok (.getfield 18, 3) := by decide +kernel
theorem dX1_putOperator_24 : decode cX1_putOperator 24 = .ok (.iload_n 1, 1) := by decide +kernel
theorem dX1_putOperator_25 : decode cX1_putOperator 25 = .ok (.iload_n 3, 1) := by decide +kernel
theorem dX1_putOperator_26 : decode cX1_putOperator 26 = .ok (.iastore, 1) := by decide +kernel
theorem dX1_putOperator_27 : decode cX1_putOperator 27 = .ok (.aload_n 0, 1) := by decide +kernel
theorem dX1_putOperator_28 : decode cX1_putOperator 28 = .ok (.getfield 21, 3) := by decide +kernel
theorem dX1_putOperator_31 : decode cX1_putOperator 31 = .ok (.iload_n 1, 1) := by decide +kernel
theorem dX1_putOperator_32 : decode cX1_putOperator 32 = .ok (.iload 4, 2) := by decide +kernel
theorem dX1_putOperator_34 : decode cX1_putOperator 34 = .ok (.iastore, 1) := by decide +kernel
theorem dX1_putOperator_35 : decode cX1_putOperator 35 = .ok (.return_, 1) := by decide +kernel
theorem dX1_isSign_0 : decode cX1_isSign 0 = .ok (.aload_n 0, 1) := by decide +kernel
theorem dX1_isSign_1 : decode cX1_isSign 1 = .ok (.iload_n 1, 1) := by decide +kernel
theorem dX1_isSign_2 : decode cX1_isSign 2 = .ok (.iconst 0, 1) := by decide +kernel
theorem dX1_isSign_3 : decode cX1_isSign 3 = .ok (.invokevirtual 78, 3) := by decide +kernel
theorem dX1_isSign_6 : decode cX1_isSign 6 = .ok (.ifCond .lt 7, 3) := by decide +kernel
theorem dX1_isSign_9 : decode cX1_isSign 9 = .ok (.iconst 1, 1) := by decide +kernel
theorem dX1_isSign_10 : decode cX1_isSign 10 = .ok (.goto 4, 3) := by decide +kernel
theorem dX1_isSign_13 : decode cX1_isSign 13 = .ok (.iconst 0, 1) := by decide +kernel
theorem dX1_isSign_14 : decode cX1_isSign 14 = .ok (.ireturn, 1) := by decide +kernel
theorem dX1_isFix_0 : decode cX1_isFix 0 = .ok (.iload_n 0, 1) := by decide +kernel
theorem dX1_isFix_1 : decode cX1_isFix 1 = .ok (.ifCond .lt 12, 3) := by decide +kernel
theorem dX1_isFix_4 : decode cX1_isFix 4 = .ok (.iload_n 0, 1) := by decide +kernel
theorem dX1_isFix_5 : decode cX1_isFix 5 = .ok (.iconst 2, 1) := by decide +kernel
theorem dX1_isFix_6 : decode cX1_isFix 6 = .ok (.if_icmp .gt 7, 3) := by decide +kernel
theorem dX1_isFix_9 : decode cX1_isFix 9 = .ok (.iconst 1, 1) := by decide +kernel
theorem dX1_isFix_10 : decode cX1_isFix 10 = .ok (.goto 4, 3) := by decide +kernel
theorem dX1_isFix_13 : decode cX1_isFix 13 = .ok (.iconst 0, 1) := by decide +kernel
theorem dX1_isFix_14 : decode cX1_isFix 14 = .ok (.ireturn, 1) := by decide +kernel
theorem dX1_slot_0 : decode cX1_slot 0 = .ok (.iload_n 1, 1) := by decide +kernel
theorem dX1_slot_1 : decode cX1_slot 1 = .ok (.ifCond .lt 21, 3) := by decide +kernel
theorem dX1_slot_4 : decode cX1_slot 4 = .ok (.iload_n 1, 1) := by decide +kernel
theorem dX1_slot_5 : decode cX1_slot 5 = .ok (.aload_n 0, 1) := by decide +kernel
theorem dX1_slot_6 : decode cX1_slot 6 = .ok (.getfield 11, 3) := by decide +kernel
theorem dX1_slot_9 : decode cX1_slot 9 = .ok (.arraylength, 1) := by decide +kernel
theorem dX1_slot_10 : decode cX1_slot 10 = .ok (.if_icmp .ge 12, 3) := by decide +kernel
theorem dX1_slot_13 : decode cX1_slot 13 = .ok (.aload_n 0, 1) := by decide +kernel
theorem dX1_slot_14 : decode cX1_slot 14 = .ok (.getfield 11, 3) := by decide +kernel
theorem dX1_slot_17 : decode cX1_slot 17 = .ok (.iload_n 1, 1) := by decide +kernel
theorem dX1_slot_18 : decode cX1_slot 18 = .ok (.iaload, 1) := by decide +kernel
theorem dX1_slot_19 : decode cX1_slot 19 = .ok (.goto 4, 3) := by decide +kernel
theorem dX1_slot_22 : decode cX1_slot 22 = .ok (.iconst (-1), 1) := by decide +kernel
theorem dX1_slot_23 : decode cX1_slot 23 = .ok (.istore_n 3, 1) := by decide +kernel
theorem dX1_slot_24 : decode cX1_slot 24 = .ok (.iload_n 3, 1) := by decide +kernel
theorem dX1_slot_25 : decode cX1_slot 25 = .ok (.ifCond .lt 12, 3) := by decide +kernel
theorem dX1_slot_28 : decode cX1_slot 28 = .ok (.iload_n 2, 1) := by decide +kernel
theorem dX1_slot_29 : decode cX1_slot 29 = .ok (.ifCond .lt 8, 3) := by decide +kernel
theorem dX1_slot_32 : decode cX1_slot 32 = .ok (.iload_n 2, 1) := by decide +kernel
theorem dX1_slot_33 : decode cX1_slot 33 = .ok (.iconst 2, 1) := by decide +kernel
theorem dX1_slot_34 : decode cX1_slot 34 = .ok (.if_icmp .le 7, 3) := by decide +kernel
theorem dX1_slot_37 : decode cX1_slot 37 = .ok (.iconst (-1), 1) := by decide +kernel
theorem dX1_slot_38 : decode cX1_slot 38 = .ok (.goto 9, 3) := by decide +kernel
theorem dX1_slot_41 : decode cX1_slot 41 = .ok (.iload_n 2, 1) := by decide +kernel
theorem dX1_slot_42 : decode cX1_slot 42 = .ok (.bipush 16, 2) := by decide +kernel
theorem dX1_slot_44 : decode cX1_slot 44 = .ok (.imul, 1) := by decide +kernel
theorem dX1_slot_45 : decode cX1_slot 45 = .ok (.iload_n 3, 1) := by decide +kernel
theorem dX1_slot_46 : decode cX1_slot 46 = .ok (.iadd, 1) := by decide +kernel
theorem dX1_slot_47 : decode cX1_slot 47 = .ok (.ireturn, 1) := by decide +kernel
theorem dX1_isOperator_0 : decode cX1_isOperator 0 = .ok (.iload_n 1, 1) := by decide +kernel
theorem dX1_isOperator_1 : decode cX1_isOperator 1 = .ok (.iconst 1, 1) := by decide +kernel
theorem dX1_isOperator_2 : decode cX1_isOperator 2 = .ok (.if_icmp .lt 27, 3) := by decide +kernel
theorem dX1_isOperator_5 : decode cX1_isOperator 5 = .ok (.iload_n 1, 1) := by decide +kernel
theorem dX1_isOperator_6 : decode cX1_isOperator 6 = .ok (.bipush 9, 2) := by decide +kernel
theorem dX1_isOperator_8 : decode cX1_isOperator 8 = .ok (.if_icmp .gt 21, 3) := by decide +kernel
theorem dX1_isOperator_11 : decode cX1_isOperator 11 = .ok (.iload_n 2, 1) := by decide +kernel
theorem dX1_isOperator_12 : decode cX1_isOperator 12 = .ok (.ifCond .lt 17, 3) := by decide +kernel
theorem dX1_isOperator_15 : decode cX1_isOperator 15 = .ok (.iload_n 2, 1) := by decide +kernel
theorem dX1_isOperator_16 : decode cX1_isOperator 16 = .ok (.iconst 2, 1) := by decide +kernel
theorem dX1_isOperator_17 : decode cX1_isOperator 17 = .ok (.if_icmp .gt 12, 3) := by decide +kernel
theorem dX1_isOperator_20 : decode cX1_isOperator 20 = .ok (.iload_n 0, 1) := by decide +kernel
theorem dX1_isOperator_21 : decode cX1_isOperator 21 = .ok (.iconst 2, 1) := by decide +kernel
theorem dX1_isOperator_22 : decode cX1_isOperator 22 = .ok (.if_icmp .eq 9, 3) := by decide +kernel
theorem dX1_isOperator_25 : decode cX1_isOperator 25 = .ok (.iload_n 2, 1) := by decide +kernel
theorem dX1_isOperator_26 : decode cX1_isOperator 26 = .ok (.ifCond .eq 5, 3) := by decide +kernel
theorem dX1_isOperator_29 : decode cX1_isOperator 29 = .ok (.iconst 0, 1) := by decide +kernel
theorem dX1_isOperator_30 : decode cX1_isOperator 30 = .ok (.ireturn, 1) := by decide +kernel
theorem dX1_isOperator_31 : decode cX1_isOperator 31 = .ok (.iload_n 3, 1) := by decide +kernel
theorem dX1_isOperator_32 : decode cX1_isOperator 32 = .ok (.bipush 100, 2) := by decide +kernel
theorem dX1_isOperator_34 : decode cX1_isOperator 34 = .ok (.isub, 1) := by decide +kernel
theorem dX1_isOperator_35 : decode cX1_isOperator 35 = .ok (.istore 4, 2) := by decide +kernel
theorem dX1_isOperator_37 : decode cX1_isOperator 37 = .ok (.iload 4, 2) := by decide +kernel
theorem dX1_isOperator_39 : decode cX1_isOperator 39 = .ok (.ifCond .lt 30, 3) := by decide +kernel
theorem dX1_isOperator_42 : decode cX1_isOperator 42 = .ok (.iload 4, 2) := by decide +kernel
theorem dX1_isOperator_44 : decode cX1_isOperator 44 = .ok (.bipush 26, 2) := by decide +kernel
theorem dX1_isOperator_46 : decode cX1_isOperator 46 = .ok (.if_icmp .ge 23, 3) := by decide +kernel
theorem dX1_isOperator_49 : decode cX1_isOperator 49 = .ok (.iload 4, 2) := by decide +kernel
theorem dX1_isOperator_51 : decode cX1_isOperator 51 = .ok (.bipush 8, 2) := by decide +kernel
theorem dX1_isOperator_53 : decode cX1_isOperator 53 = .ok (.if_icmp .eq 14, 3) := by decide +kernel
theorem dX1_isOperator_56 : decode cX1_isOperator 56 = .ok (.iload 4, 2) := by decide +kernel
theorem dX1_isOperator_58 : decode cX1_isOperator 58 = .ok (.bipush 18, 2) := by decide +kernel
theorem dX1_isOperator_60 : decode cX1_isOperator 60 = .ok (.if_icmp .eq 7, 3) := by decide +kernel
theorem dX1_isOperator_63 : decode cX1_isOperator 63 = .ok (.iconst 1, 1) := by decide +kernel
theorem dX1_isOperator_64 : decode cX1_isOperator 64 = .ok (.goto 4, 3) := by decide +kernel
theorem dX1_isOperator_67 : decode cX1_isOperator 67 = .ok (.iconst 0, 1) := by decide +kernel
theorem dX1_isOperator_68 : decode cX1_isOperator 68 = .ok (.ireturn, 1) := by decide +kernel
theorem dX1_isOperator_69 : decode cX1_isOperator 69 = .ok (.iload_n 0, 1) := by decide +kernel
theorem dX1_isOperator_70 : decode cX1_isOperator 70 = .ok (.iconst 2, 1) := by decide +kernel
theorem dX1_isOperator_71 : decode cX1_isOperator 71 = .ok (.if_icmp .ne 21, 3) := by decide +kernel
theorem dX1_isOperator_74 : decode cX1_isOperator 74 = .ok (.iload_n 3, 1) := by decide +kernel
theorem dX1_isOperator_75 : decode cX1_isOperator 75 = .ok (.ifCond .lt 13, 3) := by decide +kernel
theorem dX1_isOperator_78 : decode cX1_isOperator 78 = .ok (.iload_n 3, 1) := by decide +kernel
theorem dX1_isOperator_79 : decode cX1_isOperator 79 = .ok (.bipush 10, 2) := by decide +kernel
theorem dX1_isOperator_81 : decode cX1_isOperator 81 = .ok (.if_icmp .gt 7, 3) := by decide +kernel
theorem dX1_isOperator_84 : decode cX1_isOperator 84 = .ok (.iconst 1, 1) := by decide +kernel
theorem dX1_isOperator_85 : decode cX1_isOperator 85 = .ok (.goto 24, 3) := by decide +kernel
theorem dX1_isOperator_88 : decode cX1_isOperator 88 = .ok (.iconst 0, 1) := by decide +kernel
theorem dX1_isOperator_89 : decode cX1_isOperator 89 = .ok (.goto 20, 3) := by decide +kernel
theorem dX1_isOperator_92 : decode cX1_isOperator 92 = .ok (.iload_n 3, 1) := by decide +kernel
theorem dX1_isOperator_93 : decode cX1_isOperator 93 = .ok (.bipush 11, 2) := by decide +kernel
theorem dX1_isOperator_95 : decode cX1_isOperator 95 = .ok (.if_icmp .lt 13, 3) := by decide +kernel
theorem dX1_isOperator_98 : decode cX1_isOperator 98 = .ok (.iload_n 3, 1) := by decide +kernel
theorem dX1_isOperator_99 : decode cX1_isOperator 99 = .ok (.bipush 13, 2) := by decide +kernel
theorem dX1_isOperator_101 : decode cX1_isOperator 101 = .ok (.if_icmp .gt 7, 3) := by decide +kernel
theorem dX1_isOperator_104 : decode cX1_isOperator 104 = .ok (.iconst 1, 1) := by decide +kernel
theorem dX1_isOperator_105 : decode cX1_isOperator 105 = .ok (.goto 4, 3) := by decide +kernel
theorem dX1_isOperator_108 : decode cX1_isOperator 108 = .ok (.iconst 0, 1) := by decide +kernel
theorem dX1_isOperator_109 : decode cX1_isOperator 109 = .ok (.ireturn, 1) := by decide +kernel
theorem dX1_rank_0 : decode cX1_rank 0 = .ok (.aload_n 0, 1) := by decide +kernel
theorem dX1_rank_1 : decode cX1_rank 1 = .ok (.iload_n 1, 1) := by decide +kernel
theorem dX1_rank_2 : decode cX1_rank 2 = .ok (.iload_n 2, 1) := by decide +kernel
theorem dX1_rank_3 : decode cX1_rank 3 = .ok (.invokevirtual 78, 3) := by decide +kernel
theorem dX1_rank_6 : decode cX1_rank 6 = .ok (.istore_n 3, 1) := by decide +kernel
theorem dX1_rank_7 : decode cX1_rank 7 = .ok (.iload_n 3, 1) := by decide +kernel
theorem dX1_rank_8 : decode cX1_rank 8 = .ok (.ifCond .ge 7, 3) := by decide +kernel
theorem dX1_rank_11 : decode cX1_rank 11 = .ok (.iconst 0, 1) := by decide +kernel
theorem dX1_rank_12 : decode cX1_rank 12 = .ok (.goto 9, 3) := by decide +kernel
theorem dX1_rank_15 : decode cX1_rank 15 = .ok (.aload_n 0, 1) := by decide +kernel
theorem dX1_rank_16 : decode cX1_rank 16 = .ok (.getfield 15, 3) := by decide +kernel
theorem dX1_rank_19 : decode cX1_rank 19 = .ok (.iload_n 3, 1) := by decide +kernel
theorem dX1_rank_20 : decode cX1_rank 20 = .ok (.iaload, 1) := by decide +kernel
theorem dX1_rank_21 : decode cX1_rank 21 = .ok (.ireturn, 1) := by decide +kernel
theorem dX1_side_0 : decode cX1_side 0 = .ok (.aload_n 0, 1) := by decide +kernel
theorem dX1_side_1 : decode cX1_side 1 = .ok (.iload_n 1, 1) := by decide +kernel
theorem dX1_side_2 : decode cX1_side 2 = .ok (.iload_n 2, 1) := by decide +kernel
theorem dX1_side_3 : decode cX1_side 3 = .ok (.invokevirtual 78, 3) := by decide +kernel
theorem dX1_side_6 : decode cX1_side 6 = .ok (.istore_n 3, 1) := by decide +kernel
theorem dX1_side_7 : decode cX1_side 7 = .ok (.iload_n 3, 1) := by decide +kernel
theorem dX1_side_8 : decode cX1_side 8 = .ok (.ifCond .ge 7, 3) := by decide +kernel
theorem dX1_side_11 : decode cX1_side 11 = .ok (.iconst (-1), 1) := by decide +kernel
theorem dX1_side_12 : decode cX1_side 12 = .ok (.goto 9, 3) := by decide +kernel
theorem dX1_side_15 : decode cX1_side 15 = .ok (.aload_n 0, 1) := by decide +kernel
theorem dX1_side_16 : decode cX1_side 16 = .ok (.getfield 18, 3) := by decide +kernel
theorem dX1_side_19 : decode cX1_side 19 = .ok (.iload_n 3, 1) := by decide +kernel
theorem dX1_side_20 : decode cX1_side 20 = .ok (.iaload, 1) := by decide +kernel
theorem dX1_side_21 : decode cX1_side 21 = .ok (.ireturn, 1) := by decide +kernel
theorem dX1_meaning_0 : decode cX1_meaning 0 = .ok (.aload_n 0, 1) := by decide +kernel
theorem dX1_meaning_1 : decode cX1_meaning 1 = .ok (.iload_n 1, 1) := by decide +kernel
theorem dX1_meaning_2 : decode cX1_meaning 2 = .ok (.iload_n 2, 1) := by decide +kernel
theorem dX1_meaning_3 : decode cX1_meaning 3 = .ok (.invokevirtual 78, 3) := by decide +kernel
theorem dX1_meaning_6 : decode cX1_meaning 6 = .ok (.istore_n 3, 1) := by decide +kernel
theorem dX1_meaning_7 : decode cX1_meaning 7 = .ok (.iload_n 3, 1) := by decide +kernel
theorem dX1_meaning_8 : decode cX1_meaning 8 = .ok (.ifCond .lt 12, 3) := by decide +kernel
theorem dX1_meaning_11 : decode cX1_meaning 11 = .ok (.aload_n 0, 1) := by decide +kernel
theorem dX1_meaning_12 : decode cX1_meaning 12 = .ok (.getfield 15, 3) := by decide +kernel
theorem dX1_meaning_15 : decode cX1_meaning 15 = .ok (.iload_n 3, 1) := by decide +kernel
theorem dX1_meaning_16 : decode cX1_meaning 16 = .ok (.iaload, 1) := by decide +kernel
theorem dX1_meaning_17 : decode cX1_meaning 17 = .ok (.ifCond .ne 7, 3) := by decide +kernel
theorem dX1_meaning_20 : decode cX1_meaning 20 = .ok (.iconst (-1), 1) := by decide +kernel
theorem dX1_meaning_21 : decode cX1_meaning 21 = .ok (.goto 9, 3) := by decide +kernel
theorem dX1_meaning_24 : decode cX1_meaning 24 = .ok (.aload_n 0, 1) := by decide +kernel
theorem dX1_meaning_25 : decode cX1_meaning 25 = .ok (.getfield 21, 3) := by decide +kernel
theorem dX1_meaning_28 : decode cX1_meaning 28 = .ok (.iload_n 3, 1) := by decide +kernel
theorem dX1_meaning_29 : decode cX1_meaning 29 = .ok (.iaload, 1) := by decide +kernel
theorem dX1_meaning_30 : decode cX1_meaning 30 = .ok (.ireturn, 1) := by decide +kernel
theorem dX1_clashes_0 : decode cX1_clashes 0 = .ok (.iload_n 2, 1) := by decide +kernel
theorem dX1_clashes_1 : decode cX1_clashes 1 = .ok (.ifCond .ne 5, 3) := by decide +kernel
theorem dX1_clashes_4 : decode cX1_clashes 4 = .ok (.iconst 0, 1) := by decide +kernel
theorem dX1_clashes_5 : decode cX1_clashes 5 = .ok (.ireturn, 1) := by decide +kernel
theorem dX1_clashes_6 : decode cX1_clashes 6 = .ok (.iload_n 2, 1) := by decide +kernel
theorem dX1_clashes_7 : decode cX1_clashes 7 = .ok (.iconst 1, 1) := by decide +kernel
theorem dX1_clashes_8 : decode cX1_clashes 8 = .ok (.if_icmp .ne 18, 3) := by decide +kernel
theorem dX1_clashes_11 : decode cX1_clashes 11 = .ok (.aload_n 0, 1) := by decide +kernel
theorem dX1_clashes_12 : decode cX1_clashes 12 = .ok (.iload_n 1, 1) := by decide +kernel
theorem dX1_clashes_13 : decode cX1_clashes 13 = .ok (.iconst 2, 1) := by decide +kernel
theorem dX1_clashes_14 : decode cX1_clashes 14 = .ok (.invokevirtual 86, 3) := by decide +kernel
theorem dX1_clashes_17 : decode cX1_clashes 17 = .ok (.ifCond .le 7, 3) := by decide +kernel
theorem dX1_clashes_20 : decode cX1_clashes 20 = .ok (.iconst 1, 1) := by decide +kernel
theorem dX1_clashes_21 : decode cX1_clashes 21 = .ok (.goto 4, 3) := by decide +kernel
theorem dX1_clashes_24 : decode cX1_clashes 24 = .ok (.iconst 0, 1) := by decide +kernel
theorem dX1_clashes_25 : decode cX1_clashes 25 = .ok (.ireturn, 1) := by decide +kernel
theorem dX1_clashes_26 : decode cX1_clashes 26 = .ok (.aload_n 0, 1) := by decide +kernel
theorem dX1_clashes_27 : decode cX1_clashes 27 = .ok (.iload_n 1, 1) := by decide +kernel
theorem dX1_clashes_28 : decode cX1_clashes 28 = .ok (.iconst 1, 1) := by decide +kernel
theorem dX1_clashes_29 : decode cX1_clashes 29 = .ok (.invokevirtual 86, 3) := by decide +kernel
theorem dX1_clashes_32 : decode cX1_clashes 32 = .ok (.ifCond .le 5, 3) := by decide +kernel
theorem dX1_clashes_35 : decode cX1_clashes 35 = .ok (.iconst 1, 1) := by decide +kernel
theorem dX1_clashes_36 : decode cX1_clashes 36 = .ok (.ireturn, 1) := by decide +kernel
theorem dX1_clashes_37 : decode cX1_clashes 37 = .ok (.aload_n 0, 1) := by decide +kernel
theorem dX1_clashes_38 : decode cX1_clashes 38 = .ok (.iload_n 1, 1) := by decide +kernel
theorem dX1_clashes_39 : decode cX1_clashes 39 = .ok (.iconst 2, 1) := by decide +kernel
theorem dX1_clashes_40 : decode cX1_clashes 40 = .ok (.invokevirtual 78, 3) := by decide +kernel
theorem dX1_clashes_43 : decode cX1_clashes 43 = .ok (.istore 5, 2) := by decide +kernel
theorem dX1_clashes_45 : decode cX1_clashes 45 = .ok (.bipush 32, 2) := by decide +kernel
theorem dX1_clashes_47 : decode cX1_clashes 47 = .ok (.istore 6, 2) := by decide +kernel
theorem dX1_clashes_49 : decode cX1_clashes 49 = .ok (.iload 6, 2) := by decide +kernel
theorem dX1_clashes_51 : decode cX1_clashes 51 = .ok (.aload_n 0, 1) := by decide +kernel
theorem dX1_clashes_52 : decode cX1_clashes 52 = .ok (.getfield 15, 3) := by decide +kernel
theorem dX1_clashes_55 : decode cX1_clashes 55 = .ok (.arraylength, 1) := by decide +kernel
theorem dX1_clashes_56 : decode cX1_clashes 56 = .ok (.if_icmp .ge 41, 3) := by decide +kernel
theorem dX1_clashes_59 : decode cX1_clashes 59 = .ok (.iload 6, 2) := by decide +kernel
theorem dX1_clashes_61 : decode cX1_clashes 61 = .ok (.iload 5, 2) := by decide +kernel
theorem dX1_clashes_63 : decode cX1_clashes 63 = .ok (.if_icmp .eq 28, 3) := by decide +kernel
theorem dX1_clashes_66 : decode cX1_clashes 66 = .ok (.aload_n 0, 1) := by decide +kernel
theorem dX1_clashes_67 : decode cX1_clashes 67 = .ok (.getfield 15, 3) := by decide +kernel
theorem dX1_clashes_70 : decode cX1_clashes 70 = .ok (.iload 6, 2) := by decide +kernel
theorem dX1_clashes_72 : decode cX1_clashes 72 = .ok (.iaload, 1) := by decide +kernel
theorem dX1_clashes_73 : decode cX1_clashes 73 = .ok (.iload_n 3, 1) := by decide +kernel
theorem dX1_clashes_74 : decode cX1_clashes 74 = .ok (.if_icmp .ne 17, 3) := by decide +kernel
theorem dX1_clashes_77 : decode cX1_clashes 77 = .ok (.aload_n 0, 1) := by decide +kernel
theorem dX1_clashes_78 : decode cX1_clashes 78 = .ok (.getfield 18, 3) := by decide +kernel
theorem dX1_clashes_81 : decode cX1_clashes 81 = .ok (.iload 6, 2) := by decide +kernel
theorem dX1_clashes_83 : decode cX1_clashes 83 = .ok (.iaload, 1) := by decide +kernel
theorem dX1_clashes_84 : decode cX1_clashes 84 = .ok (.iload 4, 2) := by decide +kernel
theorem dX1_clashes_86 : decode cX1_clashes 86 = .ok (.if_icmp .eq 5, 3) := by decide +kernel
theorem dX1_clashes_89 : decode cX1_clashes 89 = .ok (.iconst 1, 1) := by decide +kernel
theorem dX1_clashes_90 : decode cX1_clashes 90 = .ok (.ireturn, 1) := by decide +kernel
theorem dX1_clashes_91 : decode cX1_clashes 91 = .ok (.iinc 6 1, 3) := by decide +kernel
theorem dX1_clashes_94 : decode cX1_clashes 94 = .ok (.goto (-45), 3) := by decide +kernel
theorem dX1_clashes_97 : decode cX1_clashes 97 = .ok (.iconst 0, 1) := by decide +kernel
theorem dX1_clashes_98 : decode cX1_clashes 98 = .ok (.ireturn, 1) := by decide +kernel
theorem dX1_leastWith_0 : decode cX1_leastWith 0 = .ok (.iconst 0, 1) := by decide +kernel
theorem dX1_leastWith_1 : decode cX1_leastWith 1 = .ok (.istore_n 2, 1) := by decide +kernel
theorem dX1_leastWith_2 : decode cX1_leastWith 2 = .ok (.iload_n 2, 1) := by decide +kernel
theorem dX1_leastWith_3 : decode cX1_leastWith 3 = .ok (.bipush 16, 2) := by decide +kernel
theorem dX1_leastWith_5 : decode cX1_leastWith 5 = .ok (.if_icmp .ge 40, 3) := by decide +kernel
theorem dX1_leastWith_8 : decode cX1_leastWith 8 = .ok (.bipush 32, 2) := by decide +kernel
theorem dX1_leastWith_10 : decode cX1_leastWith 10 = .ok (.iload_n 2, 1) := by decide +kernel
theorem dX1_leastWith_11 : decode cX1_leastWith 11 = .ok (.iadd, 1) := by decide +kernel
theorem dX1_leastWith_12 : decode cX1_leastWith 12 = .ok (.istore_n 3, 1) := by decide +kernel
theorem dX1_leastWith_13 : decode cX1_leastWith 13 = .ok (.aload_n 0, 1) := by decide +kernel
theorem dX1_leastWith_14 : decode cX1_leastWith 14 = .ok (.getfield 15, 3) := by decide +kernel
theorem dX1_leastWith_17 : decode cX1_leastWith 17 = .ok (.iload_n 3, 1) := by decide +kernel
theorem dX1_leastWith_18 : decode cX1_leastWith 18 = .ok (.iaload, 1) := by decide +kernel
theorem dX1_leastWith_19 : decode cX1_leastWith 19 = .ok (.ifCond .le 20, 3) := by decide +kernel
theorem dX1_leastWith_22 : decode cX1_leastWith 22 = .ok (.aload_n 0, 1) := by decide +kernel
theorem dX1_leastWith_23 : decode cX1_leastWith 23 = .ok (.getfield 21, 3) := by decide +kernel
theorem dX1_leastWith_26 : decode cX1_leastWith 26 = .ok (.iload_n 3, 1) := by decide +kernel
theorem dX1_leastWith_27 : decode cX1_leastWith 27 = .ok (.iaload, 1) := by decide +kernel
theorem dX1_leastWith_28 : decode cX1_leastWith 28 = .ok (.iload_n 1, 1) := by decide +kernel
theorem dX1_leastWith_29 : decode cX1_leastWith 29 = .ok (.if_icmp .ne 10, 3) := by decide +kernel
theorem dX1_leastWith_32 : decode cX1_leastWith 32 = .ok (.ldc 66, 2) := by decide +kernel
theorem dX1_leastWith_34 : decode cX1_leastWith 34 = .ok (.iload_n 2, 1) := by decide +kernel
theorem dX1_leastWith_35 : decode cX1_leastWith 35 = .ok (.invokevirtual 89, 3) := by decide +kernel
theorem dX1_leastWith_38 : decode cX1_leastWith 38 = .ok (.ireturn, 1) := by decide +kernel
theorem dX1_leastWith_39 : decode cX1_leastWith 39 = .ok (.iinc 2 1, 3) := by decide +kernel
theorem dX1_leastWith_42 : decode cX1_leastWith 42 = .ok (.goto (-40), 3) := by decide +kernel
theorem dX1_leastWith_45 : decode cX1_leastWith 45 = .ok (.iconst (-1), 1) := by decide +kernel
theorem dX1_leastWith_46 : decode cX1_leastWith 46 = .ok (.ireturn, 1) := by decide +kernel
theorem dX1_shelve_0 : decode cX1_shelve 0 = .ok (.aload_n 0, 1) := by decide +kernel
theorem dX1_shelve_1 : decode cX1_shelve 1 = .ok (.getfield 93, 3) := by decide +kernel
theorem dX1_shelve_4 : decode cX1_shelve 4 = .ok (.bipush 30, 2) := by decide +kernel
theorem dX1_shelve_6 : decode cX1_shelve 6 = .ok (.if_icmp .lt 5, 3) := by decide +kernel
theorem dX1_shelve_9 : decode cX1_shelve 9 = .ok (.iconst (-1), 1) := by decide +kernel
theorem dX1_shelve_10 : decode cX1_shelve 10 = .ok (.ireturn, 1) := by decide +kernel
theorem dX1_shelve_11 : decode cX1_shelve 11 = .ok (.aload_n 0, 1) := by decide +kernel
theorem dX1_shelve_12 : decode cX1_shelve 12 = .ok (.getfield 26, 3) := by decide +kernel
theorem dX1_shelve_15 : decode cX1_shelve 15 = .ok (.aload_n 0, 1) := by decide +kernel
theorem dX1_shelve_16 : decode cX1_shelve 16 = .ok (.getfield 93, 3) := by decide +kernel
theorem dX1_shelve_19 : decode cX1_shelve 19 = .ok (.aaload, 1) := by decide +kernel
theorem dX1_shelve_20 : decode cX1_shelve 20 = .ok (.aload_n 1, 1) := by decide +kernel
theorem dX1_shelve_21 : decode cX1_shelve 21 = .ok (.invokevirtual 97, 3) := by decide +kernel
theorem dX1_shelve_24 : decode cX1_shelve 24 = .ok (.aload_n 0, 1) := by decide +kernel
theorem dX1_shelve_25 : decode cX1_shelve 25 = .ok (.dup, 1) := by decide +kernel
theorem dX1_shelve_26 : decode cX1_shelve 26 = .ok (.getfield 93, 3) := by decide +kernel
theorem dX1_shelve_29 : decode cX1_shelve 29 = .ok (.iconst 1, 1) := by decide +kernel
theorem dX1_shelve_30 : decode cX1_shelve 30 = .ok (.iadd, 1) := by decide +kernel
theorem dX1_shelve_31 : decode cX1_shelve 31 = .ok (.putfield 93, 3) := by decide +kernel
theorem dX1_shelve_34 : decode cX1_shelve 34 = .ok (.aload_n 0, 1) := by decide +kernel
theorem dX1_shelve_35 : decode cX1_shelve 35 = .ok (.iconst 0, 1) := by decide +kernel
theorem dX1_shelve_36 : decode cX1_shelve 36 = .ok (.iconst 0, 1) := by decide +kernel
theorem dX1_shelve_37 : decode cX1_shelve 37 = .ok (.invokevirtual 101, 3) := by decide +kernel
theorem dX1_shelve_40 : decode cX1_shelve 40 = .ok (.pop, 1) := by decide +kernel
theorem dX1_shelve_41 : decode cX1_shelve 41 = .ok (.aload_n 0, 1) := by decide +kernel
theorem dX1_shelve_42 : decode cX1_shelve 42 = .ok (.getfield 93, 3) := by decide +kernel
theorem dX1_shelve_45 : decode cX1_shelve 45 = .ok (.iconst 1, 1) := by decide +kernel
theorem dX1_shelve_46 : decode cX1_shelve 46 = .ok (.isub, 1) := by decide +kernel
theorem dX1_shelve_47 : decode cX1_shelve 47 = .ok (.ireturn, 1) := by decide +kernel
theorem dX1_tellOperator_0 : decode cX1_tellOperator 0 = .ok (.aload_n 0, 1) := by decide +kernel
theorem dX1_tellOperator_1 : decode cX1_tellOperator 1 = .ok (.iload_n 1, 1) := by decide +kernel
theorem dX1_tellOperator_2 : decode cX1_tellOperator 2 = .ok (.iload_n 2, 1) := by decide +kernel
theorem dX1_tellOperator_3 : decode cX1_tellOperator 3 = .ok (.invokevirtual 78, 3) := by decide +kernel
theorem dX1_tellOperator_6 : decode cX1_tellOperator 6 = .ok (.istore 6, 2) := by decide +kernel
theorem dX1_tellOperator_8 : decode cX1_tellOperator 8 = .ok (.iload 6, 2) := by decide +kernel
theorem dX1_tellOperator_10 : decode cX1_tellOperator 10 = .ok (.ifCond .ge 4, 3) := by decide +kernel
theorem dX1_tellOperator_13 : decode cX1_tellOperator 13 = .ok (.return_, 1) := by decide +kernel
theorem dX1_tellOperator_14 : decode cX1_tellOperator 14 = .ok (.aload_n 0, 1) := by decide +kernel
theorem dX1_tellOperator_15 : decode cX1_tellOperator 15 = .ok (.getfield 51, 3) := by decide +kernel
theorem dX1_tellOperator_18 : decode cX1_tellOperator 18 = .ok (.aload_n 0, 1) := by decide +kernel
theorem dX1_tellOperator_19 : decode cX1_tellOperator 19 = .ok (.iconst 1, 1) := by decide +kernel
theorem dX1_tellOperator_20 : decode cX1_tellOperator 20 = .ok (.iload 6, 2) := by decide +kernel
theorem dX1_tellOperator_22 : decode cX1_tellOperator 22 = .ok (.invokevirtual 101, 3) := by decide +kernel
theorem dX1_tellOperator_25 : decode cX1_tellOperator 25 = .ok (.aaload, 1) := by decide +kernel
theorem dX1_tellOperator_26 : decode cX1_tellOperator 26 = .ok (.astore 7, 2) := by decide +kernel
theorem dX1_tellOperator_28 : decode cX1_tellOperator 28 = .ok (.aload 7, 2) := by decide +kernel
theorem dX1_tellOperator_30 : decode cX1_tellOperator 30 = .ok (.iconst 0, 1) := by decide +kernel
theorem dX1_tellOperator_31 : decode cX1_tellOperator 31 = .ok (.aload_n 0, 1) := by decide +kernel
theorem dX1_tellOperator_32 : decode cX1_tellOperator 32 = .ok (.getfield 15, 3) := by decide +kernel
theorem dX1_tellOperator_35 : decode cX1_tellOperator 35 = .ok (.iload 6, 2) := by decide +kernel
theorem dX1_tellOperator_37 : decode cX1_tellOperator 37 = .ok (.iaload, 1) := by decide +kernel
theorem dX1_tellOperator_38 : decode cX1_tellOperator 38 = .ok (.iastore, 1) := by decide +kernel
theorem dX1_tellOperator_39 : decode cX1_tellOperator 39 = .ok (.aload 7, 2) := by decide +kernel
theorem dX1_tellOperator_41 : decode cX1_tellOperator 41 = .ok (.iconst 1, 1) := by decide +kernel
theorem dX1_tellOperator_42 : decode cX1_tellOperator 42 = .ok (.aload_n 0, 1) := by decide +kernel
theorem dX1_tellOperator_43 : decode cX1_tellOperator 43 = .ok (.getfield 18, 3) := by decide +kernel
theorem dX1_tellOperator_46 : decode cX1_tellOperator 46 = .ok (.iload 6, 2) := by decide +kernel
theorem dX1_tellOperator_48 : decode cX1_tellOperator 48 = .ok (.iaload, 1) := by decide +kernel
theorem dX1_tellOperator_49 : decode cX1_tellOperator 49 = .ok (.iastore, 1) := by decide +kernel
theorem dX1_tellOperator_50 : decode cX1_tellOperator 50 = .ok (.aload 7, 2) := by decide +kernel
theorem dX1_tellOperator_52 : decode cX1_tellOperator 52 = .ok (.iconst 2, 1) := by decide +kernel
theorem dX1_tellOperator_53 : decode cX1_tellOperator 53 = .ok (.aload_n 0, 1) := by decide +kernel
theorem dX1_tellOperator_54 : decode cX1_tellOperator 54 = .ok (.getfield 21, 3) := by decide +kernel
theorem dX1_tellOperator_57 : decode cX1_tellOperator 57 = .ok (.iload 6, 2) := by decide +kernel
theorem dX1_tellOperator_59 : decode cX1_tellOperator 59 = .ok (.iaload, 1) := by decide +kernel
theorem dX1_tellOperator_60 : decode cX1_tellOperator 60 = .ok (.iastore, 1) := by decide +kernel
theorem dX1_tellOperator_61 : decode cX1_tellOperator 61 = .ok (.aload_n 0, 1) := by decide +kernel
theorem dX1_tellOperator_62 : decode cX1_tellOperator 62 = .ok (.iload 6, 2) := by decide +kernel
theorem dX1_tellOperator_64 : decode cX1_tellOperator 64 = .ok (.iload_n 3, 1) := by decide +kernel
theorem dX1_tellOperator_65 : decode cX1_tellOperator 65 = .ok (.iload 4, 2) := by decide +kernel
theorem dX1_tellOperator_67 : decode cX1_tellOperator 67 = .ok (.iload 5, 2) := by decide +kernel
theorem dX1_tellOperator_69 : decode cX1_tellOperator 69 = .ok (.invokevirtual 82, 3) := by decide +kernel
theorem dX1_tellOperator_72 : decode cX1_tellOperator 72 = .ok (.return_, 1) := by decide +kernel
theorem dX1_giveValue_0 : decode cX1_giveValue 0 = .ok (.aload_n 0, 1) := by decide +kernel
theorem dX1_giveValue_1 : decode cX1_giveValue 1 = .ok (.iload_n 1, 1) := by decide +kernel
theorem dX1_giveValue_2 : decode cX1_giveValue 2 = .ok (.invokevirtual 104, 3) := by decide +kernel
theorem dX1_giveValue_5 : decode cX1_giveValue 5 = .ok (.aload_n 0, 1) := by decide +kernel
theorem dX1_giveValue_6 : decode cX1_giveValue 6 = .ok (.getfield 32, 3) := by decide +kernel
theorem dX1_giveValue_9 : decode cX1_giveValue 9 = .ok (.iload_n 1, 1) := by decide +kernel
theorem dX1_giveValue_10 : decode cX1_giveValue 10 = .ok (.aaload, 1) := by decide +kernel
theorem dX1_giveValue_11 : decode cX1_giveValue 11 = .ok (.aload_n 2, 1) := by decide +kernel
theorem dX1_giveValue_12 : decode cX1_giveValue 12 = .ok (.invokevirtual 107, 3) := by decide +kernel
theorem dX1_giveValue_15 : decode cX1_giveValue 15 = .ok (.aload_n 0, 1) := by decide +kernel
theorem dX1_giveValue_16 : decode cX1_giveValue 16 = .ok (.getfield 36, 3) := by decide +kernel
theorem dX1_giveValue_19 : decode cX1_giveValue 19 = .ok (.iload_n 1, 1) := by decide +kernel
theorem dX1_giveValue_20 : decode cX1_giveValue 20 = .ok (.iconst 1, 1) := by decide +kernel
theorem dX1_giveValue_21 : decode cX1_giveValue 21 = .ok (.bastore, 1) := by decide +kernel
theorem dX1_giveValue_22 : decode cX1_giveValue 22 = .ok (.return_, 1) := by decide +kernel
theorem dX1_noteName_0 : decode cX1_noteName 0 = .ok (.aload_n 0, 1) := by decide +kernel
theorem dX1_noteName_1 : decode cX1_noteName 1 = .ok (.iconst 2, 1) := by decide +kernel
theorem dX1_noteName_2 : decode cX1_noteName 2 = .ok (.iload_n 1, 1) := by decide +kernel
theorem dX1_noteName_3 : decode cX1_noteName 3 = .ok (.invokevirtual 101, 3) := by decide +kernel
theorem dX1_noteName_6 : decode cX1_noteName 6 = .ok (.istore_n 2, 1) := by decide +kernel
theorem dX1_noteName_7 : decode cX1_noteName 7 = .ok (.aload_n 0, 1) := by decide +kernel
theorem dX1_noteName_8 : decode cX1_noteName 8 = .ok (.getfield 51, 3) := by decide +kernel
theorem dX1_noteName_11 : decode cX1_noteName 11 = .ok (.iload_n 2, 1) := by decide +kernel
theorem dX1_noteName_12 : decode cX1_noteName 12 = .ok (.aaload, 1) := by decide +kernel
theorem dX1_noteName_13 : decode cX1_noteName 13 = .ok (.iconst 0, 1) := by decide +kernel
theorem dX1_noteName_14 : decode cX1_noteName 14 = .ok (.aload_n 0, 1) := by decide +kernel
theorem dX1_noteName_15 : decode cX1_noteName 15 = .ok (.getfield 36, 3) := by decide +kernel
theorem dX1_noteName_18 : decode cX1_noteName 18 = .ok (.iload_n 1, 1) := by decide +kernel
theorem dX1_noteName_19 : decode cX1_noteName 19 = .ok (.baload, 1) := by decide +kernel
theorem dX1_noteName_20 : decode cX1_noteName 20 = .ok (.ifCond .eq 7, 3) := by decide +kernel
theorem dX1_noteName_23 : decode cX1_noteName 23 = .ok (.iconst 1, 1) := by decide +kernel
theorem dX1_noteName_24 : decode cX1_noteName 24 = .ok (.goto 4, 3) := by decide +kernel
theorem dX1_noteName_27 : decode cX1_noteName 27 = .ok (.iconst 0, 1) := by decide +kernel
theorem dX1_noteName_28 : decode cX1_noteName 28 = .ok (.iastore, 1) := by decide +kernel
theorem dX1_noteName_29 : decode cX1_noteName 29 = .ok (.aload_n 0, 1) := by decide +kernel
theorem dX1_noteName_30 : decode cX1_noteName 30 = .ok (.getfield 54, 3) := by decide +kernel
theorem dX1_noteName_33 : decode cX1_noteName 33 = .ok (.iload_n 2, 1) := by decide +kernel
theorem dX1_noteName_34 : decode cX1_noteName 34 = .ok (.aaload, 1) := by decide +kernel
theorem dX1_noteName_35 : decode cX1_noteName 35 = .ok (.aload_n 0, 1) := by decide +kernel
theorem dX1_noteName_36 : decode cX1_noteName 36 = .ok (.getfield 32, 3) := by decide +kernel
theorem dX1_noteName_39 : decode cX1_noteName 39 = .ok (.iload_n 1, 1) := by decide +kernel
theorem dX1_noteName_40 : decode cX1_noteName 40 = .ok (.aaload, 1) := by decide +kernel
theorem dX1_noteName_41 : decode cX1_noteName 41 = .ok (.invokevirtual 107, 3) := by decide +kernel
theorem dX1_noteName_44 : decode cX1_noteName 44 = .ok (.return_, 1) := by decide +kernel
theorem dX1_copyRow_0 : decode cX1_copyRow 0 = .ok (.iconst 0, 1) := by decide +kernel
theorem dX1_copyRow_1 : decode cX1_copyRow 1 = .ok (.istore_n 2, 1) := by decide +kernel
theorem dX1_copyRow_2 : decode cX1_copyRow 2 = .ok (.iload_n 2, 1) := by decide +kernel
theorem dX1_copyRow_3 : decode cX1_copyRow 3 = .ok (.aload_n 0, 1) := by decide +kernel
theorem dX1_copyRow_4 : decode cX1_copyRow 4 = .ok (.arraylength, 1) := by decide +kernel
theorem dX1_copyRow_5 : decode cX1_copyRow 5 = .ok (.if_icmp .ge 21, 3) := by decide +kernel
theorem dX1_copyRow_8 : decode cX1_copyRow 8 = .ok (.iload_n 2, 1) := by decide +kernel
theorem dX1_copyRow_9 : decode cX1_copyRow 9 = .ok (.aload_n 1, 1) := by decide +kernel
theorem dX1_copyRow_10 : decode cX1_copyRow 10 = .ok (.arraylength, 1) := by decide +kernel
theorem dX1_copyRow_11 : decode cX1_copyRow 11 = .ok (.if_icmp .ge 15, 3) := by decide +kernel
theorem dX1_copyRow_14 : decode cX1_copyRow 14 = .ok (.aload_n 1, 1) := by decide +kernel
theorem dX1_copyRow_15 : decode cX1_copyRow 15 = .ok (.iload_n 2, 1) := by decide +kernel
theorem dX1_copyRow_16 : decode cX1_copyRow 16 = .ok (.aload_n 0, 1) := by decide +kernel
theorem dX1_copyRow_17 : decode cX1_copyRow 17 = .ok (.iload_n 2, 1) := by decide +kernel
theorem dX1_copyRow_18 : decode cX1_copyRow 18 = .ok (.iaload, 1) := by decide +kernel
theorem dX1_copyRow_19 : decode cX1_copyRow 19 = .ok (.iastore, 1) := by decide +kernel
theorem dX1_copyRow_20 : decode cX1_copyRow 20 = .ok (.iinc 2 1, 3) := by decide +kernel
theorem dX1_copyRow_23 : decode cX1_copyRow 23 = .ok (.goto (-21), 3) := by decide +kernel
theorem dX1_copyRow_26 : decode cX1_copyRow 26 = .ok (.return_, 1) := by decide +kernel
theorem dX1_parametersOf_0 : decode cX1_parametersOf 0 = .ok (.iload_n 1, 1) := by decide +kernel
theorem dX1_parametersOf_1 : decode cX1_parametersOf 1 = .ok (.ifCond .lt 9, 3) := by decide +kernel
theorem dX1_parametersOf_4 : decode cX1_parametersOf 4 = .ok (.iload_n 1, 1) := by decide +kernel
theorem dX1_parametersOf_5 : decode cX1_parametersOf 5 = .ok (.bipush 26, 2) := by decide +kernel
theorem dX1_parametersOf_7 : decode cX1_parametersOf 7 = .ok (.if_icmp .lt 7, 3) := by decide +kernel
theorem dX1_parametersOf_10 : decode cX1_parametersOf 10 = .ok (.iconst 0, 1) := by decide +kernel
theorem dX1_parametersOf_11 : decode cX1_parametersOf 11 = .ok (.goto 11, 3) := by decide +kernel
theorem dX1_parametersOf_14 : decode cX1_parametersOf 14 = .ok (.aload_n 0, 1) := by decide +kernel
theorem dX1_parametersOf_15 : decode cX1_parametersOf 15 = .ok (.getfield 42, 3) := by decide +kernel
theorem dX1_parametersOf_18 : decode cX1_parametersOf 18 = .ok (.iload_n 1, 1) := by decide +kernel
theorem dX1_parametersOf_19 : decode cX1_parametersOf 19 = .ok (.aaload, 1) := by decide +kernel
theorem dX1_parametersOf_20 : decode cX1_parametersOf 20 = .ok (.iconst 0, 1) := by decide +kernel
theorem dX1_parametersOf_21 : decode cX1_parametersOf 21 = .ok (.iaload, 1) := by decide +kernel
theorem dX1_parametersOf_22 : decode cX1_parametersOf 22 = .ok (.ireturn, 1) := by decide +kernel
theorem dX1_casesOf_0 : decode cX1_casesOf 0 = .ok (.iload_n 1, 1) := by decide +kernel
theorem dX1_casesOf_1 : decode cX1_casesOf 1 = .ok (.ifCond .lt 9, 3) := by decide +kernel
theorem dX1_casesOf_4 : decode cX1_casesOf 4 = .ok (.iload_n 1, 1) := by decide +kernel
theorem dX1_casesOf_5 : decode cX1_casesOf 5 = .ok (.bipush 26, 2) := by decide +kernel
theorem dX1_casesOf_7 : decode cX1_casesOf 7 = .ok (.if_icmp .lt 7, 3) := by decide +kernel
theorem dX1_casesOf_10 : decode cX1_casesOf 10 = .ok (.iconst 0, 1) := by decide +kernel
theorem dX1_casesOf_11 : decode cX1_casesOf 11 = .ok (.goto 11, 3) := by decide +kernel
theorem dX1_casesOf_14 : decode cX1_casesOf 14 = .ok (.aload_n 0, 1) := by decide +kernel
theorem dX1_casesOf_15 : decode cX1_casesOf 15 = .ok (.getfield 42, 3) := by decide +kernel
theorem dX1_casesOf_18 : decode cX1_casesOf 18 = .ok (.iload_n 1, 1) := by decide +kernel
theorem dX1_casesOf_19 : decode cX1_casesOf 19 = .ok (.aaload, 1) := by decide +kernel
theorem dX1_casesOf_20 : decode cX1_casesOf 20 = .ok (.iconst 1, 1) := by decide +kernel
theorem dX1_casesOf_21 : decode cX1_casesOf 21 = .ok (.iaload, 1) := by decide +kernel
theorem dX1_casesOf_22 : decode cX1_casesOf 22 = .ok (.ireturn, 1) := by decide +kernel
theorem dX1_conditionOf_0 : decode cX1_conditionOf 0 = .ok (.iload_n 2, 1) := by decide +kernel
theorem dX1_conditionOf_1 : decode cX1_conditionOf 1 = .ok (.ifCond .lt 12, 3) := by decide +kernel
theorem dX1_conditionOf_4 : decode cX1_conditionOf 4 = .ok (.iload_n 2, 1) := by decide +kernel
theorem dX1_conditionOf_5 : decode cX1_conditionOf 5 = .ok (.aload_n 0, 1) := by decide +kernel
theorem dX1_conditionOf_6 : decode cX1_conditionOf 6 = .ok (.iload_n 1, 1) := by decide +kernel
theorem dX1_conditionOf_7 : decode cX1_conditionOf 7 = .ok (.invokevirtual 113, 3) := by decide +kernel
theorem dX1_conditionOf_10 : decode cX1_conditionOf 10 = .ok (.if_icmp .lt 7, 3) := by decide +kernel
theorem dX1_conditionOf_13 : decode cX1_conditionOf 13 = .ok (.aconst_null, 1) := by decide +kernel
theorem dX1_conditionOf_14 : decode cX1_conditionOf 14 = .ok (.goto 17, 3) := by decide +kernel
theorem dX1_conditionOf_17 : decode cX1_conditionOf 17 = .ok (.aload_n 0, 1) := by decide +kernel
theorem dX1_conditionOf_18 : decode cX1_conditionOf 18 = .ok (.aload_n 0, 1) := by decide +kernel
theorem dX1_conditionOf_19 : decode cX1_conditionOf 19 = .ok (.getfield 42, 3) := by decide +kernel
theorem dX1_conditionOf_22 : decode cX1_conditionOf 22 = .ok (.iload_n 1, 1) := by decide +kernel
theorem dX1_conditionOf_23 : decode cX1_conditionOf 23 = .ok (.aaload, 1) := by decide +kernel
theorem dX1_conditionOf_24 : decode cX1_conditionOf 24 = .ok (.iconst 2, 1) := by decide +kernel
theorem dX1_conditionOf_25 : decode cX1_conditionOf 25 = .ok (.iload_n 2, 1) := by decide +kernel
theorem dX1_conditionOf_26 : decode cX1_conditionOf 26 = .ok (.iadd, 1) := by decide +kernel
theorem dX1_conditionOf_27 : decode cX1_conditionOf 27 = .ok (.iaload, 1) := by decide +kernel
theorem dX1_conditionOf_28 : decode cX1_conditionOf 28 = .ok (.invokevirtual 120, 3) := by decide +kernel
theorem dX1_conditionOf_31 : decode cX1_conditionOf 31 = .ok (.areturn, 1) := by decide +kernel
theorem dX1_valueOf_0 : decode cX1_valueOf 0 = .ok (.iload_n 2, 1) := by decide +kernel
theorem dX1_valueOf_1 : decode cX1_valueOf 1 = .ok (.ifCond .lt 12, 3) := by decide +kernel
theorem dX1_valueOf_4 : decode cX1_valueOf 4 = .ok (.iload_n 2, 1) := by decide +kernel
theorem dX1_valueOf_5 : decode cX1_valueOf 5 = .ok (.aload_n 0, 1) := by decide +kernel
theorem dX1_valueOf_6 : decode cX1_valueOf 6 = .ok (.iload_n 1, 1) := by decide +kernel
theorem dX1_valueOf_7 : decode cX1_valueOf 7 = .ok (.invokevirtual 113, 3) := by decide +kernel
theorem dX1_valueOf_10 : decode cX1_valueOf 10 = .ok (.if_icmp .lt 7, 3) := by decide +kernel
theorem dX1_valueOf_13 : decode cX1_valueOf 13 = .ok (.aconst_null, 1) := by decide +kernel
theorem dX1_valueOf_14 : decode cX1_valueOf 14 = .ok (.goto 18, 3) := by decide +kernel
theorem dX1_valueOf_17 : decode cX1_valueOf 17 = .ok (.aload_n 0, 1) := by decide +kernel
theorem dX1_valueOf_18 : decode cX1_valueOf 18 = .ok (.aload_n 0, 1) := by decide +kernel
theorem dX1_valueOf_19 : decode cX1_valueOf 19 = .ok (.getfield 42, 3) := by decide +kernel
theorem dX1_valueOf_22 : decode cX1_valueOf 22 = .ok (.iload_n 1, 1) := by decide +kernel
theorem dX1_valueOf_23 : decode cX1_valueOf 23 = .ok (.aaload, 1) := by decide +kernel
theorem dX1_valueOf_24 : decode cX1_valueOf 24 = .ok (.bipush 6, 2) := by decide +kernel
theorem dX1_valueOf_26 : decode cX1_valueOf 26 = .ok (.iload_n 2, 1) := by decide +kernel
theorem dX1_valueOf_27 : decode cX1_valueOf 27 = .ok (.iadd, 1) := by decide +kernel
theorem dX1_valueOf_28 : decode cX1_valueOf 28 = .ok (.iaload, 1) := by decide +kernel
theorem dX1_valueOf_29 : decode cX1_valueOf 29 = .ok (.invokevirtual 120, 3) := by decide +kernel
theorem dX1_valueOf_32 : decode cX1_valueOf 32 = .ok (.areturn, 1) := by decide +kernel
theorem dX1_treeOf_0 : decode cX1_treeOf 0 = .ok (.iload_n 1, 1) := by decide +kernel
theorem dX1_treeOf_1 : decode cX1_treeOf 1 = .ok (.ifCond .lt 17, 3) := by decide +kernel
theorem dX1_treeOf_4 : decode cX1_treeOf 4 = .ok (.iload_n 1, 1) := by decide +kernel
theorem dX1_treeOf_5 : decode cX1_treeOf 5 = .ok (.aload_n 0, 1) := by decide +kernel
theorem dX1_treeOf_6 : decode cX1_treeOf 6 = .ok (.getfield 93, 3) := by decide +kernel
theorem dX1_treeOf_9 : decode cX1_treeOf 9 = .ok (.if_icmp .ge 9, 3) := by decide +kernel
theorem dX1_treeOf_12 : decode cX1_treeOf 12 = .ok (.iload_n 1, 1) := by decide +kernel
theorem dX1_treeOf_13 : decode cX1_treeOf 13 = .ok (.bipush 30, 2) := by decide +kernel
theorem dX1_treeOf_15 : decode cX1_treeOf 15 = .ok (.if_icmp .lt 7, 3) := by decide +kernel
theorem dX1_treeOf_18 : decode cX1_treeOf 18 = .ok (.aconst_null, 1) := by decide +kernel
theorem dX1_treeOf_19 : decode cX1_treeOf 19 = .ok (.goto 9, 3) := by decide +kernel
theorem dX1_treeOf_22 : decode cX1_treeOf 22 = .ok (.aload_n 0, 1) := by decide +kernel
theorem dX1_treeOf_23 : decode cX1_treeOf 23 = .ok (.getfield 26, 3) := by decide +kernel
theorem dX1_treeOf_26 : decode cX1_treeOf 26 = .ok (.iload_n 1, 1) := by decide +kernel
theorem dX1_treeOf_27 : decode cX1_treeOf 27 = .ok (.aaload, 1) := by decide +kernel
theorem dX1_treeOf_28 : decode cX1_treeOf 28 = .ok (.areturn, 1) := by decide +kernel
theorem dX1_note_0 : decode cX1_note 0 = .ok (.aload_n 0, 1) := by decide +kernel
theorem dX1_note_1 : decode cX1_note 1 = .ok (.getfield 124, 3) := by decide +kernel
theorem dX1_note_4 : decode cX1_note 4 = .ok (.bipush 20, 2) := by decide +kernel
theorem dX1_note_6 : decode cX1_note 6 = .ok (.if_icmp .lt 26, 3) := by decide +kernel
theorem dX1_note_9 : decode cX1_note 9 = .ok (.aload_n 0, 1) := by decide +kernel
theorem dX1_note_10 : decode cX1_note 10 = .ok (.aload_n 0, 1) := by decide +kernel
theorem dX1_note_11 : decode cX1_note 11 = .ok (.getfield 127, 3) := by decide +kernel
theorem dX1_note_14 : decode cX1_note 14 = .ok (.iconst 1, 1) := by decide +kernel
theorem dX1_note_15 : decode cX1_note 15 = .ok (.iadd, 1) := by decide +kernel
theorem dX1_note_16 : decode cX1_note 16 = .ok (.bipush 20, 2) := by decide +kernel
theorem dX1_note_18 : decode cX1_note 18 = .ok (.irem, 1) := by decide +kernel
theorem dX1_note_19 : decode cX1_note 19 = .ok (.putfield 127, 3) := by decide +kernel
theorem dX1_note_22 : decode cX1_note 22 = .ok (.aload_n 0, 1) := by decide +kernel
theorem dX1_note_23 : decode cX1_note 23 = .ok (.dup, 1) := by decide +kernel
theorem dX1_note_24 : decode cX1_note 24 = .ok (.getfield 124, 3) := by decide +kernel
theorem dX1_note_27 : decode cX1_note 27 = .ok (.iconst 1, 1) := by decide +kernel
theorem dX1_note_28 : decode cX1_note 28 = .ok (.isub, 1) := by decide +kernel
theorem dX1_note_29 : decode cX1_note 29 = .ok (.putfield 124, 3) := by decide +kernel
theorem dX1_note_32 : decode cX1_note 32 = .ok (.aload_n 0, 1) := by decide +kernel
theorem dX1_note_33 : decode cX1_note 33 = .ok (.getfield 127, 3) := by decide +kernel
theorem dX1_note_36 : decode cX1_note 36 = .ok (.aload_n 0, 1) := by decide +kernel
theorem dX1_note_37 : decode cX1_note 37 = .ok (.getfield 124, 3) := by decide +kernel
theorem dX1_note_40 : decode cX1_note 40 = .ok (.iadd, 1) := by decide +kernel
theorem dX1_note_41 : decode cX1_note 41 = .ok (.bipush 20, 2) := by decide +kernel
theorem dX1_note_43 : decode cX1_note 43 = .ok (.irem, 1) := by decide +kernel
theorem dX1_note_44 : decode cX1_note 44 = .ok (.istore_n 3, 1) := by decide +kernel
theorem dX1_note_45 : decode cX1_note 45 = .ok (.aload_n 0, 1) := by decide +kernel
theorem dX1_note_46 : decode cX1_note 46 = .ok (.getfield 45, 3) := by decide +kernel
theorem dX1_note_49 : decode cX1_note 49 = .ok (.iload_n 3, 1) := by decide +kernel
theorem dX1_note_50 : decode cX1_note 50 = .ok (.iload_n 1, 1) := by decide +kernel
theorem dX1_note_51 : decode cX1_note 51 = .ok (.iastore, 1) := by decide +kernel
theorem dX1_note_52 : decode cX1_note 52 = .ok (.aload_n 0, 1) := by decide +kernel
theorem dX1_note_53 : decode cX1_note 53 = .ok (.getfield 48, 3) := by decide +kernel
theorem dX1_note_56 : decode cX1_note 56 = .ok (.iload_n 3, 1) := by decide +kernel
theorem dX1_note_57 : decode cX1_note 57 = .ok (.iload_n 2, 1) := by decide +kernel
theorem dX1_note_58 : decode cX1_note 58 = .ok (.iastore, 1) := by decide +kernel
theorem dX1_note_59 : decode cX1_note 59 = .ok (.aload_n 0, 1) := by decide +kernel
theorem dX1_note_60 : decode cX1_note 60 = .ok (.dup, 1) := by decide +kernel
theorem dX1_note_61 : decode cX1_note 61 = .ok (.getfield 124, 3) := by decide +kernel
theorem dX1_note_64 : decode cX1_note 64 = .ok (.iconst 1, 1) := by decide +kernel
theorem dX1_note_65 : decode cX1_note 65 = .ok (.iadd, 1) := by decide +kernel
theorem dX1_note_66 : decode cX1_note 66 = .ok (.putfield 124, 3) := by decide +kernel
theorem dX1_note_69 : decode cX1_note 69 = .ok (.iload_n 3, 1) := by decide +kernel
theorem dX1_note_70 : decode cX1_note 70 = .ok (.ireturn, 1) := by decide +kernel
theorem dX1_takeBack_0 : decode cX1_takeBack 0 = .ok (.aload_n 0, 1) := by decide +kernel
theorem dX1_takeBack_1 : decode cX1_takeBack 1 = .ok (.getfield 124, 3) := by decide +kernel
theorem dX1_takeBack_4 : decode cX1_takeBack 4 = .ok (.ifCond .gt 5, 3) := by decide +kernel
theorem dX1_takeBack_7 : decode cX1_takeBack 7 = .ok (.iconst (-1), 1) := by decide +kernel
theorem dX1_takeBack_8 : decode cX1_takeBack 8 = .ok (.ireturn, 1) := by decide +kernel
theorem dX1_takeBack_9 : decode cX1_takeBack 9 = .ok (.aload_n 0, 1) := by decide +kernel
theorem dX1_takeBack_10 : decode cX1_takeBack 10 = .ok (.dup, 1) := by decide +kernel
theorem dX1_takeBack_11 : decode cX1_takeBack 11 = .ok (.getfield 124, 3) := by decide +kernel
theorem dX1_takeBack_14 : decode cX1_takeBack 14 = .ok (.iconst 1, 1) := by decide +kernel
theorem dX1_takeBack_15 : decode cX1_takeBack 15 = .ok (.isub, 1) := by decide +kernel
theorem dX1_takeBack_16 : decode cX1_takeBack 16 = .ok (.putfield 124, 3) := by decide +kernel
theorem dX1_takeBack_19 : decode cX1_takeBack 19 = .ok (.aload_n 0, 1) := by decide +kernel
theorem dX1_takeBack_20 : decode cX1_takeBack 20 = .ok (.getfield 127, 3) := by decide +kernel
theorem dX1_takeBack_23 : decode cX1_takeBack 23 = .ok (.aload_n 0, 1) := by decide +kernel
theorem dX1_takeBack_24 : decode cX1_takeBack 24 = .ok (.getfield 124, 3) := by decide +kernel
theorem dX1_takeBack_27 : decode cX1_takeBack 27 = .ok (.iadd, 1) := by decide +kernel
theorem dX1_takeBack_28 : decode cX1_takeBack 28 = .ok (.bipush 20, 2) := by decide +kernel
theorem dX1_takeBack_30 : decode cX1_takeBack 30 = .ok (.irem, 1) := by decide +kernel
theorem dX1_takeBack_31 : decode cX1_takeBack 31 = .ok (.istore_n 1, 1) := by decide +kernel
theorem dX1_takeBack_32 : decode cX1_takeBack 32 = .ok (.aload_n 0, 1) := by decide +kernel
theorem dX1_takeBack_33 : decode cX1_takeBack 33 = .ok (.getfield 48, 3) := by decide +kernel
theorem dX1_takeBack_36 : decode cX1_takeBack 36 = .ok (.iload_n 1, 1) := by decide +kernel
theorem dX1_takeBack_37 : decode cX1_takeBack 37 = .ok (.iaload, 1) := by decide +kernel
theorem dX1_takeBack_38 : decode cX1_takeBack 38 = .ok (.istore_n 2, 1) := by decide +kernel
theorem dX1_takeBack_39 : decode cX1_takeBack 39 = .ok (.aload_n 0, 1) := by decide +kernel
theorem dX1_takeBack_40 : decode cX1_takeBack 40 = .ok (.getfield 51, 3) := by decide +kernel
theorem dX1_takeBack_43 : decode cX1_takeBack 43 = .ok (.iload_n 1, 1) := by decide +kernel
theorem dX1_takeBack_44 : decode cX1_takeBack 44 = .ok (.aaload, 1) := by decide +kernel
theorem dX1_takeBack_45 : decode cX1_takeBack 45 = .ok (.astore_n 3, 1) := by decide +kernel
theorem dX1_takeBack_46 : decode cX1_takeBack 46 = .ok (.aload_n 0, 1) := by decide +kernel
theorem dX1_takeBack_47 : decode cX1_takeBack 47 = .ok (.getfield 45, 3) := by decide +kernel
theorem dX1_takeBack_50 : decode cX1_takeBack 50 = .ok (.iload_n 1, 1) := by decide +kernel
theorem dX1_takeBack_51 : decode cX1_takeBack 51 = .ok (.iaload, 1) := by decide +kernel
theorem dX1_takeBack_52 : decode cX1_takeBack 52 = .ok (.tableswitch 94 0 2 #[28, 41, 58], 28) := by decide +kernel
theorem dX1_takeBack_80 : decode cX1_takeBack 80 = .ok (.aload_n 0, 1) := by decide +kernel
theorem dX1_takeBack_81 : decode cX1_takeBack 81 = .ok (.dup, 1) := by decide +kernel
theorem dX1_takeBack_82 : decode cX1_takeBack 82 = .ok (.getfield 93, 3) := by decide +kernel
theorem dX1_takeBack_85 : decode cX1_takeBack 85 = .ok (.iconst 1, 1) := by decide +kernel
theorem dX1_takeBack_86 : decode cX1_takeBack 86 = .ok (.isub, 1) := by decide +kernel
theorem dX1_takeBack_87 : decode cX1_takeBack 87 = .ok (.putfield 93, 3) := by decide +kernel
theorem dX1_takeBack_90 : decode cX1_takeBack 90 = .ok (.goto 66, 3) := by decide +kernel
theorem dX1_takeBack_93 : decode cX1_takeBack 93 = .ok (.aload_n 0, 1) := by decide +kernel
theorem dX1_takeBack_94 : decode cX1_takeBack 94 = .ok (.iload_n 2, 1) := by decide +kernel
theorem dX1_takeBack_95 : decode cX1_takeBack 95 = .ok (.aload_n 3, 1) := by decide +kernel
theorem dX1_takeBack_96 : decode cX1_takeBack 96 = .ok (.iconst 0, 1) := by decide +kernel
theorem dX1_takeBack_97 : decode cX1_takeBack 97 = .ok (.iaload, 1) := by decide +kernel
theorem dX1_takeBack_98 : decode cX1_takeBack 98 = .ok (.aload_n 3, 1) := by decide +kernel
theorem dX1_takeBack_99 : decode cX1_takeBack 99 = .ok (.iconst 1, 1) := by decide +kernel
theorem dX1_takeBack_100 : decode cX1_takeBack 100 = .ok (.iaload, 1) := by decide +kernel
theorem dX1_takeBack_101 : decode cX1_takeBack 101 = .ok (.aload_n 3, 1) := by decide +kernel
theorem dX1_takeBack_102 : decode cX1_takeBack 102 = .ok (.iconst 2, 1) := by decide +kernel
theorem dX1_takeBack_103 : decode cX1_takeBack 103 = .ok (.iaload, 1) := by decide +kernel
theorem dX1_takeBack_104 : decode cX1_takeBack 104 = .ok (.invokevirtual 82, 3) := by decide +kernel
theorem dX1_takeBack_107 : decode cX1_takeBack 107 = .ok (.goto 49, 3) := by decide +kernel
theorem dX1_takeBack_110 : decode cX1_takeBack 110 = .ok (.aload_n 0, 1) := by decide +kernel
theorem dX1_takeBack_111 : decode cX1_takeBack 111 = .ok (.getfield 36, 3) := by decide +kernel
theorem dX1_takeBack_114 : decode cX1_takeBack 114 = .ok (.iload_n 2, 1) := by decide +kernel
theorem dX1_takeBack_115 : decode cX1_takeBack 115 = .ok (.aload_n 3, 1) := by decide +kernel
theorem dX1_takeBack_116 : decode cX1_takeBack 116 = .ok (.iconst 0, 1) := by decide +kernel
theorem dX1_takeBack_117 : decode cX1_takeBack 117 = .ok (.iaload, 1) := by decide +kernel
theorem dX1_takeBack_118 : decode cX1_takeBack 118 = .ok (.iconst 1, 1) := by decide +kernel
theorem dX1_takeBack_119 : decode cX1_takeBack 119 = .ok (.if_icmp .ne 7, 3) := by decide +kernel
theorem dX1_takeBack_122 : decode cX1_takeBack 122 = .ok (.iconst 1, 1) := by decide +kernel
theorem dX1_takeBack_123 : decode cX1_takeBack 123 = .ok (.goto 4, 3) := by decide +kernel
theorem dX1_takeBack_126 : decode cX1_takeBack 126 = .ok (.iconst 0, 1) := by decide +kernel
theorem dX1_takeBack_127 : decode cX1_takeBack 127 = .ok (.bastore, 1) := by decide +kernel
theorem dX1_takeBack_128 : decode cX1_takeBack 128 = .ok (.aload_n 0, 1) := by decide +kernel
theorem dX1_takeBack_129 : decode cX1_takeBack 129 = .ok (.getfield 32, 3) := by decide +kernel
theorem dX1_takeBack_132 : decode cX1_takeBack 132 = .ok (.iload_n 2, 1) := by decide +kernel
theorem dX1_takeBack_133 : decode cX1_takeBack 133 = .ok (.aaload, 1) := by decide +kernel
theorem dX1_takeBack_134 : decode cX1_takeBack 134 = .ok (.aload_n 0, 1) := by decide +kernel
theorem dX1_takeBack_135 : decode cX1_takeBack 135 = .ok (.getfield 54, 3) := by decide +kernel
theorem dX1_takeBack_138 : decode cX1_takeBack 138 = .ok (.iload_n 1, 1) := by decide +kernel
theorem dX1_takeBack_139 : decode cX1_takeBack 139 = .ok (.aaload, 1) := by decide +kernel
theorem dX1_takeBack_140 : decode cX1_takeBack 140 = .ok (.invokevirtual 107, 3) := by decide +kernel
theorem dX1_takeBack_143 : decode cX1_takeBack 143 = .ok (.goto 13, 3) := by decide +kernel
theorem dX1_takeBack_146 : decode cX1_takeBack 146 = .ok (.aload_n 3, 1) := by decide +kernel
theorem dX1_takeBack_147 : decode cX1_takeBack 147 = .ok (.aload_n 0, 1) := by decide +kernel
theorem dX1_takeBack_148 : decode cX1_takeBack 148 = .ok (.getfield 42, 3) := by decide +kernel
theorem dX1_takeBack_151 : decode cX1_takeBack 151 = .ok (.iload_n 2, 1) := by decide +kernel
theorem dX1_takeBack_152 : decode cX1_takeBack 152 = .ok (.aaload, 1) := by decide +kernel
theorem dX1_takeBack_153 : decode cX1_takeBack 153 = .ok (.invokestatic 116, 3) := by decide +kernel
theorem dX1_takeBack_156 : decode cX1_takeBack 156 = .ok (.aload_n 0, 1) := by decide +kernel
theorem dX1_takeBack_157 : decode cX1_takeBack 157 = .ok (.getfield 45, 3) := by decide +kernel
theorem dX1_takeBack_160 : decode cX1_takeBack 160 = .ok (.iload_n 1, 1) := by decide +kernel
theorem dX1_takeBack_161 : decode cX1_takeBack 161 = .ok (.iaload, 1) := by decide +kernel
theorem dX1_takeBack_162 : decode cX1_takeBack 162 = .ok (.ireturn, 1) := by decide +kernel
theorem dX2_init_0 : decode cX2_init 0 = .ok (.aload_n 0, 1) := by decide +kernel
theorem dX2_init_1 : decode cX2_init 1 = .ok (.invokespecial 1, 3) := by decide +kernel
theorem dX2_init_4 : decode cX2_init 4 = .ok (.aload_n 0, 1) := by decide +kernel
theorem dX2_init_5 : decode cX2_init 5 = .ok (.new 7, 3) := by decide +kernel
theorem dX2_init_8 : decode cX2_init 8 = .ok (.dup, 1) := by decide +kernel
theorem dX2_init_9 : decode cX2_init 9 = .ok (.iload_n 1, 1) := by decide +kernel
theorem dX2_init_10 : decode cX2_init 10 = .ok (.invokespecial 9, 3) := by decide +kernel
theorem dX2_init_13 : decode cX2_init 13 = .ok (.putfield 12, 3) := by decide +kernel
theorem dX2_init_16 : decode cX2_init 16 = .ok (.aload_n 0, 1) := by decide +kernel
theorem dX2_init_17 : decode cX2_init 17 = .ok (.new 7, 3) := by decide +kernel
theorem dX2_init_20 : decode cX2_init 20 = .ok (.dup, 1) := by decide +kernel
theorem dX2_init_21 : decode cX2_init 21 = .ok (.iload_n 1, 1) := by decide +kernel
theorem dX2_init_22 : decode cX2_init 22 = .ok (.invokespecial 9, 3) := by decide +kernel
theorem dX2_init_25 : decode cX2_init 25 = .ok (.putfield 18, 3) := by decide +kernel
theorem dX2_init_28 : decode cX2_init 28 = .ok (.aload_n 0, 1) := by decide +kernel
theorem dX2_init_29 : decode cX2_init 29 = .ok (.getfield 18, 3) := by decide +kernel
theorem dX2_init_32 : decode cX2_init 32 = .ok (.lconst 1, 1) := by decide +kernel
theorem dX2_init_33 : decode cX2_init 33 = .ok (.invokevirtual 21, 3) := by decide +kernel
theorem dX2_init_36 : decode cX2_init 36 = .ok (.return_, 1) := by decide +kernel
theorem dX2_set_0 : decode cX2_set 0 = .ok (.aload_n 0, 1) := by decide +kernel
theorem dX2_set_1 : decode cX2_set 1 = .ok (.getfield 12, 3) := by decide +kernel
theorem dX2_set_4 : decode cX2_set 4 = .ok (.lload_n 1, 1) := by decide +kernel
theorem dX2_set_5 : decode cX2_set 5 = .ok (.invokevirtual 21, 3) := by decide +kernel
theorem dX2_set_8 : decode cX2_set 8 = .ok (.aload_n 0, 1) := by decide +kernel
theorem dX2_set_9 : decode cX2_set 9 = .ok (.getfield 18, 3) := by decide +kernel
theorem dX2_set_12 : decode cX2_set 12 = .ok (.lconst 1, 1) := by decide +kernel
theorem dX2_set_13 : decode cX2_set 13 = .ok (.invokevirtual 21, 3) := by decide +kernel
theorem dX2_set_16 : decode cX2_set 16 = .ok (.return_, 1) := by decide +kernel
theorem dX2_copy_0 : decode cX2_copy 0 = .ok (.aload_n 0, 1) := by decide +kernel
theorem dX2_copy_1 : decode cX2_copy 1 = .ok (.getfield 12, 3) := by decide +kernel
theorem dX2_copy_4 : decode cX2_copy 4 = .ok (.aload_n 1, 1) := by decide +kernel
theorem dX2_copy_5 : decode cX2_copy 5 = .ok (.getfield 12, 3) := by decide +kernel
theorem dX2_copy_8 : decode cX2_copy 8 = .ok (.invokevirtual 25, 3) := by decide +kernel
theorem dX2_copy_11 : decode cX2_copy 11 = .ok (.aload_n 0, 1) := by decide +kernel
theorem dX2_copy_12 : decode cX2_copy 12 = .ok (.getfield 18, 3) := by decide +kernel
theorem dX2_copy_15 : decode cX2_copy 15 = .ok (.aload_n 1, 1) := by decide +kernel
theorem dX2_copy_16 : decode cX2_copy 16 = .ok (.getfield 18, 3) := by decide +kernel
theorem dX2_copy_19 : decode cX2_copy 19 = .ok (.invokevirtual 25, 3) := by decide +kernel
theorem dX2_copy_22 : decode cX2_copy 22 = .ok (.return_, 1) := by decide +kernel
theorem dX2_isZero_0 : decode cX2_isZero 0 = .ok (.aload_n 0, 1) := by decide +kernel
theorem dX2_isZero_1 : decode cX2_isZero 1 = .ok (.getfield 12, 3) := by decide +kernel
theorem dX2_isZero_4 : decode cX2_isZero 4 = .ok (.invokevirtual 29, 3) := by decide +kernel
theorem dX2_isZero_7 : decode cX2_isZero 7 = .ok (.ireturn, 1) := by decide +kernel
theorem dX2_isWhole_0 : decode cX2_isWhole 0 = .ok (.aload_n 0, 1) := by decide +kernel
theorem dX2_isWhole_1 : decode cX2_isWhole 1 = .ok (.getfield 18, 3) := by decide +kernel
theorem dX2_isWhole_4 : decode cX2_isWhole 4 = .ok (.invokevirtual 33, 3) := by decide +kernel
theorem dX2_isWhole_7 : decode cX2_isWhole 7 = .ok (.ireturn, 1) := by decide +kernel
theorem dX2_fits_0 : decode cX2_fits 0 = .ok (.aload_n 0, 1) := by decide +kernel
theorem dX2_fits_1 : decode cX2_fits 1 = .ok (.getfield 12, 3) := by decide +kernel
theorem dX2_fits_4 : decode cX2_fits 4 = .ok (.invokevirtual 36, 3) := by decide +kernel
theorem dX2_fits_7 : decode cX2_fits 7 = .ok (.sipush 200, 3) := by decide +kernel
theorem dX2_fits_10 : decode cX2_fits 10 = .ok (.if_icmp .gt 20, 3) := by decide +kernel
theorem dX2_fits_13 : decode cX2_fits 13 = .ok (.aload_n 0, 1) := by decide +kernel
theorem dX2_fits_14 : decode cX2_fits 14 = .ok (.getfield 18, 3) := by decide +kernel
theorem dX2_fits_17 : decode cX2_fits 17 = .ok (.invokevirtual 36, 3) := by decide +kernel
theorem dX2_fits_20 : decode cX2_fits 20 = .ok (.sipush 200, 3) := by decide +kernel
theorem dX2_fits_23 : decode cX2_fits 23 = .ok (.if_icmp .gt 7, 3) := by decide +kernel
theorem dX2_fits_26 : decode cX2_fits 26 = .ok (.iconst 1, 1) := by decide +kernel
theorem dX2_fits_27 : decode cX2_fits 27 = .ok (.goto 4, 3) := by decide +kernel
theorem dX2_fits_30 : decode cX2_fits 30 = .ok (.iconst 0, 1) := by decide +kernel
theorem dX2_fits_31 : decode cX2_fits 31 = .ok (.ireturn, 1) := by decide +kernel
theorem dX2_sameAs_0 : decode cX2_sameAs 0 = .ok (.aload_n 0, 1) := by decide +kernel
theorem dX2_sameAs_1 : decode cX2_sameAs 1 = .ok (.getfield 12, 3) := by decide +kernel
theorem dX2_sameAs_4 : decode cX2_sameAs 4 = .ok (.aload_n 1, 1) := by decide +kernel
theorem dX2_sameAs_5 : decode cX2_sameAs 5 = .ok (.getfield 12, 3) := by decide +kernel
theorem dX2_sameAs_8 : decode cX2_sameAs 8 = .ok (.invokestatic 40, 3) := by decide +kernel
theorem dX2_sameAs_11 : decode cX2_sameAs 11 = .ok (.ifCond .ne 21, 3) := by decide +kernel
theorem dX2_sameAs_14 : decode cX2_sameAs 14 = .ok (.aload_n 0, 1) := by decide +kernel
theorem dX2_sameAs_15 : decode cX2_sameAs 15 = .ok (.getfield 18, 3) := by decide +kernel
theorem dX2_sameAs_18 : decode cX2_sameAs 18 = .ok (.aload_n 1, 1) := by decide +kernel
theorem dX2_sameAs_19 : decode cX2_sameAs 19 = .ok (.getfield 18, 3) := by decide +kernel
theorem dX2_sameAs_22 : decode cX2_sameAs 22 = .ok (.invokestatic 40, 3) := by decide +kernel
theorem dX2_sameAs_25 : decode cX2_sameAs 25 = .ok (.ifCond .ne 7, 3) := by decide +kernel
theorem dX2_sameAs_28 : decode cX2_sameAs 28 = .ok (.iconst 1, 1) := by decide +kernel
theorem dX2_sameAs_29 : decode cX2_sameAs 29 = .ok (.goto 4, 3) := by decide +kernel
theorem dX2_sameAs_32 : decode cX2_sameAs 32 = .ok (.iconst 0, 1) := by decide +kernel
theorem dX2_sameAs_33 : decode cX2_sameAs 33 = .ok (.ireturn, 1) := by decide +kernel
theorem dX3_init_0 : decode cX3_init 0 = .ok (.aload_n 0, 1) := by decide +kernel
theorem dX3_init_1 : decode cX3_init 1 = .ok (.invokespecial 3, 3) := by decide +kernel
theorem dX3_init_4 : decode cX3_init 4 = .ok (.aload_n 0, 1) := by decide +kernel
theorem dX3_init_5 : decode cX3_init 5 = .ok (.sipush 432, 3) := by decide +kernel
theorem dX3_init_8 : decode cX3_init 8 = .ok (.anewarray 11, 3) := by decide +kernel
theorem dX3_init_11 : decode cX3_init 11 = .ok (.putfield 13, 3) := by decide +kernel
theorem dX3_init_14 : decode cX3_init 14 = .ok (.aload_n 0, 1) := by decide +kernel
theorem dX3_init_15 : decode cX3_init 15 = .ok (.bipush 48, 2) := by decide +kernel
theorem dX3_init_17 : decode cX3_init 17 = .ok (.newarray .int, 2) := by decide +kernel
theorem dX3_init_19 : decode cX3_init 19 = .ok (.putfield 17, 3) := by decide +kernel
theorem dX3_init_22 : decode cX3_init 22 = .ok (.aload_n 0, 1) := by decide +kernel
theorem dX3_init_23 : decode cX3_init 23 = .ok (.bipush 9, 2) := by decide +kernel
theorem dX3_init_25 : decode cX3_init 25 = .ok (.anewarray 11, 3) := by decide +kernel
theorem dX3_init_28 : decode cX3_init 28 = .ok (.putfield 21, 3) := by decide +kernel
theorem dX3_init_31 : decode cX3_init 31 = .ok (.aload_n 0, 1) := by decide +kernel
theorem dX3_init_32 : decode cX3_init 32 = .ok (.bipush 9, 2) := by decide +kernel
theorem dX3_init_34 : decode cX3_init 34 = .ok (.anewarray 11, 3) := by decide +kernel
theorem dX3_init_37 : decode cX3_init 37 = .ok (.putfield 24, 3) := by decide +kernel
theorem dX3_init_40 : decode cX3_init 40 = .ok (.aload_n 0, 1) := by decide +kernel
theorem dX3_init_41 : decode cX3_init 41 = .ok (.new 11, 3) := by decide +kernel
theorem dX3_init_44 : decode cX3_init 44 = .ok (.dup, 1) := by decide +kernel
theorem dX3_init_45 : decode cX3_init 45 = .ok (.bipush 100, 2) := by decide +kernel
theorem dX3_init_47 : decode cX3_init 47 = .ok (.invokespecial 29, 3) := by decide +kernel
theorem dX3_init_50 : decode cX3_init 50 = .ok (.putfield 32, 3) := by decide +kernel
theorem dX3_init_53 : decode cX3_init 53 = .ok (.aload_n 0, 1) := by decide +kernel
theorem dX3_init_54 : decode cX3_init 54 = .ok (.new 11, 3) := by decide +kernel
theorem dX3_init_57 : decode cX3_init 57 = .ok (.dup, 1) := by decide +kernel
theorem dX3_init_58 : decode cX3_init 58 = .ok (.bipush 100, 2) := by decide +kernel
theorem dX3_init_60 : decode cX3_init 60 = .ok (.invokespecial 29, 3) := by decide +kernel
theorem dX3_init_63 : decode cX3_init 63 = .ok (.putfield 36, 3) := by decide +kernel
theorem dX3_init_66 : decode cX3_init 66 = .ok (.aload_n 0, 1) := by decide +kernel
theorem dX3_init_67 : decode cX3_init 67 = .ok (.bipush 9, 2) := by decide +kernel
theorem dX3_init_69 : decode cX3_init 69 = .ok (.anewarray 11, 3) := by decide +kernel
theorem dX3_init_72 : decode cX3_init 72 = .ok (.putfield 39, 3) := by decide +kernel
theorem dX3_init_75 : decode cX3_init 75 = .ok (.aload_n 0, 1) := by decide +kernel
theorem dX3_init_76 : decode cX3_init 76 = .ok (.new 11, 3) := by decide +kernel
theorem dX3_init_79 : decode cX3_init 79 = .ok (.dup, 1) := by decide +kernel
theorem dX3_init_80 : decode cX3_init 80 = .ok (.bipush 7, 2) := by decide +kernel
theorem dX3_init_82 : decode cX3_init 82 = .ok (.invokespecial 29, 3) := by decide +kernel
theorem dX3_init_85 : decode cX3_init 85 = .ok (.putfield 42, 3) := by decide +kernel
theorem dX3_init_88 : decode cX3_init 88 = .ok (.aload_n 0, 1) := by decide +kernel
theorem dX3_init_89 : decode cX3_init 89 = .ok (.new 11, 3) := by decide +kernel
theorem dX3_init_92 : decode cX3_init 92 = .ok (.dup, 1) := by decide +kernel
theorem dX3_init_93 : decode cX3_init 93 = .ok (.bipush 7, 2) := by decide +kernel
theorem dX3_init_95 : decode cX3_init 95 = .ok (.invokespecial 29, 3) := by decide +kernel
theorem dX3_init_98 : decode cX3_init 98 = .ok (.putfield 45, 3) := by decide +kernel
theorem dX3_init_101 : decode cX3_init 101 = .ok (.aload_n 0, 1) := by decide +kernel
theorem dX3_init_102 : decode cX3_init 102 = .ok (.new 11, 3) := by decide +kernel
theorem dX3_init_105 : decode cX3_init 105 = .ok (.dup, 1) := by decide +kernel
theorem dX3_init_106 : decode cX3_init 106 = .ok (.bipush 7, 2) := by decide +kernel
theorem dX3_init_108 : decode cX3_init 108 = .ok (.invokespecial 29, 3) := by decide +kernel
theorem dX3_init_111 : decode cX3_init 111 = .ok (.putfield 48, 3) := by decide +kernel
theorem dX3_init_114 : decode cX3_init 114 = .ok (.aload_n 0, 1) := by decide +kernel
theorem dX3_init_115 : decode cX3_init 115 = .ok (.aload_n 1, 1) := by decide +kernel
theorem dX3_init_116 : decode cX3_init 116 = .ok (.putfield 51, 3) := by decide +kernel
theorem dX3_init_119 : decode cX3_init 119 = .ok (.aload_n 0, 1) := by decide +kernel
theorem dX3_init_120 : decode cX3_init 120 = .ok (.aload_n 2, 1) := by decide +kernel
theorem dX3_init_121 : decode cX3_init 121 = .ok (.putfield 55, 3) := by decide +kernel
theorem dX3_init_124 : decode cX3_init 124 = .ok (.iconst 0, 1) := by decide +kernel
theorem dX3_init_125 : decode cX3_init 125 = .ok (.istore_n 3, 1) := by decide +kernel
theorem dX3_init_126 : decode cX3_init 126 = .ok (.iload_n 3, 1) := by decide +kernel
theorem dX3_init_127 : decode cX3_init 127 = .ok (.sipush 432, 3) := by decide +kernel
theorem dX3_init_130 : decode cX3_init 130 = .ok (.if_icmp .ge 24, 3) := by decide +kernel
theorem dX3_init_133 : decode cX3_init 133 = .ok (.aload_n 0, 1) := by decide +kernel
theorem dX3_init_134 : decode cX3_init 134 = .ok (.getfield 13, 3) := by decide +kernel
theorem dX3_init_137 : decode cX3_init 137 = .ok (.iload_n 3, 1) := by decide +kernel
theorem dX3_init_138 : decode cX3_init 138 = .ok (.new 11, 3) := by decide +kernel
theorem dX3_init_141 : decode cX3_init 141 = .ok (.dup, 1) := by decide +kernel
theorem dX3_init_142 : decode cX3_init 142 = .ok (.bipush 7, 2) := by decide +kernel
theorem dX3_init_144 : decode cX3_init 144 = .ok (.invokespecial 29, 3) := by decide +kernel
theorem dX3_init_147 : decode cX3_init 147 = .ok (.aastore, 1) := by decide +kernel
theorem dX3_init_148 : decode cX3_init 148 = .ok (.iinc 3 1, 3) := by decide +kernel
theorem dX3_init_151 : decode cX3_init 151 = .ok (.goto (-25), 3) := by decide +kernel
theorem dX3_init_154 : decode cX3_init 154 = .ok (.iconst 0, 1) := by decide +kernel
theorem dX3_init_155 : decode cX3_init 155 = .ok (.istore_n 3, 1) := by decide +kernel
theorem dX3_init_156 : decode cX3_init 156 = .ok (.iload_n 3, 1) := by decide +kernel
theorem dX3_init_157 : decode cX3_init 157 = .ok (.bipush 9, 2) := by decide +kernel
theorem dX3_init_159 : decode cX3_init 159 = .ok (.if_icmp .ge 54, 3) := by decide +kernel
theorem dX3_init_162 : decode cX3_init 162 = .ok (.aload_n 0, 1) := by decide +kernel
theorem dX3_init_163 : decode cX3_init 163 = .ok (.getfield 21, 3) := by decide +kernel
theorem dX3_init_166 : decode cX3_init 166 = .ok (.iload_n 3, 1) := by decide +kernel
theorem dX3_init_167 : decode cX3_init 167 = .ok (.new 11, 3) := by decide +kernel
theorem dX3_init_170 : decode cX3_init 170 = .ok (.dup, 1) := by decide +kernel
theorem dX3_init_171 : decode cX3_init 171 = .ok (.bipush 100, 2) := by decide +kernel
theorem dX3_init_173 : decode cX3_init 173 = .ok (.invokespecial 29, 3) := by decide +kernel
theorem dX3_init_176 : decode cX3_init 176 = .ok (.aastore, 1) := by decide +kernel
theorem dX3_init_177 : decode cX3_init 177 = .ok (.aload_n 0, 1) := by decide +kernel
theorem dX3_init_178 : decode cX3_init 178 = .ok (.getfield 24, 3) := by decide +kernel
theorem dX3_init_181 : decode cX3_init 181 = .ok (.iload_n 3, 1) := by decide +kernel
theorem dX3_init_182 : decode cX3_init 182 = .ok (.new 11, 3) := by decide +kernel
theorem dX3_init_185 : decode cX3_init 185 = .ok (.dup, 1) := by decide +kernel
theorem dX3_init_186 : decode cX3_init 186 = .ok (.bipush 100, 2) := by decide +kernel
theorem dX3_init_188 : decode cX3_init 188 = .ok (.invokespecial 29, 3) := by decide +kernel
theorem dX3_init_191 : decode cX3_init 191 = .ok (.aastore, 1) := by decide +kernel
theorem dX3_init_192 : decode cX3_init 192 = .ok (.aload_n 0, 1) := by decide +kernel
theorem dX3_init_193 : decode cX3_init 193 = .ok (.getfield 39, 3) := by decide +kernel
theorem dX3_init_196 : decode cX3_init 196 = .ok (.iload_n 3, 1) := by decide +kernel
theorem dX3_init_197 : decode cX3_init 197 = .ok (.new 11, 3) := by decide +kernel
theorem dX3_init_200 : decode cX3_init 200 = .ok (.dup, 1) := by decide +kernel
theorem dX3_init_201 : decode cX3_init 201 = .ok (.bipush 7, 2) := by decide +kernel
theorem dX3_init_203 : decode cX3_init 203 = .ok (.invokespecial 29, 3) := by decide +kernel
theorem dX3_init_206 : decode cX3_init 206 = .ok (.aastore, 1) := by decide +kernel
theorem dX3_init_207 : decode cX3_init 207 = .ok (.iinc 3 1, 3) := by decide +kernel
theorem dX3_init_210 : decode cX3_init 210 = .ok (.goto (-54), 3) := by decide +kernel
theorem dX3_init_213 : decode cX3_init 213 = .ok (.return_, 1) := by decide +kernel
theorem dX4_init_0 : decode cX4_init 0 = .ok (.aload_n 0, 1) := by decide +kernel
theorem dX4_init_1 : decode cX4_init 1 = .ok (.invokespecial 3, 3) := by decide +kernel
theorem dX4_init_4 : decode cX4_init 4 = .ok (.aload_n 0, 1) := by decide +kernel
theorem dX4_init_5 : decode cX4_init 5 = .ok (.sipush 240, 3) := by decide +kernel
theorem dX4_init_8 : decode cX4_init 8 = .ok (.anewarray 11, 3) := by decide +kernel
theorem dX4_init_11 : decode cX4_init 11 = .ok (.putfield 13, 3) := by decide +kernel
theorem dX4_init_14 : decode cX4_init 14 = .ok (.aload_n 0, 1) := by decide +kernel
theorem dX4_init_15 : decode cX4_init 15 = .ok (.new 11, 3) := by decide +kernel
theorem dX4_init_18 : decode cX4_init 18 = .ok (.dup, 1) := by decide +kernel
theorem dX4_init_19 : decode cX4_init 19 = .ok (.bipush 100, 2) := by decide +kernel
theorem dX4_init_21 : decode cX4_init 21 = .ok (.invokespecial 19, 3) := by decide +kernel
theorem dX4_init_24 : decode cX4_init 24 = .ok (.putfield 22, 3) := by decide +kernel
theorem dX4_init_27 : decode cX4_init 27 = .ok (.aload_n 0, 1) := by decide +kernel
theorem dX4_init_28 : decode cX4_init 28 = .ok (.sipush 480, 3) := by decide +kernel
theorem dX4_init_31 : decode cX4_init 31 = .ok (.newarray .int, 2) := by decide +kernel
theorem dX4_init_33 : decode cX4_init 33 = .ok (.putfield 26, 3) := by decide +kernel
theorem dX4_init_36 : decode cX4_init 36 = .ok (.aload_n 0, 1) := by decide +kernel
theorem dX4_init_37 : decode cX4_init 37 = .ok (.sipush 480, 3) := by decide +kernel
theorem dX4_init_40 : decode cX4_init 40 = .ok (.anewarray 30, 3) := by decide +kernel
theorem dX4_init_43 : decode cX4_init 43 = .ok (.putfield 32, 3) := by decide +kernel
theorem dX4_init_46 : decode cX4_init 46 = .ok (.aload_n 0, 1) := by decide +kernel
theorem dX4_init_47 : decode cX4_init 47 = .ok (.sipush 480, 3) := by decide +kernel
theorem dX4_init_50 : decode cX4_init 50 = .ok (.newarray .int, 2) := by decide +kernel
theorem dX4_init_52 : decode cX4_init 52 = .ok (.putfield 36, 3) := by decide +kernel
theorem dX4_init_55 : decode cX4_init 55 = .ok (.aload_n 0, 1) := by decide +kernel
theorem dX4_init_56 : decode cX4_init 56 = .ok (.sipush 480, 3) := by decide +kernel
theorem dX4_init_59 : decode cX4_init 59 = .ok (.newarray .int, 2) := by decide +kernel
theorem dX4_init_61 : decode cX4_init 61 = .ok (.putfield 39, 3) := by decide +kernel
theorem dX4_init_64 : decode cX4_init 64 = .ok (.aload_n 0, 1) := by decide +kernel
theorem dX4_init_65 : decode cX4_init 65 = .ok (.sipush 480, 3) := by decide +kernel
theorem dX4_init_68 : decode cX4_init 68 = .ok (.newarray .int, 2) := by decide +kernel
theorem dX4_init_70 : decode cX4_init 70 = .ok (.putfield 42, 3) := by decide +kernel
theorem dX4_init_73 : decode cX4_init 73 = .ok (.aload_n 0, 1) := by decide +kernel
theorem dX4_init_74 : decode cX4_init 74 = .ok (.sipush 480, 3) := by decide +kernel
theorem dX4_init_77 : decode cX4_init 77 = .ok (.newarray .int, 2) := by decide +kernel
theorem dX4_init_79 : decode cX4_init 79 = .ok (.putfield 45, 3) := by decide +kernel
theorem dX4_init_82 : decode cX4_init 82 = .ok (.aload_n 0, 1) := by decide +kernel
theorem dX4_init_83 : decode cX4_init 83 = .ok (.sipush 240, 3) := by decide +kernel
theorem dX4_init_86 : decode cX4_init 86 = .ok (.newarray .int, 2) := by decide +kernel
theorem dX4_init_88 : decode cX4_init 88 = .ok (.putfield 48, 3) := by decide +kernel
theorem dX4_init_91 : decode cX4_init 91 = .ok (.aload_n 0, 1) := by decide +kernel
theorem dX4_init_92 : decode cX4_init 92 = .ok (.sipush 240, 3) := by decide +kernel
theorem dX4_init_95 : decode cX4_init 95 = .ok (.newarray .int, 2) := by decide +kernel
theorem dX4_init_97 : decode cX4_init 97 = .ok (.putfield 51, 3) := by decide +kernel
theorem dX4_init_100 : decode cX4_init 100 = .ok (.aload_n 0, 1) := by decide +kernel
theorem dX4_init_101 : decode cX4_init 101 = .ok (.sipush 240, 3) := by decide +kernel
theorem dX4_init_104 : decode cX4_init 104 = .ok (.newarray .int, 2) := by decide +kernel
theorem dX4_init_106 : decode cX4_init 106 = .ok (.putfield 54, 3) := by decide +kernel
theorem dX4_init_109 : decode cX4_init 109 = .ok (.aload_n 0, 1) := by decide +kernel
theorem dX4_init_110 : decode cX4_init 110 = .ok (.sipush 240, 3) := by decide +kernel
theorem dX4_init_113 : decode cX4_init 113 = .ok (.newarray .int, 2) := by decide +kernel
theorem dX4_init_115 : decode cX4_init 115 = .ok (.putfield 57, 3) := by decide +kernel
theorem dX4_init_118 : decode cX4_init 118 = .ok (.aload_n 0, 1) := by decide +kernel
theorem dX4_init_119 : decode cX4_init 119 = .ok (.aload_n 1, 1) := by decide +kernel
theorem dX4_init_120 : decode cX4_init 120 = .ok (.putfield 60, 3) := by decide +kernel
theorem dX4_init_123 : decode cX4_init 123 = .ok (.aload_n 0, 1) := by decide +kernel
theorem dX4_init_124 : decode cX4_init 124 = .ok (.aload_n 2, 1) := by decide +kernel
theorem dX4_init_125 : decode cX4_init 125 = .ok (.putfield 64, 3) := by decide +kernel
theorem dX4_init_128 : decode cX4_init 128 = .ok (.iconst 0, 1) := by decide +kernel
theorem dX4_init_129 : decode cX4_init 129 = .ok (.istore_n 3, 1) := by decide +kernel
theorem dX4_init_130 : decode cX4_init 130 = .ok (.iload_n 3, 1) := by decide +kernel
theorem dX4_init_131 : decode cX4_init 131 = .ok (.sipush 240, 3) := by decide +kernel
theorem dX4_init_134 : decode cX4_init 134 = .ok (.if_icmp .ge 24, 3) := by decide +kernel
theorem dX4_init_137 : decode cX4_init 137 = .ok (.aload_n 0, 1) := by decide +kernel
theorem dX4_init_138 : decode cX4_init 138 = .ok (.getfield 13, 3) := by decide +kernel
theorem dX4_init_141 : decode cX4_init 141 = .ok (.iload_n 3, 1) := by decide +kernel
theorem dX4_init_142 : decode cX4_init 142 = .ok (.new 11, 3) := by decide +kernel
theorem dX4_init_145 : decode cX4_init 145 = .ok (.dup, 1) := by decide +kernel
theorem dX4_init_146 : decode cX4_init 146 = .ok (.bipush 7, 2) := by decide +kernel
theorem dX4_init_148 : decode cX4_init 148 = .ok (.invokespecial 19, 3) := by decide +kernel
theorem dX4_init_151 : decode cX4_init 151 = .ok (.aastore, 1) := by decide +kernel
theorem dX4_init_152 : decode cX4_init 152 = .ok (.iinc 3 1, 3) := by decide +kernel
theorem dX4_init_155 : decode cX4_init 155 = .ok (.goto (-25), 3) := by decide +kernel
theorem dX4_init_158 : decode cX4_init 158 = .ok (.return_, 1) := by decide +kernel
theorem dX4_restart_0 : decode cX4_restart 0 = .ok (.aload_n 0, 1) := by decide +kernel
theorem dX4_restart_1 : decode cX4_restart 1 = .ok (.iconst 0, 1) := by decide +kernel
theorem dX4_restart_2 : decode cX4_restart 2 = .ok (.putfield 68, 3) := by decide +kernel
theorem dX4_restart_5 : decode cX4_restart 5 = .ok (.aload_n 0, 1) := by decide +kernel
theorem dX4_restart_6 : decode cX4_restart 6 = .ok (.iconst 0, 1) := by decide +kernel
theorem dX4_restart_7 : decode cX4_restart 7 = .ok (.putfield 72, 3) := by decide +kernel
theorem dX4_restart_10 : decode cX4_restart 10 = .ok (.aload_n 0, 1) := by decide +kernel
theorem dX4_restart_11 : decode cX4_restart 11 = .ok (.iconst 0, 1) := by decide +kernel
theorem dX4_restart_12 : decode cX4_restart 12 = .ok (.putfield 75, 3) := by decide +kernel
theorem dX4_restart_15 : decode cX4_restart 15 = .ok (.aload_n 0, 1) := by decide +kernel
theorem dX4_restart_16 : decode cX4_restart 16 = .ok (.iconst 0, 1) := by decide +kernel
theorem dX4_restart_17 : decode cX4_restart 17 = .ok (.putfield 78, 3) := by decide +kernel
theorem dX4_restart_20 : decode cX4_restart 20 = .ok (.aload_n 0, 1) := by decide +kernel
theorem dX4_restart_21 : decode cX4_restart 21 = .ok (.iconst 0, 1) := by decide +kernel
theorem dX4_restart_22 : decode cX4_restart 22 = .ok (.putfield 81, 3) := by decide +kernel
theorem dX4_restart_25 : decode cX4_restart 25 = .ok (.return_, 1) := by decide +kernel
theorem dX4_startTree_0 : decode cX4_startTree 0 = .ok (.aload_n 0, 1) := by decide +kernel
theorem dX4_startTree_1 : decode cX4_startTree 1 = .ok (.invokevirtual 84, 3) := by decide +kernel
theorem dX4_startTree_4 : decode cX4_startTree 4 = .ok (.aload_n 0, 1) := by decide +kernel
theorem dX4_startTree_5 : decode cX4_startTree 5 = .ok (.aload_n 1, 1) := by decide +kernel
theorem dX4_startTree_6 : decode cX4_startTree 6 = .ok (.iconst 0, 1) := by decide +kernel
theorem dX4_startTree_7 : decode cX4_startTree 7 = .ok (.iconst (-1), 1) := by decide +kernel
theorem dX4_startTree_8 : decode cX4_startTree 8 = .ok (.invokevirtual 87, 3) := by decide +kernel
theorem dX4_startTree_11 : decode cX4_startTree 11 = .ok (.pop, 1) := by decide +kernel
theorem dX4_startTree_12 : decode cX4_startTree 12 = .ok (.return_, 1) := by decide +kernel
theorem dX4_startLine_0 : decode cX4_startLine 0 = .ok (.aload_n 0, 1) := by decide +kernel
theorem dX4_startLine_1 : decode cX4_startLine 1 = .ok (.invokevirtual 84, 3) := by decide +kernel
theorem dX4_startLine_4 : decode cX4_startLine 4 = .ok (.aload_n 0, 1) := by decide +kernel
theorem dX4_startLine_5 : decode cX4_startLine 5 = .ok (.iconst 4, 1) := by decide +kernel
theorem dX4_startLine_6 : decode cX4_startLine 6 = .ok (.aload_n 1, 1) := by decide +kernel
theorem dX4_startLine_7 : decode cX4_startLine 7 = .ok (.iconst 0, 1) := by decide +kernel
theorem dX4_startLine_8 : decode cX4_startLine 8 = .ok (.iconst (-1), 1) := by decide +kernel
theorem dX4_startLine_9 : decode cX4_startLine 9 = .ok (.invokevirtual 91, 3) := by decide +kernel
theorem dX4_startLine_12 : decode cX4_startLine 12 = .ok (.pop, 1) := by decide +kernel
theorem dX4_startLine_13 : decode cX4_startLine 13 = .ok (.return_, 1) := by decide +kernel
theorem dX4_result_0 : decode cX4_result 0 = .ok (.aload_n 0, 1) := by decide +kernel
theorem dX4_result_1 : decode cX4_result 1 = .ok (.getfield 13, 3) := by decide +kernel
theorem dX4_result_4 : decode cX4_result 4 = .ok (.iconst 0, 1) := by decide +kernel
theorem dX4_result_5 : decode cX4_result 5 = .ok (.aaload, 1) := by decide +kernel
theorem dX4_result_6 : decode cX4_result 6 = .ok (.areturn, 1) := by decide +kernel
theorem dX4_fromTop_0 : decode cX4_fromTop 0 = .ok (.aload_n 0, 1) := by decide +kernel
theorem dX4_fromTop_1 : decode cX4_fromTop 1 = .ok (.getfield 68, 3) := by decide +kernel
theorem dX4_fromTop_4 : decode cX4_fromTop 4 = .ok (.iconst 1, 1) := by decide +kernel
theorem dX4_fromTop_5 : decode cX4_fromTop 5 = .ok (.isub, 1) := by decide +kernel
theorem dX4_fromTop_6 : decode cX4_fromTop 6 = .ok (.iload_n 1, 1) := by decide +kernel
theorem dX4_fromTop_7 : decode cX4_fromTop 7 = .ok (.isub, 1) := by decide +kernel
theorem dX4_fromTop_8 : decode cX4_fromTop 8 = .ok (.istore_n 2, 1) := by decide +kernel
theorem dX4_fromTop_9 : decode cX4_fromTop 9 = .ok (.aload_n 0, 1) := by decide +kernel
theorem dX4_fromTop_10 : decode cX4_fromTop 10 = .ok (.getfield 13, 3) := by decide +kernel
theorem dX4_fromTop_13 : decode cX4_fromTop 13 = .ok (.iload_n 2, 1) := by decide +kernel
theorem dX4_fromTop_14 : decode cX4_fromTop 14 = .ok (.ifCond .lt 14, 3) := by decide +kernel
theorem dX4_fromTop_17 : decode cX4_fromTop 17 = .ok (.iload_n 2, 1) := by decide +kernel
theorem dX4_fromTop_18 : decode cX4_fromTop 18 = .ok (.sipush 240, 3) := by decide +kernel
theorem dX4_fromTop_21 : decode cX4_fromTop 21 = .ok (.if_icmp .ge 7, 3) := by decide +kernel
theorem dX4_fromTop_24 : decode cX4_fromTop 24 = .ok (.iload_n 2, 1) := by decide +kernel
theorem dX4_fromTop_25 : decode cX4_fromTop 25 = .ok (.goto 4, 3) := by decide +kernel
theorem dX4_fromTop_28 : decode cX4_fromTop 28 = .ok (.iconst 0, 1) := by decide +kernel
theorem dX4_fromTop_29 : decode cX4_fromTop 29 = .ok (.aaload, 1) := by decide +kernel
theorem dX4_fromTop_30 : decode cX4_fromTop 30 = .ok (.areturn, 1) := by decide +kernel
theorem dX4_begin_0 : decode cX4_begin 0 = .ok (.aload_n 1, 1) := by decide +kernel
theorem dX4_begin_1 : decode cX4_begin 1 = .ok (.iload_n 2, 1) := by decide +kernel
theorem dX4_begin_2 : decode cX4_begin 2 = .ok (.bipush 105, 2) := by decide +kernel
theorem dX4_begin_4 : decode cX4_begin 4 = .ok (.invokevirtual 95, 3) := by decide +kernel
theorem dX4_begin_7 : decode cX4_begin 7 = .ok (.ifCond .eq 7, 3) := by decide +kernel
theorem dX4_begin_10 : decode cX4_begin 10 = .ok (.iconst 1, 1) := by decide +kernel
theorem dX4_begin_11 : decode cX4_begin 11 = .ok (.goto 18, 3) := by decide +kernel
theorem dX4_begin_14 : decode cX4_begin 14 = .ok (.aload_n 1, 1) := by decide +kernel
theorem dX4_begin_15 : decode cX4_begin 15 = .ok (.iload_n 2, 1) := by decide +kernel
theorem dX4_begin_16 : decode cX4_begin 16 = .ok (.bipush 115, 2) := by decide +kernel
theorem dX4_begin_18 : decode cX4_begin 18 = .ok (.invokevirtual 95, 3) := by decide +kernel
theorem dX4_begin_21 : decode cX4_begin 21 = .ok (.ifCond .eq 7, 3) := by decide +kernel
theorem dX4_begin_24 : decode cX4_begin 24 = .ok (.iconst 2, 1) := by decide +kernel
theorem dX4_begin_25 : decode cX4_begin 25 = .ok (.goto 4, 3) := by decide +kernel
theorem dX4_begin_28 : decode cX4_begin 28 = .ok (.iconst 0, 1) := by decide +kernel
theorem dX4_begin_29 : decode cX4_begin 29 = .ok (.istore 4, 2) := by decide +kernel
theorem dX4_begin_31 : decode cX4_begin 31 = .ok (.aload_n 0, 1) := by decide +kernel
theorem dX4_begin_32 : decode cX4_begin 32 = .ok (.iload 4, 2) := by decide +kernel
theorem dX4_begin_34 : decode cX4_begin 34 = .ok (.aload_n 1, 1) := by decide +kernel
theorem dX4_begin_35 : decode cX4_begin 35 = .ok (.iload_n 2, 1) := by decide +kernel
theorem dX4_begin_36 : decode cX4_begin 36 = .ok (.iload_n 3, 1) := by decide +kernel
theorem dX4_begin_37 : decode cX4_begin 37 = .ok (.invokevirtual 91, 3) := by decide +kernel
theorem dX4_begin_40 : decode cX4_begin 40 = .ok (.ireturn, 1) := by decide +kernel
theorem dX4_addTask_0 : decode cX4_addTask 0 = .ok (.aload_n 0, 1) := by decide +kernel
theorem dX4_addTask_1 : decode cX4_addTask 1 = .ok (.getfield 75, 3) := by decide +kernel
theorem dX4_addTask_4 : decode cX4_addTask 4 = .ok (.sipush 480, 3) := by decide +kernel
theorem dX4_addTask_7 : decode cX4_addTask 7 = .ok (.if_icmp .lt 6, 3) := by decide +kernel
theorem dX4_addTask_10 : decode cX4_addTask 10 = .ok (.bipush 9, 2) := by decide +kernel
theorem dX4_addTask_12 : decode cX4_addTask 12 = .ok (.ireturn, 1) := by decide +kernel
theorem dX4_addTask_13 : decode cX4_addTask 13 = .ok (.aload_n 0, 1) := by decide +kernel
theorem dX4_addTask_14 : decode cX4_addTask 14 = .ok (.getfield 26, 3) := by decide +kernel
theorem dX4_addTask_17 : decode cX4_addTask 17 = .ok (.aload_n 0, 1) := by decide +kernel
theorem dX4_addTask_18 : decode cX4_addTask 18 = .ok (.getfield 75, 3) := by decide +kernel
theorem dX4_addTask_21 : decode cX4_addTask 21 = .ok (.iload_n 1, 1) := by decide +kernel
theorem dX4_addTask_22 : decode cX4_addTask 22 = .ok (.iastore, 1) := by decide +kernel
theorem dX4_addTask_23 : decode cX4_addTask 23 = .ok (.aload_n 0, 1) := by decide +kernel
theorem dX4_addTask_24 : decode cX4_addTask 24 = .ok (.getfield 32, 3) := by decide +kernel
theorem dX4_addTask_27 : decode cX4_addTask 27 = .ok (.aload_n 0, 1) := by decide +kernel
theorem dX4_addTask_28 : decode cX4_addTask 28 = .ok (.getfield 75, 3) := by decide +kernel
theorem dX4_addTask_31 : decode cX4_addTask 31 = .ok (.aload_n 2, 1) := by decide +kernel
theorem dX4_addTask_32 : decode cX4_addTask 32 = .ok (.aastore, 1) := by decide +kernel
theorem dX4_addTask_33 : decode cX4_addTask 33 = .ok (.aload_n 0, 1) := by decide +kernel
theorem dX4_addTask_34 : decode cX4_addTask 34 = .ok (.getfield 36, 3) := by decide +kernel
theorem dX4_addTask_37 : decode cX4_addTask 37 = .ok (.aload_n 0, 1) := by decide +kernel
theorem dX4_addTask_38 : decode cX4_addTask 38 = .ok (.getfield 75, 3) := by decide +kernel
theorem dX4_addTask_41 : decode cX4_addTask 41 = .ok (.iload_n 3, 1) := by decide +kernel
theorem dX4_addTask_42 : decode cX4_addTask 42 = .ok (.iastore, 1) := by decide +kernel
theorem dX4_addTask_43 : decode cX4_addTask 43 = .ok (.aload_n 0, 1) := by decide +kernel
theorem dX4_addTask_44 : decode cX4_addTask 44 = .ok (.getfield 39, 3) := by decide +kernel
theorem dX4_addTask_47 : decode cX4_addTask 47 = .ok (.aload_n 0, 1) := by decide +kernel
theorem dX4_addTask_48 : decode cX4_addTask 48 = .ok (.getfield 75, 3) := by decide +kernel
theorem dX4_addTask_51 : decode cX4_addTask 51 = .ok (.iconst 0, 1) := by decide +kernel
theorem dX4_addTask_52 : decode cX4_addTask 52 = .ok (.iastore, 1) := by decide +kernel
theorem dX4_addTask_53 : decode cX4_addTask 53 = .ok (.aload_n 0, 1) := by decide +kernel
theorem dX4_addTask_54 : decode cX4_addTask 54 = .ok (.getfield 42, 3) := by decide +kernel
theorem dX4_addTask_57 : decode cX4_addTask 57 = .ok (.aload_n 0, 1) := by decide +kernel
theorem dX4_addTask_58 : decode cX4_addTask 58 = .ok (.getfield 75, 3) := by decide +kernel
theorem dX4_addTask_61 : decode cX4_addTask 61 = .ok (.iload 4, 2) := by decide +kernel
theorem dX4_addTask_63 : decode cX4_addTask 63 = .ok (.iastore, 1) := by decide +kernel
theorem dX4_addTask_64 : decode cX4_addTask 64 = .ok (.aload_n 0, 1) := by decide +kernel
theorem dX4_addTask_65 : decode cX4_addTask 65 = .ok (.getfield 45, 3) := by decide +kernel
theorem dX4_addTask_68 : decode cX4_addTask 68 = .ok (.aload_n 0, 1) := by decide +kernel
theorem dX4_addTask_69 : decode cX4_addTask 69 = .ok (.getfield 75, 3) := by decide +kernel
theorem dX4_addTask_72 : decode cX4_addTask 72 = .ok (.iconst (-1), 1) := by decide +kernel
theorem dX4_addTask_73 : decode cX4_addTask 73 = .ok (.iastore, 1) := by decide +kernel
theorem dX4_addTask_74 : decode cX4_addTask 74 = .ok (.aload_n 0, 1) := by decide +kernel
theorem dX4_addTask_75 : decode cX4_addTask 75 = .ok (.dup, 1) := by decide +kernel
theorem dX4_addTask_76 : decode cX4_addTask 76 = .ok (.getfield 75, 3) := by decide +kernel
theorem dX4_addTask_79 : decode cX4_addTask 79 = .ok (.iconst 1, 1) := by decide +kernel
theorem dX4_addTask_80 : decode cX4_addTask 80 = .ok (.iadd, 1) := by decide +kernel
theorem dX4_addTask_81 : decode cX4_addTask 81 = .ok (.putfield 75, 3) := by decide +kernel
theorem dX4_addTask_84 : decode cX4_addTask 84 = .ok (.iconst 0, 1) := by decide +kernel
theorem dX4_addTask_85 : decode cX4_addTask 85 = .ok (.ireturn, 1) := by decide +kernel
theorem dX4_work_0 : decode cX4_work 0 = .ok (.iconst 0, 1) := by decide +kernel
theorem dX4_work_1 : decode cX4_work 1 = .ok (.istore_n 1, 1) := by decide +kernel
theorem dX4_work_2 : decode cX4_work 2 = .ok (.iconst 0, 1) := by decide +kernel
theorem dX4_work_3 : decode cX4_work 3 = .ok (.istore_n 2, 1) := by decide +kernel
theorem dX4_work_4 : decode cX4_work 4 = .ok (.iload_n 2, 1) := by decide +kernel
theorem dX4_work_5 : decode cX4_work 5 = .ok (.ldc 99, 2) := by decide +kernel
theorem dX4_work_7 : decode cX4_work 7 = .ok (.if_icmp .ge 240, 3) := by decide +kernel
theorem dX4_work_10 : decode cX4_work 10 = .ok (.aload_n 0, 1) := by decide +kernel
theorem dX4_work_11 : decode cX4_work 11 = .ok (.getfield 75, 3) := by decide +kernel
theorem dX4_work_14 : decode cX4_work 14 = .ok (.ifCond .le 233, 3) := by decide +kernel
theorem dX4_work_17 : decode cX4_work 17 = .ok (.iload_n 1, 1) := by decide +kernel
theorem dX4_work_18 : decode cX4_work 18 = .ok (.ifCond .ne 229, 3) := by decide +kernel
theorem dX4_work_21 : decode cX4_work 21 = .ok (.aload_n 0, 1) := by decide +kernel
theorem dX4_work_22 : decode cX4_work 22 = .ok (.getfield 75, 3) := by decide +kernel
theorem dX4_work_25 : decode cX4_work 25 = .ok (.iconst 1, 1) := by decide +kernel
theorem dX4_work_26 : decode cX4_work 26 = .ok (.isub, 1) := by decide +kernel
theorem dX4_work_27 : decode cX4_work 27 = .ok (.istore_n 3, 1) := by decide +kernel
theorem dX4_work_28 : decode cX4_work 28 = .ok (.aload_n 0, 1) := by decide +kernel
theorem dX4_work_29 : decode cX4_work 29 = .ok (.getfield 32, 3) := by decide +kernel
theorem dX4_work_32 : decode cX4_work 32 = .ok (.iload_n 3, 1) := by decide +kernel
theorem dX4_work_33 : decode cX4_work 33 = .ok (.aaload, 1) := by decide +kernel
theorem dX4_work_34 : decode cX4_work 34 = .ok (.astore 4, 2) := by decide +kernel
theorem dX4_work_36 : decode cX4_work 36 = .ok (.aload_n 0, 1) := by decide +kernel
theorem dX4_work_37 : decode cX4_work 37 = .ok (.getfield 36, 3) := by decide +kernel
theorem dX4_work_40 : decode cX4_work 40 = .ok (.iload_n 3, 1) := by decide +kernel
theorem dX4_work_41 : decode cX4_work 41 = .ok (.iaload, 1) := by decide +kernel
theorem dX4_work_42 : decode cX4_work 42 = .ok (.istore 5, 2) := by decide +kernel
theorem dX4_work_44 : decode cX4_work 44 = .ok (.aload_n 0, 1) := by decide +kernel
theorem dX4_work_45 : decode cX4_work 45 = .ok (.getfield 39, 3) := by decide +kernel
theorem dX4_work_48 : decode cX4_work 48 = .ok (.iload_n 3, 1) := by decide +kernel
theorem dX4_work_49 : decode cX4_work 49 = .ok (.iaload, 1) := by decide +kernel
theorem dX4_work_50 : decode cX4_work 50 = .ok (.istore 6, 2) := by decide +kernel
theorem dX4_work_52 : decode cX4_work 52 = .ok (.aload 4, 2) := by decide +kernel
theorem dX4_work_54 : decode cX4_work 54 = .ok (.ifnull 13, 3) := by decide +kernel
theorem dX4_work_57 : decode cX4_work 57 = .ok (.aload_n 0, 1) := by decide +kernel
theorem dX4_work_58 : decode cX4_work 58 = .ok (.getfield 26, 3) := by decide +kernel
theorem dX4_work_61 : decode cX4_work 61 = .ok (.iload_n 3, 1) := by decide +kernel
theorem dX4_work_62 : decode cX4_work 62 = .ok (.iaload, 1) := by decide +kernel
theorem dX4_work_63 : decode cX4_work 63 = .ok (.iconst 3, 1) := by decide +kernel
theorem dX4_work_64 : decode cX4_work 64 = .ok (.if_icmp .ne 14, 3) := by decide +kernel
theorem dX4_work_67 : decode cX4_work 67 = .ok (.aload_n 0, 1) := by decide +kernel
theorem dX4_work_68 : decode cX4_work 68 = .ok (.iload_n 3, 1) := by decide +kernel
theorem dX4_work_69 : decode cX4_work 69 = .ok (.iload 5, 2) := by decide +kernel
theorem dX4_work_71 : decode cX4_work 71 = .ok (.invokevirtual 100, 3) := by decide +kernel
theorem dX4_work_74 : decode cX4_work 74 = .ok (.istore_n 1, 1) := by decide +kernel
theorem dX4_work_75 : decode cX4_work 75 = .ok (.goto 166, 3) := by decide +kernel
theorem dX4_work_78 : decode cX4_work 78 = .ok (.aload_n 0, 1) := by decide +kernel
theorem dX4_work_79 : decode cX4_work 79 = .ok (.getfield 26, 3) := by decide +kernel
theorem dX4_work_82 : decode cX4_work 82 = .ok (.iload_n 3, 1) := by decide +kernel
theorem dX4_work_83 : decode cX4_work 83 = .ok (.iaload, 1) := by decide +kernel
theorem dX4_work_84 : decode cX4_work 84 = .ok (.iconst 1, 1) := by decide +kernel
theorem dX4_work_85 : decode cX4_work 85 = .ok (.if_icmp .ne 16, 3) := by decide +kernel
theorem dX4_work_88 : decode cX4_work 88 = .ok (.aload_n 0, 1) := by decide +kernel
theorem dX4_work_89 : decode cX4_work 89 = .ok (.iload_n 3, 1) := by decide +kernel
theorem dX4_work_90 : decode cX4_work 90 = .ok (.aload 4, 2) := by decide +kernel
theorem dX4_work_92 : decode cX4_work 92 = .ok (.iload 5, 2) := by decide +kernel
theorem dX4_work_94 : decode cX4_work 94 = .ok (.invokevirtual 104, 3) := by decide +kernel
theorem dX4_work_97 : decode cX4_work 97 = .ok (.istore_n 1, 1) := by decide +kernel
theorem dX4_work_98 : decode cX4_work 98 = .ok (.goto 143, 3) := by decide +kernel
theorem dX4_work_101 : decode cX4_work 101 = .ok (.aload_n 0, 1) := by decide +kernel
theorem dX4_work_102 : decode cX4_work 102 = .ok (.getfield 26, 3) := by decide +kernel
theorem dX4_work_105 : decode cX4_work 105 = .ok (.iload_n 3, 1) := by decide +kernel
theorem dX4_work_106 : decode cX4_work 106 = .ok (.iaload, 1) := by decide +kernel
theorem dX4_work_107 : decode cX4_work 107 = .ok (.iconst 2, 1) := by decide +kernel
theorem dX4_work_108 : decode cX4_work 108 = .ok (.if_icmp .ne 16, 3) := by decide +kernel
theorem dX4_work_111 : decode cX4_work 111 = .ok (.aload_n 0, 1) := by decide +kernel
theorem dX4_work_112 : decode cX4_work 112 = .ok (.iload_n 3, 1) := by decide +kernel
theorem dX4_work_113 : decode cX4_work 113 = .ok (.aload 4, 2) := by decide +kernel
theorem dX4_work_115 : decode cX4_work 115 = .ok (.iload 5, 2) := by decide +kernel
theorem dX4_work_117 : decode cX4_work 117 = .ok (.invokevirtual 108, 3) := by decide +kernel
theorem dX4_work_120 : decode cX4_work 120 = .ok (.istore_n 1, 1) := by decide +kernel
theorem dX4_work_121 : decode cX4_work 121 = .ok (.goto 120, 3) := by decide +kernel
theorem dX4_work_124 : decode cX4_work 124 = .ok (.aload_n 0, 1) := by decide +kernel
theorem dX4_work_125 : decode cX4_work 125 = .ok (.getfield 26, 3) := by decide +kernel
theorem dX4_work_128 : decode cX4_work 128 = .ok (.iload_n 3, 1) := by decide +kernel
theorem dX4_work_129 : decode cX4_work 129 = .ok (.iaload, 1) := by decide +kernel
theorem dX4_work_130 : decode cX4_work 130 = .ok (.iconst 4, 1) := by decide +kernel
theorem dX4_work_131 : decode cX4_work 131 = .ok (.if_icmp .ne 41, 3) := by decide +kernel
theorem dX4_work_134 : decode cX4_work 134 = .ok (.iload 6, 2) := by decide +kernel
theorem dX4_work_136 : decode cX4_work 136 = .ok (.aload 4, 2) := by decide +kernel
theorem dX4_work_138 : decode cX4_work 138 = .ok (.getfield 111, 3) := by decide +kernel
theorem dX4_work_141 : decode cX4_work 141 = .ok (.if_icmp .ge 31, 3) := by decide +kernel
theorem dX4_work_144 : decode cX4_work 144 = .ok (.aload_n 0, 1) := by decide +kernel
theorem dX4_work_145 : decode cX4_work 145 = .ok (.getfield 39, 3) := by decide +kernel
theorem dX4_work_148 : decode cX4_work 148 = .ok (.iload_n 3, 1) := by decide +kernel
theorem dX4_work_149 : decode cX4_work 149 = .ok (.dup2, 1) := by decide +kernel
theorem dX4_work_150 : decode cX4_work 150 = .ok (.iaload, 1) := by decide +kernel
theorem dX4_work_151 : decode cX4_work 151 = .ok (.iconst 1, 1) := by decide +kernel
theorem dX4_work_152 : decode cX4_work 152 = .ok (.iadd, 1) := by decide +kernel
theorem dX4_work_153 : decode cX4_work 153 = .ok (.iastore, 1) := by decide +kernel
theorem dX4_work_154 : decode cX4_work 154 = .ok (.aload_n 0, 1) := by decide +kernel
theorem dX4_work_155 : decode cX4_work 155 = .ok (.aload 4, 2) := by decide +kernel
theorem dX4_work_157 : decode cX4_work 157 = .ok (.aload 4, 2) := by decide +kernel
theorem dX4_work_159 : decode cX4_work 159 = .ok (.iload 6, 2) := by decide +kernel
theorem dX4_work_161 : decode cX4_work 161 = .ok (.invokevirtual 114, 3) := by decide +kernel
theorem dX4_work_164 : decode cX4_work 164 = .ok (.iconst (-1), 1) := by decide +kernel
theorem dX4_work_165 : decode cX4_work 165 = .ok (.invokevirtual 118, 3) := by decide +kernel
theorem dX4_work_168 : decode cX4_work 168 = .ok (.istore_n 1, 1) := by decide +kernel
theorem dX4_work_169 : decode cX4_work 169 = .ok (.goto 72, 3) := by decide +kernel
theorem dX4_work_172 : decode cX4_work 172 = .ok (.aload_n 0, 1) := by decide +kernel
theorem dX4_work_173 : decode cX4_work 173 = .ok (.getfield 26, 3) := by decide +kernel
theorem dX4_work_176 : decode cX4_work 176 = .ok (.iload_n 3, 1) := by decide +kernel
theorem dX4_work_177 : decode cX4_work 177 = .ok (.iaload, 1) := by decide +kernel
theorem dX4_work_178 : decode cX4_work 178 = .ok (.ifCond .ne 29, 3) := by decide +kernel
theorem dX4_work_181 : decode cX4_work 181 = .ok (.iload 6, 2) := by decide +kernel
theorem dX4_work_183 : decode cX4_work 183 = .ok (.aload 4, 2) := by decide +kernel
theorem dX4_work_185 : decode cX4_work 185 = .ok (.getfield 121, 3) := by decide +kernel
theorem dX4_work_188 : decode cX4_work 188 = .ok (.iload 5, 2) := by decide +kernel
theorem dX4_work_190 : decode cX4_work 190 = .ok (.iaload, 1) := by decide +kernel
theorem dX4_work_191 : decode cX4_work 191 = .ok (.if_icmp .ge 16, 3) := by decide +kernel
theorem dX4_work_194 : decode cX4_work 194 = .ok (.aload_n 0, 1) := by decide +kernel
theorem dX4_work_195 : decode cX4_work 195 = .ok (.iload_n 3, 1) := by decide +kernel
theorem dX4_work_196 : decode cX4_work 196 = .ok (.aload 4, 2) := by decide +kernel
theorem dX4_work_198 : decode cX4_work 198 = .ok (.iload 5, 2) := by decide +kernel
theorem dX4_work_200 : decode cX4_work 200 = .ok (.invokevirtual 124, 3) := by decide +kernel
theorem dX4_work_203 : decode cX4_work 203 = .ok (.istore_n 1, 1) := by decide +kernel
theorem dX4_work_204 : decode cX4_work 204 = .ok (.goto 37, 3) := by decide +kernel
theorem dX4_work_207 : decode cX4_work 207 = .ok (.aload_n 0, 1) := by decide +kernel
theorem dX4_work_208 : decode cX4_work 208 = .ok (.iload_n 3, 1) := by decide +kernel
theorem dX4_work_209 : decode cX4_work 209 = .ok (.putfield 75, 3) := by decide +kernel
theorem dX4_work_212 : decode cX4_work 212 = .ok (.aload_n 0, 1) := by decide +kernel
theorem dX4_work_213 : decode cX4_work 213 = .ok (.getfield 26, 3) := by decide +kernel
theorem dX4_work_216 : decode cX4_work 216 = .ok (.iload_n 3, 1) := by decide +kernel
theorem dX4_work_217 : decode cX4_work 217 = .ok (.iaload, 1) := by decide +kernel
theorem dX4_work_218 : decode cX4_work 218 = .ok (.iconst 4, 1) := by decide +kernel
theorem dX4_work_219 : decode cX4_work 219 = .ok (.if_icmp .ne 7, 3) := by decide +kernel
theorem dX4_work_222 : decode cX4_work 222 = .ok (.iconst 0, 1) := by decide +kernel
theorem dX4_work_223 : decode cX4_work 223 = .ok (.goto 17, 3) := by decide +kernel
theorem dX4_work_226 : decode cX4_work 226 = .ok (.aload_n 0, 1) := by decide +kernel
theorem dX4_work_227 : decode cX4_work 227 = .ok (.aload 4, 2) := by decide +kernel
theorem dX4_work_229 : decode cX4_work 229 = .ok (.iload 5, 2) := by decide +kernel
theorem dX4_work_231 : decode cX4_work 231 = .ok (.aload_n 0, 1) := by decide +kernel
theorem dX4_work_232 : decode cX4_work 232 = .ok (.getfield 42, 3) := by decide +kernel
theorem dX4_work_235 : decode cX4_work 235 = .ok (.iload_n 3, 1) := by decide +kernel
theorem dX4_work_236 : decode cX4_work 236 = .ok (.iaload, 1) := by decide +kernel
theorem dX4_work_237 : decode cX4_work 237 = .ok (.invokevirtual 118, 3) := by decide +kernel
theorem dX4_work_240 : decode cX4_work 240 = .ok (.istore_n 1, 1) := by decide +kernel
theorem dX4_work_241 : decode cX4_work 241 = .ok (.iinc 2 1, 3) := by decide +kernel
theorem dX4_work_244 : decode cX4_work 244 = .ok (.goto (-240), 3) := by decide +kernel
theorem dX4_work_247 : decode cX4_work 247 = .ok (.iload_n 1, 1) := by decide +kernel
theorem dX4_work_248 : decode cX4_work 248 = .ok (.ifCond .ne 15, 3) := by decide +kernel
theorem dX4_work_251 : decode cX4_work 251 = .ok (.aload_n 0, 1) := by decide +kernel
theorem dX4_work_252 : decode cX4_work 252 = .ok (.getfield 75, 3) := by decide +kernel
theorem dX4_work_255 : decode cX4_work 255 = .ok (.ifCond .le 8, 3) := by decide +kernel
theorem dX4_work_258 : decode cX4_work 258 = .ok (.bipush 9, 2) := by decide +kernel
theorem dX4_work_260 : decode cX4_work 260 = .ok (.goto 4, 3) := by decide +kernel
theorem dX4_work_263 : decode cX4_work 263 = .ok (.iload_n 1, 1) := by decide +kernel
theorem dX4_work_264 : decode cX4_work 264 = .ok (.ireturn, 1) := by decide +kernel
theorem dX4_nextOperand_0 : decode cX4_nextOperand 0 = .ok (.aload_n 2, 1) := by decide +kernel
theorem dX4_nextOperand_1 : decode cX4_nextOperand 1 = .ok (.iload_n 3, 1) := by decide +kernel
theorem dX4_nextOperand_2 : decode cX4_nextOperand 2 = .ok (.aload_n 0, 1) := by decide +kernel
theorem dX4_nextOperand_3 : decode cX4_nextOperand 3 = .ok (.getfield 39, 3) := by decide +kernel
theorem dX4_nextOperand_6 : decode cX4_nextOperand 6 = .ok (.iload_n 1, 1) := by decide +kernel
theorem dX4_nextOperand_7 : decode cX4_nextOperand 7 = .ok (.iaload, 1) := by decide +kernel
theorem dX4_nextOperand_8 : decode cX4_nextOperand 8 = .ok (.invokevirtual 127, 3) := by decide +kernel
theorem dX4_nextOperand_11 : decode cX4_nextOperand 11 = .ok (.istore 4, 2) := by decide +kernel
theorem dX4_nextOperand_13 : decode cX4_nextOperand 13 = .ok (.aload_n 0, 1) := by decide +kernel
theorem dX4_nextOperand_14 : decode cX4_nextOperand 14 = .ok (.getfield 39, 3) := by decide +kernel
theorem dX4_nextOperand_17 : decode cX4_nextOperand 17 = .ok (.iload_n 1, 1) := by decide +kernel
theorem dX4_nextOperand_18 : decode cX4_nextOperand 18 = .ok (.dup2, 1) := by decide +kernel
theorem dX4_nextOperand_19 : decode cX4_nextOperand 19 = .ok (.iaload, 1) := by decide +kernel
theorem dX4_nextOperand_20 : decode cX4_nextOperand 20 = .ok (.iconst 1, 1) := by decide +kernel
theorem dX4_nextOperand_21 : decode cX4_nextOperand 21 = .ok (.iadd, 1) := by decide +kernel
theorem dX4_nextOperand_22 : decode cX4_nextOperand 22 = .ok (.iastore, 1) := by decide +kernel
theorem dX4_nextOperand_23 : decode cX4_nextOperand 23 = .ok (.aload_n 0, 1) := by decide +kernel
theorem dX4_nextOperand_24 : decode cX4_nextOperand 24 = .ok (.aload_n 2, 1) := by decide +kernel
theorem dX4_nextOperand_25 : decode cX4_nextOperand 25 = .ok (.iload 4, 2) := by decide +kernel
theorem dX4_nextOperand_27 : decode cX4_nextOperand 27 = .ok (.aload_n 0, 1) := by decide +kernel
theorem dX4_nextOperand_28 : decode cX4_nextOperand 28 = .ok (.getfield 42, 3) := by decide +kernel
theorem dX4_nextOperand_31 : decode cX4_nextOperand 31 = .ok (.iload_n 1, 1) := by decide +kernel
theorem dX4_nextOperand_32 : decode cX4_nextOperand 32 = .ok (.iaload, 1) := by decide +kernel
theorem dX4_nextOperand_33 : decode cX4_nextOperand 33 = .ok (.invokevirtual 87, 3) := by decide +kernel
theorem dX4_nextOperand_36 : decode cX4_nextOperand 36 = .ok (.ireturn, 1) := by decide +kernel
theorem dX4_countNode_0 : decode cX4_countNode 0 = .ok (.aload_n 0, 1) := by decide +kernel
theorem dX4_countNode_1 : decode cX4_countNode 1 = .ok (.getfield 72, 3) := by decide +kernel
theorem dX4_countNode_4 : decode cX4_countNode 4 = .ok (.sipush 200, 3) := by decide +kernel
theorem dX4_countNode_7 : decode cX4_countNode 7 = .ok (.if_icmp .lt 6, 3) := by decide +kernel
theorem dX4_countNode_10 : decode cX4_countNode 10 = .ok (.bipush 9, 2) := by decide +kernel
theorem dX4_countNode_12 : decode cX4_countNode 12 = .ok (.ireturn, 1) := by decide +kernel
theorem dX4_countNode_13 : decode cX4_countNode 13 = .ok (.aload_n 0, 1) := by decide +kernel
theorem dX4_countNode_14 : decode cX4_countNode 14 = .ok (.dup, 1) := by decide +kernel
theorem dX4_countNode_15 : decode cX4_countNode 15 = .ok (.getfield 72, 3) := by decide +kernel
theorem dX4_countNode_18 : decode cX4_countNode 18 = .ok (.iconst 1, 1) := by decide +kernel
theorem dX4_countNode_19 : decode cX4_countNode 19 = .ok (.iadd, 1) := by decide +kernel
theorem dX4_countNode_20 : decode cX4_countNode 20 = .ok (.putfield 72, 3) := by decide +kernel
theorem dX4_countNode_23 : decode cX4_countNode 23 = .ok (.iconst 0, 1) := by decide +kernel
theorem dX4_countNode_24 : decode cX4_countNode 24 = .ok (.ireturn, 1) := by decide +kernel
theorem dX4_give_0 : decode cX4_give 0 = .ok (.aload_n 0, 1) := by decide +kernel
theorem dX4_give_1 : decode cX4_give 1 = .ok (.getfield 72, 3) := by decide +kernel
theorem dX4_give_4 : decode cX4_give 4 = .ok (.sipush 200, 3) := by decide +kernel
theorem dX4_give_7 : decode cX4_give 7 = .ok (.if_icmp .ge 13, 3) := by decide +kernel
theorem dX4_give_10 : decode cX4_give 10 = .ok (.aload_n 0, 1) := by decide +kernel
theorem dX4_give_11 : decode cX4_give 11 = .ok (.getfield 68, 3) := by decide +kernel
theorem dX4_give_14 : decode cX4_give 14 = .ok (.sipush 240, 3) := by decide +kernel
theorem dX4_give_17 : decode cX4_give 17 = .ok (.if_icmp .lt 6, 3) := by decide +kernel
theorem dX4_give_20 : decode cX4_give 20 = .ok (.bipush 9, 2) := by decide +kernel
theorem dX4_give_22 : decode cX4_give 22 = .ok (.ireturn, 1) := by decide +kernel
theorem dX4_give_23 : decode cX4_give 23 = .ok (.aload_n 0, 1) := by decide +kernel
theorem dX4_give_24 : decode cX4_give 24 = .ok (.dup, 1) := by decide +kernel
theorem dX4_give_25 : decode cX4_give 25 = .ok (.getfield 72, 3) := by decide +kernel
theorem dX4_give_28 : decode cX4_give 28 = .ok (.iconst 1, 1) := by decide +kernel
theorem dX4_give_29 : decode cX4_give 29 = .ok (.iadd, 1) := by decide +kernel
theorem dX4_give_30 : decode cX4_give 30 = .ok (.putfield 72, 3) := by decide +kernel
theorem dX4_give_33 : decode cX4_give 33 = .ok (.aload_n 1, 1) := by decide +kernel
theorem dX4_give_34 : decode cX4_give 34 = .ok (.getfield 130, 3) := by decide +kernel
theorem dX4_give_37 : decode cX4_give 37 = .ok (.iload_n 2, 1) := by decide +kernel
theorem dX4_give_38 : decode cX4_give 38 = .ok (.iaload, 1) := by decide +kernel
theorem dX4_give_39 : decode cX4_give 39 = .ok (.istore 4, 2) := by decide +kernel
theorem dX4_give_41 : decode cX4_give 41 = .ok (.aload_n 1, 1) := by decide +kernel
theorem dX4_give_42 : decode cX4_give 42 = .ok (.getfield 133, 3) := by decide +kernel
theorem dX4_give_45 : decode cX4_give 45 = .ok (.iload_n 2, 1) := by decide +kernel
theorem dX4_give_46 : decode cX4_give 46 = .ok (.iaload, 1) := by decide +kernel
theorem dX4_give_47 : decode cX4_give 47 = .ok (.tableswitch 76 0 2 #[25, 52, 60], 25) := by decide +kernel
theorem dX4_give_72 : decode cX4_give 72 = .ok (.aload_n 0, 1) := by decide +kernel
theorem dX4_give_73 : decode cX4_give 73 = .ok (.getfield 13, 3) := by decide +kernel
theorem dX4_give_76 : decode cX4_give 76 = .ok (.aload_n 0, 1) := by decide +kernel
theorem dX4_give_77 : decode cX4_give 77 = .ok (.getfield 68, 3) := by decide +kernel
theorem dX4_give_80 : decode cX4_give 80 = .ok (.aaload, 1) := by decide +kernel
theorem dX4_give_81 : decode cX4_give 81 = .ok (.iload 4, 2) := by decide +kernel
theorem dX4_give_83 : decode cX4_give 83 = .ok (.i2l, 1) := by decide +kernel
theorem dX4_give_84 : decode cX4_give 84 = .ok (.invokevirtual 136, 3) := by decide +kernel
theorem dX4_give_87 : decode cX4_give 87 = .ok (.aload_n 0, 1) := by decide +kernel
theorem dX4_give_88 : decode cX4_give 88 = .ok (.dup, 1) := by decide +kernel
theorem dX4_give_89 : decode cX4_give 89 = .ok (.getfield 68, 3) := by decide +kernel
theorem dX4_give_92 : decode cX4_give 92 = .ok (.iconst 1, 1) := by decide +kernel
theorem dX4_give_93 : decode cX4_give 93 = .ok (.iadd, 1) := by decide +kernel
theorem dX4_give_94 : decode cX4_give 94 = .ok (.putfield 68, 3) := by decide +kernel
theorem dX4_give_97 : decode cX4_give 97 = .ok (.iconst 0, 1) := by decide +kernel
theorem dX4_give_98 : decode cX4_give 98 = .ok (.ireturn, 1) := by decide +kernel
theorem dX4_give_99 : decode cX4_give 99 = .ok (.aload_n 0, 1) := by decide +kernel
theorem dX4_give_100 : decode cX4_give 100 = .ok (.iload 4, 2) := by decide +kernel
theorem dX4_give_102 : decode cX4_give 102 = .ok (.iload_n 3, 1) := by decide +kernel
theorem dX4_give_103 : decode cX4_give 103 = .ok (.invokevirtual 140, 3) := by decide +kernel
theorem dX4_give_106 : decode cX4_give 106 = .ok (.ireturn, 1) := by decide +kernel
theorem dX4_give_107 : decode cX4_give 107 = .ok (.aload_n 0, 1) := by decide +kernel
theorem dX4_give_108 : decode cX4_give 108 = .ok (.iload 4, 2) := by decide +kernel
theorem dX4_give_110 : decode cX4_give 110 = .ok (.bipush 97, 2) := by decide +kernel
theorem dX4_give_112 : decode cX4_give 112 = .ok (.isub, 1) := by decide +kernel
theorem dX4_give_113 : decode cX4_give 113 = .ok (.aload_n 1, 1) := by decide +kernel
theorem dX4_give_114 : decode cX4_give 114 = .ok (.getfield 121, 3) := by decide +kernel
theorem dX4_give_117 : decode cX4_give 117 = .ok (.iload_n 2, 1) := by decide +kernel
theorem dX4_give_118 : decode cX4_give 118 = .ok (.iaload, 1) := by decide +kernel
theorem dX4_give_119 : decode cX4_give 119 = .ok (.invokevirtual 143, 3) := by decide +kernel
theorem dX4_give_122 : decode cX4_give 122 = .ok (.ireturn, 1) := by decide +kernel
theorem dX4_give_123 : decode cX4_give 123 = .ok (.aload_n 0, 1) := by decide +kernel
theorem dX4_give_124 : decode cX4_give 124 = .ok (.getfield 60, 3) := by decide +kernel
theorem dX4_give_127 : decode cX4_give 127 = .ok (.iload 4, 2) := by decide +kernel
theorem dX4_give_129 : decode cX4_give 129 = .ok (.aload_n 1, 1) := by decide +kernel
theorem dX4_give_130 : decode cX4_give 130 = .ok (.getfield 146, 3) := by decide +kernel
theorem dX4_give_133 : decode cX4_give 133 = .ok (.iload_n 2, 1) := by decide +kernel
theorem dX4_give_134 : decode cX4_give 134 = .ok (.iaload, 1) := by decide +kernel
theorem dX4_give_135 : decode cX4_give 135 = .ok (.invokevirtual 149, 3) := by decide +kernel
theorem dX4_give_138 : decode cX4_give 138 = .ok (.istore 5, 2) := by decide +kernel
theorem dX4_give_140 : decode cX4_give 140 = .ok (.iload 5, 2) := by decide +kernel
theorem dX4_give_142 : decode cX4_give 142 = .ok (.bipush 100, 2) := by decide +kernel
theorem dX4_give_144 : decode cX4_give 144 = .ok (.if_icmp .lt 21, 3) := by decide +kernel
theorem dX4_give_147 : decode cX4_give 147 = .ok (.aload_n 0, 1) := by decide +kernel
theorem dX4_give_148 : decode cX4_give 148 = .ok (.iload 5, 2) := by decide +kernel
theorem dX4_give_150 : decode cX4_give 150 = .ok (.bipush 100, 2) := by decide +kernel
theorem dX4_give_152 : decode cX4_give 152 = .ok (.isub, 1) := by decide +kernel
theorem dX4_give_153 : decode cX4_give 153 = .ok (.aload_n 1, 1) := by decide +kernel
theorem dX4_give_154 : decode cX4_give 154 = .ok (.getfield 121, 3) := by decide +kernel
theorem dX4_give_157 : decode cX4_give 157 = .ok (.iload_n 2, 1) := by decide +kernel
theorem dX4_give_158 : decode cX4_give 158 = .ok (.iaload, 1) := by decide +kernel
theorem dX4_give_159 : decode cX4_give 159 = .ok (.invokevirtual 143, 3) := by decide +kernel
theorem dX4_give_162 : decode cX4_give 162 = .ok (.goto 9, 3) := by decide +kernel
theorem dX4_give_165 : decode cX4_give 165 = .ok (.aload_n 0, 1) := by decide +kernel
theorem dX4_give_166 : decode cX4_give 166 = .ok (.iload 5, 2) := by decide +kernel
theorem dX4_give_168 : decode cX4_give 168 = .ok (.invokevirtual 154, 3) := by decide +kernel
theorem dX4_give_171 : decode cX4_give 171 = .ok (.ireturn, 1) := by decide +kernel
theorem dX4_giveName_0 : decode cX4_giveName 0 = .ok (.aconst_null, 1) := by decide +kernel
theorem dX4_giveName_1 : decode cX4_giveName 1 = .ok (.astore_n 3, 1) := by decide +kernel
theorem dX4_giveName_2 : decode cX4_giveName 2 = .ok (.iload_n 2, 1) := by decide +kernel
theorem dX4_giveName_3 : decode cX4_giveName 3 = .ok (.istore 4, 2) := by decide +kernel
theorem dX4_giveName_5 : decode cX4_giveName 5 = .ok (.iconst 0, 1) := by decide +kernel
theorem dX4_giveName_6 : decode cX4_giveName 6 = .ok (.istore 5, 2) := by decide +kernel
theorem dX4_giveName_8 : decode cX4_giveName 8 = .ok (.iload 5, 2) := by decide +kernel
theorem dX4_giveName_10 : decode cX4_giveName 10 = .ok (.sipush 240, 3) := by decide +kernel
theorem dX4_giveName_13 : decode cX4_giveName 13 = .ok (.if_icmp .ge 148, 3) := by decide +kernel
theorem dX4_giveName_16 : decode cX4_giveName 16 = .ok (.iload 4, 2) := by decide +kernel
theorem dX4_giveName_18 : decode cX4_giveName 18 = .ok (.ifCond .lt 143, 3) := by decide +kernel
theorem dX4_giveName_21 : decode cX4_giveName 21 = .ok (.iload 4, 2) := by decide +kernel
theorem dX4_giveName_23 : decode cX4_giveName 23 = .ok (.aload_n 0, 1) := by decide +kernel
theorem dX4_giveName_24 : decode cX4_giveName 24 = .ok (.getfield 81, 3) := by decide +kernel
theorem dX4_giveName_27 : decode cX4_giveName 27 = .ok (.if_icmp .ge 134, 3) := by decide +kernel
theorem dX4_giveName_30 : decode cX4_giveName 30 = .ok (.aload_n 3, 1) := by decide +kernel
theorem dX4_giveName_31 : decode cX4_giveName 31 = .ok (.ifnonnull 130, 3) := by decide +kernel
theorem dX4_giveName_34 : decode cX4_giveName 34 = .ok (.aload_n 0, 1) := by decide +kernel
theorem dX4_giveName_35 : decode cX4_giveName 35 = .ok (.getfield 48, 3) := by decide +kernel
theorem dX4_giveName_38 : decode cX4_giveName 38 = .ok (.iload 4, 2) := by decide +kernel
theorem dX4_giveName_40 : decode cX4_giveName 40 = .ok (.iaload, 1) := by decide +kernel
theorem dX4_giveName_41 : decode cX4_giveName 41 = .ok (.ifCond .ne 10, 3) := by decide +kernel
theorem dX4_giveName_44 : decode cX4_giveName 44 = .ok (.iload_n 1, 1) := by decide +kernel
theorem dX4_giveName_45 : decode cX4_giveName 45 = .ok (.bipush 120, 2) := by decide +kernel
theorem dX4_giveName_47 : decode cX4_giveName 47 = .ok (.isub, 1) := by decide +kernel
theorem dX4_giveName_48 : decode cX4_giveName 48 = .ok (.goto 4, 3) := by decide +kernel
theorem dX4_giveName_51 : decode cX4_giveName 51 = .ok (.iconst 0, 1) := by decide +kernel
theorem dX4_giveName_52 : decode cX4_giveName 52 = .ok (.istore 6, 2) := by decide +kernel
theorem dX4_giveName_54 : decode cX4_giveName 54 = .ok (.aload_n 0, 1) := by decide +kernel
theorem dX4_giveName_55 : decode cX4_giveName 55 = .ok (.getfield 48, 3) := by decide +kernel
theorem dX4_giveName_58 : decode cX4_giveName 58 = .ok (.iload 4, 2) := by decide +kernel
theorem dX4_giveName_60 : decode cX4_giveName 60 = .ok (.iaload, 1) := by decide +kernel
theorem dX4_giveName_61 : decode cX4_giveName 61 = .ok (.ifCond .ne 23, 3) := by decide +kernel
theorem dX4_giveName_64 : decode cX4_giveName 64 = .ok (.iload 6, 2) := by decide +kernel
theorem dX4_giveName_66 : decode cX4_giveName 66 = .ok (.aload_n 0, 1) := by decide +kernel
theorem dX4_giveName_67 : decode cX4_giveName 67 = .ok (.getfield 51, 3) := by decide +kernel
theorem dX4_giveName_70 : decode cX4_giveName 70 = .ok (.iload 4, 2) := by decide +kernel
theorem dX4_giveName_72 : decode cX4_giveName 72 = .ok (.iaload, 1) := by decide +kernel
theorem dX4_giveName_73 : decode cX4_giveName 73 = .ok (.if_icmp .ge 7, 3) := by decide +kernel
theorem dX4_giveName_76 : decode cX4_giveName 76 = .ok (.iconst 1, 1) := by decide +kernel
theorem dX4_giveName_77 : decode cX4_giveName 77 = .ok (.goto 23, 3) := by decide +kernel
theorem dX4_giveName_80 : decode cX4_giveName 80 = .ok (.iconst 0, 1) := by decide +kernel
theorem dX4_giveName_81 : decode cX4_giveName 81 = .ok (.goto 19, 3) := by decide +kernel
theorem dX4_giveName_84 : decode cX4_giveName 84 = .ok (.aload_n 0, 1) := by decide +kernel
theorem dX4_giveName_85 : decode cX4_giveName 85 = .ok (.getfield 48, 3) := by decide +kernel
theorem dX4_giveName_88 : decode cX4_giveName 88 = .ok (.iload 4, 2) := by decide +kernel
theorem dX4_giveName_90 : decode cX4_giveName 90 = .ok (.iaload, 1) := by decide +kernel
theorem dX4_giveName_91 : decode cX4_giveName 91 = .ok (.iload_n 1, 1) := by decide +kernel
theorem dX4_giveName_92 : decode cX4_giveName 92 = .ok (.if_icmp .ne 7, 3) := by decide +kernel
theorem dX4_giveName_95 : decode cX4_giveName 95 = .ok (.iconst 1, 1) := by decide +kernel
theorem dX4_giveName_96 : decode cX4_giveName 96 = .ok (.goto 4, 3) := by decide +kernel
theorem dX4_giveName_99 : decode cX4_giveName 99 = .ok (.iconst 0, 1) := by decide +kernel
theorem dX4_giveName_100 : decode cX4_giveName 100 = .ok (.istore 7, 2) := by decide +kernel
theorem dX4_giveName_102 : decode cX4_giveName 102 = .ok (.aload_n 0, 1) := by decide +kernel
theorem dX4_giveName_103 : decode cX4_giveName 103 = .ok (.getfield 54, 3) := by decide +kernel
theorem dX4_giveName_106 : decode cX4_giveName 106 = .ok (.iload 4, 2) := by decide +kernel
theorem dX4_giveName_108 : decode cX4_giveName 108 = .ok (.iaload, 1) := by decide +kernel
theorem dX4_giveName_109 : decode cX4_giveName 109 = .ok (.iload 6, 2) := by decide +kernel
theorem dX4_giveName_111 : decode cX4_giveName 111 = .ok (.iadd, 1) := by decide +kernel
theorem dX4_giveName_112 : decode cX4_giveName 112 = .ok (.istore 8, 2) := by decide +kernel
theorem dX4_giveName_114 : decode cX4_giveName 114 = .ok (.iload 6, 2) := by decide +kernel
theorem dX4_giveName_116 : decode cX4_giveName 116 = .ok (.ifCond .lt 30, 3) := by decide +kernel
theorem dX4_giveName_119 : decode cX4_giveName 119 = .ok (.iload 7, 2) := by decide +kernel
theorem dX4_giveName_121 : decode cX4_giveName 121 = .ok (.ifCond .eq 25, 3) := by decide +kernel
theorem dX4_giveName_124 : decode cX4_giveName 124 = .ok (.iload 8, 2) := by decide +kernel
theorem dX4_giveName_126 : decode cX4_giveName 126 = .ok (.ifCond .lt 20, 3) := by decide +kernel
theorem dX4_giveName_129 : decode cX4_giveName 129 = .ok (.iload 8, 2) := by decide +kernel
theorem dX4_giveName_131 : decode cX4_giveName 131 = .ok (.aload_n 0, 1) := by decide +kernel
theorem dX4_giveName_132 : decode cX4_giveName 132 = .ok (.getfield 68, 3) := by decide +kernel
theorem dX4_giveName_135 : decode cX4_giveName 135 = .ok (.if_icmp .ge 11, 3) := by decide +kernel
theorem dX4_giveName_138 : decode cX4_giveName 138 = .ok (.aload_n 0, 1) := by decide +kernel
theorem dX4_giveName_139 : decode cX4_giveName 139 = .ok (.getfield 13, 3) := by decide +kernel
theorem dX4_giveName_142 : decode cX4_giveName 142 = .ok (.iload 8, 2) := by decide +kernel
theorem dX4_giveName_144 : decode cX4_giveName 144 = .ok (.aaload, 1) := by decide +kernel
theorem dX4_giveName_145 : decode cX4_giveName 145 = .ok (.astore_n 3, 1) := by decide +kernel
theorem dX4_giveName_146 : decode cX4_giveName 146 = .ok (.aload_n 0, 1) := by decide +kernel
theorem dX4_giveName_147 : decode cX4_giveName 147 = .ok (.getfield 57, 3) := by decide +kernel
theorem dX4_giveName_150 : decode cX4_giveName 150 = .ok (.iload 4, 2) := by decide +kernel
theorem dX4_giveName_152 : decode cX4_giveName 152 = .ok (.iaload, 1) := by decide +kernel
theorem dX4_giveName_153 : decode cX4_giveName 153 = .ok (.istore 4, 2) := by decide +kernel
theorem dX4_giveName_155 : decode cX4_giveName 155 = .ok (.iinc 5 1, 3) := by decide +kernel
theorem dX4_giveName_158 : decode cX4_giveName 158 = .ok (.goto (-150), 3) := by decide +kernel
theorem dX4_giveName_161 : decode cX4_giveName 161 = .ok (.iload_n 1, 1) := by decide +kernel
theorem dX4_giveName_162 : decode cX4_giveName 162 = .ok (.bipush 97, 2) := by decide +kernel
theorem dX4_giveName_164 : decode cX4_giveName 164 = .ok (.isub, 1) := by decide +kernel
theorem dX4_giveName_165 : decode cX4_giveName 165 = .ok (.istore 5, 2) := by decide +kernel
theorem dX4_giveName_167 : decode cX4_giveName 167 = .ok (.aload_n 3, 1) := by decide +kernel
theorem dX4_giveName_168 : decode cX4_giveName 168 = .ok (.ifnonnull 45, 3) := by decide +kernel
theorem dX4_giveName_171 : decode cX4_giveName 171 = .ok (.iload 5, 2) := by decide +kernel
theorem dX4_giveName_173 : decode cX4_giveName 173 = .ok (.ifCond .lt 40, 3) := by decide +kernel
theorem dX4_giveName_176 : decode cX4_giveName 176 = .ok (.iload 5, 2) := by decide +kernel
theorem dX4_giveName_178 : decode cX4_giveName 178 = .ok (.aload_n 0, 1) := by decide +kernel
theorem dX4_giveName_179 : decode cX4_giveName 179 = .ok (.getfield 60, 3) := by decide +kernel
theorem dX4_giveName_182 : decode cX4_giveName 182 = .ok (.getfield 157, 3) := by decide +kernel
theorem dX4_giveName_185 : decode cX4_giveName 185 = .ok (.arraylength, 1) := by decide +kernel
theorem dX4_giveName_186 : decode cX4_giveName 186 = .ok (.if_icmp .ge 27, 3) := by decide +kernel
theorem dX4_giveName_189 : decode cX4_giveName 189 = .ok (.aload_n 0, 1) := by decide +kernel
theorem dX4_giveName_190 : decode cX4_giveName 190 = .ok (.getfield 60, 3) := by decide +kernel
theorem dX4_giveName_193 : decode cX4_giveName 193 = .ok (.getfield 157, 3) := by decide +kernel
theorem dX4_giveName_196 : decode cX4_giveName 196 = .ok (.iload 5, 2) := by decide +kernel
theorem dX4_giveName_198 : decode cX4_giveName 198 = .ok (.baload, 1) := by decide +kernel
theorem dX4_giveName_199 : decode cX4_giveName 199 = .ok (.ifCond .eq 14, 3) := by decide +kernel
theorem dX4_giveName_202 : decode cX4_giveName 202 = .ok (.aload_n 0, 1) := by decide +kernel
theorem dX4_giveName_203 : decode cX4_giveName 203 = .ok (.getfield 60, 3) := by decide +kernel
theorem dX4_giveName_206 : decode cX4_giveName 206 = .ok (.getfield 161, 3) := by decide +kernel
theorem dX4_giveName_209 : decode cX4_giveName 209 = .ok (.iload 5, 2) := by decide +kernel
theorem dX4_giveName_211 : decode cX4_giveName 211 = .ok (.aaload, 1) := by decide +kernel
theorem dX4_giveName_212 : decode cX4_giveName 212 = .ok (.astore_n 3, 1) := by decide +kernel
theorem dX4_giveName_213 : decode cX4_giveName 213 = .ok (.aload_n 3, 1) := by decide +kernel
theorem dX4_giveName_214 : decode cX4_giveName 214 = .ok (.ifnonnull 5, 3) := by decide +kernel
theorem dX4_giveName_217 : decode cX4_giveName 217 = .ok (.iconst 4, 1) := by decide +kernel
theorem dX4_giveName_218 : decode cX4_giveName 218 = .ok (.ireturn, 1) := by decide +kernel
theorem dX4_giveName_219 : decode cX4_giveName 219 = .ok (.aload_n 0, 1) := by decide +kernel
theorem dX4_giveName_220 : decode cX4_giveName 220 = .ok (.getfield 13, 3) := by decide +kernel
theorem dX4_giveName_223 : decode cX4_giveName 223 = .ok (.aload_n 0, 1) := by decide +kernel
theorem dX4_giveName_224 : decode cX4_giveName 224 = .ok (.getfield 68, 3) := by decide +kernel
theorem dX4_giveName_227 : decode cX4_giveName 227 = .ok (.aaload, 1) := by decide +kernel
theorem dX4_giveName_228 : decode cX4_giveName 228 = .ok (.aload_n 3, 1) := by decide +kernel
theorem dX4_giveName_229 : decode cX4_giveName 229 = .ok (.invokevirtual 164, 3) := by decide +kernel
theorem dX4_giveName_232 : decode cX4_giveName 232 = .ok (.aload_n 0, 1) := by decide +kernel
theorem dX4_giveName_233 : decode cX4_giveName 233 = .ok (.dup, 1) := by decide +kernel
theorem dX4_giveName_234 : decode cX4_giveName 234 = .ok (.getfield 68, 3) := by decide +kernel
theorem dX4_giveName_237 : decode cX4_giveName 237 = .ok (.iconst 1, 1) := by decide +kernel
theorem dX4_giveName_238 : decode cX4_giveName 238 = .ok (.iadd, 1) := by decide +kernel
theorem dX4_giveName_239 : decode cX4_giveName 239 = .ok (.putfield 68, 3) := by decide +kernel
theorem dX4_giveName_242 : decode cX4_giveName 242 = .ok (.iconst 0, 1) := by decide +kernel
theorem dX4_giveName_243 : decode cX4_giveName 243 = .ok (.ireturn, 1) := by decide +kernel
theorem dX4_meaningOf_0 : decode cX4_meaningOf 0 = .ok (.aload_n 1, 1) := by decide +kernel
theorem dX4_meaningOf_1 : decode cX4_meaningOf 1 = .ok (.getfield 133, 3) := by decide +kernel
theorem dX4_meaningOf_4 : decode cX4_meaningOf 4 = .ok (.iload_n 2, 1) := by decide +kernel
theorem dX4_meaningOf_5 : decode cX4_meaningOf 5 = .ok (.iaload, 1) := by decide +kernel
theorem dX4_meaningOf_6 : decode cX4_meaningOf 6 = .ok (.iconst 3, 1) := by decide +kernel
theorem dX4_meaningOf_7 : decode cX4_meaningOf 7 = .ok (.if_icmp .ne 25, 3) := by decide +kernel
theorem dX4_meaningOf_10 : decode cX4_meaningOf 10 = .ok (.aload_n 0, 1) := by decide +kernel
theorem dX4_meaningOf_11 : decode cX4_meaningOf 11 = .ok (.getfield 60, 3) := by decide +kernel
theorem dX4_meaningOf_14 : decode cX4_meaningOf 14 = .ok (.aload_n 1, 1) := by decide +kernel
theorem dX4_meaningOf_15 : decode cX4_meaningOf 15 = .ok (.getfield 130, 3) := by decide +kernel
theorem dX4_meaningOf_18 : decode cX4_meaningOf 18 = .ok (.iload_n 2, 1) := by decide +kernel
theorem dX4_meaningOf_19 : decode cX4_meaningOf 19 = .ok (.iaload, 1) := by decide +kernel
theorem dX4_meaningOf_20 : decode cX4_meaningOf 20 = .ok (.aload_n 1, 1) := by decide +kernel
theorem dX4_meaningOf_21 : decode cX4_meaningOf 21 = .ok (.getfield 146, 3) := by decide +kernel
theorem dX4_meaningOf_24 : decode cX4_meaningOf 24 = .ok (.iload_n 2, 1) := by decide +kernel
theorem dX4_meaningOf_25 : decode cX4_meaningOf 25 = .ok (.iaload, 1) := by decide +kernel
theorem dX4_meaningOf_26 : decode cX4_meaningOf 26 = .ok (.invokevirtual 149, 3) := by decide +kernel
theorem dX4_meaningOf_29 : decode cX4_meaningOf 29 = .ok (.goto 4, 3) := by decide +kernel
theorem dX4_meaningOf_32 : decode cX4_meaningOf 32 = .ok (.iconst (-1), 1) := by decide +kernel
theorem dX4_meaningOf_33 : decode cX4_meaningOf 33 = .ok (.ireturn, 1) := by decide +kernel
theorem dX4_operate_0 : decode cX4_operate 0 = .ok (.iload_n 1, 1) := by decide +kernel
theorem dX4_operate_1 : decode cX4_operate 1 = .ok (.bipush 11, 2) := by decide +kernel
theorem dX4_operate_3 : decode cX4_operate 3 = .ok (.if_icmp .lt 7, 3) := by decide +kernel
theorem dX4_operate_6 : decode cX4_operate 6 = .ok (.iconst 1, 1) := by decide +kernel
theorem dX4_operate_7 : decode cX4_operate 7 = .ok (.goto 4, 3) := by decide +kernel
theorem dX4_operate_10 : decode cX4_operate 10 = .ok (.iconst 2, 1) := by decide +kernel
theorem dX4_operate_11 : decode cX4_operate 11 = .ok (.istore_n 2, 1) := by decide +kernel
theorem dX4_operate_12 : decode cX4_operate 12 = .ok (.iload_n 1, 1) := by decide +kernel
theorem dX4_operate_13 : decode cX4_operate 13 = .ok (.ifCond .lt 11, 3) := by decide +kernel
theorem dX4_operate_16 : decode cX4_operate 16 = .ok (.aload_n 0, 1) := by decide +kernel
theorem dX4_operate_17 : decode cX4_operate 17 = .ok (.getfield 68, 3) := by decide +kernel
theorem dX4_operate_20 : decode cX4_operate 20 = .ok (.iload_n 2, 1) := by decide +kernel
theorem dX4_operate_21 : decode cX4_operate 21 = .ok (.if_icmp .ge 5, 3) := by decide +kernel
theorem dX4_operate_24 : decode cX4_operate 24 = .ok (.iconst 5, 1) := by decide +kernel
theorem dX4_operate_25 : decode cX4_operate 25 = .ok (.ireturn, 1) := by decide +kernel
theorem dX4_operate_26 : decode cX4_operate 26 = .ok (.aload_n 0, 1) := by decide +kernel
theorem dX4_operate_27 : decode cX4_operate 27 = .ok (.getfield 13, 3) := by decide +kernel
theorem dX4_operate_30 : decode cX4_operate 30 = .ok (.aload_n 0, 1) := by decide +kernel
theorem dX4_operate_31 : decode cX4_operate 31 = .ok (.getfield 68, 3) := by decide +kernel
theorem dX4_operate_34 : decode cX4_operate 34 = .ok (.iconst 1, 1) := by decide +kernel
theorem dX4_operate_35 : decode cX4_operate 35 = .ok (.isub, 1) := by decide +kernel
theorem dX4_operate_36 : decode cX4_operate 36 = .ok (.aaload, 1) := by decide +kernel
theorem dX4_operate_37 : decode cX4_operate 37 = .ok (.astore_n 3, 1) := by decide +kernel
theorem dX4_operate_38 : decode cX4_operate 38 = .ok (.aload_n 0, 1) := by decide +kernel
theorem dX4_operate_39 : decode cX4_operate 39 = .ok (.getfield 13, 3) := by decide +kernel
theorem dX4_operate_42 : decode cX4_operate 42 = .ok (.aload_n 0, 1) := by decide +kernel
theorem dX4_operate_43 : decode cX4_operate 43 = .ok (.getfield 68, 3) := by decide +kernel
theorem dX4_operate_46 : decode cX4_operate 46 = .ok (.iload_n 2, 1) := by decide +kernel
theorem dX4_operate_47 : decode cX4_operate 47 = .ok (.isub, 1) := by decide +kernel
theorem dX4_operate_48 : decode cX4_operate 48 = .ok (.aaload, 1) := by decide +kernel
theorem dX4_operate_49 : decode cX4_operate 49 = .ok (.astore 4, 2) := by decide +kernel
theorem dX4_operate_51 : decode cX4_operate 51 = .ok (.iload_n 1, 1) := by decide +kernel
theorem dX4_operate_52 : decode cX4_operate 52 = .ok (.aload 4, 2) := by decide +kernel
theorem dX4_operate_54 : decode cX4_operate 54 = .ok (.aload_n 3, 1) := by decide +kernel
theorem dX4_operate_55 : decode cX4_operate 55 = .ok (.invokestatic 168, 3) := by decide +kernel
theorem dX4_operate_58 : decode cX4_operate 58 = .ok (.istore 5, 2) := by decide +kernel
theorem dX4_operate_60 : decode cX4_operate 60 = .ok (.iload 5, 2) := by decide +kernel
theorem dX4_operate_62 : decode cX4_operate 62 = .ok (.ifCond .eq 6, 3) := by decide +kernel
theorem dX4_operate_65 : decode cX4_operate 65 = .ok (.iload 5, 2) := by decide +kernel
theorem dX4_operate_67 : decode cX4_operate 67 = .ok (.ireturn, 1) := by decide +kernel
theorem dX4_operate_68 : decode cX4_operate 68 = .ok (.iconst 1, 1) := by decide +kernel
theorem dX4_operate_69 : decode cX4_operate 69 = .ok (.istore 6, 2) := by decide +kernel
theorem dX4_operate_71 : decode cX4_operate 71 = .ok (.iload_n 1, 1) := by decide +kernel
theorem dX4_operate_72 : decode cX4_operate 72 = .ok (.tableswitch 365 0 12 #[68, 86, 104, 121, 138, 155, 180, 208, 232, 260, 290, 320, 342], 68) := by decide +kernel
theorem dX4_operate_140 : decode cX4_operate 140 = .ok (.aload_n 0, 1) := by decide +kernel
theorem dX4_operate_141 : decode cX4_operate 141 = .ok (.getfield 64, 3) := by decide +kernel
theorem dX4_operate_144 : decode cX4_operate 144 = .ok (.aload_n 0, 1) := by decide +kernel
theorem dX4_operate_145 : decode cX4_operate 145 = .ok (.getfield 22, 3) := by decide +kernel
theorem dX4_operate_148 : decode cX4_operate 148 = .ok (.aload 4, 2) := by decide +kernel
theorem dX4_operate_150 : decode cX4_operate 150 = .ok (.aload_n 3, 1) := by decide +kernel
theorem dX4_operate_151 : decode cX4_operate 151 = .ok (.iconst 0, 1) := by decide +kernel
theorem dX4_operate_152 : decode cX4_operate 152 = .ok (.invokevirtual 172, 3) := by decide +kernel
theorem dX4_operate_155 : decode cX4_operate 155 = .ok (.goto 301, 3) := by decide +kernel
theorem dX4_operate_158 : decode cX4_operate 158 = .ok (.aload_n 0, 1) := by decide +kernel
theorem dX4_operate_159 : decode cX4_operate 159 = .ok (.getfield 64, 3) := by decide +kernel
theorem dX4_operate_162 : decode cX4_operate 162 = .ok (.aload_n 0, 1) := by decide +kernel
theorem dX4_operate_163 : decode cX4_operate 163 = .ok (.getfield 22, 3) := by decide +kernel
theorem dX4_operate_166 : decode cX4_operate 166 = .ok (.aload 4, 2) := by decide +kernel
theorem dX4_operate_168 : decode cX4_operate 168 = .ok (.aload_n 3, 1) := by decide +kernel
theorem dX4_operate_169 : decode cX4_operate 169 = .ok (.iconst 1, 1) := by decide +kernel
theorem dX4_operate_170 : decode cX4_operate 170 = .ok (.invokevirtual 172, 3) := by decide +kernel
theorem dX4_operate_173 : decode cX4_operate 173 = .ok (.goto 283, 3) := by decide +kernel
theorem dX4_operate_176 : decode cX4_operate 176 = .ok (.aload_n 0, 1) := by decide +kernel
theorem dX4_operate_177 : decode cX4_operate 177 = .ok (.getfield 64, 3) := by decide +kernel
theorem dX4_operate_180 : decode cX4_operate 180 = .ok (.aload_n 0, 1) := by decide +kernel
theorem dX4_operate_181 : decode cX4_operate 181 = .ok (.getfield 22, 3) := by decide +kernel
theorem dX4_operate_184 : decode cX4_operate 184 = .ok (.aload 4, 2) := by decide +kernel
theorem dX4_operate_186 : decode cX4_operate 186 = .ok (.aload_n 3, 1) := by decide +kernel
theorem dX4_operate_187 : decode cX4_operate 187 = .ok (.invokevirtual 178, 3) := by decide +kernel
theorem dX4_operate_190 : decode cX4_operate 190 = .ok (.goto 266, 3) := by decide +kernel
theorem dX4_operate_193 : decode cX4_operate 193 = .ok (.aload_n 0, 1) := by decide +kernel
theorem dX4_operate_194 : decode cX4_operate 194 = .ok (.getfield 64, 3) := by decide +kernel
theorem dX4_operate_197 : decode cX4_operate 197 = .ok (.aload_n 0, 1) := by decide +kernel
theorem dX4_operate_198 : decode cX4_operate 198 = .ok (.getfield 22, 3) := by decide +kernel
theorem dX4_operate_201 : decode cX4_operate 201 = .ok (.aload 4, 2) := by decide +kernel
theorem dX4_operate_203 : decode cX4_operate 203 = .ok (.aload_n 3, 1) := by decide +kernel
theorem dX4_operate_204 : decode cX4_operate 204 = .ok (.invokevirtual 182, 3) := by decide +kernel
theorem dX4_operate_207 : decode cX4_operate 207 = .ok (.goto 249, 3) := by decide +kernel
theorem dX4_operate_210 : decode cX4_operate 210 = .ok (.aload_n 0, 1) := by decide +kernel
theorem dX4_operate_211 : decode cX4_operate 211 = .ok (.getfield 64, 3) := by decide +kernel
theorem dX4_operate_214 : decode cX4_operate 214 = .ok (.aload_n 0, 1) := by decide +kernel
theorem dX4_operate_215 : decode cX4_operate 215 = .ok (.getfield 22, 3) := by decide +kernel
theorem dX4_operate_218 : decode cX4_operate 218 = .ok (.aload 4, 2) := by decide +kernel
theorem dX4_operate_220 : decode cX4_operate 220 = .ok (.aload_n 3, 1) := by decide +kernel
theorem dX4_operate_221 : decode cX4_operate 221 = .ok (.invokevirtual 185, 3) := by decide +kernel
theorem dX4_operate_224 : decode cX4_operate 224 = .ok (.goto 232, 3) := by decide +kernel
theorem dX4_operate_227 : decode cX4_operate 227 = .ok (.aload_n 0, 1) := by decide +kernel
theorem dX4_operate_228 : decode cX4_operate 228 = .ok (.getfield 64, 3) := by decide +kernel
theorem dX4_operate_231 : decode cX4_operate 231 = .ok (.aload_n 0, 1) := by decide +kernel
theorem dX4_operate_232 : decode cX4_operate 232 = .ok (.getfield 22, 3) := by decide +kernel
theorem dX4_operate_235 : decode cX4_operate 235 = .ok (.aload 4, 2) := by decide +kernel
theorem dX4_operate_237 : decode cX4_operate 237 = .ok (.aload_n 3, 1) := by decide +kernel
theorem dX4_operate_238 : decode cX4_operate 238 = .ok (.getfield 188, 3) := by decide +kernel
theorem dX4_operate_241 : decode cX4_operate 241 = .ok (.invokevirtual 192, 3) := by decide +kernel
theorem dX4_operate_244 : decode cX4_operate 244 = .ok (.invokevirtual 196, 3) := by decide +kernel
theorem dX4_operate_247 : decode cX4_operate 247 = .ok (.istore 6, 2) := by decide +kernel
theorem dX4_operate_249 : decode cX4_operate 249 = .ok (.goto 207, 3) := by decide +kernel
theorem dX4_operate_252 : decode cX4_operate 252 = .ok (.aload_n 0, 1) := by decide +kernel
theorem dX4_operate_253 : decode cX4_operate 253 = .ok (.getfield 22, 3) := by decide +kernel
theorem dX4_operate_256 : decode cX4_operate 256 = .ok (.aload_n 0, 1) := by decide +kernel
theorem dX4_operate_257 : decode cX4_operate 257 = .ok (.getfield 64, 3) := by decide +kernel
theorem dX4_operate_260 : decode cX4_operate 260 = .ok (.aload 4, 2) := by decide +kernel
theorem dX4_operate_262 : decode cX4_operate 262 = .ok (.aload_n 3, 1) := by decide +kernel
theorem dX4_operate_263 : decode cX4_operate 263 = .ok (.invokevirtual 200, 3) := by decide +kernel
theorem dX4_operate_266 : decode cX4_operate 266 = .ok (.ifCond .ge 7, 3) := by decide +kernel
theorem dX4_operate_269 : decode cX4_operate 269 = .ok (.lconst 1, 1) := by decide +kernel
theorem dX4_operate_270 : decode cX4_operate 270 = .ok (.goto 4, 3) := by decide +kernel
theorem dX4_operate_273 : decode cX4_operate 273 = .ok (.lconst 0, 1) := by decide +kernel
theorem dX4_operate_274 : decode cX4_operate 274 = .ok (.invokevirtual 136, 3) := by decide +kernel
theorem dX4_operate_277 : decode cX4_operate 277 = .ok (.goto 179, 3) := by decide +kernel
theorem dX4_operate_280 : decode cX4_operate 280 = .ok (.aload_n 0, 1) := by decide +kernel
theorem dX4_operate_281 : decode cX4_operate 281 = .ok (.getfield 22, 3) := by decide +kernel
theorem dX4_operate_284 : decode cX4_operate 284 = .ok (.aload 4, 2) := by decide +kernel
theorem dX4_operate_286 : decode cX4_operate 286 = .ok (.aload_n 3, 1) := by decide +kernel
theorem dX4_operate_287 : decode cX4_operate 287 = .ok (.invokevirtual 204, 3) := by decide +kernel
theorem dX4_operate_290 : decode cX4_operate 290 = .ok (.ifCond .eq 7, 3) := by decide +kernel
theorem dX4_operate_293 : decode cX4_operate 293 = .ok (.lconst 1, 1) := by decide +kernel
theorem dX4_operate_294 : decode cX4_operate 294 = .ok (.goto 4, 3) := by decide +kernel
theorem dX4_operate_297 : decode cX4_operate 297 = .ok (.lconst 0, 1) := by decide +kernel
theorem dX4_operate_298 : decode cX4_operate 298 = .ok (.invokevirtual 136, 3) := by decide +kernel
theorem dX4_operate_301 : decode cX4_operate 301 = .ok (.goto 155, 3) := by decide +kernel
theorem dX4_operate_304 : decode cX4_operate 304 = .ok (.aload_n 0, 1) := by decide +kernel
theorem dX4_operate_305 : decode cX4_operate 305 = .ok (.getfield 22, 3) := by decide +kernel
theorem dX4_operate_308 : decode cX4_operate 308 = .ok (.aload_n 0, 1) := by decide +kernel
theorem dX4_operate_309 : decode cX4_operate 309 = .ok (.getfield 64, 3) := by decide +kernel
theorem dX4_operate_312 : decode cX4_operate 312 = .ok (.aload 4, 2) := by decide +kernel
theorem dX4_operate_314 : decode cX4_operate 314 = .ok (.aload_n 3, 1) := by decide +kernel
theorem dX4_operate_315 : decode cX4_operate 315 = .ok (.invokevirtual 200, 3) := by decide +kernel
theorem dX4_operate_318 : decode cX4_operate 318 = .ok (.ifCond .le 7, 3) := by decide +kernel
theorem dX4_operate_321 : decode cX4_operate 321 = .ok (.lconst 1, 1) := by decide +kernel
theorem dX4_operate_322 : decode cX4_operate 322 = .ok (.goto 4, 3) := by decide +kernel
theorem dX4_operate_325 : decode cX4_operate 325 = .ok (.lconst 0, 1) := by decide +kernel
theorem dX4_operate_326 : decode cX4_operate 326 = .ok (.invokevirtual 136, 3) := by decide +kernel
theorem dX4_operate_329 : decode cX4_operate 329 = .ok (.goto 127, 3) := by decide +kernel
theorem dX4_operate_332 : decode cX4_operate 332 = .ok (.aload_n 0, 1) := by decide +kernel
theorem dX4_operate_333 : decode cX4_operate 333 = .ok (.getfield 22, 3) := by decide +kernel
theorem dX4_operate_336 : decode cX4_operate 336 = .ok (.aload 4, 2) := by decide +kernel
theorem dX4_operate_338 : decode cX4_operate 338 = .ok (.invokevirtual 208, 3) := by decide +kernel
theorem dX4_operate_341 : decode cX4_operate 341 = .ok (.ifCond .ne 10, 3) := by decide +kernel
theorem dX4_operate_344 : decode cX4_operate 344 = .ok (.aload_n 3, 1) := by decide +kernel
theorem dX4_operate_345 : decode cX4_operate 345 = .ok (.invokevirtual 208, 3) := by decide +kernel
theorem dX4_operate_348 : decode cX4_operate 348 = .ok (.ifCond .eq 7, 3) := by decide +kernel
theorem dX4_operate_351 : decode cX4_operate 351 = .ok (.lconst 0, 1) := by decide +kernel
theorem dX4_operate_352 : decode cX4_operate 352 = .ok (.goto 4, 3) := by decide +kernel
theorem dX4_operate_355 : decode cX4_operate 355 = .ok (.lconst 1, 1) := by decide +kernel
theorem dX4_operate_356 : decode cX4_operate 356 = .ok (.invokevirtual 136, 3) := by decide +kernel
theorem dX4_operate_359 : decode cX4_operate 359 = .ok (.goto 97, 3) := by decide +kernel
theorem dX4_operate_362 : decode cX4_operate 362 = .ok (.aload_n 0, 1) := by decide +kernel
theorem dX4_operate_363 : decode cX4_operate 363 = .ok (.getfield 22, 3) := by decide +kernel
theorem dX4_operate_366 : decode cX4_operate 366 = .ok (.aload 4, 2) := by decide +kernel
theorem dX4_operate_368 : decode cX4_operate 368 = .ok (.invokevirtual 208, 3) := by decide +kernel
theorem dX4_operate_371 : decode cX4_operate 371 = .ok (.ifCond .eq 14, 3) := by decide +kernel
theorem dX4_operate_374 : decode cX4_operate 374 = .ok (.aload_n 3, 1) := by decide +kernel
theorem dX4_operate_375 : decode cX4_operate 375 = .ok (.invokevirtual 208, 3) := by decide +kernel
theorem dX4_operate_378 : decode cX4_operate 378 = .ok (.ifCond .eq 7, 3) := by decide +kernel
theorem dX4_operate_381 : decode cX4_operate 381 = .ok (.lconst 0, 1) := by decide +kernel
theorem dX4_operate_382 : decode cX4_operate 382 = .ok (.goto 4, 3) := by decide +kernel
theorem dX4_operate_385 : decode cX4_operate 385 = .ok (.lconst 1, 1) := by decide +kernel
theorem dX4_operate_386 : decode cX4_operate 386 = .ok (.invokevirtual 136, 3) := by decide +kernel
theorem dX4_operate_389 : decode cX4_operate 389 = .ok (.goto 67, 3) := by decide +kernel
theorem dX4_operate_392 : decode cX4_operate 392 = .ok (.aload_n 0, 1) := by decide +kernel
theorem dX4_operate_393 : decode cX4_operate 393 = .ok (.getfield 22, 3) := by decide +kernel
theorem dX4_operate_396 : decode cX4_operate 396 = .ok (.aload 4, 2) := by decide +kernel
theorem dX4_operate_398 : decode cX4_operate 398 = .ok (.invokevirtual 164, 3) := by decide +kernel
theorem dX4_operate_401 : decode cX4_operate 401 = .ok (.aload_n 0, 1) := by decide +kernel
theorem dX4_operate_402 : decode cX4_operate 402 = .ok (.getfield 22, 3) := by decide +kernel
theorem dX4_operate_405 : decode cX4_operate 405 = .ok (.getfield 188, 3) := by decide +kernel
theorem dX4_operate_408 : decode cX4_operate 408 = .ok (.invokevirtual 212, 3) := by decide +kernel
theorem dX4_operate_411 : decode cX4_operate 411 = .ok (.goto 45, 3) := by decide +kernel
theorem dX4_operate_414 : decode cX4_operate 414 = .ok (.aload_n 0, 1) := by decide +kernel
theorem dX4_operate_415 : decode cX4_operate 415 = .ok (.getfield 22, 3) := by decide +kernel
theorem dX4_operate_418 : decode cX4_operate 418 = .ok (.aload 4, 2) := by decide +kernel
theorem dX4_operate_420 : decode cX4_operate 420 = .ok (.invokevirtual 208, 3) := by decide +kernel
theorem dX4_operate_423 : decode cX4_operate 423 = .ok (.ifCond .eq 7, 3) := by decide +kernel
theorem dX4_operate_426 : decode cX4_operate 426 = .ok (.lconst 1, 1) := by decide +kernel
theorem dX4_operate_427 : decode cX4_operate 427 = .ok (.goto 4, 3) := by decide +kernel
theorem dX4_operate_430 : decode cX4_operate 430 = .ok (.lconst 0, 1) := by decide +kernel
theorem dX4_operate_431 : decode cX4_operate 431 = .ok (.invokevirtual 136, 3) := by decide +kernel
theorem dX4_operate_434 : decode cX4_operate 434 = .ok (.goto 22, 3) := by decide +kernel
theorem dX4_operate_437 : decode cX4_operate 437 = .ok (.aload_n 0, 1) := by decide +kernel
theorem dX4_operate_438 : decode cX4_operate 438 = .ok (.getfield 64, 3) := by decide +kernel
theorem dX4_operate_441 : decode cX4_operate 441 = .ok (.aload_n 0, 1) := by decide +kernel
theorem dX4_operate_442 : decode cX4_operate 442 = .ok (.getfield 22, 3) := by decide +kernel
theorem dX4_operate_445 : decode cX4_operate 445 = .ok (.aload 4, 2) := by decide +kernel
theorem dX4_operate_447 : decode cX4_operate 447 = .ok (.getfield 188, 3) := by decide +kernel
theorem dX4_operate_450 : decode cX4_operate 450 = .ok (.invokevirtual 192, 3) := by decide +kernel
theorem dX4_operate_453 : decode cX4_operate 453 = .ok (.invokevirtual 215, 3) := by decide +kernel
theorem dX4_operate_456 : decode cX4_operate 456 = .ok (.iload 6, 2) := by decide +kernel
theorem dX4_operate_458 : decode cX4_operate 458 = .ok (.ifCond .eq 14, 3) := by decide +kernel
theorem dX4_operate_461 : decode cX4_operate 461 = .ok (.aload_n 0, 1) := by decide +kernel
theorem dX4_operate_462 : decode cX4_operate 462 = .ok (.getfield 64, 3) := by decide +kernel
theorem dX4_operate_465 : decode cX4_operate 465 = .ok (.aload_n 0, 1) := by decide +kernel
theorem dX4_operate_466 : decode cX4_operate 466 = .ok (.getfield 22, 3) := by decide +kernel
theorem dX4_operate_469 : decode cX4_operate 469 = .ok (.invokevirtual 219, 3) := by decide +kernel
theorem dX4_operate_472 : decode cX4_operate 472 = .ok (.iload 6, 2) := by decide +kernel
theorem dX4_operate_474 : decode cX4_operate 474 = .ok (.ifCond .eq 13, 3) := by decide +kernel
theorem dX4_operate_477 : decode cX4_operate 477 = .ok (.aload_n 0, 1) := by decide +kernel
theorem dX4_operate_478 : decode cX4_operate 478 = .ok (.getfield 22, 3) := by decide +kernel
theorem dX4_operate_481 : decode cX4_operate 481 = .ok (.invokevirtual 222, 3) := by decide +kernel
theorem dX4_operate_484 : decode cX4_operate 484 = .ok (.ifCond .ne 5, 3) := by decide +kernel
theorem dX4_operate_487 : decode cX4_operate 487 = .ok (.iconst 3, 1) := by decide +kernel
theorem dX4_operate_488 : decode cX4_operate 488 = .ok (.ireturn, 1) := by decide +kernel
theorem dX4_operate_489 : decode cX4_operate 489 = .ok (.aload_n 0, 1) := by decide +kernel
theorem dX4_operate_490 : decode cX4_operate 490 = .ok (.dup, 1) := by decide +kernel
theorem dX4_operate_491 : decode cX4_operate 491 = .ok (.getfield 68, 3) := by decide +kernel
theorem dX4_operate_494 : decode cX4_operate 494 = .ok (.iload_n 2, 1) := by decide +kernel
theorem dX4_operate_495 : decode cX4_operate 495 = .ok (.iconst 1, 1) := by decide +kernel
theorem dX4_operate_496 : decode cX4_operate 496 = .ok (.isub, 1) := by decide +kernel
theorem dX4_operate_497 : decode cX4_operate 497 = .ok (.isub, 1) := by decide +kernel
theorem dX4_operate_498 : decode cX4_operate 498 = .ok (.putfield 68, 3) := by decide +kernel
theorem dX4_operate_501 : decode cX4_operate 501 = .ok (.aload 4, 2) := by decide +kernel
theorem dX4_operate_503 : decode cX4_operate 503 = .ok (.aload_n 0, 1) := by decide +kernel
theorem dX4_operate_504 : decode cX4_operate 504 = .ok (.getfield 22, 3) := by decide +kernel
theorem dX4_operate_507 : decode cX4_operate 507 = .ok (.invokevirtual 164, 3) := by decide +kernel
theorem dX4_operate_510 : decode cX4_operate 510 = .ok (.iconst 0, 1) := by decide +kernel
theorem dX4_operate_511 : decode cX4_operate 511 = .ok (.ireturn, 1) := by decide +kernel
theorem dX4_faultOf_0 : decode cX4_faultOf 0 = .ok (.aload_n 2, 1) := by decide +kernel
theorem dX4_faultOf_1 : decode cX4_faultOf 1 = .ok (.getfield 188, 3) := by decide +kernel
theorem dX4_faultOf_4 : decode cX4_faultOf 4 = .ok (.invokevirtual 192, 3) := by decide +kernel
theorem dX4_faultOf_7 : decode cX4_faultOf 7 = .ok (.istore_n 3, 1) := by decide +kernel
theorem dX4_faultOf_8 : decode cX4_faultOf 8 = .ok (.iload_n 0, 1) := by decide +kernel
theorem dX4_faultOf_9 : decode cX4_faultOf 9 = .ok (.lookupswitch 150 #[(3, 43), (4, 56), (5, 85), (13, 125)], 43) := by decide +kernel
theorem dX4_faultOf_52 : decode cX4_faultOf 52 = .ok (.aload_n 2, 1) := by decide +kernel
theorem dX4_faultOf_53 : decode cX4_faultOf 53 = .ok (.invokevirtual 208, 3) := by decide +kernel
theorem dX4_faultOf_56 : decode cX4_faultOf 56 = .ok (.ifCond .eq 7, 3) := by decide +kernel
theorem dX4_faultOf_59 : decode cX4_faultOf 59 = .ok (.iconst 1, 1) := by decide +kernel
theorem dX4_faultOf_60 : decode cX4_faultOf 60 = .ok (.goto 4, 3) := by decide +kernel
theorem dX4_faultOf_63 : decode cX4_faultOf 63 = .ok (.iconst 0, 1) := by decide +kernel
theorem dX4_faultOf_64 : decode cX4_faultOf 64 = .ok (.ireturn, 1) := by decide +kernel
theorem dX4_faultOf_65 : decode cX4_faultOf 65 = .ok (.aload_n 1, 1) := by decide +kernel
theorem dX4_faultOf_66 : decode cX4_faultOf 66 = .ok (.invokevirtual 225, 3) := by decide +kernel
theorem dX4_faultOf_69 : decode cX4_faultOf 69 = .ok (.ifCond .eq 10, 3) := by decide +kernel
theorem dX4_faultOf_72 : decode cX4_faultOf 72 = .ok (.aload_n 2, 1) := by decide +kernel
theorem dX4_faultOf_73 : decode cX4_faultOf 73 = .ok (.invokevirtual 225, 3) := by decide +kernel
theorem dX4_faultOf_76 : decode cX4_faultOf 76 = .ok (.ifCond .ne 5, 3) := by decide +kernel
theorem dX4_faultOf_79 : decode cX4_faultOf 79 = .ok (.iconst 2, 1) := by decide +kernel
theorem dX4_faultOf_80 : decode cX4_faultOf 80 = .ok (.ireturn, 1) := by decide +kernel
theorem dX4_faultOf_81 : decode cX4_faultOf 81 = .ok (.aload_n 2, 1) := by decide +kernel
theorem dX4_faultOf_82 : decode cX4_faultOf 82 = .ok (.invokevirtual 208, 3) := by decide +kernel
theorem dX4_faultOf_85 : decode cX4_faultOf 85 = .ok (.ifCond .eq 7, 3) := by decide +kernel
theorem dX4_faultOf_88 : decode cX4_faultOf 88 = .ok (.iconst 1, 1) := by decide +kernel
theorem dX4_faultOf_89 : decode cX4_faultOf 89 = .ok (.goto 4, 3) := by decide +kernel
theorem dX4_faultOf_92 : decode cX4_faultOf 92 = .ok (.iconst 0, 1) := by decide +kernel
theorem dX4_faultOf_93 : decode cX4_faultOf 93 = .ok (.ireturn, 1) := by decide +kernel
theorem dX4_faultOf_94 : decode cX4_faultOf 94 = .ok (.aload_n 2, 1) := by decide +kernel
theorem dX4_faultOf_95 : decode cX4_faultOf 95 = .ok (.invokevirtual 225, 3) := by decide +kernel
theorem dX4_faultOf_98 : decode cX4_faultOf 98 = .ok (.ifCond .ne 5, 3) := by decide +kernel
theorem dX4_faultOf_101 : decode cX4_faultOf 101 = .ok (.iconst 2, 1) := by decide +kernel
theorem dX4_faultOf_102 : decode cX4_faultOf 102 = .ok (.ireturn, 1) := by decide +kernel
theorem dX4_faultOf_103 : decode cX4_faultOf 103 = .ok (.aload_n 1, 1) := by decide +kernel
theorem dX4_faultOf_104 : decode cX4_faultOf 104 = .ok (.invokevirtual 208, 3) := by decide +kernel
theorem dX4_faultOf_107 : decode cX4_faultOf 107 = .ok (.ifCond .eq 9, 3) := by decide +kernel
theorem dX4_faultOf_110 : decode cX4_faultOf 110 = .ok (.iload_n 3, 1) := by decide +kernel
theorem dX4_faultOf_111 : decode cX4_faultOf 111 = .ok (.ifCond .ge 5, 3) := by decide +kernel
theorem dX4_faultOf_114 : decode cX4_faultOf 114 = .ok (.iconst 1, 1) := by decide +kernel
theorem dX4_faultOf_115 : decode cX4_faultOf 115 = .ok (.ireturn, 1) := by decide +kernel
theorem dX4_faultOf_116 : decode cX4_faultOf 116 = .ok (.iload_n 3, 1) := by decide +kernel
theorem dX4_faultOf_117 : decode cX4_faultOf 117 = .ok (.bipush 64, 2) := by decide +kernel
theorem dX4_faultOf_119 : decode cX4_faultOf 119 = .ok (.if_icmp .gt 9, 3) := by decide +kernel
theorem dX4_faultOf_122 : decode cX4_faultOf 122 = .ok (.iload_n 3, 1) := by decide +kernel
theorem dX4_faultOf_123 : decode cX4_faultOf 123 = .ok (.bipush (-64), 2) := by decide +kernel
theorem dX4_faultOf_125 : decode cX4_faultOf 125 = .ok (.if_icmp .ge 7, 3) := by decide +kernel
theorem dX4_faultOf_128 : decode cX4_faultOf 128 = .ok (.iconst 3, 1) := by decide +kernel
theorem dX4_faultOf_129 : decode cX4_faultOf 129 = .ok (.goto 4, 3) := by decide +kernel
theorem dX4_faultOf_132 : decode cX4_faultOf 132 = .ok (.iconst 0, 1) := by decide +kernel
theorem dX4_faultOf_133 : decode cX4_faultOf 133 = .ok (.ireturn, 1) := by decide +kernel
theorem dX4_faultOf_134 : decode cX4_faultOf 134 = .ok (.aload_n 1, 1) := by decide +kernel
theorem dX4_faultOf_135 : decode cX4_faultOf 135 = .ok (.invokevirtual 225, 3) := by decide +kernel
theorem dX4_faultOf_138 : decode cX4_faultOf 138 = .ok (.ifCond .eq 7, 3) := by decide +kernel
theorem dX4_faultOf_141 : decode cX4_faultOf 141 = .ok (.iload_n 3, 1) := by decide +kernel
theorem dX4_faultOf_142 : decode cX4_faultOf 142 = .ok (.ifCond .ge 5, 3) := by decide +kernel
theorem dX4_faultOf_145 : decode cX4_faultOf 145 = .ok (.iconst 2, 1) := by decide +kernel
theorem dX4_faultOf_146 : decode cX4_faultOf 146 = .ok (.ireturn, 1) := by decide +kernel
theorem dX4_faultOf_147 : decode cX4_faultOf 147 = .ok (.iload_n 3, 1) := by decide +kernel
theorem dX4_faultOf_148 : decode cX4_faultOf 148 = .ok (.bipush 30, 2) := by decide +kernel
theorem dX4_faultOf_150 : decode cX4_faultOf 150 = .ok (.if_icmp .le 7, 3) := by decide +kernel
theorem dX4_faultOf_153 : decode cX4_faultOf 153 = .ok (.iconst 3, 1) := by decide +kernel
theorem dX4_faultOf_154 : decode cX4_faultOf 154 = .ok (.goto 4, 3) := by decide +kernel
theorem dX4_faultOf_157 : decode cX4_faultOf 157 = .ok (.iconst 0, 1) := by decide +kernel
theorem dX4_faultOf_158 : decode cX4_faultOf 158 = .ok (.ireturn, 1) := by decide +kernel
theorem dX4_faultOf_159 : decode cX4_faultOf 159 = .ok (.iconst 0, 1) := by decide +kernel
theorem dX4_faultOf_160 : decode cX4_faultOf 160 = .ok (.ireturn, 1) := by decide +kernel
theorem dX4_openCall_0 : decode cX4_openCall 0 = .ok (.aload_n 0, 1) := by decide +kernel
theorem dX4_openCall_1 : decode cX4_openCall 1 = .ok (.getfield 60, 3) := by decide +kernel
theorem dX4_openCall_4 : decode cX4_openCall 4 = .ok (.iload_n 1, 1) := by decide +kernel
theorem dX4_openCall_5 : decode cX4_openCall 5 = .ok (.invokevirtual 228, 3) := by decide +kernel
theorem dX4_openCall_8 : decode cX4_openCall 8 = .ok (.iload_n 2, 1) := by decide +kernel
theorem dX4_openCall_9 : decode cX4_openCall 9 = .ok (.if_icmp .ne 11, 3) := by decide +kernel
theorem dX4_openCall_12 : decode cX4_openCall 12 = .ok (.iload_n 2, 1) := by decide +kernel
theorem dX4_openCall_13 : decode cX4_openCall 13 = .ok (.aload_n 0, 1) := by decide +kernel
theorem dX4_openCall_14 : decode cX4_openCall 14 = .ok (.getfield 68, 3) := by decide +kernel
theorem dX4_openCall_17 : decode cX4_openCall 17 = .ok (.if_icmp .le 5, 3) := by decide +kernel
theorem dX4_openCall_20 : decode cX4_openCall 20 = .ok (.iconst 5, 1) := by decide +kernel
theorem dX4_openCall_21 : decode cX4_openCall 21 = .ok (.ireturn, 1) := by decide +kernel
theorem dX4_openCall_22 : decode cX4_openCall 22 = .ok (.aload_n 0, 1) := by decide +kernel
theorem dX4_openCall_23 : decode cX4_openCall 23 = .ok (.getfield 78, 3) := by decide +kernel
theorem dX4_openCall_26 : decode cX4_openCall 26 = .ok (.bipush 12, 2) := by decide +kernel
theorem dX4_openCall_28 : decode cX4_openCall 28 = .ok (.if_icmp .lt 6, 3) := by decide +kernel
theorem dX4_openCall_31 : decode cX4_openCall 31 = .ok (.bipush 8, 2) := by decide +kernel
theorem dX4_openCall_33 : decode cX4_openCall 33 = .ok (.ireturn, 1) := by decide +kernel
theorem dX4_openCall_34 : decode cX4_openCall 34 = .ok (.aload_n 0, 1) := by decide +kernel
theorem dX4_openCall_35 : decode cX4_openCall 35 = .ok (.iconst 0, 1) := by decide +kernel
theorem dX4_openCall_36 : decode cX4_openCall 36 = .ok (.iload_n 2, 1) := by decide +kernel
theorem dX4_openCall_37 : decode cX4_openCall 37 = .ok (.aload_n 0, 1) := by decide +kernel
theorem dX4_openCall_38 : decode cX4_openCall 38 = .ok (.getfield 68, 3) := by decide +kernel
theorem dX4_openCall_41 : decode cX4_openCall 41 = .ok (.iload_n 2, 1) := by decide +kernel
theorem dX4_openCall_42 : decode cX4_openCall 42 = .ok (.isub, 1) := by decide +kernel
theorem dX4_openCall_43 : decode cX4_openCall 43 = .ok (.iconst (-1), 1) := by decide +kernel
theorem dX4_openCall_44 : decode cX4_openCall 44 = .ok (.invokevirtual 231, 3) := by decide +kernel
theorem dX4_openCall_47 : decode cX4_openCall 47 = .ok (.ifCond .ne 6, 3) := by decide +kernel
theorem dX4_openCall_50 : decode cX4_openCall 50 = .ok (.bipush 9, 2) := by decide +kernel
theorem dX4_openCall_52 : decode cX4_openCall 52 = .ok (.ireturn, 1) := by decide +kernel
theorem dX4_openCall_53 : decode cX4_openCall 53 = .ok (.aload_n 0, 1) := by decide +kernel
theorem dX4_openCall_54 : decode cX4_openCall 54 = .ok (.dup, 1) := by decide +kernel
theorem dX4_openCall_55 : decode cX4_openCall 55 = .ok (.getfield 78, 3) := by decide +kernel
theorem dX4_openCall_58 : decode cX4_openCall 58 = .ok (.iconst 1, 1) := by decide +kernel
theorem dX4_openCall_59 : decode cX4_openCall 59 = .ok (.iadd, 1) := by decide +kernel
theorem dX4_openCall_60 : decode cX4_openCall 60 = .ok (.putfield 78, 3) := by decide +kernel
theorem dX4_openCall_63 : decode cX4_openCall 63 = .ok (.aload_n 0, 1) := by decide +kernel
theorem dX4_openCall_64 : decode cX4_openCall 64 = .ok (.iconst 3, 1) := by decide +kernel
theorem dX4_openCall_65 : decode cX4_openCall 65 = .ok (.aconst_null, 1) := by decide +kernel
theorem dX4_openCall_66 : decode cX4_openCall 66 = .ok (.iload_n 1, 1) := by decide +kernel
theorem dX4_openCall_67 : decode cX4_openCall 67 = .ok (.aload_n 0, 1) := by decide +kernel
theorem dX4_openCall_68 : decode cX4_openCall 68 = .ok (.getfield 81, 3) := by decide +kernel
theorem dX4_openCall_71 : decode cX4_openCall 71 = .ok (.iconst 1, 1) := by decide +kernel
theorem dX4_openCall_72 : decode cX4_openCall 72 = .ok (.isub, 1) := by decide +kernel
theorem dX4_openCall_73 : decode cX4_openCall 73 = .ok (.invokevirtual 91, 3) := by decide +kernel
theorem dX4_openCall_76 : decode cX4_openCall 76 = .ok (.ireturn, 1) := by decide +kernel
theorem dX4_openScope_0 : decode cX4_openScope 0 = .ok (.aload_n 0, 1) := by decide +kernel
theorem dX4_openScope_1 : decode cX4_openScope 1 = .ok (.getfield 81, 3) := by decide +kernel
theorem dX4_openScope_4 : decode cX4_openScope 4 = .ok (.sipush 240, 3) := by decide +kernel
theorem dX4_openScope_7 : decode cX4_openScope 7 = .ok (.if_icmp .lt 5, 3) := by decide +kernel
theorem dX4_openScope_10 : decode cX4_openScope 10 = .ok (.iconst 0, 1) := by decide +kernel
theorem dX4_openScope_11 : decode cX4_openScope 11 = .ok (.ireturn, 1) := by decide +kernel
theorem dX4_openScope_12 : decode cX4_openScope 12 = .ok (.aload_n 0, 1) := by decide +kernel
theorem dX4_openScope_13 : decode cX4_openScope 13 = .ok (.getfield 48, 3) := by decide +kernel
theorem dX4_openScope_16 : decode cX4_openScope 16 = .ok (.aload_n 0, 1) := by decide +kernel
theorem dX4_openScope_17 : decode cX4_openScope 17 = .ok (.getfield 81, 3) := by decide +kernel
theorem dX4_openScope_20 : decode cX4_openScope 20 = .ok (.iload_n 1, 1) := by decide +kernel
theorem dX4_openScope_21 : decode cX4_openScope 21 = .ok (.iastore, 1) := by decide +kernel
theorem dX4_openScope_22 : decode cX4_openScope 22 = .ok (.aload_n 0, 1) := by decide +kernel
theorem dX4_openScope_23 : decode cX4_openScope 23 = .ok (.getfield 51, 3) := by decide +kernel
theorem dX4_openScope_26 : decode cX4_openScope 26 = .ok (.aload_n 0, 1) := by decide +kernel
theorem dX4_openScope_27 : decode cX4_openScope 27 = .ok (.getfield 81, 3) := by decide +kernel
theorem dX4_openScope_30 : decode cX4_openScope 30 = .ok (.iload_n 2, 1) := by decide +kernel
theorem dX4_openScope_31 : decode cX4_openScope 31 = .ok (.iastore, 1) := by decide +kernel
theorem dX4_openScope_32 : decode cX4_openScope 32 = .ok (.aload_n 0, 1) := by decide +kernel
theorem dX4_openScope_33 : decode cX4_openScope 33 = .ok (.getfield 54, 3) := by decide +kernel
theorem dX4_openScope_36 : decode cX4_openScope 36 = .ok (.aload_n 0, 1) := by decide +kernel
theorem dX4_openScope_37 : decode cX4_openScope 37 = .ok (.getfield 81, 3) := by decide +kernel
theorem dX4_openScope_40 : decode cX4_openScope 40 = .ok (.iload_n 3, 1) := by decide +kernel
theorem dX4_openScope_41 : decode cX4_openScope 41 = .ok (.iastore, 1) := by decide +kernel
theorem dX4_openScope_42 : decode cX4_openScope 42 = .ok (.aload_n 0, 1) := by decide +kernel
theorem dX4_openScope_43 : decode cX4_openScope 43 = .ok (.getfield 57, 3) := by decide +kernel
theorem dX4_openScope_46 : decode cX4_openScope 46 = .ok (.aload_n 0, 1) := by decide +kernel
theorem dX4_openScope_47 : decode cX4_openScope 47 = .ok (.getfield 81, 3) := by decide +kernel
theorem dX4_openScope_50 : decode cX4_openScope 50 = .ok (.iload 4, 2) := by decide +kernel
theorem dX4_openScope_52 : decode cX4_openScope 52 = .ok (.iastore, 1) := by decide +kernel
theorem dX4_openScope_53 : decode cX4_openScope 53 = .ok (.aload_n 0, 1) := by decide +kernel
theorem dX4_openScope_54 : decode cX4_openScope 54 = .ok (.dup, 1) := by decide +kernel
theorem dX4_openScope_55 : decode cX4_openScope 55 = .ok (.getfield 81, 3) := by decide +kernel
theorem dX4_openScope_58 : decode cX4_openScope 58 = .ok (.iconst 1, 1) := by decide +kernel
theorem dX4_openScope_59 : decode cX4_openScope 59 = .ok (.iadd, 1) := by decide +kernel
theorem dX4_openScope_60 : decode cX4_openScope 60 = .ok (.putfield 81, 3) := by decide +kernel
theorem dX4_openScope_63 : decode cX4_openScope 63 = .ok (.iconst 1, 1) := by decide +kernel
theorem dX4_openScope_64 : decode cX4_openScope 64 = .ok (.ireturn, 1) := by decide +kernel
theorem dX4_advanceCall_0 : decode cX4_advanceCall 0 = .ok (.aload_n 0, 1) := by decide +kernel
theorem dX4_advanceCall_1 : decode cX4_advanceCall 1 = .ok (.getfield 39, 3) := by decide +kernel
theorem dX4_advanceCall_4 : decode cX4_advanceCall 4 = .ok (.iload_n 1, 1) := by decide +kernel
theorem dX4_advanceCall_5 : decode cX4_advanceCall 5 = .ok (.iaload, 1) := by decide +kernel
theorem dX4_advanceCall_6 : decode cX4_advanceCall 6 = .ok (.istore_n 3, 1) := by decide +kernel
theorem dX4_advanceCall_7 : decode cX4_advanceCall 7 = .ok (.iload_n 3, 1) := by decide +kernel
theorem dX4_advanceCall_8 : decode cX4_advanceCall 8 = .ok (.iconst 2, 1) := by decide +kernel
theorem dX4_advanceCall_9 : decode cX4_advanceCall 9 = .ok (.idiv, 1) := by decide +kernel
theorem dX4_advanceCall_10 : decode cX4_advanceCall 10 = .ok (.istore 4, 2) := by decide +kernel
theorem dX4_advanceCall_12 : decode cX4_advanceCall 12 = .ok (.aload_n 0, 1) := by decide +kernel
theorem dX4_advanceCall_13 : decode cX4_advanceCall 13 = .ok (.getfield 42, 3) := by decide +kernel
theorem dX4_advanceCall_16 : decode cX4_advanceCall 16 = .ok (.iload_n 1, 1) := by decide +kernel
theorem dX4_advanceCall_17 : decode cX4_advanceCall 17 = .ok (.iaload, 1) := by decide +kernel
theorem dX4_advanceCall_18 : decode cX4_advanceCall 18 = .ok (.istore 5, 2) := by decide +kernel
theorem dX4_advanceCall_20 : decode cX4_advanceCall 20 = .ok (.aload_n 0, 1) := by decide +kernel
theorem dX4_advanceCall_21 : decode cX4_advanceCall 21 = .ok (.getfield 39, 3) := by decide +kernel
theorem dX4_advanceCall_24 : decode cX4_advanceCall 24 = .ok (.iload_n 1, 1) := by decide +kernel
theorem dX4_advanceCall_25 : decode cX4_advanceCall 25 = .ok (.dup2, 1) := by decide +kernel
theorem dX4_advanceCall_26 : decode cX4_advanceCall 26 = .ok (.iaload, 1) := by decide +kernel
theorem dX4_advanceCall_27 : decode cX4_advanceCall 27 = .ok (.iconst 1, 1) := by decide +kernel
theorem dX4_advanceCall_28 : decode cX4_advanceCall 28 = .ok (.iadd, 1) := by decide +kernel
theorem dX4_advanceCall_29 : decode cX4_advanceCall 29 = .ok (.iastore, 1) := by decide +kernel
theorem dX4_advanceCall_30 : decode cX4_advanceCall 30 = .ok (.iload 4, 2) := by decide +kernel
theorem dX4_advanceCall_32 : decode cX4_advanceCall 32 = .ok (.aload_n 0, 1) := by decide +kernel
theorem dX4_advanceCall_33 : decode cX4_advanceCall 33 = .ok (.getfield 60, 3) := by decide +kernel
theorem dX4_advanceCall_36 : decode cX4_advanceCall 36 = .ok (.iload_n 2, 1) := by decide +kernel
theorem dX4_advanceCall_37 : decode cX4_advanceCall 37 = .ok (.invokevirtual 235, 3) := by decide +kernel
theorem dX4_advanceCall_40 : decode cX4_advanceCall 40 = .ok (.if_icmp .lt 29, 3) := by decide +kernel
theorem dX4_advanceCall_43 : decode cX4_advanceCall 43 = .ok (.iload_n 3, 1) := by decide +kernel
theorem dX4_advanceCall_44 : decode cX4_advanceCall 44 = .ok (.iconst 2, 1) := by decide +kernel
theorem dX4_advanceCall_45 : decode cX4_advanceCall 45 = .ok (.irem, 1) := by decide +kernel
theorem dX4_advanceCall_46 : decode cX4_advanceCall 46 = .ok (.iconst 1, 1) := by decide +kernel
theorem dX4_advanceCall_47 : decode cX4_advanceCall 47 = .ok (.if_icmp .ne 13, 3) := by decide +kernel
theorem dX4_advanceCall_50 : decode cX4_advanceCall 50 = .ok (.aload_n 0, 1) := by decide +kernel
theorem dX4_advanceCall_51 : decode cX4_advanceCall 51 = .ok (.iload_n 1, 1) := by decide +kernel
theorem dX4_advanceCall_52 : decode cX4_advanceCall 52 = .ok (.iload 5, 2) := by decide +kernel
theorem dX4_advanceCall_54 : decode cX4_advanceCall 54 = .ok (.invokevirtual 238, 3) := by decide +kernel
theorem dX4_advanceCall_57 : decode cX4_advanceCall 57 = .ok (.goto 11, 3) := by decide +kernel
theorem dX4_advanceCall_60 : decode cX4_advanceCall 60 = .ok (.aload_n 0, 1) := by decide +kernel
theorem dX4_advanceCall_61 : decode cX4_advanceCall 61 = .ok (.iload_n 1, 1) := by decide +kernel
theorem dX4_advanceCall_62 : decode cX4_advanceCall 62 = .ok (.iload_n 2, 1) := by decide +kernel
theorem dX4_advanceCall_63 : decode cX4_advanceCall 63 = .ok (.iload 5, 2) := by decide +kernel
theorem dX4_advanceCall_65 : decode cX4_advanceCall 65 = .ok (.invokevirtual 241, 3) := by decide +kernel
theorem dX4_advanceCall_68 : decode cX4_advanceCall 68 = .ok (.ireturn, 1) := by decide +kernel
theorem dX4_advanceCall_69 : decode cX4_advanceCall 69 = .ok (.iload_n 3, 1) := by decide +kernel
theorem dX4_advanceCall_70 : decode cX4_advanceCall 70 = .ok (.iconst 2, 1) := by decide +kernel
theorem dX4_advanceCall_71 : decode cX4_advanceCall 71 = .ok (.irem, 1) := by decide +kernel
theorem dX4_advanceCall_72 : decode cX4_advanceCall 72 = .ok (.iconst 1, 1) := by decide +kernel
theorem dX4_advanceCall_73 : decode cX4_advanceCall 73 = .ok (.if_icmp .ne 49, 3) := by decide +kernel
theorem dX4_advanceCall_76 : decode cX4_advanceCall 76 = .ok (.aload_n 0, 1) := by decide +kernel
theorem dX4_advanceCall_77 : decode cX4_advanceCall 77 = .ok (.getfield 68, 3) := by decide +kernel
theorem dX4_advanceCall_80 : decode cX4_advanceCall 80 = .ok (.ifCond .le 40, 3) := by decide +kernel
theorem dX4_advanceCall_83 : decode cX4_advanceCall 83 = .ok (.aload_n 0, 1) := by decide +kernel
theorem dX4_advanceCall_84 : decode cX4_advanceCall 84 = .ok (.dup, 1) := by decide +kernel
theorem dX4_advanceCall_85 : decode cX4_advanceCall 85 = .ok (.getfield 68, 3) := by decide +kernel
theorem dX4_advanceCall_88 : decode cX4_advanceCall 88 = .ok (.iconst 1, 1) := by decide +kernel
theorem dX4_advanceCall_89 : decode cX4_advanceCall 89 = .ok (.isub, 1) := by decide +kernel
theorem dX4_advanceCall_90 : decode cX4_advanceCall 90 = .ok (.putfield 68, 3) := by decide +kernel
theorem dX4_advanceCall_93 : decode cX4_advanceCall 93 = .ok (.aload_n 0, 1) := by decide +kernel
theorem dX4_advanceCall_94 : decode cX4_advanceCall 94 = .ok (.iload_n 1, 1) := by decide +kernel
theorem dX4_advanceCall_95 : decode cX4_advanceCall 95 = .ok (.iload 4, 2) := by decide +kernel
theorem dX4_advanceCall_97 : decode cX4_advanceCall 97 = .ok (.aload_n 0, 1) := by decide +kernel
theorem dX4_advanceCall_98 : decode cX4_advanceCall 98 = .ok (.getfield 13, 3) := by decide +kernel
theorem dX4_advanceCall_101 : decode cX4_advanceCall 101 = .ok (.aload_n 0, 1) := by decide +kernel
theorem dX4_advanceCall_102 : decode cX4_advanceCall 102 = .ok (.getfield 68, 3) := by decide +kernel
theorem dX4_advanceCall_105 : decode cX4_advanceCall 105 = .ok (.aaload, 1) := by decide +kernel
theorem dX4_advanceCall_106 : decode cX4_advanceCall 106 = .ok (.invokevirtual 208, 3) := by decide +kernel
theorem dX4_advanceCall_109 : decode cX4_advanceCall 109 = .ok (.ifCond .ne 7, 3) := by decide +kernel
theorem dX4_advanceCall_112 : decode cX4_advanceCall 112 = .ok (.iconst 1, 1) := by decide +kernel
theorem dX4_advanceCall_113 : decode cX4_advanceCall 113 = .ok (.goto 4, 3) := by decide +kernel
theorem dX4_advanceCall_116 : decode cX4_advanceCall 116 = .ok (.iconst 0, 1) := by decide +kernel
theorem dX4_advanceCall_117 : decode cX4_advanceCall 117 = .ok (.invokevirtual 245, 3) := by decide +kernel
theorem dX4_advanceCall_120 : decode cX4_advanceCall 120 = .ok (.iconst 0, 1) := by decide +kernel
theorem dX4_advanceCall_121 : decode cX4_advanceCall 121 = .ok (.ireturn, 1) := by decide +kernel
theorem dX4_advanceCall_122 : decode cX4_advanceCall 122 = .ok (.aload_n 0, 1) := by decide +kernel
theorem dX4_advanceCall_123 : decode cX4_advanceCall 123 = .ok (.getfield 60, 3) := by decide +kernel
theorem dX4_advanceCall_126 : decode cX4_advanceCall 126 = .ok (.iload_n 2, 1) := by decide +kernel
theorem dX4_advanceCall_127 : decode cX4_advanceCall 127 = .ok (.iload 4, 2) := by decide +kernel
theorem dX4_advanceCall_129 : decode cX4_advanceCall 129 = .ok (.invokevirtual 249, 3) := by decide +kernel
