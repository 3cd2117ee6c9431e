theorem dX12_lowest_16 : decode cX12_lowest 16 = .ok (.aload_n 0, 1) := by decide +kernel
theorem dX12_lowest_17 : decode cX12_lowest 17 = .ok (.bipush 12, 2) := by decide +kernel
theorem dX12_lowest_19 : decode cX12_lowest 19 = .ok (.iload_n 1, 1) := by decide +kernel
theorem dX12_lowest_20 : decode cX12_lowest 20 = .ok (.invokevirtual 43, 3) := by decide +kernel
theorem dX12_lowest_23 : decode cX12_lowest 23 = .ok (.aload_n 0, 1) := by decide +kernel
theorem dX12_lowest_24 : decode cX12_lowest 24 = .ok (.bipush 13, 2) := by decide +kernel
theorem dX12_lowest_26 : decode cX12_lowest 26 = .ok (.iload_n 2, 1) := by decide +kernel
theorem dX12_lowest_27 : decode cX12_lowest 27 = .ok (.invokevirtual 43, 3) := by decide +kernel
theorem dX12_lowest_30 : decode cX12_lowest 30 = .ok (.aload_n 0, 1) := by decide +kernel
theorem dX12_lowest_31 : decode cX12_lowest 31 = .ok (.bipush 12, 2) := by decide +kernel
theorem dX12_lowest_33 : decode cX12_lowest 33 = .ok (.bipush 13, 2) := by decide +kernel
theorem dX12_lowest_35 : decode cX12_lowest 35 = .ok (.invokevirtual 59, 3) := by decide +kernel
theorem dX12_lowest_38 : decode cX12_lowest 38 = .ok (.aload_n 0, 1) := by decide +kernel
theorem dX12_lowest_39 : decode cX12_lowest 39 = .ok (.getfield 7, 3) := by decide +kernel
theorem dX12_lowest_42 : decode cX12_lowest 42 = .ok (.bipush 12, 2) := by decide +kernel
theorem dX12_lowest_44 : decode cX12_lowest 44 = .ok (.iaload, 1) := by decide +kernel
theorem dX12_lowest_45 : decode cX12_lowest 45 = .ok (.iconst 1, 1) := by decide +kernel
theorem dX12_lowest_46 : decode cX12_lowest 46 = .ok (.if_icmp .gt 15, 3) := by decide +kernel
theorem dX12_lowest_49 : decode cX12_lowest 49 = .ok (.aload_n 0, 1) := by decide +kernel
theorem dX12_lowest_50 : decode cX12_lowest 50 = .ok (.getfield 11, 3) := by decide +kernel
theorem dX12_lowest_53 : decode cX12_lowest 53 = .ok (.sipush 5280, 3) := by decide +kernel
theorem dX12_lowest_56 : decode cX12_lowest 56 = .ok (.iaload, 1) := by decide +kernel
theorem dX12_lowest_57 : decode cX12_lowest 57 = .ok (.iconst 1, 1) := by decide +kernel
theorem dX12_lowest_58 : decode cX12_lowest 58 = .ok (.if_icmp .le 47, 3) := by decide +kernel
theorem dX12_lowest_61 : decode cX12_lowest 61 = .ok (.aload_n 0, 1) := by decide +kernel
theorem dX12_lowest_62 : decode cX12_lowest 62 = .ok (.bipush 13, 2) := by decide +kernel
theorem dX12_lowest_64 : decode cX12_lowest 64 = .ok (.bipush 12, 2) := by decide +kernel
theorem dX12_lowest_66 : decode cX12_lowest 66 = .ok (.invokevirtual 43, 3) := by decide +kernel
theorem dX12_lowest_69 : decode cX12_lowest 69 = .ok (.aload_n 0, 1) := by decide +kernel
theorem dX12_lowest_70 : decode cX12_lowest 70 = .ok (.bipush 14, 2) := by decide +kernel
theorem dX12_lowest_72 : decode cX12_lowest 72 = .ok (.bipush 15, 2) := by decide +kernel
theorem dX12_lowest_74 : decode cX12_lowest 74 = .ok (.iload_n 1, 1) := by decide +kernel
theorem dX12_lowest_75 : decode cX12_lowest 75 = .ok (.bipush 13, 2) := by decide +kernel
theorem dX12_lowest_77 : decode cX12_lowest 77 = .ok (.invokevirtual 62, 3) := by decide +kernel
theorem dX12_lowest_80 : decode cX12_lowest 80 = .ok (.aload_n 0, 1) := by decide +kernel
theorem dX12_lowest_81 : decode cX12_lowest 81 = .ok (.iload_n 1, 1) := by decide +kernel
theorem dX12_lowest_82 : decode cX12_lowest 82 = .ok (.bipush 14, 2) := by decide +kernel
theorem dX12_lowest_84 : decode cX12_lowest 84 = .ok (.invokevirtual 43, 3) := by decide +kernel
theorem dX12_lowest_87 : decode cX12_lowest 87 = .ok (.aload_n 0, 1) := by decide +kernel
theorem dX12_lowest_88 : decode cX12_lowest 88 = .ok (.bipush 14, 2) := by decide +kernel
theorem dX12_lowest_90 : decode cX12_lowest 90 = .ok (.bipush 15, 2) := by decide +kernel
theorem dX12_lowest_92 : decode cX12_lowest 92 = .ok (.iload_n 2, 1) := by decide +kernel
theorem dX12_lowest_93 : decode cX12_lowest 93 = .ok (.bipush 13, 2) := by decide +kernel
theorem dX12_lowest_95 : decode cX12_lowest 95 = .ok (.invokevirtual 62, 3) := by decide +kernel
theorem dX12_lowest_98 : decode cX12_lowest 98 = .ok (.aload_n 0, 1) := by decide +kernel
theorem dX12_lowest_99 : decode cX12_lowest 99 = .ok (.iload_n 2, 1) := by decide +kernel
theorem dX12_lowest_100 : decode cX12_lowest 100 = .ok (.bipush 14, 2) := by decide +kernel
theorem dX12_lowest_102 : decode cX12_lowest 102 = .ok (.invokevirtual 43, 3) := by decide +kernel
theorem dX12_lowest_105 : decode cX12_lowest 105 = .ok (.return_, 1) := by decide +kernel
theorem dX12_store_0 : decode cX12_store 0 = .ok (.aload_n 0, 1) := by decide +kernel
theorem dX12_store_1 : decode cX12_store 1 = .ok (.iconst 0, 1) := by decide +kernel
theorem dX12_store_2 : decode cX12_store 2 = .ok (.iconst 1, 1) := by decide +kernel
theorem dX12_store_3 : decode cX12_store 3 = .ok (.invokevirtual 66, 3) := by decide +kernel
theorem dX12_store_6 : decode cX12_store 6 = .ok (.aload_n 0, 1) := by decide +kernel
theorem dX12_store_7 : decode cX12_store 7 = .ok (.iconst 0, 1) := by decide +kernel
theorem dX12_store_8 : decode cX12_store 8 = .ok (.invokevirtual 21, 3) := by decide +kernel
theorem dX12_store_11 : decode cX12_store 11 = .ok (.sipush 200, 3) := by decide +kernel
theorem dX12_store_14 : decode cX12_store 14 = .ok (.if_icmp .gt 14, 3) := by decide +kernel
theorem dX12_store_17 : decode cX12_store 17 = .ok (.aload_n 0, 1) := by decide +kernel
theorem dX12_store_18 : decode cX12_store 18 = .ok (.iconst 1, 1) := by decide +kernel
theorem dX12_store_19 : decode cX12_store 19 = .ok (.invokevirtual 21, 3) := by decide +kernel
theorem dX12_store_22 : decode cX12_store 22 = .ok (.sipush 200, 3) := by decide +kernel
theorem dX12_store_25 : decode cX12_store 25 = .ok (.if_icmp .le 5, 3) := by decide +kernel
theorem dX12_store_28 : decode cX12_store 28 = .ok (.iconst 0, 1) := by decide +kernel
theorem dX12_store_29 : decode cX12_store 29 = .ok (.ireturn, 1) := by decide +kernel
theorem dX12_store_30 : decode cX12_store 30 = .ok (.aload_n 0, 1) := by decide +kernel
theorem dX12_store_31 : decode cX12_store 31 = .ok (.getfield 46, 3) := by decide +kernel
theorem dX12_store_34 : decode cX12_store 34 = .ok (.bipush 28, 2) := by decide +kernel
theorem dX12_store_36 : decode cX12_store 36 = .ok (.iload_n 1, 1) := by decide +kernel
theorem dX12_store_37 : decode cX12_store 37 = .ok (.imul, 1) := by decide +kernel
theorem dX12_store_38 : decode cX12_store 38 = .ok (.aload_n 0, 1) := by decide +kernel
theorem dX12_store_39 : decode cX12_store 39 = .ok (.getfield 7, 3) := by decide +kernel
theorem dX12_store_42 : decode cX12_store 42 = .ok (.iconst 0, 1) := by decide +kernel
theorem dX12_store_43 : decode cX12_store 43 = .ok (.iaload, 1) := by decide +kernel
theorem dX12_store_44 : decode cX12_store 44 = .ok (.ifCond .ne 7, 3) := by decide +kernel
theorem dX12_store_47 : decode cX12_store 47 = .ok (.iconst 0, 1) := by decide +kernel
theorem dX12_store_48 : decode cX12_store 48 = .ok (.goto 4, 3) := by decide +kernel
theorem dX12_store_51 : decode cX12_store 51 = .ok (.iload_n 2, 1) := by decide +kernel
theorem dX12_store_52 : decode cX12_store 52 = .ok (.iastore, 1) := by decide +kernel
theorem dX12_store_53 : decode cX12_store 53 = .ok (.aload_n 0, 1) := by decide +kernel
theorem dX12_store_54 : decode cX12_store 54 = .ok (.iload_n 1, 1) := by decide +kernel
theorem dX12_store_55 : decode cX12_store 55 = .ok (.iconst 0, 1) := by decide +kernel
theorem dX12_store_56 : decode cX12_store 56 = .ok (.iconst 1, 1) := by decide +kernel
theorem dX12_store_57 : decode cX12_store 57 = .ok (.invokevirtual 56, 3) := by decide +kernel
theorem dX12_store_60 : decode cX12_store 60 = .ok (.aload_n 0, 1) := by decide +kernel
theorem dX12_store_61 : decode cX12_store 61 = .ok (.iload_n 1, 1) := by decide +kernel
theorem dX12_store_62 : decode cX12_store 62 = .ok (.iconst 1, 1) := by decide +kernel
theorem dX12_store_63 : decode cX12_store 63 = .ok (.bipush 14, 2) := by decide +kernel
theorem dX12_store_65 : decode cX12_store 65 = .ok (.invokevirtual 56, 3) := by decide +kernel
theorem dX12_store_68 : decode cX12_store 68 = .ok (.iconst 1, 1) := by decide +kernel
theorem dX12_store_69 : decode cX12_store 69 = .ok (.ireturn, 1) := by decide +kernel
theorem dX12_signed_0 : decode cX12_signed 0 = .ok (.iload 4, 2) := by decide +kernel
theorem dX12_signed_2 : decode cX12_signed 2 = .ok (.ifCond .eq 12, 3) := by decide +kernel
theorem dX12_signed_5 : decode cX12_signed 5 = .ok (.aload_n 0, 1) := by decide +kernel
theorem dX12_signed_6 : decode cX12_signed 6 = .ok (.getfield 7, 3) := by decide +kernel
theorem dX12_signed_9 : decode cX12_signed 9 = .ok (.iload_n 3, 1) := by decide +kernel
theorem dX12_signed_10 : decode cX12_signed 10 = .ok (.iaload, 1) := by decide +kernel
theorem dX12_signed_11 : decode cX12_signed 11 = .ok (.ifCond .ne 18, 3) := by decide +kernel
theorem dX12_signed_14 : decode cX12_signed 14 = .ok (.aload_n 0, 1) := by decide +kernel
theorem dX12_signed_15 : decode cX12_signed 15 = .ok (.getfield 7, 3) := by decide +kernel
theorem dX12_signed_18 : decode cX12_signed 18 = .ok (.iload_n 1, 1) := by decide +kernel
theorem dX12_signed_19 : decode cX12_signed 19 = .ok (.iaload, 1) := by decide +kernel
theorem dX12_signed_20 : decode cX12_signed 20 = .ok (.ifCond .ne 7, 3) := by decide +kernel
theorem dX12_signed_23 : decode cX12_signed 23 = .ok (.iconst 0, 1) := by decide +kernel
theorem dX12_signed_24 : decode cX12_signed 24 = .ok (.goto 4, 3) := by decide +kernel
theorem dX12_signed_27 : decode cX12_signed 27 = .ok (.iload_n 2, 1) := by decide +kernel
theorem dX12_signed_28 : decode cX12_signed 28 = .ok (.ireturn, 1) := by decide +kernel
theorem dX12_signed_29 : decode cX12_signed 29 = .ok (.iload_n 2, 1) := by decide +kernel
theorem dX12_signed_30 : decode cX12_signed 30 = .ok (.ifCond .eq 12, 3) := by decide +kernel
theorem dX12_signed_33 : decode cX12_signed 33 = .ok (.aload_n 0, 1) := by decide +kernel
theorem dX12_signed_34 : decode cX12_signed 34 = .ok (.getfield 7, 3) := by decide +kernel
theorem dX12_signed_37 : decode cX12_signed 37 = .ok (.iload_n 1, 1) := by decide +kernel
theorem dX12_signed_38 : decode cX12_signed 38 = .ok (.iaload, 1) := by decide +kernel
theorem dX12_signed_39 : decode cX12_signed 39 = .ok (.ifCond .ne 12, 3) := by decide +kernel
theorem dX12_signed_42 : decode cX12_signed 42 = .ok (.aload_n 0, 1) := by decide +kernel
theorem dX12_signed_43 : decode cX12_signed 43 = .ok (.iload_n 1, 1) := by decide +kernel
theorem dX12_signed_44 : decode cX12_signed 44 = .ok (.iload_n 3, 1) := by decide +kernel
theorem dX12_signed_45 : decode cX12_signed 45 = .ok (.invokevirtual 43, 3) := by decide +kernel
theorem dX12_signed_48 : decode cX12_signed 48 = .ok (.iload 4, 2) := by decide +kernel
theorem dX12_signed_50 : decode cX12_signed 50 = .ok (.ireturn, 1) := by decide +kernel
theorem dX12_signed_51 : decode cX12_signed 51 = .ok (.iload_n 2, 1) := by decide +kernel
theorem dX12_signed_52 : decode cX12_signed 52 = .ok (.iload 4, 2) := by decide +kernel
theorem dX12_signed_54 : decode cX12_signed 54 = .ok (.if_icmp .ne 11, 3) := by decide +kernel
theorem dX12_signed_57 : decode cX12_signed 57 = .ok (.aload_n 0, 1) := by decide +kernel
theorem dX12_signed_58 : decode cX12_signed 58 = .ok (.iload_n 1, 1) := by decide +kernel
theorem dX12_signed_59 : decode cX12_signed 59 = .ok (.iload_n 3, 1) := by decide +kernel
theorem dX12_signed_60 : decode cX12_signed 60 = .ok (.invokevirtual 69, 3) := by decide +kernel
theorem dX12_signed_63 : decode cX12_signed 63 = .ok (.iload_n 2, 1) := by decide +kernel
theorem dX12_signed_64 : decode cX12_signed 64 = .ok (.ireturn, 1) := by decide +kernel
theorem dX12_signed_65 : decode cX12_signed 65 = .ok (.aload_n 0, 1) := by decide +kernel
theorem dX12_signed_66 : decode cX12_signed 66 = .ok (.iload_n 1, 1) := by decide +kernel
theorem dX12_signed_67 : decode cX12_signed 67 = .ok (.iload_n 3, 1) := by decide +kernel
theorem dX12_signed_68 : decode cX12_signed 68 = .ok (.invokevirtual 33, 3) := by decide +kernel
theorem dX12_signed_71 : decode cX12_signed 71 = .ok (.istore 5, 2) := by decide +kernel
theorem dX12_signed_73 : decode cX12_signed 73 = .ok (.iload 5, 2) := by decide +kernel
theorem dX12_signed_75 : decode cX12_signed 75 = .ok (.ifCond .lt 20, 3) := by decide +kernel
theorem dX12_signed_78 : decode cX12_signed 78 = .ok (.aload_n 0, 1) := by decide +kernel
theorem dX12_signed_79 : decode cX12_signed 79 = .ok (.iload_n 1, 1) := by decide +kernel
theorem dX12_signed_80 : decode cX12_signed 80 = .ok (.iload_n 3, 1) := by decide +kernel
theorem dX12_signed_81 : decode cX12_signed 81 = .ok (.invokevirtual 37, 3) := by decide +kernel
theorem dX12_signed_84 : decode cX12_signed 84 = .ok (.iload 5, 2) := by decide +kernel
theorem dX12_signed_86 : decode cX12_signed 86 = .ok (.ifCond .ne 7, 3) := by decide +kernel
theorem dX12_signed_89 : decode cX12_signed 89 = .ok (.iconst 0, 1) := by decide +kernel
theorem dX12_signed_90 : decode cX12_signed 90 = .ok (.goto 4, 3) := by decide +kernel
theorem dX12_signed_93 : decode cX12_signed 93 = .ok (.iload_n 2, 1) := by decide +kernel
theorem dX12_signed_94 : decode cX12_signed 94 = .ok (.ireturn, 1) := by decide +kernel
theorem dX12_signed_95 : decode cX12_signed 95 = .ok (.aload_n 0, 1) := by decide +kernel
theorem dX12_signed_96 : decode cX12_signed 96 = .ok (.bipush 11, 2) := by decide +kernel
theorem dX12_signed_98 : decode cX12_signed 98 = .ok (.iload_n 3, 1) := by decide +kernel
theorem dX12_signed_99 : decode cX12_signed 99 = .ok (.invokevirtual 43, 3) := by decide +kernel
theorem dX12_signed_102 : decode cX12_signed 102 = .ok (.aload_n 0, 1) := by decide +kernel
theorem dX12_signed_103 : decode cX12_signed 103 = .ok (.bipush 11, 2) := by decide +kernel
theorem dX12_signed_105 : decode cX12_signed 105 = .ok (.iload_n 1, 1) := by decide +kernel
theorem dX12_signed_106 : decode cX12_signed 106 = .ok (.invokevirtual 37, 3) := by decide +kernel
theorem dX12_signed_109 : decode cX12_signed 109 = .ok (.aload_n 0, 1) := by decide +kernel
theorem dX12_signed_110 : decode cX12_signed 110 = .ok (.iload_n 1, 1) := by decide +kernel
theorem dX12_signed_111 : decode cX12_signed 111 = .ok (.bipush 11, 2) := by decide +kernel
theorem dX12_signed_113 : decode cX12_signed 113 = .ok (.invokevirtual 43, 3) := by decide +kernel
theorem dX12_signed_116 : decode cX12_signed 116 = .ok (.iload 4, 2) := by decide +kernel
theorem dX12_signed_118 : decode cX12_signed 118 = .ok (.ireturn, 1) := by decide +kernel
theorem dX12_addValues_0 : decode cX12_addValues 0 = .ok (.aload_n 0, 1) := by decide +kernel
theorem dX12_addValues_1 : decode cX12_addValues 1 = .ok (.iconst 2, 1) := by decide +kernel
theorem dX12_addValues_2 : decode cX12_addValues 2 = .ok (.iload_n 2, 1) := by decide +kernel
theorem dX12_addValues_3 : decode cX12_addValues 3 = .ok (.invokevirtual 72, 3) := by decide +kernel
theorem dX12_addValues_6 : decode cX12_addValues 6 = .ok (.aload_n 0, 1) := by decide +kernel
theorem dX12_addValues_7 : decode cX12_addValues 7 = .ok (.iconst 3, 1) := by decide +kernel
theorem dX12_addValues_8 : decode cX12_addValues 8 = .ok (.iload_n 2, 1) := by decide +kernel
theorem dX12_addValues_9 : decode cX12_addValues 9 = .ok (.invokevirtual 75, 3) := by decide +kernel
theorem dX12_addValues_12 : decode cX12_addValues 12 = .ok (.aload_n 0, 1) := by decide +kernel
theorem dX12_addValues_13 : decode cX12_addValues 13 = .ok (.iconst 4, 1) := by decide +kernel
theorem dX12_addValues_14 : decode cX12_addValues 14 = .ok (.iload_n 3, 1) := by decide +kernel
theorem dX12_addValues_15 : decode cX12_addValues 15 = .ok (.invokevirtual 72, 3) := by decide +kernel
theorem dX12_addValues_18 : decode cX12_addValues 18 = .ok (.aload_n 0, 1) := by decide +kernel
theorem dX12_addValues_19 : decode cX12_addValues 19 = .ok (.iconst 5, 1) := by decide +kernel
theorem dX12_addValues_20 : decode cX12_addValues 20 = .ok (.iload_n 3, 1) := by decide +kernel
theorem dX12_addValues_21 : decode cX12_addValues 21 = .ok (.invokevirtual 75, 3) := by decide +kernel
theorem dX12_addValues_24 : decode cX12_addValues 24 = .ok (.aload_n 0, 1) := by decide +kernel
theorem dX12_addValues_25 : decode cX12_addValues 25 = .ok (.bipush 6, 2) := by decide +kernel
theorem dX12_addValues_27 : decode cX12_addValues 27 = .ok (.iconst 2, 1) := by decide +kernel
theorem dX12_addValues_28 : decode cX12_addValues 28 = .ok (.iconst 5, 1) := by decide +kernel
theorem dX12_addValues_29 : decode cX12_addValues 29 = .ok (.invokevirtual 78, 3) := by decide +kernel
theorem dX12_addValues_32 : decode cX12_addValues 32 = .ok (.aload_n 0, 1) := by decide +kernel
theorem dX12_addValues_33 : decode cX12_addValues 33 = .ok (.bipush 7, 2) := by decide +kernel
theorem dX12_addValues_35 : decode cX12_addValues 35 = .ok (.iconst 4, 1) := by decide +kernel
theorem dX12_addValues_36 : decode cX12_addValues 36 = .ok (.iconst 3, 1) := by decide +kernel
theorem dX12_addValues_37 : decode cX12_addValues 37 = .ok (.invokevirtual 78, 3) := by decide +kernel
theorem dX12_addValues_40 : decode cX12_addValues 40 = .ok (.aload_n 0, 1) := by decide +kernel
theorem dX12_addValues_41 : decode cX12_addValues 41 = .ok (.iconst 1, 1) := by decide +kernel
theorem dX12_addValues_42 : decode cX12_addValues 42 = .ok (.iconst 3, 1) := by decide +kernel
theorem dX12_addValues_43 : decode cX12_addValues 43 = .ok (.iconst 5, 1) := by decide +kernel
theorem dX12_addValues_44 : decode cX12_addValues 44 = .ok (.invokevirtual 78, 3) := by decide +kernel
theorem dX12_addValues_47 : decode cX12_addValues 47 = .ok (.aload_n 0, 1) := by decide +kernel
theorem dX12_addValues_48 : decode cX12_addValues 48 = .ok (.bipush 6, 2) := by decide +kernel
theorem dX12_addValues_50 : decode cX12_addValues 50 = .ok (.aload_n 0, 1) := by decide +kernel
theorem dX12_addValues_51 : decode cX12_addValues 51 = .ok (.iload_n 2, 1) := by decide +kernel
theorem dX12_addValues_52 : decode cX12_addValues 52 = .ok (.invokevirtual 81, 3) := by decide +kernel
theorem dX12_addValues_55 : decode cX12_addValues 55 = .ok (.bipush 7, 2) := by decide +kernel
theorem dX12_addValues_57 : decode cX12_addValues 57 = .ok (.iload 4, 2) := by decide +kernel
theorem dX12_addValues_59 : decode cX12_addValues 59 = .ok (.aload_n 0, 1) := by decide +kernel
theorem dX12_addValues_60 : decode cX12_addValues 60 = .ok (.iload_n 3, 1) := by decide +kernel
theorem dX12_addValues_61 : decode cX12_addValues 61 = .ok (.invokevirtual 81, 3) := by decide +kernel
theorem dX12_addValues_64 : decode cX12_addValues 64 = .ok (.imul, 1) := by decide +kernel
theorem dX12_addValues_65 : decode cX12_addValues 65 = .ok (.invokevirtual 84, 3) := by decide +kernel
theorem dX12_addValues_68 : decode cX12_addValues 68 = .ok (.istore 5, 2) := by decide +kernel
theorem dX12_addValues_70 : decode cX12_addValues 70 = .ok (.aload_n 0, 1) := by decide +kernel
theorem dX12_addValues_71 : decode cX12_addValues 71 = .ok (.iconst 0, 1) := by decide +kernel
theorem dX12_addValues_72 : decode cX12_addValues 72 = .ok (.bipush 6, 2) := by decide +kernel
theorem dX12_addValues_74 : decode cX12_addValues 74 = .ok (.invokevirtual 43, 3) := by decide +kernel
theorem dX12_addValues_77 : decode cX12_addValues 77 = .ok (.aload_n 0, 1) := by decide +kernel
theorem dX12_addValues_78 : decode cX12_addValues 78 = .ok (.iload_n 1, 1) := by decide +kernel
theorem dX12_addValues_79 : decode cX12_addValues 79 = .ok (.iload 5, 2) := by decide +kernel
theorem dX12_addValues_81 : decode cX12_addValues 81 = .ok (.invokevirtual 88, 3) := by decide +kernel
theorem dX12_addValues_84 : decode cX12_addValues 84 = .ok (.ireturn, 1) := by decide +kernel
theorem dX12_multiplyValues_0 : decode cX12_multiplyValues 0 = .ok (.aload_n 0, 1) := by decide +kernel
theorem dX12_multiplyValues_1 : decode cX12_multiplyValues 1 = .ok (.iconst 2, 1) := by decide +kernel
theorem dX12_multiplyValues_2 : decode cX12_multiplyValues 2 = .ok (.iload_n 2, 1) := by decide +kernel
theorem dX12_multiplyValues_3 : decode cX12_multiplyValues 3 = .ok (.invokevirtual 72, 3) := by decide +kernel
theorem dX12_multiplyValues_6 : decode cX12_multiplyValues 6 = .ok (.aload_n 0, 1) := by decide +kernel
theorem dX12_multiplyValues_7 : decode cX12_multiplyValues 7 = .ok (.iconst 3, 1) := by decide +kernel
theorem dX12_multiplyValues_8 : decode cX12_multiplyValues 8 = .ok (.iload_n 2, 1) := by decide +kernel
theorem dX12_multiplyValues_9 : decode cX12_multiplyValues 9 = .ok (.invokevirtual 75, 3) := by decide +kernel
theorem dX12_multiplyValues_12 : decode cX12_multiplyValues 12 = .ok (.aload_n 0, 1) := by decide +kernel
theorem dX12_multiplyValues_13 : decode cX12_multiplyValues 13 = .ok (.iconst 4, 1) := by decide +kernel
theorem dX12_multiplyValues_14 : decode cX12_multiplyValues 14 = .ok (.iload_n 3, 1) := by decide +kernel
theorem dX12_multiplyValues_15 : decode cX12_multiplyValues 15 = .ok (.invokevirtual 72, 3) := by decide +kernel
theorem dX12_multiplyValues_18 : decode cX12_multiplyValues 18 = .ok (.aload_n 0, 1) := by decide +kernel
theorem dX12_multiplyValues_19 : decode cX12_multiplyValues 19 = .ok (.iconst 5, 1) := by decide +kernel
theorem dX12_multiplyValues_20 : decode cX12_multiplyValues 20 = .ok (.iload_n 3, 1) := by decide +kernel
theorem dX12_multiplyValues_21 : decode cX12_multiplyValues 21 = .ok (.invokevirtual 75, 3) := by decide +kernel
theorem dX12_multiplyValues_24 : decode cX12_multiplyValues 24 = .ok (.aload_n 0, 1) := by decide +kernel
theorem dX12_multiplyValues_25 : decode cX12_multiplyValues 25 = .ok (.iconst 0, 1) := by decide +kernel
theorem dX12_multiplyValues_26 : decode cX12_multiplyValues 26 = .ok (.iconst 2, 1) := by decide +kernel
theorem dX12_multiplyValues_27 : decode cX12_multiplyValues 27 = .ok (.iconst 4, 1) := by decide +kernel
theorem dX12_multiplyValues_28 : decode cX12_multiplyValues 28 = .ok (.invokevirtual 78, 3) := by decide +kernel
theorem dX12_multiplyValues_31 : decode cX12_multiplyValues 31 = .ok (.aload_n 0, 1) := by decide +kernel
theorem dX12_multiplyValues_32 : decode cX12_multiplyValues 32 = .ok (.iconst 1, 1) := by decide +kernel
theorem dX12_multiplyValues_33 : decode cX12_multiplyValues 33 = .ok (.iconst 3, 1) := by decide +kernel
theorem dX12_multiplyValues_34 : decode cX12_multiplyValues 34 = .ok (.iconst 5, 1) := by decide +kernel
theorem dX12_multiplyValues_35 : decode cX12_multiplyValues 35 = .ok (.invokevirtual 78, 3) := by decide +kernel
theorem dX12_multiplyValues_38 : decode cX12_multiplyValues 38 = .ok (.aload_n 0, 1) := by decide +kernel
theorem dX12_multiplyValues_39 : decode cX12_multiplyValues 39 = .ok (.iload_n 1, 1) := by decide +kernel
theorem dX12_multiplyValues_40 : decode cX12_multiplyValues 40 = .ok (.aload_n 0, 1) := by decide +kernel
theorem dX12_multiplyValues_41 : decode cX12_multiplyValues 41 = .ok (.iload_n 2, 1) := by decide +kernel
theorem dX12_multiplyValues_42 : decode cX12_multiplyValues 42 = .ok (.invokevirtual 81, 3) := by decide +kernel
theorem dX12_multiplyValues_45 : decode cX12_multiplyValues 45 = .ok (.aload_n 0, 1) := by decide +kernel
theorem dX12_multiplyValues_46 : decode cX12_multiplyValues 46 = .ok (.iload_n 3, 1) := by decide +kernel
theorem dX12_multiplyValues_47 : decode cX12_multiplyValues 47 = .ok (.invokevirtual 81, 3) := by decide +kernel
theorem dX12_multiplyValues_50 : decode cX12_multiplyValues 50 = .ok (.imul, 1) := by decide +kernel
theorem dX12_multiplyValues_51 : decode cX12_multiplyValues 51 = .ok (.invokevirtual 88, 3) := by decide +kernel
theorem dX12_multiplyValues_54 : decode cX12_multiplyValues 54 = .ok (.ireturn, 1) := by decide +kernel
theorem dX12_divideValues_0 : decode cX12_divideValues 0 = .ok (.aload_n 0, 1) := by decide +kernel
theorem dX12_divideValues_1 : decode cX12_divideValues 1 = .ok (.iconst 2, 1) := by decide +kernel
theorem dX12_divideValues_2 : decode cX12_divideValues 2 = .ok (.iload_n 2, 1) := by decide +kernel
theorem dX12_divideValues_3 : decode cX12_divideValues 3 = .ok (.invokevirtual 72, 3) := by decide +kernel
theorem dX12_divideValues_6 : decode cX12_divideValues 6 = .ok (.aload_n 0, 1) := by decide +kernel
theorem dX12_divideValues_7 : decode cX12_divideValues 7 = .ok (.iconst 3, 1) := by decide +kernel
theorem dX12_divideValues_8 : decode cX12_divideValues 8 = .ok (.iload_n 2, 1) := by decide +kernel
theorem dX12_divideValues_9 : decode cX12_divideValues 9 = .ok (.invokevirtual 75, 3) := by decide +kernel
theorem dX12_divideValues_12 : decode cX12_divideValues 12 = .ok (.aload_n 0, 1) := by decide +kernel
theorem dX12_divideValues_13 : decode cX12_divideValues 13 = .ok (.iconst 4, 1) := by decide +kernel
theorem dX12_divideValues_14 : decode cX12_divideValues 14 = .ok (.iload_n 3, 1) := by decide +kernel
theorem dX12_divideValues_15 : decode cX12_divideValues 15 = .ok (.invokevirtual 72, 3) := by decide +kernel
theorem dX12_divideValues_18 : decode cX12_divideValues 18 = .ok (.aload_n 0, 1) := by decide +kernel
theorem dX12_divideValues_19 : decode cX12_divideValues 19 = .ok (.iconst 5, 1) := by decide +kernel
theorem dX12_divideValues_20 : decode cX12_divideValues 20 = .ok (.iload_n 3, 1) := by decide +kernel
theorem dX12_divideValues_21 : decode cX12_divideValues 21 = .ok (.invokevirtual 75, 3) := by decide +kernel
theorem dX12_divideValues_24 : decode cX12_divideValues 24 = .ok (.aload_n 0, 1) := by decide +kernel
theorem dX12_divideValues_25 : decode cX12_divideValues 25 = .ok (.iconst 0, 1) := by decide +kernel
theorem dX12_divideValues_26 : decode cX12_divideValues 26 = .ok (.iconst 2, 1) := by decide +kernel
theorem dX12_divideValues_27 : decode cX12_divideValues 27 = .ok (.iconst 5, 1) := by decide +kernel
theorem dX12_divideValues_28 : decode cX12_divideValues 28 = .ok (.invokevirtual 78, 3) := by decide +kernel
theorem dX12_divideValues_31 : decode cX12_divideValues 31 = .ok (.aload_n 0, 1) := by decide +kernel
theorem dX12_divideValues_32 : decode cX12_divideValues 32 = .ok (.iconst 1, 1) := by decide +kernel
theorem dX12_divideValues_33 : decode cX12_divideValues 33 = .ok (.iconst 3, 1) := by decide +kernel
theorem dX12_divideValues_34 : decode cX12_divideValues 34 = .ok (.iconst 4, 1) := by decide +kernel
theorem dX12_divideValues_35 : decode cX12_divideValues 35 = .ok (.invokevirtual 78, 3) := by decide +kernel
theorem dX12_divideValues_38 : decode cX12_divideValues 38 = .ok (.aload_n 0, 1) := by decide +kernel
theorem dX12_divideValues_39 : decode cX12_divideValues 39 = .ok (.iload_n 1, 1) := by decide +kernel
theorem dX12_divideValues_40 : decode cX12_divideValues 40 = .ok (.aload_n 0, 1) := by decide +kernel
theorem dX12_divideValues_41 : decode cX12_divideValues 41 = .ok (.iload_n 2, 1) := by decide +kernel
theorem dX12_divideValues_42 : decode cX12_divideValues 42 = .ok (.invokevirtual 81, 3) := by decide +kernel
theorem dX12_divideValues_45 : decode cX12_divideValues 45 = .ok (.aload_n 0, 1) := by decide +kernel
theorem dX12_divideValues_46 : decode cX12_divideValues 46 = .ok (.iload_n 3, 1) := by decide +kernel
theorem dX12_divideValues_47 : decode cX12_divideValues 47 = .ok (.invokevirtual 81, 3) := by decide +kernel
theorem dX12_divideValues_50 : decode cX12_divideValues 50 = .ok (.imul, 1) := by decide +kernel
theorem dX12_divideValues_51 : decode cX12_divideValues 51 = .ok (.invokevirtual 88, 3) := by decide +kernel
theorem dX12_divideValues_54 : decode cX12_divideValues 54 = .ok (.ireturn, 1) := by decide +kernel
theorem dX12_compareValues_0 : decode cX12_compareValues 0 = .ok (.aload_n 0, 1) := by decide +kernel
theorem dX12_compareValues_1 : decode cX12_compareValues 1 = .ok (.iload_n 1, 1) := by decide +kernel
theorem dX12_compareValues_2 : decode cX12_compareValues 2 = .ok (.invokevirtual 81, 3) := by decide +kernel
theorem dX12_compareValues_5 : decode cX12_compareValues 5 = .ok (.aload_n 0, 1) := by decide +kernel
theorem dX12_compareValues_6 : decode cX12_compareValues 6 = .ok (.iload_n 2, 1) := by decide +kernel
theorem dX12_compareValues_7 : decode cX12_compareValues 7 = .ok (.invokevirtual 81, 3) := by decide +kernel
theorem dX12_compareValues_10 : decode cX12_compareValues 10 = .ok (.if_icmp .eq 22, 3) := by decide +kernel
theorem dX12_compareValues_13 : decode cX12_compareValues 13 = .ok (.aload_n 0, 1) := by decide +kernel
theorem dX12_compareValues_14 : decode cX12_compareValues 14 = .ok (.iload_n 1, 1) := by decide +kernel
theorem dX12_compareValues_15 : decode cX12_compareValues 15 = .ok (.invokevirtual 81, 3) := by decide +kernel
theorem dX12_compareValues_18 : decode cX12_compareValues 18 = .ok (.aload_n 0, 1) := by decide +kernel
theorem dX12_compareValues_19 : decode cX12_compareValues 19 = .ok (.iload_n 2, 1) := by decide +kernel
theorem dX12_compareValues_20 : decode cX12_compareValues 20 = .ok (.invokevirtual 81, 3) := by decide +kernel
theorem dX12_compareValues_23 : decode cX12_compareValues 23 = .ok (.if_icmp .ge 7, 3) := by decide +kernel
theorem dX12_compareValues_26 : decode cX12_compareValues 26 = .ok (.iconst (-1), 1) := by decide +kernel
theorem dX12_compareValues_27 : decode cX12_compareValues 27 = .ok (.goto 4, 3) := by decide +kernel
theorem dX12_compareValues_30 : decode cX12_compareValues 30 = .ok (.iconst 1, 1) := by decide +kernel
theorem dX12_compareValues_31 : decode cX12_compareValues 31 = .ok (.ireturn, 1) := by decide +kernel
theorem dX12_compareValues_32 : decode cX12_compareValues 32 = .ok (.aload_n 0, 1) := by decide +kernel
theorem dX12_compareValues_33 : decode cX12_compareValues 33 = .ok (.iconst 2, 1) := by decide +kernel
theorem dX12_compareValues_34 : decode cX12_compareValues 34 = .ok (.iload_n 1, 1) := by decide +kernel
theorem dX12_compareValues_35 : decode cX12_compareValues 35 = .ok (.invokevirtual 72, 3) := by decide +kernel
theorem dX12_compareValues_38 : decode cX12_compareValues 38 = .ok (.aload_n 0, 1) := by decide +kernel
theorem dX12_compareValues_39 : decode cX12_compareValues 39 = .ok (.iconst 3, 1) := by decide +kernel
theorem dX12_compareValues_40 : decode cX12_compareValues 40 = .ok (.iload_n 1, 1) := by decide +kernel
theorem dX12_compareValues_41 : decode cX12_compareValues 41 = .ok (.invokevirtual 75, 3) := by decide +kernel
theorem dX12_compareValues_44 : decode cX12_compareValues 44 = .ok (.aload_n 0, 1) := by decide +kernel
theorem dX12_compareValues_45 : decode cX12_compareValues 45 = .ok (.iconst 4, 1) := by decide +kernel
theorem dX12_compareValues_46 : decode cX12_compareValues 46 = .ok (.iload_n 2, 1) := by decide +kernel
theorem dX12_compareValues_47 : decode cX12_compareValues 47 = .ok (.invokevirtual 72, 3) := by decide +kernel
theorem dX12_compareValues_50 : decode cX12_compareValues 50 = .ok (.aload_n 0, 1) := by decide +kernel
theorem dX12_compareValues_51 : decode cX12_compareValues 51 = .ok (.iconst 5, 1) := by decide +kernel
theorem dX12_compareValues_52 : decode cX12_compareValues 52 = .ok (.iload_n 2, 1) := by decide +kernel
theorem dX12_compareValues_53 : decode cX12_compareValues 53 = .ok (.invokevirtual 75, 3) := by decide +kernel
theorem dX12_compareValues_56 : decode cX12_compareValues 56 = .ok (.aload_n 0, 1) := by decide +kernel
theorem dX12_compareValues_57 : decode cX12_compareValues 57 = .ok (.bipush 6, 2) := by decide +kernel
theorem dX12_compareValues_59 : decode cX12_compareValues 59 = .ok (.iconst 2, 1) := by decide +kernel
theorem dX12_compareValues_60 : decode cX12_compareValues 60 = .ok (.iconst 5, 1) := by decide +kernel
theorem dX12_compareValues_61 : decode cX12_compareValues 61 = .ok (.invokevirtual 78, 3) := by decide +kernel
theorem dX12_compareValues_64 : decode cX12_compareValues 64 = .ok (.aload_n 0, 1) := by decide +kernel
theorem dX12_compareValues_65 : decode cX12_compareValues 65 = .ok (.bipush 7, 2) := by decide +kernel
theorem dX12_compareValues_67 : decode cX12_compareValues 67 = .ok (.iconst 4, 1) := by decide +kernel
theorem dX12_compareValues_68 : decode cX12_compareValues 68 = .ok (.iconst 3, 1) := by decide +kernel
theorem dX12_compareValues_69 : decode cX12_compareValues 69 = .ok (.invokevirtual 78, 3) := by decide +kernel
theorem dX12_compareValues_72 : decode cX12_compareValues 72 = .ok (.aload_n 0, 1) := by decide +kernel
theorem dX12_compareValues_73 : decode cX12_compareValues 73 = .ok (.iload_n 1, 1) := by decide +kernel
theorem dX12_compareValues_74 : decode cX12_compareValues 74 = .ok (.invokevirtual 81, 3) := by decide +kernel
theorem dX12_compareValues_77 : decode cX12_compareValues 77 = .ok (.aload_n 0, 1) := by decide +kernel
theorem dX12_compareValues_78 : decode cX12_compareValues 78 = .ok (.bipush 6, 2) := by decide +kernel
theorem dX12_compareValues_80 : decode cX12_compareValues 80 = .ok (.bipush 7, 2) := by decide +kernel
theorem dX12_compareValues_82 : decode cX12_compareValues 82 = .ok (.invokevirtual 33, 3) := by decide +kernel
theorem dX12_compareValues_85 : decode cX12_compareValues 85 = .ok (.imul, 1) := by decide +kernel
theorem dX12_compareValues_86 : decode cX12_compareValues 86 = .ok (.ireturn, 1) := by decide +kernel
theorem dX12_isWhole_0 : decode cX12_isWhole 0 = .ok (.aload_n 0, 1) := by decide +kernel
theorem dX12_isWhole_1 : decode cX12_isWhole 1 = .ok (.getfield 46, 3) := by decide +kernel
theorem dX12_isWhole_4 : decode cX12_isWhole 4 = .ok (.bipush 28, 2) := by decide +kernel
theorem dX12_isWhole_6 : decode cX12_isWhole 6 = .ok (.iload_n 1, 1) := by decide +kernel
theorem dX12_isWhole_7 : decode cX12_isWhole 7 = .ok (.imul, 1) := by decide +kernel
theorem dX12_isWhole_8 : decode cX12_isWhole 8 = .ok (.iconst 1, 1) := by decide +kernel
theorem dX12_isWhole_9 : decode cX12_isWhole 9 = .ok (.iadd, 1) := by decide +kernel
theorem dX12_isWhole_10 : decode cX12_isWhole 10 = .ok (.bipush 13, 2) := by decide +kernel
theorem dX12_isWhole_12 : decode cX12_isWhole 12 = .ok (.iadd, 1) := by decide +kernel
theorem dX12_isWhole_13 : decode cX12_isWhole 13 = .ok (.iaload, 1) := by decide +kernel
theorem dX12_isWhole_14 : decode cX12_isWhole 14 = .ok (.iconst 1, 1) := by decide +kernel
theorem dX12_isWhole_15 : decode cX12_isWhole 15 = .ok (.if_icmp .ne 7, 3) := by decide +kernel
theorem dX12_isWhole_18 : decode cX12_isWhole 18 = .ok (.iconst 1, 1) := by decide +kernel
theorem dX12_isWhole_19 : decode cX12_isWhole 19 = .ok (.goto 4, 3) := by decide +kernel
theorem dX12_isWhole_22 : decode cX12_isWhole 22 = .ok (.iconst 0, 1) := by decide +kernel
theorem dX12_isWhole_23 : decode cX12_isWhole 23 = .ok (.istore_n 2, 1) := by decide +kernel
theorem dX12_isWhole_24 : decode cX12_isWhole 24 = .ok (.iconst 1, 1) := by decide +kernel
theorem dX12_isWhole_25 : decode cX12_isWhole 25 = .ok (.istore_n 3, 1) := by decide +kernel
theorem dX12_isWhole_26 : decode cX12_isWhole 26 = .ok (.iload_n 3, 1) := by decide +kernel
theorem dX12_isWhole_27 : decode cX12_isWhole 27 = .ok (.bipush 13, 2) := by decide +kernel
theorem dX12_isWhole_29 : decode cX12_isWhole 29 = .ok (.if_icmp .ge 38, 3) := by decide +kernel
theorem dX12_isWhole_32 : decode cX12_isWhole 32 = .ok (.iload_n 2, 1) := by decide +kernel
theorem dX12_isWhole_33 : decode cX12_isWhole 33 = .ok (.ifCond .eq 34, 3) := by decide +kernel
theorem dX12_isWhole_36 : decode cX12_isWhole 36 = .ok (.aload_n 0, 1) := by decide +kernel
theorem dX12_isWhole_37 : decode cX12_isWhole 37 = .ok (.getfield 46, 3) := by decide +kernel
theorem dX12_isWhole_40 : decode cX12_isWhole 40 = .ok (.bipush 28, 2) := by decide +kernel
theorem dX12_isWhole_42 : decode cX12_isWhole 42 = .ok (.iload_n 1, 1) := by decide +kernel
theorem dX12_isWhole_43 : decode cX12_isWhole 43 = .ok (.imul, 1) := by decide +kernel
theorem dX12_isWhole_44 : decode cX12_isWhole 44 = .ok (.iconst 1, 1) := by decide +kernel
theorem dX12_isWhole_45 : decode cX12_isWhole 45 = .ok (.iadd, 1) := by decide +kernel
theorem dX12_isWhole_46 : decode cX12_isWhole 46 = .ok (.bipush 13, 2) := by decide +kernel
theorem dX12_isWhole_48 : decode cX12_isWhole 48 = .ok (.iadd, 1) := by decide +kernel
theorem dX12_isWhole_49 : decode cX12_isWhole 49 = .ok (.iload_n 3, 1) := by decide +kernel
theorem dX12_isWhole_50 : decode cX12_isWhole 50 = .ok (.iadd, 1) := by decide +kernel
theorem dX12_isWhole_51 : decode cX12_isWhole 51 = .ok (.iaload, 1) := by decide +kernel
theorem dX12_isWhole_52 : decode cX12_isWhole 52 = .ok (.ifCond .ne 7, 3) := by decide +kernel
theorem dX12_isWhole_55 : decode cX12_isWhole 55 = .ok (.iconst 1, 1) := by decide +kernel
theorem dX12_isWhole_56 : decode cX12_isWhole 56 = .ok (.goto 4, 3) := by decide +kernel
theorem dX12_isWhole_59 : decode cX12_isWhole 59 = .ok (.iconst 0, 1) := by decide +kernel
theorem dX12_isWhole_60 : decode cX12_isWhole 60 = .ok (.istore_n 2, 1) := by decide +kernel
theorem dX12_isWhole_61 : decode cX12_isWhole 61 = .ok (.iinc 3 1, 3) := by decide +kernel
theorem dX12_isWhole_64 : decode cX12_isWhole 64 = .ok (.goto (-38), 3) := by decide +kernel
theorem dX12_isWhole_67 : decode cX12_isWhole 67 = .ok (.iload_n 2, 1) := by decide +kernel
theorem dX12_isWhole_68 : decode cX12_isWhole 68 = .ok (.ireturn, 1) := by decide +kernel
theorem dX12_small_0 : decode cX12_small 0 = .ok (.aload_n 0, 1) := by decide +kernel
theorem dX12_small_1 : decode cX12_small 1 = .ok (.iconst 2, 1) := by decide +kernel
theorem dX12_small_2 : decode cX12_small 2 = .ok (.iload_n 1, 1) := by decide +kernel
theorem dX12_small_3 : decode cX12_small 3 = .ok (.invokevirtual 72, 3) := by decide +kernel
theorem dX12_small_6 : decode cX12_small 6 = .ok (.aload_n 0, 1) := by decide +kernel
theorem dX12_small_7 : decode cX12_small 7 = .ok (.iconst 2, 1) := by decide +kernel
theorem dX12_small_8 : decode cX12_small 8 = .ok (.invokevirtual 21, 3) := by decide +kernel
theorem dX12_small_11 : decode cX12_small 11 = .ok (.bipush 30, 2) := by decide +kernel
theorem dX12_small_13 : decode cX12_small 13 = .ok (.if_icmp .le 8, 3) := by decide +kernel
theorem dX12_small_16 : decode cX12_small 16 = .ok (.ldc 91, 2) := by decide +kernel
theorem dX12_small_18 : decode cX12_small 18 = .ok (.goto 50, 3) := by decide +kernel
theorem dX12_small_21 : decode cX12_small 21 = .ok (.aload_n 0, 1) := by decide +kernel
theorem dX12_small_22 : decode cX12_small 22 = .ok (.getfield 7, 3) := by decide +kernel
theorem dX12_small_25 : decode cX12_small 25 = .ok (.iconst 2, 1) := by decide +kernel
theorem dX12_small_26 : decode cX12_small 26 = .ok (.iaload, 1) := by decide +kernel
theorem dX12_small_27 : decode cX12_small 27 = .ok (.ifCond .le 14, 3) := by decide +kernel
theorem dX12_small_30 : decode cX12_small 30 = .ok (.aload_n 0, 1) := by decide +kernel
theorem dX12_small_31 : decode cX12_small 31 = .ok (.getfield 11, 3) := by decide +kernel
theorem dX12_small_34 : decode cX12_small 34 = .ok (.sipush 880, 3) := by decide +kernel
theorem dX12_small_37 : decode cX12_small 37 = .ok (.iaload, 1) := by decide +kernel
theorem dX12_small_38 : decode cX12_small 38 = .ok (.goto 4, 3) := by decide +kernel
theorem dX12_small_41 : decode cX12_small 41 = .ok (.iconst 0, 1) := by decide +kernel
theorem dX12_small_42 : decode cX12_small 42 = .ok (.aload_n 0, 1) := by decide +kernel
theorem dX12_small_43 : decode cX12_small 43 = .ok (.getfield 7, 3) := by decide +kernel
theorem dX12_small_46 : decode cX12_small 46 = .ok (.iconst 2, 1) := by decide +kernel
theorem dX12_small_47 : decode cX12_small 47 = .ok (.iaload, 1) := by decide +kernel
theorem dX12_small_48 : decode cX12_small 48 = .ok (.iconst 1, 1) := by decide +kernel
theorem dX12_small_49 : decode cX12_small 49 = .ok (.if_icmp .le 17, 3) := by decide +kernel
theorem dX12_small_52 : decode cX12_small 52 = .ok (.aload_n 0, 1) := by decide +kernel
theorem dX12_small_53 : decode cX12_small 53 = .ok (.getfield 11, 3) := by decide +kernel
theorem dX12_small_56 : decode cX12_small 56 = .ok (.sipush 881, 3) := by decide +kernel
theorem dX12_small_59 : decode cX12_small 59 = .ok (.iaload, 1) := by decide +kernel
theorem dX12_small_60 : decode cX12_small 60 = .ok (.bipush 16, 2) := by decide +kernel
theorem dX12_small_62 : decode cX12_small 62 = .ok (.ishl, 1) := by decide +kernel
theorem dX12_small_63 : decode cX12_small 63 = .ok (.goto 4, 3) := by decide +kernel
theorem dX12_small_66 : decode cX12_small 66 = .ok (.iconst 0, 1) := by decide +kernel
theorem dX12_small_67 : decode cX12_small 67 = .ok (.iadd, 1) := by decide +kernel
theorem dX12_small_68 : decode cX12_small 68 = .ok (.istore_n 2, 1) := by decide +kernel
theorem dX12_small_69 : decode cX12_small 69 = .ok (.aload_n 0, 1) := by decide +kernel
theorem dX12_small_70 : decode cX12_small 70 = .ok (.iload_n 1, 1) := by decide +kernel
theorem dX12_small_71 : decode cX12_small 71 = .ok (.invokevirtual 81, 3) := by decide +kernel
theorem dX12_small_74 : decode cX12_small 74 = .ok (.ifCond .ge 8, 3) := by decide +kernel
theorem dX12_small_77 : decode cX12_small 77 = .ok (.iload_n 2, 1) := by decide +kernel
theorem dX12_small_78 : decode cX12_small 78 = .ok (.ineg, 1) := by decide +kernel
theorem dX12_small_79 : decode cX12_small 79 = .ok (.goto 4, 3) := by decide +kernel
theorem dX12_small_82 : decode cX12_small 82 = .ok (.iload_n 2, 1) := by decide +kernel
theorem dX12_small_83 : decode cX12_small 83 = .ok (.ireturn, 1) := by decide +kernel
theorem dX12_remainder_0 : decode cX12_remainder 0 = .ok (.aload_n 0, 1) := by decide +kernel
theorem dX12_remainder_1 : decode cX12_remainder 1 = .ok (.iload_n 2, 1) := by decide +kernel
theorem dX12_remainder_2 : decode cX12_remainder 2 = .ok (.invokevirtual 92, 3) := by decide +kernel
theorem dX12_remainder_5 : decode cX12_remainder 5 = .ok (.ifCond .eq 11, 3) := by decide +kernel
theorem dX12_remainder_8 : decode cX12_remainder 8 = .ok (.aload_n 0, 1) := by decide +kernel
theorem dX12_remainder_9 : decode cX12_remainder 9 = .ok (.iload_n 3, 1) := by decide +kernel
theorem dX12_remainder_10 : decode cX12_remainder 10 = .ok (.invokevirtual 92, 3) := by decide +kernel
theorem dX12_remainder_13 : decode cX12_remainder 13 = .ok (.ifCond .ne 5, 3) := by decide +kernel
theorem dX12_remainder_16 : decode cX12_remainder 16 = .ok (.iconst 2, 1) := by decide +kernel
theorem dX12_remainder_17 : decode cX12_remainder 17 = .ok (.ireturn, 1) := by decide +kernel
theorem dX12_remainder_18 : decode cX12_remainder 18 = .ok (.aload_n 0, 1) := by decide +kernel
theorem dX12_remainder_19 : decode cX12_remainder 19 = .ok (.iload_n 3, 1) := by decide +kernel
theorem dX12_remainder_20 : decode cX12_remainder 20 = .ok (.invokevirtual 81, 3) := by decide +kernel
theorem dX12_remainder_23 : decode cX12_remainder 23 = .ok (.ifCond .ne 5, 3) := by decide +kernel
theorem dX12_remainder_26 : decode cX12_remainder 26 = .ok (.iconst 1, 1) := by decide +kernel
theorem dX12_remainder_27 : decode cX12_remainder 27 = .ok (.ireturn, 1) := by decide +kernel
theorem dX12_remainder_28 : decode cX12_remainder 28 = .ok (.aload_n 0, 1) := by decide +kernel
theorem dX12_remainder_29 : decode cX12_remainder 29 = .ok (.iconst 2, 1) := by decide +kernel
theorem dX12_remainder_30 : decode cX12_remainder 30 = .ok (.iload_n 2, 1) := by decide +kernel
theorem dX12_remainder_31 : decode cX12_remainder 31 = .ok (.invokevirtual 72, 3) := by decide +kernel
theorem dX12_remainder_34 : decode cX12_remainder 34 = .ok (.aload_n 0, 1) := by decide +kernel
theorem dX12_remainder_35 : decode cX12_remainder 35 = .ok (.iconst 4, 1) := by decide +kernel
theorem dX12_remainder_36 : decode cX12_remainder 36 = .ok (.iload_n 3, 1) := by decide +kernel
theorem dX12_remainder_37 : decode cX12_remainder 37 = .ok (.invokevirtual 72, 3) := by decide +kernel
theorem dX12_remainder_40 : decode cX12_remainder 40 = .ok (.aload_n 0, 1) := by decide +kernel
theorem dX12_remainder_41 : decode cX12_remainder 41 = .ok (.bipush 6, 2) := by decide +kernel
theorem dX12_remainder_43 : decode cX12_remainder 43 = .ok (.bipush 7, 2) := by decide +kernel
theorem dX12_remainder_45 : decode cX12_remainder 45 = .ok (.iconst 2, 1) := by decide +kernel
theorem dX12_remainder_46 : decode cX12_remainder 46 = .ok (.iconst 4, 1) := by decide +kernel
theorem dX12_remainder_47 : decode cX12_remainder 47 = .ok (.invokevirtual 62, 3) := by decide +kernel
theorem dX12_remainder_50 : decode cX12_remainder 50 = .ok (.aload_n 0, 1) := by decide +kernel
theorem dX12_remainder_51 : decode cX12_remainder 51 = .ok (.iload_n 2, 1) := by decide +kernel
theorem dX12_remainder_52 : decode cX12_remainder 52 = .ok (.invokevirtual 81, 3) := by decide +kernel
theorem dX12_remainder_55 : decode cX12_remainder 55 = .ok (.ifCond .ge 29, 3) := by decide +kernel
theorem dX12_remainder_58 : decode cX12_remainder 58 = .ok (.aload_n 0, 1) := by decide +kernel
theorem dX12_remainder_59 : decode cX12_remainder 59 = .ok (.getfield 7, 3) := by decide +kernel
theorem dX12_remainder_62 : decode cX12_remainder 62 = .ok (.bipush 7, 2) := by decide +kernel
theorem dX12_remainder_64 : decode cX12_remainder 64 = .ok (.iaload, 1) := by decide +kernel
theorem dX12_remainder_65 : decode cX12_remainder 65 = .ok (.ifCond .le 19, 3) := by decide +kernel
theorem dX12_remainder_68 : decode cX12_remainder 68 = .ok (.aload_n 0, 1) := by decide +kernel
theorem dX12_remainder_69 : decode cX12_remainder 69 = .ok (.iconst 0, 1) := by decide +kernel
theorem dX12_remainder_70 : decode cX12_remainder 70 = .ok (.iconst 4, 1) := by decide +kernel
theorem dX12_remainder_71 : decode cX12_remainder 71 = .ok (.invokevirtual 43, 3) := by decide +kernel
theorem dX12_remainder_74 : decode cX12_remainder 74 = .ok (.aload_n 0, 1) := by decide +kernel
theorem dX12_remainder_75 : decode cX12_remainder 75 = .ok (.iconst 0, 1) := by decide +kernel
theorem dX12_remainder_76 : decode cX12_remainder 76 = .ok (.bipush 7, 2) := by decide +kernel
theorem dX12_remainder_78 : decode cX12_remainder 78 = .ok (.invokevirtual 37, 3) := by decide +kernel
theorem dX12_remainder_81 : decode cX12_remainder 81 = .ok (.goto 10, 3) := by decide +kernel
theorem dX12_remainder_84 : decode cX12_remainder 84 = .ok (.aload_n 0, 1) := by decide +kernel
theorem dX12_remainder_85 : decode cX12_remainder 85 = .ok (.iconst 0, 1) := by decide +kernel
theorem dX12_remainder_86 : decode cX12_remainder 86 = .ok (.bipush 7, 2) := by decide +kernel
theorem dX12_remainder_88 : decode cX12_remainder 88 = .ok (.invokevirtual 43, 3) := by decide +kernel
theorem dX12_remainder_91 : decode cX12_remainder 91 = .ok (.aload_n 0, 1) := by decide +kernel
theorem dX12_remainder_92 : decode cX12_remainder 92 = .ok (.iconst 1, 1) := by decide +kernel
theorem dX12_remainder_93 : decode cX12_remainder 93 = .ok (.iconst 1, 1) := by decide +kernel
theorem dX12_remainder_94 : decode cX12_remainder 94 = .ok (.invokevirtual 53, 3) := by decide +kernel
theorem dX12_remainder_97 : decode cX12_remainder 97 = .ok (.aload_n 0, 1) := by decide +kernel
theorem dX12_remainder_98 : decode cX12_remainder 98 = .ok (.iload_n 1, 1) := by decide +kernel
theorem dX12_remainder_99 : decode cX12_remainder 99 = .ok (.iconst 1, 1) := by decide +kernel
theorem dX12_remainder_100 : decode cX12_remainder 100 = .ok (.invokevirtual 88, 3) := by decide +kernel
theorem dX12_remainder_103 : decode cX12_remainder 103 = .ok (.pop, 1) := by decide +kernel
theorem dX12_remainder_104 : decode cX12_remainder 104 = .ok (.iconst 0, 1) := by decide +kernel
theorem dX12_remainder_105 : decode cX12_remainder 105 = .ok (.ireturn, 1) := by decide +kernel
theorem dX12_raise_0 : decode cX12_raise 0 = .ok (.aload_n 0, 1) := by decide +kernel
theorem dX12_raise_1 : decode cX12_raise 1 = .ok (.iload_n 1, 1) := by decide +kernel
theorem dX12_raise_2 : decode cX12_raise 2 = .ok (.iconst 1, 1) := by decide +kernel
theorem dX12_raise_3 : decode cX12_raise 3 = .ok (.invokevirtual 96, 3) := by decide +kernel
theorem dX12_raise_6 : decode cX12_raise 6 = .ok (.iconst 1, 1) := by decide +kernel
theorem dX12_raise_7 : decode cX12_raise 7 = .ok (.istore 4, 2) := by decide +kernel
theorem dX12_raise_9 : decode cX12_raise 9 = .ok (.iconst 0, 1) := by decide +kernel
theorem dX12_raise_10 : decode cX12_raise 10 = .ok (.istore 5, 2) := by decide +kernel
theorem dX12_raise_12 : decode cX12_raise 12 = .ok (.iload 5, 2) := by decide +kernel
theorem dX12_raise_14 : decode cX12_raise 14 = .ok (.iload_n 3, 1) := by decide +kernel
theorem dX12_raise_15 : decode cX12_raise 15 = .ok (.if_icmp .ge 23, 3) := by decide +kernel
theorem dX12_raise_18 : decode cX12_raise 18 = .ok (.iload 4, 2) := by decide +kernel
theorem dX12_raise_20 : decode cX12_raise 20 = .ok (.ifCond .eq 18, 3) := by decide +kernel
theorem dX12_raise_23 : decode cX12_raise 23 = .ok (.aload_n 0, 1) := by decide +kernel
theorem dX12_raise_24 : decode cX12_raise 24 = .ok (.iload_n 1, 1) := by decide +kernel
theorem dX12_raise_25 : decode cX12_raise 25 = .ok (.iload_n 1, 1) := by decide +kernel
theorem dX12_raise_26 : decode cX12_raise 26 = .ok (.iload_n 2, 1) := by decide +kernel
theorem dX12_raise_27 : decode cX12_raise 27 = .ok (.invokevirtual 99, 3) := by decide +kernel
theorem dX12_raise_30 : decode cX12_raise 30 = .ok (.istore 4, 2) := by decide +kernel
theorem dX12_raise_32 : decode cX12_raise 32 = .ok (.iinc 5 1, 3) := by decide +kernel
theorem dX12_raise_35 : decode cX12_raise 35 = .ok (.goto (-23), 3) := by decide +kernel
theorem dX12_raise_38 : decode cX12_raise 38 = .ok (.iload 4, 2) := by decide +kernel
theorem dX12_raise_40 : decode cX12_raise 40 = .ok (.ireturn, 1) := by decide +kernel
theorem dX12_power_0 : decode cX12_power 0 = .ok (.aload_n 0, 1) := by decide +kernel
theorem dX12_power_1 : decode cX12_power 1 = .ok (.iload_n 3, 1) := by decide +kernel
theorem dX12_power_2 : decode cX12_power 2 = .ok (.invokevirtual 92, 3) := by decide +kernel
theorem dX12_power_5 : decode cX12_power 5 = .ok (.ifCond .ne 5, 3) := by decide +kernel
theorem dX12_power_8 : decode cX12_power 8 = .ok (.iconst 2, 1) := by decide +kernel
theorem dX12_power_9 : decode cX12_power 9 = .ok (.ireturn, 1) := by decide +kernel
theorem dX12_power_10 : decode cX12_power 10 = .ok (.aload_n 0, 1) := by decide +kernel
theorem dX12_power_11 : decode cX12_power 11 = .ok (.iload_n 3, 1) := by decide +kernel
theorem dX12_power_12 : decode cX12_power 12 = .ok (.invokevirtual 103, 3) := by decide +kernel
theorem dX12_power_15 : decode cX12_power 15 = .ok (.istore 4, 2) := by decide +kernel
theorem dX12_power_17 : decode cX12_power 17 = .ok (.aload_n 0, 1) := by decide +kernel
theorem dX12_power_18 : decode cX12_power 18 = .ok (.iload_n 2, 1) := by decide +kernel
theorem dX12_power_19 : decode cX12_power 19 = .ok (.invokevirtual 81, 3) := by decide +kernel
theorem dX12_power_22 : decode cX12_power 22 = .ok (.ifCond .ne 10, 3) := by decide +kernel
theorem dX12_power_25 : decode cX12_power 25 = .ok (.iload 4, 2) := by decide +kernel
theorem dX12_power_27 : decode cX12_power 27 = .ok (.ifCond .ge 5, 3) := by decide +kernel
theorem dX12_power_30 : decode cX12_power 30 = .ok (.iconst 1, 1) := by decide +kernel
theorem dX12_power_31 : decode cX12_power 31 = .ok (.ireturn, 1) := by decide +kernel
theorem dX12_power_32 : decode cX12_power 32 = .ok (.iload 4, 2) := by decide +kernel
theorem dX12_power_34 : decode cX12_power 34 = .ok (.bipush (-64), 2) := by decide +kernel
theorem dX12_power_36 : decode cX12_power 36 = .ok (.bipush 64, 2) := by decide +kernel
theorem dX12_power_38 : decode cX12_power 38 = .ok (.invokestatic 106, 3) := by decide +kernel
theorem dX12_power_41 : decode cX12_power 41 = .ok (.ifCond .ne 5, 3) := by decide +kernel
theorem dX12_power_44 : decode cX12_power 44 = .ok (.iconst 3, 1) := by decide +kernel
theorem dX12_power_45 : decode cX12_power 45 = .ok (.ireturn, 1) := by decide +kernel
theorem dX12_power_46 : decode cX12_power 46 = .ok (.aload_n 0, 1) := by decide +kernel
theorem dX12_power_47 : decode cX12_power 47 = .ok (.sipush 3600, 3) := by decide +kernel
theorem dX12_power_50 : decode cX12_power 50 = .ok (.iload_n 2, 1) := by decide +kernel
theorem dX12_power_51 : decode cX12_power 51 = .ok (.iload 4, 2) := by decide +kernel
theorem dX12_power_53 : decode cX12_power 53 = .ok (.ifCond .ge 9, 3) := by decide +kernel
theorem dX12_power_56 : decode cX12_power 56 = .ok (.iload 4, 2) := by decide +kernel
theorem dX12_power_58 : decode cX12_power 58 = .ok (.ineg, 1) := by decide +kernel
theorem dX12_power_59 : decode cX12_power 59 = .ok (.goto 5, 3) := by decide +kernel
theorem dX12_power_62 : decode cX12_power 62 = .ok (.iload 4, 2) := by decide +kernel
theorem dX12_power_64 : decode cX12_power 64 = .ok (.invokevirtual 109, 3) := by decide +kernel
theorem dX12_power_67 : decode cX12_power 67 = .ok (.istore 5, 2) := by decide +kernel
theorem dX12_power_69 : decode cX12_power 69 = .ok (.iload 5, 2) := by decide +kernel
theorem dX12_power_71 : decode cX12_power 71 = .ok (.ifCond .eq 31, 3) := by decide +kernel
theorem dX12_power_74 : decode cX12_power 74 = .ok (.iload 4, 2) := by decide +kernel
theorem dX12_power_76 : decode cX12_power 76 = .ok (.ifCond .ge 26, 3) := by decide +kernel
theorem dX12_power_79 : decode cX12_power 79 = .ok (.aload_n 0, 1) := by decide +kernel
theorem dX12_power_80 : decode cX12_power 80 = .ok (.sipush 3601, 3) := by decide +kernel
theorem dX12_power_83 : decode cX12_power 83 = .ok (.iconst 1, 1) := by decide +kernel
theorem dX12_power_84 : decode cX12_power 84 = .ok (.invokevirtual 96, 3) := by decide +kernel
theorem dX12_power_87 : decode cX12_power 87 = .ok (.aload_n 0, 1) := by decide +kernel
theorem dX12_power_88 : decode cX12_power 88 = .ok (.sipush 3600, 3) := by decide +kernel
theorem dX12_power_91 : decode cX12_power 91 = .ok (.sipush 3601, 3) := by decide +kernel
theorem dX12_power_94 : decode cX12_power 94 = .ok (.sipush 3600, 3) := by decide +kernel
theorem dX12_power_97 : decode cX12_power 97 = .ok (.invokevirtual 112, 3) := by decide +kernel
theorem dX12_power_100 : decode cX12_power 100 = .ok (.istore 5, 2) := by decide +kernel
theorem dX12_power_102 : decode cX12_power 102 = .ok (.iload 5, 2) := by decide +kernel
theorem dX12_power_104 : decode cX12_power 104 = .ok (.ifCond .eq 11, 3) := by decide +kernel
theorem dX12_power_107 : decode cX12_power 107 = .ok (.aload_n 0, 1) := by decide +kernel
theorem dX12_power_108 : decode cX12_power 108 = .ok (.iload_n 1, 1) := by decide +kernel
theorem dX12_power_109 : decode cX12_power 109 = .ok (.sipush 3600, 3) := by decide +kernel
theorem dX12_power_112 : decode cX12_power 112 = .ok (.invokevirtual 115, 3) := by decide +kernel
theorem dX12_power_115 : decode cX12_power 115 = .ok (.iload 5, 2) := by decide +kernel
theorem dX12_power_117 : decode cX12_power 117 = .ok (.ifCond .eq 7, 3) := by decide +kernel
theorem dX12_power_120 : decode cX12_power 120 = .ok (.iconst 0, 1) := by decide +kernel
theorem dX12_power_121 : decode cX12_power 121 = .ok (.goto 4, 3) := by decide +kernel
theorem dX12_power_124 : decode cX12_power 124 = .ok (.iconst 3, 1) := by decide +kernel
theorem dX12_power_125 : decode cX12_power 125 = .ok (.ireturn, 1) := by decide +kernel
theorem dX12_factorial_0 : decode cX12_factorial 0 = .ok (.aload_n 0, 1) := by decide +kernel
theorem dX12_factorial_1 : decode cX12_factorial 1 = .ok (.iload_n 2, 1) := by decide +kernel
theorem dX12_factorial_2 : decode cX12_factorial 2 = .ok (.invokevirtual 92, 3) := by decide +kernel
theorem dX12_factorial_5 : decode cX12_factorial 5 = .ok (.ifCond .eq 11, 3) := by decide +kernel
theorem dX12_factorial_8 : decode cX12_factorial 8 = .ok (.aload_n 0, 1) := by decide +kernel
theorem dX12_factorial_9 : decode cX12_factorial 9 = .ok (.iload_n 2, 1) := by decide +kernel
theorem dX12_factorial_10 : decode cX12_factorial 10 = .ok (.invokevirtual 81, 3) := by decide +kernel
theorem dX12_factorial_13 : decode cX12_factorial 13 = .ok (.ifCond .ge 5, 3) := by decide +kernel
theorem dX12_factorial_16 : decode cX12_factorial 16 = .ok (.iconst 2, 1) := by decide +kernel
theorem dX12_factorial_17 : decode cX12_factorial 17 = .ok (.ireturn, 1) := by decide +kernel
theorem dX12_factorial_18 : decode cX12_factorial 18 = .ok (.aload_n 0, 1) := by decide +kernel
theorem dX12_factorial_19 : decode cX12_factorial 19 = .ok (.iload_n 2, 1) := by decide +kernel
theorem dX12_factorial_20 : decode cX12_factorial 20 = .ok (.invokevirtual 103, 3) := by decide +kernel
theorem dX12_factorial_23 : decode cX12_factorial 23 = .ok (.istore_n 3, 1) := by decide +kernel
theorem dX12_factorial_24 : decode cX12_factorial 24 = .ok (.iload_n 3, 1) := by decide +kernel
theorem dX12_factorial_25 : decode cX12_factorial 25 = .ok (.bipush 30, 2) := by decide +kernel
theorem dX12_factorial_27 : decode cX12_factorial 27 = .ok (.if_icmp .le 5, 3) := by decide +kernel
theorem dX12_factorial_30 : decode cX12_factorial 30 = .ok (.iconst 3, 1) := by decide +kernel
theorem dX12_factorial_31 : decode cX12_factorial 31 = .ok (.ireturn, 1) := by decide +kernel
theorem dX12_factorial_32 : decode cX12_factorial 32 = .ok (.aload_n 0, 1) := by decide +kernel
theorem dX12_factorial_33 : decode cX12_factorial 33 = .ok (.iload_n 1, 1) := by decide +kernel
theorem dX12_factorial_34 : decode cX12_factorial 34 = .ok (.iconst 1, 1) := by decide +kernel
theorem dX12_factorial_35 : decode cX12_factorial 35 = .ok (.invokevirtual 96, 3) := by decide +kernel
theorem dX12_factorial_38 : decode cX12_factorial 38 = .ok (.iconst 2, 1) := by decide +kernel
theorem dX12_factorial_39 : decode cX12_factorial 39 = .ok (.istore 4, 2) := by decide +kernel
theorem dX12_factorial_41 : decode cX12_factorial 41 = .ok (.iload 4, 2) := by decide +kernel
theorem dX12_factorial_43 : decode cX12_factorial 43 = .ok (.iload_n 3, 1) := by decide +kernel
theorem dX12_factorial_44 : decode cX12_factorial 44 = .ok (.if_icmp .gt 28, 3) := by decide +kernel
theorem dX12_factorial_47 : decode cX12_factorial 47 = .ok (.aload_n 0, 1) := by decide +kernel
theorem dX12_factorial_48 : decode cX12_factorial 48 = .ok (.sipush 3600, 3) := by decide +kernel
theorem dX12_factorial_51 : decode cX12_factorial 51 = .ok (.iload 4, 2) := by decide +kernel
theorem dX12_factorial_53 : decode cX12_factorial 53 = .ok (.invokevirtual 96, 3) := by decide +kernel
theorem dX12_factorial_56 : decode cX12_factorial 56 = .ok (.aload_n 0, 1) := by decide +kernel
theorem dX12_factorial_57 : decode cX12_factorial 57 = .ok (.iload_n 1, 1) := by decide +kernel
theorem dX12_factorial_58 : decode cX12_factorial 58 = .ok (.iload_n 1, 1) := by decide +kernel
theorem dX12_factorial_59 : decode cX12_factorial 59 = .ok (.sipush 3600, 3) := by decide +kernel
theorem dX12_factorial_62 : decode cX12_factorial 62 = .ok (.invokevirtual 99, 3) := by decide +kernel
theorem dX12_factorial_65 : decode cX12_factorial 65 = .ok (.pop, 1) := by decide +kernel
theorem dX12_factorial_66 : decode cX12_factorial 66 = .ok (.iinc 4 1, 3) := by decide +kernel
theorem dX12_factorial_69 : decode cX12_factorial 69 = .ok (.goto (-28), 3) := by decide +kernel
theorem dX12_factorial_72 : decode cX12_factorial 72 = .ok (.iconst 0, 1) := by decide +kernel
theorem dX12_factorial_73 : decode cX12_factorial 73 = .ok (.ireturn, 1) := by decide +kernel
theorem dX12_one_0 : decode cX12_one 0 = .ok (.iload_n 1, 1) := by decide +kernel
theorem dX12_one_1 : decode cX12_one 1 = .ok (.bipush 13, 2) := by decide +kernel
theorem dX12_one_3 : decode cX12_one 3 = .ok (.if_icmp .ne 10, 3) := by decide +kernel
theorem dX12_one_6 : decode cX12_one 6 = .ok (.aload_n 0, 1) := by decide +kernel
theorem dX12_one_7 : decode cX12_one 7 = .ok (.iload_n 2, 1) := by decide +kernel
theorem dX12_one_8 : decode cX12_one 8 = .ok (.iload_n 2, 1) := by decide +kernel
theorem dX12_one_9 : decode cX12_one 9 = .ok (.invokevirtual 118, 3) := by decide +kernel
theorem dX12_one_12 : decode cX12_one 12 = .ok (.ireturn, 1) := by decide +kernel
theorem dX12_one_13 : decode cX12_one 13 = .ok (.iload_n 1, 1) := by decide +kernel
theorem dX12_one_14 : decode cX12_one 14 = .ok (.bipush 11, 2) := by decide +kernel
theorem dX12_one_16 : decode cX12_one 16 = .ok (.if_icmp .ne 21, 3) := by decide +kernel
theorem dX12_one_19 : decode cX12_one 19 = .ok (.aload_n 0, 1) := by decide +kernel
theorem dX12_one_20 : decode cX12_one 20 = .ok (.getfield 46, 3) := by decide +kernel
theorem dX12_one_23 : decode cX12_one 23 = .ok (.bipush 28, 2) := by decide +kernel
theorem dX12_one_25 : decode cX12_one 25 = .ok (.iload_n 2, 1) := by decide +kernel
theorem dX12_one_26 : decode cX12_one 26 = .ok (.imul, 1) := by decide +kernel
theorem dX12_one_27 : decode cX12_one 27 = .ok (.aload_n 0, 1) := by decide +kernel
theorem dX12_one_28 : decode cX12_one 28 = .ok (.iload_n 2, 1) := by decide +kernel
theorem dX12_one_29 : decode cX12_one 29 = .ok (.invokevirtual 81, 3) := by decide +kernel
theorem dX12_one_32 : decode cX12_one 32 = .ok (.ineg, 1) := by decide +kernel
theorem dX12_one_33 : decode cX12_one 33 = .ok (.iastore, 1) := by decide +kernel
theorem dX12_one_34 : decode cX12_one 34 = .ok (.goto 21, 3) := by decide +kernel
theorem dX12_one_37 : decode cX12_one 37 = .ok (.aload_n 0, 1) := by decide +kernel
theorem dX12_one_38 : decode cX12_one 38 = .ok (.iload_n 2, 1) := by decide +kernel
theorem dX12_one_39 : decode cX12_one 39 = .ok (.aload_n 0, 1) := by decide +kernel
theorem dX12_one_40 : decode cX12_one 40 = .ok (.iload_n 2, 1) := by decide +kernel
theorem dX12_one_41 : decode cX12_one 41 = .ok (.invokevirtual 81, 3) := by decide +kernel
theorem dX12_one_44 : decode cX12_one 44 = .ok (.ifCond .ne 7, 3) := by decide +kernel
theorem dX12_one_47 : decode cX12_one 47 = .ok (.iconst 1, 1) := by decide +kernel
theorem dX12_one_48 : decode cX12_one 48 = .ok (.goto 4, 3) := by decide +kernel
theorem dX12_one_51 : decode cX12_one 51 = .ok (.iconst 0, 1) := by decide +kernel
theorem dX12_one_52 : decode cX12_one 52 = .ok (.invokevirtual 96, 3) := by decide +kernel
theorem dX12_one_55 : decode cX12_one 55 = .ok (.iconst 0, 1) := by decide +kernel
theorem dX12_one_56 : decode cX12_one 56 = .ok (.ireturn, 1) := by decide +kernel
theorem dX12_two_0 : decode cX12_two 0 = .ok (.iload_n 1, 1) := by decide +kernel
theorem dX12_two_1 : decode cX12_two 1 = .ok (.tableswitch 209 0 10 #[59, 76, 93, 109, 137, 145, 209, 209, 209, 153, 181], 59) := by decide +kernel
theorem dX12_two_60 : decode cX12_two 60 = .ok (.aload_n 0, 1) := by decide +kernel
theorem dX12_two_61 : decode cX12_two 61 = .ok (.iload_n 2, 1) := by decide +kernel
theorem dX12_two_62 : decode cX12_two 62 = .ok (.iload_n 2, 1) := by decide +kernel
theorem dX12_two_63 : decode cX12_two 63 = .ok (.iload_n 3, 1) := by decide +kernel
theorem dX12_two_64 : decode cX12_two 64 = .ok (.iconst 1, 1) := by decide +kernel
theorem dX12_two_65 : decode cX12_two 65 = .ok (.invokevirtual 121, 3) := by decide +kernel
theorem dX12_two_68 : decode cX12_two 68 = .ok (.ifCond .eq 7, 3) := by decide +kernel
theorem dX12_two_71 : decode cX12_two 71 = .ok (.iconst 0, 1) := by decide +kernel
theorem dX12_two_72 : decode cX12_two 72 = .ok (.goto 4, 3) := by decide +kernel
theorem dX12_two_75 : decode cX12_two 75 = .ok (.iconst 3, 1) := by decide +kernel
theorem dX12_two_76 : decode cX12_two 76 = .ok (.ireturn, 1) := by decide +kernel
theorem dX12_two_77 : decode cX12_two 77 = .ok (.aload_n 0, 1) := by decide +kernel
theorem dX12_two_78 : decode cX12_two 78 = .ok (.iload_n 2, 1) := by decide +kernel
theorem dX12_two_79 : decode cX12_two 79 = .ok (.iload_n 2, 1) := by decide +kernel
theorem dX12_two_80 : decode cX12_two 80 = .ok (.iload_n 3, 1) := by decide +kernel
theorem dX12_two_81 : decode cX12_two 81 = .ok (.iconst (-1), 1) := by decide +kernel
theorem dX12_two_82 : decode cX12_two 82 = .ok (.invokevirtual 121, 3) := by decide +kernel
theorem dX12_two_85 : decode cX12_two 85 = .ok (.ifCond .eq 7, 3) := by decide +kernel
theorem dX12_two_88 : decode cX12_two 88 = .ok (.iconst 0, 1) := by decide +kernel
theorem dX12_two_89 : decode cX12_two 89 = .ok (.goto 4, 3) := by decide +kernel
theorem dX12_two_92 : decode cX12_two 92 = .ok (.iconst 3, 1) := by decide +kernel
theorem dX12_two_93 : decode cX12_two 93 = .ok (.ireturn, 1) := by decide +kernel
theorem dX12_two_94 : decode cX12_two 94 = .ok (.aload_n 0, 1) := by decide +kernel
theorem dX12_two_95 : decode cX12_two 95 = .ok (.iload_n 2, 1) := by decide +kernel
theorem dX12_two_96 : decode cX12_two 96 = .ok (.iload_n 2, 1) := by decide +kernel
theorem dX12_two_97 : decode cX12_two 97 = .ok (.iload_n 3, 1) := by decide +kernel
theorem dX12_two_98 : decode cX12_two 98 = .ok (.invokevirtual 99, 3) := by decide +kernel
theorem dX12_two_101 : decode cX12_two 101 = .ok (.ifCond .eq 7, 3) := by decide +kernel
theorem dX12_two_104 : decode cX12_two 104 = .ok (.iconst 0, 1) := by decide +kernel
theorem dX12_two_105 : decode cX12_two 105 = .ok (.goto 4, 3) := by decide +kernel
theorem dX12_two_108 : decode cX12_two 108 = .ok (.iconst 3, 1) := by decide +kernel
theorem dX12_two_109 : decode cX12_two 109 = .ok (.ireturn, 1) := by decide +kernel
theorem dX12_two_110 : decode cX12_two 110 = .ok (.aload_n 0, 1) := by decide +kernel
theorem dX12_two_111 : decode cX12_two 111 = .ok (.iload_n 3, 1) := by decide +kernel
theorem dX12_two_112 : decode cX12_two 112 = .ok (.invokevirtual 81, 3) := by decide +kernel
theorem dX12_two_115 : decode cX12_two 115 = .ok (.ifCond .ne 7, 3) := by decide +kernel
theorem dX12_two_118 : decode cX12_two 118 = .ok (.iconst 1, 1) := by decide +kernel
theorem dX12_two_119 : decode cX12_two 119 = .ok (.goto 18, 3) := by decide +kernel
theorem dX12_two_122 : decode cX12_two 122 = .ok (.aload_n 0, 1) := by decide +kernel
theorem dX12_two_123 : decode cX12_two 123 = .ok (.iload_n 2, 1) := by decide +kernel
theorem dX12_two_124 : decode cX12_two 124 = .ok (.iload_n 2, 1) := by decide +kernel
theorem dX12_two_125 : decode cX12_two 125 = .ok (.iload_n 3, 1) := by decide +kernel
theorem dX12_two_126 : decode cX12_two 126 = .ok (.invokevirtual 112, 3) := by decide +kernel
theorem dX12_two_129 : decode cX12_two 129 = .ok (.ifCond .eq 7, 3) := by decide +kernel
theorem dX12_two_132 : decode cX12_two 132 = .ok (.iconst 0, 1) := by decide +kernel
theorem dX12_two_133 : decode cX12_two 133 = .ok (.goto 4, 3) := by decide +kernel
theorem dX12_two_136 : decode cX12_two 136 = .ok (.iconst 3, 1) := by decide +kernel
theorem dX12_two_137 : decode cX12_two 137 = .ok (.ireturn, 1) := by decide +kernel
theorem dX12_two_138 : decode cX12_two 138 = .ok (.aload_n 0, 1) := by decide +kernel
theorem dX12_two_139 : decode cX12_two 139 = .ok (.iload_n 2, 1) := by decide +kernel
theorem dX12_two_140 : decode cX12_two 140 = .ok (.iload_n 2, 1) := by decide +kernel
theorem dX12_two_141 : decode cX12_two 141 = .ok (.iload_n 3, 1) := by decide +kernel
theorem dX12_two_142 : decode cX12_two 142 = .ok (.invokevirtual 125, 3) := by decide +kernel
theorem dX12_two_145 : decode cX12_two 145 = .ok (.ireturn, 1) := by decide +kernel
theorem dX12_two_146 : decode cX12_two 146 = .ok (.aload_n 0, 1) := by decide +kernel
theorem dX12_two_147 : decode cX12_two 147 = .ok (.iload_n 2, 1) := by decide +kernel
theorem dX12_two_148 : decode cX12_two 148 = .ok (.iload_n 2, 1) := by decide +kernel
theorem dX12_two_149 : decode cX12_two 149 = .ok (.iload_n 3, 1) := by decide +kernel
theorem dX12_two_150 : decode cX12_two 150 = .ok (.invokevirtual 129, 3) := by decide +kernel
theorem dX12_two_153 : decode cX12_two 153 = .ok (.ireturn, 1) := by decide +kernel
theorem dX12_two_154 : decode cX12_two 154 = .ok (.aload_n 0, 1) := by decide +kernel
theorem dX12_two_155 : decode cX12_two 155 = .ok (.iload_n 2, 1) := by decide +kernel
theorem dX12_two_156 : decode cX12_two 156 = .ok (.aload_n 0, 1) := by decide +kernel
theorem dX12_two_157 : decode cX12_two 157 = .ok (.iload_n 2, 1) := by decide +kernel
theorem dX12_two_158 : decode cX12_two 158 = .ok (.invokevirtual 81, 3) := by decide +kernel
theorem dX12_two_161 : decode cX12_two 161 = .ok (.ifCond .eq 15, 3) := by decide +kernel
theorem dX12_two_164 : decode cX12_two 164 = .ok (.aload_n 0, 1) := by decide +kernel
theorem dX12_two_165 : decode cX12_two 165 = .ok (.iload_n 3, 1) := by decide +kernel
theorem dX12_two_166 : decode cX12_two 166 = .ok (.invokevirtual 81, 3) := by decide +kernel
theorem dX12_two_169 : decode cX12_two 169 = .ok (.ifCond .eq 7, 3) := by decide +kernel
theorem dX12_two_172 : decode cX12_two 172 = .ok (.iconst 1, 1) := by decide +kernel
theorem dX12_two_173 : decode cX12_two 173 = .ok (.goto 4, 3) := by decide +kernel
theorem dX12_two_176 : decode cX12_two 176 = .ok (.iconst 0, 1) := by decide +kernel
theorem dX12_two_177 : decode cX12_two 177 = .ok (.invokevirtual 96, 3) := by decide +kernel
theorem dX12_two_180 : decode cX12_two 180 = .ok (.iconst 0, 1) := by decide +kernel
theorem dX12_two_181 : decode cX12_two 181 = .ok (.ireturn, 1) := by decide +kernel
theorem dX12_two_182 : decode cX12_two 182 = .ok (.aload_n 0, 1) := by decide +kernel
theorem dX12_two_183 : decode cX12_two 183 = .ok (.iload_n 2, 1) := by decide +kernel
theorem dX12_two_184 : decode cX12_two 184 = .ok (.aload_n 0, 1) := by decide +kernel
theorem dX12_two_185 : decode cX12_two 185 = .ok (.iload_n 2, 1) := by decide +kernel
theorem dX12_two_186 : decode cX12_two 186 = .ok (.invokevirtual 81, 3) := by decide +kernel
theorem dX12_two_189 : decode cX12_two 189 = .ok (.ifCond .ne 11, 3) := by decide +kernel
theorem dX12_two_192 : decode cX12_two 192 = .ok (.aload_n 0, 1) := by decide +kernel
theorem dX12_two_193 : decode cX12_two 193 = .ok (.iload_n 3, 1) := by decide +kernel
theorem dX12_two_194 : decode cX12_two 194 = .ok (.invokevirtual 81, 3) := by decide +kernel
theorem dX12_two_197 : decode cX12_two 197 = .ok (.ifCond .eq 7, 3) := by decide +kernel
theorem dX12_two_200 : decode cX12_two 200 = .ok (.iconst 1, 1) := by decide +kernel
theorem dX12_two_201 : decode cX12_two 201 = .ok (.goto 4, 3) := by decide +kernel
theorem dX12_two_204 : decode cX12_two 204 = .ok (.iconst 0, 1) := by decide +kernel
theorem dX12_two_205 : decode cX12_two 205 = .ok (.invokevirtual 96, 3) := by decide +kernel
theorem dX12_two_208 : decode cX12_two 208 = .ok (.iconst 0, 1) := by decide +kernel
theorem dX12_two_209 : decode cX12_two 209 = .ok (.ireturn, 1) := by decide +kernel
theorem dX12_two_210 : decode cX12_two 210 = .ok (.aload_n 0, 1) := by decide +kernel
theorem dX12_two_211 : decode cX12_two 211 = .ok (.iload_n 2, 1) := by decide +kernel
theorem dX12_two_212 : decode cX12_two 212 = .ok (.iload_n 3, 1) := by decide +kernel
theorem dX12_two_213 : decode cX12_two 213 = .ok (.invokevirtual 132, 3) := by decide +kernel
theorem dX12_two_216 : decode cX12_two 216 = .ok (.istore 4, 2) := by decide +kernel
theorem dX12_two_218 : decode cX12_two 218 = .ok (.aload_n 0, 1) := by decide +kernel
theorem dX12_two_219 : decode cX12_two 219 = .ok (.iload_n 2, 1) := by decide +kernel
theorem dX12_two_220 : decode cX12_two 220 = .ok (.iload_n 1, 1) := by decide +kernel
theorem dX12_two_221 : decode cX12_two 221 = .ok (.bipush 6, 2) := by decide +kernel
theorem dX12_two_223 : decode cX12_two 223 = .ok (.if_icmp .ne 8, 3) := by decide +kernel
theorem dX12_two_226 : decode cX12_two 226 = .ok (.iload 4, 2) := by decide +kernel
theorem dX12_two_228 : decode cX12_two 228 = .ok (.ifCond .lt 25, 3) := by decide +kernel
theorem dX12_two_231 : decode cX12_two 231 = .ok (.iload_n 1, 1) := by decide +kernel
theorem dX12_two_232 : decode cX12_two 232 = .ok (.bipush 7, 2) := by decide +kernel
theorem dX12_two_234 : decode cX12_two 234 = .ok (.if_icmp .ne 8, 3) := by decide +kernel
theorem dX12_two_237 : decode cX12_two 237 = .ok (.iload 4, 2) := by decide +kernel
theorem dX12_two_239 : decode cX12_two 239 = .ok (.ifCond .eq 14, 3) := by decide +kernel
theorem dX12_two_242 : decode cX12_two 242 = .ok (.iload_n 1, 1) := by decide +kernel
theorem dX12_two_243 : decode cX12_two 243 = .ok (.bipush 8, 2) := by decide +kernel
theorem dX12_two_245 : decode cX12_two 245 = .ok (.if_icmp .ne 12, 3) := by decide +kernel
theorem dX12_two_248 : decode cX12_two 248 = .ok (.iload 4, 2) := by decide +kernel
theorem dX12_two_250 : decode cX12_two 250 = .ok (.ifCond .le 7, 3) := by decide +kernel
theorem dX12_two_253 : decode cX12_two 253 = .ok (.iconst 1, 1) := by decide +kernel
theorem dX12_two_254 : decode cX12_two 254 = .ok (.goto 4, 3) := by decide +kernel
theorem dX12_two_257 : decode cX12_two 257 = .ok (.iconst 0, 1) := by decide +kernel
theorem dX12_two_258 : decode cX12_two 258 = .ok (.invokevirtual 96, 3) := by decide +kernel
theorem dX12_two_261 : decode cX12_two 261 = .ok (.iconst 0, 1) := by decide +kernel
theorem dX12_two_262 : decode cX12_two 262 = .ok (.ireturn, 1) := by decide +kernel
theorem dX12_node_0 : decode cX12_node 0 = .ok (.aload_n 0, 1) := by decide +kernel
theorem dX12_node_1 : decode cX12_node 1 = .ok (.getfield 135, 3) := by decide +kernel
theorem dX12_node_4 : decode cX12_node 4 = .ok (.iload_n 1, 1) := by decide +kernel
theorem dX12_node_5 : decode cX12_node 5 = .ok (.iload_n 2, 1) := by decide +kernel
theorem dX12_node_6 : decode cX12_node 6 = .ok (.iastore, 1) := by decide +kernel
theorem dX12_node_7 : decode cX12_node 7 = .ok (.aload_n 0, 1) := by decide +kernel
theorem dX12_node_8 : decode cX12_node 8 = .ok (.getfield 138, 3) := by decide +kernel
theorem dX12_node_11 : decode cX12_node 11 = .ok (.iload_n 1, 1) := by decide +kernel
theorem dX12_node_12 : decode cX12_node 12 = .ok (.iload_n 3, 1) := by decide +kernel
theorem dX12_node_13 : decode cX12_node 13 = .ok (.iastore, 1) := by decide +kernel
theorem dX12_node_14 : decode cX12_node 14 = .ok (.aload_n 0, 1) := by decide +kernel
theorem dX12_node_15 : decode cX12_node 15 = .ok (.getfield 141, 3) := by decide +kernel
theorem dX12_node_18 : decode cX12_node 18 = .ok (.iload_n 1, 1) := by decide +kernel
theorem dX12_node_19 : decode cX12_node 19 = .ok (.iload 4, 2) := by decide +kernel
theorem dX12_node_21 : decode cX12_node 21 = .ok (.iastore, 1) := by decide +kernel
theorem dX12_node_22 : decode cX12_node 22 = .ok (.aload_n 0, 1) := by decide +kernel
theorem dX12_node_23 : decode cX12_node 23 = .ok (.getfield 144, 3) := by decide +kernel
theorem dX12_node_26 : decode cX12_node 26 = .ok (.iload_n 1, 1) := by decide +kernel
theorem dX12_node_27 : decode cX12_node 27 = .ok (.iload 5, 2) := by decide +kernel
theorem dX12_node_29 : decode cX12_node 29 = .ok (.iastore, 1) := by decide +kernel
theorem dX12_node_30 : decode cX12_node 30 = .ok (.aload_n 0, 1) := by decide +kernel
theorem dX12_node_31 : decode cX12_node 31 = .ok (.getfield 147, 3) := by decide +kernel
theorem dX12_node_34 : decode cX12_node 34 = .ok (.iload_n 1, 1) := by decide +kernel
theorem dX12_node_35 : decode cX12_node 35 = .ok (.iconst 1, 1) := by decide +kernel
theorem dX12_node_36 : decode cX12_node 36 = .ok (.iastore, 1) := by decide +kernel
theorem dX12_node_37 : decode cX12_node 37 = .ok (.return_, 1) := by decide +kernel
theorem dX12_copyNodes_0 : decode cX12_copyNodes 0 = .ok (.iconst 0, 1) := by decide +kernel
theorem dX12_copyNodes_1 : decode cX12_copyNodes 1 = .ok (.istore 4, 2) := by decide +kernel
theorem dX12_copyNodes_3 : decode cX12_copyNodes 3 = .ok (.iload 4, 2) := by decide +kernel
theorem dX12_copyNodes_5 : decode cX12_copyNodes 5 = .ok (.iload_n 3, 1) := by decide +kernel
theorem dX12_copyNodes_6 : decode cX12_copyNodes 6 = .ok (.if_icmp .ge 99, 3) := by decide +kernel
theorem dX12_copyNodes_9 : decode cX12_copyNodes 9 = .ok (.aload_n 0, 1) := by decide +kernel
theorem dX12_copyNodes_10 : decode cX12_copyNodes 10 = .ok (.getfield 135, 3) := by decide +kernel
theorem dX12_copyNodes_13 : decode cX12_copyNodes 13 = .ok (.iload_n 1, 1) := by decide +kernel
theorem dX12_copyNodes_14 : decode cX12_copyNodes 14 = .ok (.iload 4, 2) := by decide +kernel
theorem dX12_copyNodes_16 : decode cX12_copyNodes 16 = .ok (.iadd, 1) := by decide +kernel
theorem dX12_copyNodes_17 : decode cX12_copyNodes 17 = .ok (.aload_n 0, 1) := by decide +kernel
theorem dX12_copyNodes_18 : decode cX12_copyNodes 18 = .ok (.getfield 135, 3) := by decide +kernel
theorem dX12_copyNodes_21 : decode cX12_copyNodes 21 = .ok (.iload_n 2, 1) := by decide +kernel
theorem dX12_copyNodes_22 : decode cX12_copyNodes 22 = .ok (.iload 4, 2) := by decide +kernel
theorem dX12_copyNodes_24 : decode cX12_copyNodes 24 = .ok (.iadd, 1) := by decide +kernel
theorem dX12_copyNodes_25 : decode cX12_copyNodes 25 = .ok (.iaload, 1) := by decide +kernel
theorem dX12_copyNodes_26 : decode cX12_copyNodes 26 = .ok (.iastore, 1) := by decide +kernel
theorem dX12_copyNodes_27 : decode cX12_copyNodes 27 = .ok (.aload_n 0, 1) := by decide +kernel
theorem dX12_copyNodes_28 : decode cX12_copyNodes 28 = .ok (.getfield 138, 3) := by decide +kernel
theorem dX12_copyNodes_31 : decode cX12_copyNodes 31 = .ok (.iload_n 1, 1) := by decide +kernel
theorem dX12_copyNodes_32 : decode cX12_copyNodes 32 = .ok (.iload 4, 2) := by decide +kernel
theorem dX12_copyNodes_34 : decode cX12_copyNodes 34 = .ok (.iadd, 1) := by decide +kernel
theorem dX12_copyNodes_35 : decode cX12_copyNodes 35 = .ok (.aload_n 0, 1) := by decide +kernel
theorem dX12_copyNodes_36 : decode cX12_copyNodes 36 = .ok (.getfield 138, 3) := by decide +kernel
theorem dX12_copyNodes_39 : decode cX12_copyNodes 39 = .ok (.iload_n 2, 1) := by decide +kernel
theorem dX12_copyNodes_40 : decode cX12_copyNodes 40 = .ok (.iload 4, 2) := by decide +kernel
theorem dX12_copyNodes_42 : decode cX12_copyNodes 42 = .ok (.iadd, 1) := by decide +kernel
theorem dX12_copyNodes_43 : decode cX12_copyNodes 43 = .ok (.iaload, 1) := by decide +kernel
theorem dX12_copyNodes_44 : decode cX12_copyNodes 44 = .ok (.iastore, 1) := by decide +kernel
theorem dX12_copyNodes_45 : decode cX12_copyNodes 45 = .ok (.aload_n 0, 1) := by decide +kernel
theorem dX12_copyNodes_46 : decode cX12_copyNodes 46 = .ok (.getfield 141, 3) := by decide +kernel
theorem dX12_copyNodes_49 : decode cX12_copyNodes 49 = .ok (.iload_n 1, 1) := by decide +kernel
theorem dX12_copyNodes_50 : decode cX12_copyNodes 50 = .ok (.iload 4, 2) := by decide +kernel
theorem dX12_copyNodes_52 : decode cX12_copyNodes 52 = .ok (.iadd, 1) := by decide +kernel
theorem dX12_copyNodes_53 : decode cX12_copyNodes 53 = .ok (.aload_n 0, 1) := by decide +kernel
theorem dX12_copyNodes_54 : decode cX12_copyNodes 54 = .ok (.getfield 141, 3) := by decide +kernel
theorem dX12_copyNodes_57 : decode cX12_copyNodes 57 = .ok (.iload_n 2, 1) := by decide +kernel
theorem dX12_copyNodes_58 : decode cX12_copyNodes 58 = .ok (.iload 4, 2) := by decide +kernel
theorem dX12_copyNodes_60 : decode cX12_copyNodes 60 = .ok (.iadd, 1) := by decide +kernel
theorem dX12_copyNodes_61 : decode cX12_copyNodes 61 = .ok (.iaload, 1) := by decide +kernel
theorem dX12_copyNodes_62 : decode cX12_copyNodes 62 = .ok (.iastore, 1) := by decide +kernel
theorem dX12_copyNodes_63 : decode cX12_copyNodes 63 = .ok (.aload_n 0, 1) := by decide +kernel
theorem dX12_copyNodes_64 : decode cX12_copyNodes 64 = .ok (.getfield 144, 3) := by decide +kernel
theorem dX12_copyNodes_67 : decode cX12_copyNodes 67 = .ok (.iload_n 1, 1) := by decide +kernel
theorem dX12_copyNodes_68 : decode cX12_copyNodes 68 = .ok (.iload 4, 2) := by decide +kernel
theorem dX12_copyNodes_70 : decode cX12_copyNodes 70 = .ok (.iadd, 1) := by decide +kernel
theorem dX12_copyNodes_71 : decode cX12_copyNodes 71 = .ok (.aload_n 0, 1) := by decide +kernel
theorem dX12_copyNodes_72 : decode cX12_copyNodes 72 = .ok (.getfield 144, 3) := by decide +kernel
theorem dX12_copyNodes_75 : decode cX12_copyNodes 75 = .ok (.iload_n 2, 1) := by decide +kernel
theorem dX12_copyNodes_76 : decode cX12_copyNodes 76 = .ok (.iload 4, 2) := by decide +kernel
theorem dX12_copyNodes_78 : decode cX12_copyNodes 78 = .ok (.iadd, 1) := by decide +kernel
theorem dX12_copyNodes_79 : decode cX12_copyNodes 79 = .ok (.iaload, 1) := by decide +kernel
theorem dX12_copyNodes_80 : decode cX12_copyNodes 80 = .ok (.iastore, 1) := by decide +kernel
theorem dX12_copyNodes_81 : decode cX12_copyNodes 81 = .ok (.aload_n 0, 1) := by decide +kernel
theorem dX12_copyNodes_82 : decode cX12_copyNodes 82 = .ok (.getfield 147, 3) := by decide +kernel
theorem dX12_copyNodes_85 : decode cX12_copyNodes 85 = .ok (.iload_n 1, 1) := by decide +kernel
theorem dX12_copyNodes_86 : decode cX12_copyNodes 86 = .ok (.iload 4, 2) := by decide +kernel
theorem dX12_copyNodes_88 : decode cX12_copyNodes 88 = .ok (.iadd, 1) := by decide +kernel
theorem dX12_copyNodes_89 : decode cX12_copyNodes 89 = .ok (.aload_n 0, 1) := by decide +kernel
theorem dX12_copyNodes_90 : decode cX12_copyNodes 90 = .ok (.getfield 147, 3) := by decide +kernel
theorem dX12_copyNodes_93 : decode cX12_copyNodes 93 = .ok (.iload_n 2, 1) := by decide +kernel
theorem dX12_copyNodes_94 : decode cX12_copyNodes 94 = .ok (.iload 4, 2) := by decide +kernel
theorem dX12_copyNodes_96 : decode cX12_copyNodes 96 = .ok (.iadd, 1) := by decide +kernel
theorem dX12_copyNodes_97 : decode cX12_copyNodes 97 = .ok (.iaload, 1) := by decide +kernel
theorem dX12_copyNodes_98 : decode cX12_copyNodes 98 = .ok (.iastore, 1) := by decide +kernel
theorem dX12_copyNodes_99 : decode cX12_copyNodes 99 = .ok (.iinc 4 1, 3) := by decide +kernel
theorem dX12_copyNodes_102 : decode cX12_copyNodes 102 = .ok (.goto (-99), 3) := by decide +kernel
theorem dX12_copyNodes_105 : decode cX12_copyNodes 105 = .ok (.return_, 1) := by decide +kernel
theorem dX12_span_0 : decode cX12_span 0 = .ok (.iload_n 2, 1) := by decide +kernel
theorem dX12_span_1 : decode cX12_span 1 = .ok (.iconst 1, 1) := by decide +kernel
theorem dX12_span_2 : decode cX12_span 2 = .ok (.isub, 1) := by decide +kernel
theorem dX12_span_3 : decode cX12_span 3 = .ok (.istore_n 3, 1) := by decide +kernel
theorem dX12_span_4 : decode cX12_span 4 = .ok (.iload_n 3, 1) := by decide +kernel
theorem dX12_span_5 : decode cX12_span 5 = .ok (.ifCond .lt 64, 3) := by decide +kernel
theorem dX12_span_8 : decode cX12_span 8 = .ok (.iload_n 1, 1) := by decide +kernel
theorem dX12_span_9 : decode cX12_span 9 = .ok (.iload_n 3, 1) := by decide +kernel
theorem dX12_span_10 : decode cX12_span 10 = .ok (.iadd, 1) := by decide +kernel
theorem dX12_span_11 : decode cX12_span 11 = .ok (.iconst 1, 1) := by decide +kernel
theorem dX12_span_12 : decode cX12_span 12 = .ok (.iadd, 1) := by decide +kernel
theorem dX12_span_13 : decode cX12_span 13 = .ok (.istore 4, 2) := by decide +kernel
theorem dX12_span_15 : decode cX12_span 15 = .ok (.iconst 0, 1) := by decide +kernel
theorem dX12_span_16 : decode cX12_span 16 = .ok (.istore 5, 2) := by decide +kernel
theorem dX12_span_18 : decode cX12_span 18 = .ok (.iload 5, 2) := by decide +kernel
theorem dX12_span_20 : decode cX12_span 20 = .ok (.aload_n 0, 1) := by decide +kernel
theorem dX12_span_21 : decode cX12_span 21 = .ok (.getfield 144, 3) := by decide +kernel
theorem dX12_span_24 : decode cX12_span 24 = .ok (.iload_n 1, 1) := by decide +kernel
theorem dX12_span_25 : decode cX12_span 25 = .ok (.iload_n 3, 1) := by decide +kernel
theorem dX12_span_26 : decode cX12_span 26 = .ok (.iadd, 1) := by decide +kernel
theorem dX12_span_27 : decode cX12_span 27 = .ok (.iaload, 1) := by decide +kernel
theorem dX12_span_28 : decode cX12_span 28 = .ok (.if_icmp .ge 21, 3) := by decide +kernel
theorem dX12_span_31 : decode cX12_span 31 = .ok (.iload 4, 2) := by decide +kernel
theorem dX12_span_33 : decode cX12_span 33 = .ok (.aload_n 0, 1) := by decide +kernel
theorem dX12_span_34 : decode cX12_span 34 = .ok (.getfield 147, 3) := by decide +kernel
theorem dX12_span_37 : decode cX12_span 37 = .ok (.iload 4, 2) := by decide +kernel
theorem dX12_span_39 : decode cX12_span 39 = .ok (.iaload, 1) := by decide +kernel
theorem dX12_span_40 : decode cX12_span 40 = .ok (.iadd, 1) := by decide +kernel
theorem dX12_span_41 : decode cX12_span 41 = .ok (.istore 4, 2) := by decide +kernel
theorem dX12_span_43 : decode cX12_span 43 = .ok (.iinc 5 1, 3) := by decide +kernel
theorem dX12_span_46 : decode cX12_span 46 = .ok (.goto (-28), 3) := by decide +kernel
theorem dX12_span_49 : decode cX12_span 49 = .ok (.aload_n 0, 1) := by decide +kernel
theorem dX12_span_50 : decode cX12_span 50 = .ok (.getfield 147, 3) := by decide +kernel
theorem dX12_span_53 : decode cX12_span 53 = .ok (.iload_n 1, 1) := by decide +kernel
theorem dX12_span_54 : decode cX12_span 54 = .ok (.iload_n 3, 1) := by decide +kernel
theorem dX12_span_55 : decode cX12_span 55 = .ok (.iadd, 1) := by decide +kernel
theorem dX12_span_56 : decode cX12_span 56 = .ok (.iload 4, 2) := by decide +kernel
theorem dX12_span_58 : decode cX12_span 58 = .ok (.iload_n 1, 1) := by decide +kernel
theorem dX12_span_59 : decode cX12_span 59 = .ok (.isub, 1) := by decide +kernel
theorem dX12_span_60 : decode cX12_span 60 = .ok (.iload_n 3, 1) := by decide +kernel
theorem dX12_span_61 : decode cX12_span 61 = .ok (.isub, 1) := by decide +kernel
theorem dX12_span_62 : decode cX12_span 62 = .ok (.iastore, 1) := by decide +kernel
theorem dX12_span_63 : decode cX12_span 63 = .ok (.iinc 3 (-1), 3) := by decide +kernel
theorem dX12_span_66 : decode cX12_span 66 = .ok (.goto (-62), 3) := by decide +kernel
theorem dX12_span_69 : decode cX12_span 69 = .ok (.return_, 1) := by decide +kernel
theorem dX12_child_0 : decode cX12_child 0 = .ok (.iload_n 1, 1) := by decide +kernel
theorem dX12_child_1 : decode cX12_child 1 = .ok (.iconst 1, 1) := by decide +kernel
theorem dX12_child_2 : decode cX12_child 2 = .ok (.iadd, 1) := by decide +kernel
theorem dX12_child_3 : decode cX12_child 3 = .ok (.istore_n 3, 1) := by decide +kernel
theorem dX12_child_4 : decode cX12_child 4 = .ok (.iconst 0, 1) := by decide +kernel
theorem dX12_child_5 : decode cX12_child 5 = .ok (.istore 4, 2) := by decide +kernel
theorem dX12_child_7 : decode cX12_child 7 = .ok (.iload 4, 2) := by decide +kernel
theorem dX12_child_9 : decode cX12_child 9 = .ok (.iload_n 2, 1) := by decide +kernel
theorem dX12_child_10 : decode cX12_child 10 = .ok (.if_icmp .ge 18, 3) := by decide +kernel
theorem dX12_child_13 : decode cX12_child 13 = .ok (.iload_n 3, 1) := by decide +kernel
theorem dX12_child_14 : decode cX12_child 14 = .ok (.aload_n 0, 1) := by decide +kernel
theorem dX12_child_15 : decode cX12_child 15 = .ok (.getfield 147, 3) := by decide +kernel
theorem dX12_child_18 : decode cX12_child 18 = .ok (.iload_n 3, 1) := by decide +kernel
theorem dX12_child_19 : decode cX12_child 19 = .ok (.iaload, 1) := by decide +kernel
theorem dX12_child_20 : decode cX12_child 20 = .ok (.iadd, 1) := by decide +kernel
theorem dX12_child_21 : decode cX12_child 21 = .ok (.istore_n 3, 1) := by decide +kernel
theorem dX12_child_22 : decode cX12_child 22 = .ok (.iinc 4 1, 3) := by decide +kernel
theorem dX12_child_25 : decode cX12_child 25 = .ok (.goto (-18), 3) := by decide +kernel
theorem dX12_child_28 : decode cX12_child 28 = .ok (.iload_n 3, 1) := by decide +kernel
theorem dX12_child_29 : decode cX12_child 29 = .ok (.ireturn, 1) := by decide +kernel
theorem dX12_areSame_0 : decode cX12_areSame 0 = .ok (.aload_n 0, 1) := by decide +kernel
theorem dX12_areSame_1 : decode cX12_areSame 1 = .ok (.getfield 147, 3) := by decide +kernel
theorem dX12_areSame_4 : decode cX12_areSame 4 = .ok (.iload_n 1, 1) := by decide +kernel
theorem dX12_areSame_5 : decode cX12_areSame 5 = .ok (.iaload, 1) := by decide +kernel
theorem dX12_areSame_6 : decode cX12_areSame 6 = .ok (.aload_n 0, 1) := by decide +kernel
theorem dX12_areSame_7 : decode cX12_areSame 7 = .ok (.getfield 147, 3) := by decide +kernel
theorem dX12_areSame_10 : decode cX12_areSame 10 = .ok (.iload_n 2, 1) := by decide +kernel
theorem dX12_areSame_11 : decode cX12_areSame 11 = .ok (.iaload, 1) := by decide +kernel
theorem dX12_areSame_12 : decode cX12_areSame 12 = .ok (.if_icmp .ne 7, 3) := by decide +kernel
theorem dX12_areSame_15 : decode cX12_areSame 15 = .ok (.iconst 1, 1) := by decide +kernel
theorem dX12_areSame_16 : decode cX12_areSame 16 = .ok (.goto 4, 3) := by decide +kernel
theorem dX12_areSame_19 : decode cX12_areSame 19 = .ok (.iconst 0, 1) := by decide +kernel
theorem dX12_areSame_20 : decode cX12_areSame 20 = .ok (.istore_n 3, 1) := by decide +kernel
theorem dX12_areSame_21 : decode cX12_areSame 21 = .ok (.aload_n 0, 1) := by decide +kernel
theorem dX12_areSame_22 : decode cX12_areSame 22 = .ok (.getfield 147, 3) := by decide +kernel
theorem dX12_areSame_25 : decode cX12_areSame 25 = .ok (.iload_n 1, 1) := by decide +kernel
theorem dX12_areSame_26 : decode cX12_areSame 26 = .ok (.iaload, 1) := by decide +kernel
theorem dX12_areSame_27 : decode cX12_areSame 27 = .ok (.istore 4, 2) := by decide +kernel
theorem dX12_areSame_29 : decode cX12_areSame 29 = .ok (.iconst 0, 1) := by decide +kernel
theorem dX12_areSame_30 : decode cX12_areSame 30 = .ok (.istore 5, 2) := by decide +kernel
theorem dX12_areSame_32 : decode cX12_areSame 32 = .ok (.iload 5, 2) := by decide +kernel
theorem dX12_areSame_34 : decode cX12_areSame 34 = .ok (.iload 4, 2) := by decide +kernel
theorem dX12_areSame_36 : decode cX12_areSame 36 = .ok (.if_icmp .ge 103, 3) := by decide +kernel
theorem dX12_areSame_39 : decode cX12_areSame 39 = .ok (.iload_n 3, 1) := by decide +kernel
theorem dX12_areSame_40 : decode cX12_areSame 40 = .ok (.ifCond .eq 99, 3) := by decide +kernel
theorem dX12_areSame_43 : decode cX12_areSame 43 = .ok (.aload_n 0, 1) := by decide +kernel
theorem dX12_areSame_44 : decode cX12_areSame 44 = .ok (.getfield 135, 3) := by decide +kernel
theorem dX12_areSame_47 : decode cX12_areSame 47 = .ok (.iload_n 1, 1) := by decide +kernel
theorem dX12_areSame_48 : decode cX12_areSame 48 = .ok (.iload 5, 2) := by decide +kernel
theorem dX12_areSame_50 : decode cX12_areSame 50 = .ok (.iadd, 1) := by decide +kernel
theorem dX12_areSame_51 : decode cX12_areSame 51 = .ok (.iaload, 1) := by decide +kernel
theorem dX12_areSame_52 : decode cX12_areSame 52 = .ok (.aload_n 0, 1) := by decide +kernel
theorem dX12_areSame_53 : decode cX12_areSame 53 = .ok (.getfield 135, 3) := by decide +kernel
theorem dX12_areSame_56 : decode cX12_areSame 56 = .ok (.iload_n 2, 1) := by decide +kernel
theorem dX12_areSame_57 : decode cX12_areSame 57 = .ok (.iload 5, 2) := by decide +kernel
theorem dX12_areSame_59 : decode cX12_areSame 59 = .ok (.iadd, 1) := by decide +kernel
theorem dX12_areSame_60 : decode cX12_areSame 60 = .ok (.iaload, 1) := by decide +kernel
theorem dX12_areSame_61 : decode cX12_areSame 61 = .ok (.if_icmp .ne 70, 3) := by decide +kernel
theorem dX12_areSame_64 : decode cX12_areSame 64 = .ok (.aload_n 0, 1) := by decide +kernel
theorem dX12_areSame_65 : decode cX12_areSame 65 = .ok (.getfield 138, 3) := by decide +kernel
theorem dX12_areSame_68 : decode cX12_areSame 68 = .ok (.iload_n 1, 1) := by decide +kernel
theorem dX12_areSame_69 : decode cX12_areSame 69 = .ok (.iload 5, 2) := by decide +kernel
theorem dX12_areSame_71 : decode cX12_areSame 71 = .ok (.iadd, 1) := by decide +kernel
theorem dX12_areSame_72 : decode cX12_areSame 72 = .ok (.iaload, 1) := by decide +kernel
theorem dX12_areSame_73 : decode cX12_areSame 73 = .ok (.aload_n 0, 1) := by decide +kernel
theorem dX12_areSame_74 : decode cX12_areSame 74 = .ok (.getfield 138, 3) := by decide +kernel
theorem dX12_areSame_77 : decode cX12_areSame 77 = .ok (.iload_n 2, 1) := by decide +kernel
theorem dX12_areSame_78 : decode cX12_areSame 78 = .ok (.iload 5, 2) := by decide +kernel
theorem dX12_areSame_80 : decode cX12_areSame 80 = .ok (.iadd, 1) := by decide +kernel
theorem dX12_areSame_81 : decode cX12_areSame 81 = .ok (.iaload, 1) := by decide +kernel
theorem dX12_areSame_82 : decode cX12_areSame 82 = .ok (.if_icmp .ne 49, 3) := by decide +kernel
theorem dX12_areSame_85 : decode cX12_areSame 85 = .ok (.aload_n 0, 1) := by decide +kernel
theorem dX12_areSame_86 : decode cX12_areSame 86 = .ok (.getfield 141, 3) := by decide +kernel
theorem dX12_areSame_89 : decode cX12_areSame 89 = .ok (.iload_n 1, 1) := by decide +kernel
theorem dX12_areSame_90 : decode cX12_areSame 90 = .ok (.iload 5, 2) := by decide +kernel
theorem dX12_areSame_92 : decode cX12_areSame 92 = .ok (.iadd, 1) := by decide +kernel
theorem dX12_areSame_93 : decode cX12_areSame 93 = .ok (.iaload, 1) := by decide +kernel
theorem dX12_areSame_94 : decode cX12_areSame 94 = .ok (.aload_n 0, 1) := by decide +kernel
theorem dX12_areSame_95 : decode cX12_areSame 95 = .ok (.getfield 141, 3) := by decide +kernel
theorem dX12_areSame_98 : decode cX12_areSame 98 = .ok (.iload_n 2, 1) := by decide +kernel
theorem dX12_areSame_99 : decode cX12_areSame 99 = .ok (.iload 5, 2) := by decide +kernel
theorem dX12_areSame_101 : decode cX12_areSame 101 = .ok (.iadd, 1) := by decide +kernel
theorem dX12_areSame_102 : decode cX12_areSame 102 = .ok (.iaload, 1) := by decide +kernel
theorem dX12_areSame_103 : decode cX12_areSame 103 = .ok (.if_icmp .ne 28, 3) := by decide +kernel
theorem dX12_areSame_106 : decode cX12_areSame 106 = .ok (.aload_n 0, 1) := by decide +kernel
theorem dX12_areSame_107 : decode cX12_areSame 107 = .ok (.getfield 144, 3) := by decide +kernel
theorem dX12_areSame_110 : decode cX12_areSame 110 = .ok (.iload_n 1, 1) := by decide +kernel
theorem dX12_areSame_111 : decode cX12_areSame 111 = .ok (.iload 5, 2) := by decide +kernel
theorem dX12_areSame_113 : decode cX12_areSame 113 = .ok (.iadd, 1) := by decide +kernel
theorem dX12_areSame_114 : decode cX12_areSame 114 = .ok (.iaload, 1) := by decide +kernel
theorem dX12_areSame_115 : decode cX12_areSame 115 = .ok (.aload_n 0, 1) := by decide +kernel
theorem dX12_areSame_116 : decode cX12_areSame 116 = .ok (.getfield 144, 3) := by decide +kernel
theorem dX12_areSame_119 : decode cX12_areSame 119 = .ok (.iload_n 2, 1) := by decide +kernel
theorem dX12_areSame_120 : decode cX12_areSame 120 = .ok (.iload 5, 2) := by decide +kernel
theorem dX12_areSame_122 : decode cX12_areSame 122 = .ok (.iadd, 1) := by decide +kernel
theorem dX12_areSame_123 : decode cX12_areSame 123 = .ok (.iaload, 1) := by decide +kernel
theorem dX12_areSame_124 : decode cX12_areSame 124 = .ok (.if_icmp .ne 7, 3) := by decide +kernel
theorem dX12_areSame_127 : decode cX12_areSame 127 = .ok (.iconst 1, 1) := by decide +kernel
theorem dX12_areSame_128 : decode cX12_areSame 128 = .ok (.goto 4, 3) := by decide +kernel
theorem dX12_areSame_131 : decode cX12_areSame 131 = .ok (.iconst 0, 1) := by decide +kernel
theorem dX12_areSame_132 : decode cX12_areSame 132 = .ok (.istore_n 3, 1) := by decide +kernel
theorem dX12_areSame_133 : decode cX12_areSame 133 = .ok (.iinc 5 1, 3) := by decide +kernel
theorem dX12_areSame_136 : decode cX12_areSame 136 = .ok (.goto (-104), 3) := by decide +kernel
theorem dX12_areSame_139 : decode cX12_areSame 139 = .ok (.iload_n 3, 1) := by decide +kernel
theorem dX12_areSame_140 : decode cX12_areSame 140 = .ok (.ireturn, 1) := by decide +kernel
theorem dX12_inOrder_0 : decode cX12_inOrder 0 = .ok (.iconst 0, 1) := by decide +kernel
theorem dX12_inOrder_1 : decode cX12_inOrder 1 = .ok (.istore_n 2, 1) := by decide +kernel
theorem dX12_inOrder_2 : decode cX12_inOrder 2 = .ok (.iload_n 1, 1) := by decide +kernel
theorem dX12_inOrder_3 : decode cX12_inOrder 3 = .ok (.iconst 1, 1) := by decide +kernel
theorem dX12_inOrder_4 : decode cX12_inOrder 4 = .ok (.iadd, 1) := by decide +kernel
theorem dX12_inOrder_5 : decode cX12_inOrder 5 = .ok (.istore_n 3, 1) := by decide +kernel
theorem dX12_inOrder_6 : decode cX12_inOrder 6 = .ok (.iload_n 3, 1) := by decide +kernel
theorem dX12_inOrder_7 : decode cX12_inOrder 7 = .ok (.iload_n 1, 1) := by decide +kernel
theorem dX12_inOrder_8 : decode cX12_inOrder 8 = .ok (.aload_n 0, 1) := by decide +kernel
theorem dX12_inOrder_9 : decode cX12_inOrder 9 = .ok (.getfield 147, 3) := by decide +kernel
theorem dX12_inOrder_12 : decode cX12_inOrder 12 = .ok (.iload_n 1, 1) := by decide +kernel
theorem dX12_inOrder_13 : decode cX12_inOrder 13 = .ok (.iaload, 1) := by decide +kernel
theorem dX12_inOrder_14 : decode cX12_inOrder 14 = .ok (.iadd, 1) := by decide +kernel
theorem dX12_inOrder_15 : decode cX12_inOrder 15 = .ok (.if_icmp .gt 51, 3) := by decide +kernel
theorem dX12_inOrder_18 : decode cX12_inOrder 18 = .ok (.iload_n 3, 1) := by decide +kernel
theorem dX12_inOrder_19 : decode cX12_inOrder 19 = .ok (.iconst 1, 1) := by decide +kernel
theorem dX12_inOrder_20 : decode cX12_inOrder 20 = .ok (.isub, 1) := by decide +kernel
theorem dX12_inOrder_21 : decode cX12_inOrder 21 = .ok (.istore 4, 2) := by decide +kernel
theorem dX12_inOrder_23 : decode cX12_inOrder 23 = .ok (.iload 4, 2) := by decide +kernel
theorem dX12_inOrder_25 : decode cX12_inOrder 25 = .ok (.iload_n 1, 1) := by decide +kernel
theorem dX12_inOrder_26 : decode cX12_inOrder 26 = .ok (.if_icmp .lt 34, 3) := by decide +kernel
theorem dX12_inOrder_29 : decode cX12_inOrder 29 = .ok (.iload 4, 2) := by decide +kernel
theorem dX12_inOrder_31 : decode cX12_inOrder 31 = .ok (.aload_n 0, 1) := by decide +kernel
theorem dX12_inOrder_32 : decode cX12_inOrder 32 = .ok (.getfield 147, 3) := by decide +kernel
theorem dX12_inOrder_35 : decode cX12_inOrder 35 = .ok (.iload 4, 2) := by decide +kernel
theorem dX12_inOrder_37 : decode cX12_inOrder 37 = .ok (.iaload, 1) := by decide +kernel
theorem dX12_inOrder_38 : decode cX12_inOrder 38 = .ok (.iadd, 1) := by decide +kernel
theorem dX12_inOrder_39 : decode cX12_inOrder 39 = .ok (.iload_n 3, 1) := by decide +kernel
theorem dX12_inOrder_40 : decode cX12_inOrder 40 = .ok (.if_icmp .ne 14, 3) := by decide +kernel
theorem dX12_inOrder_43 : decode cX12_inOrder 43 = .ok (.aload_n 0, 1) := by decide +kernel
theorem dX12_inOrder_44 : decode cX12_inOrder 44 = .ok (.getfield 150, 3) := by decide +kernel
theorem dX12_inOrder_47 : decode cX12_inOrder 47 = .ok (.iload_n 2, 1) := by decide +kernel
theorem dX12_inOrder_48 : decode cX12_inOrder 48 = .ok (.iload 4, 2) := by decide +kernel
theorem dX12_inOrder_50 : decode cX12_inOrder 50 = .ok (.iastore, 1) := by decide +kernel
theorem dX12_inOrder_51 : decode cX12_inOrder 51 = .ok (.iinc 2 1, 3) := by decide +kernel
theorem dX12_inOrder_54 : decode cX12_inOrder 54 = .ok (.iinc 4 (-1), 3) := by decide +kernel
theorem dX12_inOrder_57 : decode cX12_inOrder 57 = .ok (.goto (-34), 3) := by decide +kernel
theorem dX12_inOrder_60 : decode cX12_inOrder 60 = .ok (.iinc 3 1, 3) := by decide +kernel
theorem dX12_inOrder_63 : decode cX12_inOrder 63 = .ok (.goto (-57), 3) := by decide +kernel
theorem dX12_inOrder_66 : decode cX12_inOrder 66 = .ok (.iload_n 2, 1) := by decide +kernel
theorem dX12_inOrder_67 : decode cX12_inOrder 67 = .ok (.ireturn, 1) := by decide +kernel
theorem dX12_signOf_0 : decode cX12_signOf 0 = .ok (.iload_n 0, 1) := by decide +kernel
theorem dX12_signOf_1 : decode cX12_signOf 1 = .ok (.lookupswitch 181 #[(33, 151), (35, 175), (37, 147), (38, 154), (42, 143), (43, 139), (45, 141), (47, 145), (60, 160), (61, 166), (62, 163), (63, 178), (64, 172), (94, 149), (124, 157), (126, 169)], 139) := by decide +kernel
theorem dX12_signOf_140 : decode cX12_signOf 140 = .ok (.iconst 0, 1) := by decide +kernel
theorem dX12_signOf_141 : decode cX12_signOf 141 = .ok (.ireturn, 1) := by decide +kernel
theorem dX12_signOf_142 : decode cX12_signOf 142 = .ok (.iconst 1, 1) := by decide +kernel
theorem dX12_signOf_143 : decode cX12_signOf 143 = .ok (.ireturn, 1) := by decide +kernel
theorem dX12_signOf_144 : decode cX12_signOf 144 = .ok (.iconst 2, 1) := by decide +kernel
theorem dX12_signOf_145 : decode cX12_signOf 145 = .ok (.ireturn, 1) := by decide +kernel
theorem dX12_signOf_146 : decode cX12_signOf 146 = .ok (.iconst 3, 1) := by decide +kernel
theorem dX12_signOf_147 : decode cX12_signOf 147 = .ok (.ireturn, 1) := by decide +kernel
theorem dX12_signOf_148 : decode cX12_signOf 148 = .ok (.iconst 4, 1) := by decide +kernel
theorem dX12_signOf_149 : decode cX12_signOf 149 = .ok (.ireturn, 1) := by decide +kernel
theorem dX12_signOf_150 : decode cX12_signOf 150 = .ok (.iconst 5, 1) := by decide +kernel
theorem dX12_signOf_151 : decode cX12_signOf 151 = .ok (.ireturn, 1) := by decide +kernel
theorem dX12_signOf_152 : decode cX12_signOf 152 = .ok (.bipush 6, 2) := by decide +kernel
theorem dX12_signOf_154 : decode cX12_signOf 154 = .ok (.ireturn, 1) := by decide +kernel
theorem dX12_signOf_155 : decode cX12_signOf 155 = .ok (.bipush 7, 2) := by decide +kernel
theorem dX12_signOf_157 : decode cX12_signOf 157 = .ok (.ireturn, 1) := by decide +kernel
theorem dX12_signOf_158 : decode cX12_signOf 158 = .ok (.bipush 8, 2) := by decide +kernel
theorem dX12_signOf_160 : decode cX12_signOf 160 = .ok (.ireturn, 1) := by decide +kernel
theorem dX12_signOf_161 : decode cX12_signOf 161 = .ok (.bipush 9, 2) := by decide +kernel
theorem dX12_signOf_163 : decode cX12_signOf 163 = .ok (.ireturn, 1) := by decide +kernel
theorem dX12_signOf_164 : decode cX12_signOf 164 = .ok (.bipush 10, 2) := by decide +kernel
theorem dX12_signOf_166 : decode cX12_signOf 166 = .ok (.ireturn, 1) := by decide +kernel
theorem dX12_signOf_167 : decode cX12_signOf 167 = .ok (.bipush 11, 2) := by decide +kernel
theorem dX12_signOf_169 : decode cX12_signOf 169 = .ok (.ireturn, 1) := by decide +kernel
theorem dX12_signOf_170 : decode cX12_signOf 170 = .ok (.bipush 12, 2) := by decide +kernel
theorem dX12_signOf_172 : decode cX12_signOf 172 = .ok (.ireturn, 1) := by decide +kernel
theorem dX12_signOf_173 : decode cX12_signOf 173 = .ok (.bipush 13, 2) := by decide +kernel
theorem dX12_signOf_175 : decode cX12_signOf 175 = .ok (.ireturn, 1) := by decide +kernel
theorem dX12_signOf_176 : decode cX12_signOf 176 = .ok (.bipush 14, 2) := by decide +kernel
theorem dX12_signOf_178 : decode cX12_signOf 178 = .ok (.ireturn, 1) := by decide +kernel
theorem dX12_signOf_179 : decode cX12_signOf 179 = .ok (.bipush 15, 2) := by decide +kernel
theorem dX12_signOf_181 : decode cX12_signOf 181 = .ok (.ireturn, 1) := by decide +kernel
theorem dX12_signOf_182 : decode cX12_signOf 182 = .ok (.iconst (-1), 1) := by decide +kernel
theorem dX12_signOf_183 : decode cX12_signOf 183 = .ok (.ireturn, 1) := by decide +kernel
theorem dX12_tellFirst_0 : decode cX12_tellFirst 0 = .ok (.aload_n 0, 1) := by decide +kernel
theorem dX12_tellFirst_1 : decode cX12_tellFirst 1 = .ok (.getfield 153, 3) := by decide +kernel
theorem dX12_tellFirst_4 : decode cX12_tellFirst 4 = .ok (.iconst 3, 1) := by decide +kernel
theorem dX12_tellFirst_5 : decode cX12_tellFirst 5 = .ok (.iload_n 1, 1) := by decide +kernel
theorem dX12_tellFirst_6 : decode cX12_tellFirst 6 = .ok (.invokestatic 156, 3) := by decide +kernel
theorem dX12_tellFirst_9 : decode cX12_tellFirst 9 = .ok (.imul, 1) := by decide +kernel
theorem dX12_tellFirst_10 : decode cX12_tellFirst 10 = .ok (.iload_n 2, 1) := by decide +kernel
theorem dX12_tellFirst_11 : decode cX12_tellFirst 11 = .ok (.iadd, 1) := by decide +kernel
theorem dX12_tellFirst_12 : decode cX12_tellFirst 12 = .ok (.iload_n 3, 1) := by decide +kernel
theorem dX12_tellFirst_13 : decode cX12_tellFirst 13 = .ok (.iastore, 1) := by decide +kernel
theorem dX12_tellFirst_14 : decode cX12_tellFirst 14 = .ok (.aload_n 0, 1) := by decide +kernel
theorem dX12_tellFirst_15 : decode cX12_tellFirst 15 = .ok (.getfield 159, 3) := by decide +kernel
theorem dX12_tellFirst_18 : decode cX12_tellFirst 18 = .ok (.iconst 3, 1) := by decide +kernel
theorem dX12_tellFirst_19 : decode cX12_tellFirst 19 = .ok (.iload_n 1, 1) := by decide +kernel
theorem dX12_tellFirst_20 : decode cX12_tellFirst 20 = .ok (.invokestatic 156, 3) := by decide +kernel
theorem dX12_tellFirst_23 : decode cX12_tellFirst 23 = .ok (.imul, 1) := by decide +kernel
theorem dX12_tellFirst_24 : decode cX12_tellFirst 24 = .ok (.iload_n 2, 1) := by decide +kernel
theorem dX12_tellFirst_25 : decode cX12_tellFirst 25 = .ok (.iadd, 1) := by decide +kernel
theorem dX12_tellFirst_26 : decode cX12_tellFirst 26 = .ok (.iload 4, 2) := by decide +kernel
theorem dX12_tellFirst_28 : decode cX12_tellFirst 28 = .ok (.iastore, 1) := by decide +kernel
theorem dX12_tellFirst_29 : decode cX12_tellFirst 29 = .ok (.aload_n 0, 1) := by decide +kernel
theorem dX12_tellFirst_30 : decode cX12_tellFirst 30 = .ok (.getfield 162, 3) := by decide +kernel
theorem dX12_tellFirst_33 : decode cX12_tellFirst 33 = .ok (.iconst 3, 1) := by decide +kernel
theorem dX12_tellFirst_34 : decode cX12_tellFirst 34 = .ok (.iload_n 1, 1) := by decide +kernel
theorem dX12_tellFirst_35 : decode cX12_tellFirst 35 = .ok (.invokestatic 156, 3) := by decide +kernel
theorem dX12_tellFirst_38 : decode cX12_tellFirst 38 = .ok (.imul, 1) := by decide +kernel
theorem dX12_tellFirst_39 : decode cX12_tellFirst 39 = .ok (.iload_n 2, 1) := by decide +kernel
theorem dX12_tellFirst_40 : decode cX12_tellFirst 40 = .ok (.iadd, 1) := by decide +kernel
theorem dX12_tellFirst_41 : decode cX12_tellFirst 41 = .ok (.iload 5, 2) := by decide +kernel
theorem dX12_tellFirst_43 : decode cX12_tellFirst 43 = .ok (.iastore, 1) := by decide +kernel
theorem dX12_tellFirst_44 : decode cX12_tellFirst 44 = .ok (.return_, 1) := by decide +kernel
theorem dX12_rankOf_0 : decode cX12_rankOf 0 = .ok (.aload_n 0, 1) := by decide +kernel
theorem dX12_rankOf_1 : decode cX12_rankOf 1 = .ok (.getfield 153, 3) := by decide +kernel
theorem dX12_rankOf_4 : decode cX12_rankOf 4 = .ok (.iconst 3, 1) := by decide +kernel
theorem dX12_rankOf_5 : decode cX12_rankOf 5 = .ok (.iload_n 1, 1) := by decide +kernel
theorem dX12_rankOf_6 : decode cX12_rankOf 6 = .ok (.invokestatic 156, 3) := by decide +kernel
theorem dX12_rankOf_9 : decode cX12_rankOf 9 = .ok (.imul, 1) := by decide +kernel
theorem dX12_rankOf_10 : decode cX12_rankOf 10 = .ok (.iload_n 2, 1) := by decide +kernel
theorem dX12_rankOf_11 : decode cX12_rankOf 11 = .ok (.iadd, 1) := by decide +kernel
theorem dX12_rankOf_12 : decode cX12_rankOf 12 = .ok (.iaload, 1) := by decide +kernel
theorem dX12_rankOf_13 : decode cX12_rankOf 13 = .ok (.ireturn, 1) := by decide +kernel
theorem dX12_meaningAt_0 : decode cX12_meaningAt 0 = .ok (.aload_n 0, 1) := by decide +kernel
theorem dX12_meaningAt_1 : decode cX12_meaningAt 1 = .ok (.getfield 135, 3) := by decide +kernel
theorem dX12_meaningAt_4 : decode cX12_meaningAt 4 = .ok (.iload_n 1, 1) := by decide +kernel
theorem dX12_meaningAt_5 : decode cX12_meaningAt 5 = .ok (.iaload, 1) := by decide +kernel
theorem dX12_meaningAt_6 : decode cX12_meaningAt 6 = .ok (.iconst 3, 1) := by decide +kernel
theorem dX12_meaningAt_7 : decode cX12_meaningAt 7 = .ok (.if_icmp .ne 29, 3) := by decide +kernel
theorem dX12_meaningAt_10 : decode cX12_meaningAt 10 = .ok (.aload_n 0, 1) := by decide +kernel
theorem dX12_meaningAt_11 : decode cX12_meaningAt 11 = .ok (.getfield 162, 3) := by decide +kernel
theorem dX12_meaningAt_14 : decode cX12_meaningAt 14 = .ok (.iconst 3, 1) := by decide +kernel
theorem dX12_meaningAt_15 : decode cX12_meaningAt 15 = .ok (.aload_n 0, 1) := by decide +kernel
theorem dX12_meaningAt_16 : decode cX12_meaningAt 16 = .ok (.getfield 138, 3) := by decide +kernel
theorem dX12_meaningAt_19 : decode cX12_meaningAt 19 = .ok (.iload_n 1, 1) := by decide +kernel
theorem dX12_meaningAt_20 : decode cX12_meaningAt 20 = .ok (.iaload, 1) := by decide +kernel
theorem dX12_meaningAt_21 : decode cX12_meaningAt 21 = .ok (.invokestatic 156, 3) := by decide +kernel
theorem dX12_meaningAt_24 : decode cX12_meaningAt 24 = .ok (.imul, 1) := by decide +kernel
theorem dX12_meaningAt_25 : decode cX12_meaningAt 25 = .ok (.aload_n 0, 1) := by decide +kernel
theorem dX12_meaningAt_26 : decode cX12_meaningAt 26 = .ok (.getfield 141, 3) := by decide +kernel
theorem dX12_meaningAt_29 : decode cX12_meaningAt 29 = .ok (.iload_n 1, 1) := by decide +kernel
theorem dX12_meaningAt_30 : decode cX12_meaningAt 30 = .ok (.iaload, 1) := by decide +kernel
theorem dX12_meaningAt_31 : decode cX12_meaningAt 31 = .ok (.iadd, 1) := by decide +kernel
theorem dX12_meaningAt_32 : decode cX12_meaningAt 32 = .ok (.iaload, 1) := by decide +kernel
theorem dX12_meaningAt_33 : decode cX12_meaningAt 33 = .ok (.goto 4, 3) := by decide +kernel
theorem dX12_meaningAt_36 : decode cX12_meaningAt 36 = .ok (.iconst (-1), 1) := by decide +kernel
theorem dX12_meaningAt_37 : decode cX12_meaningAt 37 = .ok (.ireturn, 1) := by decide +kernel
theorem dX12_init_0 : decode cX12_init 0 = .ok (.aload_n 0, 1) := by decide +kernel
theorem dX12_init_1 : decode cX12_init 1 = .ok (.invokespecial 165, 3) := by decide +kernel
theorem dX12_init_4 : decode cX12_init 4 = .ok (.aload_n 0, 1) := by decide +kernel
theorem dX12_init_5 : decode cX12_init 5 = .ok (.sipush 7040, 3) := by decide +kernel
theorem dX12_init_8 : decode cX12_init 8 = .ok (.newarray .int, 2) := by decide +kernel
theorem dX12_init_10 : decode cX12_init 10 = .ok (.putfield 11, 3) := by decide +kernel
theorem dX12_init_13 : decode cX12_init 13 = .ok (.aload_n 0, 1) := by decide +kernel
theorem dX12_init_14 : decode cX12_init 14 = .ok (.bipush 16, 2) := by decide +kernel
theorem dX12_init_16 : decode cX12_init 16 = .ok (.newarray .int, 2) := by decide +kernel
theorem dX12_init_18 : decode cX12_init 18 = .ok (.putfield 7, 3) := by decide +kernel
theorem dX12_init_21 : decode cX12_init 21 = .ok (.aload_n 0, 1) := by decide +kernel
theorem dX12_init_22 : decode cX12_init 22 = .ok (.ldc 171, 2) := by decide +kernel
theorem dX12_init_24 : decode cX12_init 24 = .ok (.newarray .int, 2) := by decide +kernel
theorem dX12_init_26 : decode cX12_init 26 = .ok (.putfield 46, 3) := by decide +kernel
theorem dX12_init_29 : decode cX12_init 29 = .ok (.aload_n 0, 1) := by decide +kernel
theorem dX12_init_30 : decode cX12_init 30 = .ok (.sipush 20300, 3) := by decide +kernel
theorem dX12_init_33 : decode cX12_init 33 = .ok (.newarray .int, 2) := by decide +kernel
theorem dX12_init_35 : decode cX12_init 35 = .ok (.putfield 135, 3) := by decide +kernel
theorem dX12_init_38 : decode cX12_init 38 = .ok (.aload_n 0, 1) := by decide +kernel
theorem dX12_init_39 : decode cX12_init 39 = .ok (.sipush 20300, 3) := by decide +kernel
theorem dX12_init_42 : decode cX12_init 42 = .ok (.newarray .int, 2) := by decide +kernel
theorem dX12_init_44 : decode cX12_init 44 = .ok (.putfield 138, 3) := by decide +kernel
theorem dX12_init_47 : decode cX12_init 47 = .ok (.aload_n 0, 1) := by decide +kernel
theorem dX12_init_48 : decode cX12_init 48 = .ok (.sipush 20300, 3) := by decide +kernel
theorem dX12_init_51 : decode cX12_init 51 = .ok (.newarray .int, 2) := by decide +kernel
theorem dX12_init_53 : decode cX12_init 53 = .ok (.putfield 141, 3) := by decide +kernel
theorem dX12_init_56 : decode cX12_init 56 = .ok (.aload_n 0, 1) := by decide +kernel
theorem dX12_init_57 : decode cX12_init 57 = .ok (.sipush 20300, 3) := by decide +kernel
theorem dX12_init_60 : decode cX12_init 60 = .ok (.newarray .int, 2) := by decide +kernel
theorem dX12_init_62 : decode cX12_init 62 = .ok (.putfield 144, 3) := by decide +kernel
theorem dX12_init_65 : decode cX12_init 65 = .ok (.aload_n 0, 1) := by decide +kernel
theorem dX12_init_66 : decode cX12_init 66 = .ok (.sipush 20300, 3) := by decide +kernel
theorem dX12_init_69 : decode cX12_init 69 = .ok (.newarray .int, 2) := by decide +kernel
theorem dX12_init_71 : decode cX12_init 71 = .ok (.putfield 147, 3) := by decide +kernel
theorem dX12_init_74 : decode cX12_init 74 = .ok (.aload_n 0, 1) := by decide +kernel
theorem dX12_init_75 : decode cX12_init 75 = .ok (.bipush 30, 2) := by decide +kernel
theorem dX12_init_77 : decode cX12_init 77 = .ok (.newarray .int, 2) := by decide +kernel
theorem dX12_init_79 : decode cX12_init 79 = .ok (.putfield 172, 3) := by decide +kernel
theorem dX12_init_82 : decode cX12_init 82 = .ok (.aload_n 0, 1) := by decide +kernel
theorem dX12_init_83 : decode cX12_init 83 = .ok (.bipush 26, 2) := by decide +kernel
theorem dX12_init_85 : decode cX12_init 85 = .ok (.newarray .int, 2) := by decide +kernel
theorem dX12_init_87 : decode cX12_init 87 = .ok (.putfield 175, 3) := by decide +kernel
theorem dX12_init_90 : decode cX12_init 90 = .ok (.aload_n 0, 1) := by decide +kernel
theorem dX12_init_91 : decode cX12_init 91 = .ok (.bipush 26, 2) := by decide +kernel
theorem dX12_init_93 : decode cX12_init 93 = .ok (.newarray .int, 2) := by decide +kernel
theorem dX12_init_95 : decode cX12_init 95 = .ok (.putfield 178, 3) := by decide +kernel
theorem dX12_init_98 : decode cX12_init 98 = .ok (.aload_n 0, 1) := by decide +kernel
theorem dX12_init_99 : decode cX12_init 99 = .ok (.sipush 208, 3) := by decide +kernel
theorem dX12_init_102 : decode cX12_init 102 = .ok (.newarray .int, 2) := by decide +kernel
theorem dX12_init_104 : decode cX12_init 104 = .ok (.putfield 181, 3) := by decide +kernel
theorem dX12_init_107 : decode cX12_init 107 = .ok (.aload_n 0, 1) := by decide +kernel
theorem dX12_init_108 : decode cX12_init 108 = .ok (.bipush 100, 2) := by decide +kernel
theorem dX12_init_110 : decode cX12_init 110 = .ok (.newarray .int, 2) := by decide +kernel
theorem dX12_init_112 : decode cX12_init 112 = .ok (.putfield 150, 3) := by decide +kernel
theorem dX12_init_115 : decode cX12_init 115 = .ok (.aload_n 0, 1) := by decide +kernel
theorem dX12_init_116 : decode cX12_init 116 = .ok (.bipush 48, 2) := by decide +kernel
theorem dX12_init_118 : decode cX12_init 118 = .ok (.newarray .int, 2) := by decide +kernel
theorem dX12_init_120 : decode cX12_init 120 = .ok (.putfield 153, 3) := by decide +kernel
theorem dX12_init_123 : decode cX12_init 123 = .ok (.aload_n 0, 1) := by decide +kernel
theorem dX12_init_124 : decode cX12_init 124 = .ok (.bipush 48, 2) := by decide +kernel
theorem dX12_init_126 : decode cX12_init 126 = .ok (.newarray .int, 2) := by decide +kernel
theorem dX12_init_128 : decode cX12_init 128 = .ok (.putfield 159, 3) := by decide +kernel
theorem dX12_init_131 : decode cX12_init 131 = .ok (.aload_n 0, 1) := by decide +kernel
theorem dX12_init_132 : decode cX12_init 132 = .ok (.bipush 48, 2) := by decide +kernel
theorem dX12_init_134 : decode cX12_init 134 = .ok (.newarray .int, 2) := by decide +kernel
theorem dX12_init_136 : decode cX12_init 136 = .ok (.putfield 162, 3) := by decide +kernel
theorem dX12_init_139 : decode cX12_init 139 = .ok (.aload_n 0, 1) := by decide +kernel
theorem dX12_init_140 : decode cX12_init 140 = .ok (.bipush 60, 2) := by decide +kernel
theorem dX12_init_142 : decode cX12_init 142 = .ok (.newarray .int, 2) := by decide +kernel
theorem dX12_init_144 : decode cX12_init 144 = .ok (.putfield 184, 3) := by decide +kernel
theorem dX12_init_147 : decode cX12_init 147 = .ok (.aload_n 0, 1) := by decide +kernel
theorem dX12_init_148 : decode cX12_init 148 = .ok (.sipush 1000, 3) := by decide +kernel
theorem dX12_init_151 : decode cX12_init 151 = .ok (.newarray .int, 2) := by decide +kernel
theorem dX12_init_153 : decode cX12_init 153 = .ok (.putfield 187, 3) := by decide +kernel
theorem dX12_init_156 : decode cX12_init 156 = .ok (.aload_n 0, 1) := by decide +kernel
theorem dX12_init_157 : decode cX12_init 157 = .ok (.sipush 1000, 3) := by decide +kernel
theorem dX12_init_160 : decode cX12_init 160 = .ok (.newarray .int, 2) := by decide +kernel
theorem dX12_init_162 : decode cX12_init 162 = .ok (.putfield 190, 3) := by decide +kernel
theorem dX12_init_165 : decode cX12_init 165 = .ok (.aload_n 0, 1) := by decide +kernel
theorem dX12_init_166 : decode cX12_init 166 = .ok (.sipush 1000, 3) := by decide +kernel
theorem dX12_init_169 : decode cX12_init 169 = .ok (.newarray .int, 2) := by decide +kernel
theorem dX12_init_171 : decode cX12_init 171 = .ok (.putfield 193, 3) := by decide +kernel
theorem dX12_init_174 : decode cX12_init 174 = .ok (.aload_n 0, 1) := by decide +kernel
theorem dX12_init_175 : decode cX12_init 175 = .ok (.sipush 1000, 3) := by decide +kernel
theorem dX12_init_178 : decode cX12_init 178 = .ok (.newarray .int, 2) := by decide +kernel
theorem dX12_init_180 : decode cX12_init 180 = .ok (.putfield 196, 3) := by decide +kernel
theorem dX12_init_183 : decode cX12_init 183 = .ok (.aload_n 0, 1) := by decide +kernel
theorem dX12_init_184 : decode cX12_init 184 = .ok (.sipush 1000, 3) := by decide +kernel
theorem dX12_init_187 : decode cX12_init 187 = .ok (.newarray .boolean, 2) := by decide +kernel
theorem dX12_init_189 : decode cX12_init 189 = .ok (.putfield 199, 3) := by decide +kernel
theorem dX12_init_192 : decode cX12_init 192 = .ok (.aload_n 0, 1) := by decide +kernel
theorem dX12_init_193 : decode cX12_init 193 = .ok (.bipush 100, 2) := by decide +kernel
theorem dX12_init_195 : decode cX12_init 195 = .ok (.newarray .int, 2) := by decide +kernel
theorem dX12_init_197 : decode cX12_init 197 = .ok (.putfield 203, 3) := by decide +kernel
theorem dX12_init_200 : decode cX12_init 200 = .ok (.aload_n 0, 1) := by decide +kernel
theorem dX12_init_201 : decode cX12_init 201 = .ok (.bipush 100, 2) := by decide +kernel
theorem dX12_init_203 : decode cX12_init 203 = .ok (.newarray .int, 2) := by decide +kernel
theorem dX12_init_205 : decode cX12_init 205 = .ok (.putfield 206, 3) := by decide +kernel
theorem dX12_init_208 : decode cX12_init 208 = .ok (.aload_n 0, 1) := by decide +kernel
theorem dX12_init_209 : decode cX12_init 209 = .ok (.bipush 100, 2) := by decide +kernel
theorem dX12_init_211 : decode cX12_init 211 = .ok (.newarray .int, 2) := by decide +kernel
theorem dX12_init_213 : decode cX12_init 213 = .ok (.putfield 209, 3) := by decide +kernel
theorem dX12_init_216 : decode cX12_init 216 = .ok (.aload_n 0, 1) := by decide +kernel
theorem dX12_init_217 : decode cX12_init 217 = .ok (.bipush 100, 2) := by decide +kernel
theorem dX12_init_219 : decode cX12_init 219 = .ok (.newarray .int, 2) := by decide +kernel
theorem dX12_init_221 : decode cX12_init 221 = .ok (.putfield 212, 3) := by decide +kernel
theorem dX12_init_224 : decode cX12_init 224 = .ok (.aload_n 0, 1) := by decide +kernel
theorem dX12_init_225 : decode cX12_init 225 = .ok (.bipush 100, 2) := by decide +kernel
theorem dX12_init_227 : decode cX12_init 227 = .ok (.newarray .int, 2) := by decide +kernel
theorem dX12_init_229 : decode cX12_init 229 = .ok (.putfield 215, 3) := by decide +kernel
theorem dX12_init_232 : decode cX12_init 232 = .ok (.aload_n 0, 1) := by decide +kernel
theorem dX12_init_233 : decode cX12_init 233 = .ok (.bipush 100, 2) := by decide +kernel
theorem dX12_init_235 : decode cX12_init 235 = .ok (.newarray .int, 2) := by decide +kernel
theorem dX12_init_237 : decode cX12_init 237 = .ok (.putfield 218, 3) := by decide +kernel
theorem dX12_init_240 : decode cX12_init 240 = .ok (.aload_n 0, 1) := by decide +kernel
theorem dX12_init_241 : decode cX12_init 241 = .ok (.bipush 100, 2) := by decide +kernel
theorem dX12_init_243 : decode cX12_init 243 = .ok (.newarray .int, 2) := by decide +kernel
theorem dX12_init_245 : decode cX12_init 245 = .ok (.putfield 221, 3) := by decide +kernel
theorem dX12_init_248 : decode cX12_init 248 = .ok (.aload_n 0, 1) := by decide +kernel
theorem dX12_init_249 : decode cX12_init 249 = .ok (.bipush 100, 2) := by decide +kernel
theorem dX12_init_251 : decode cX12_init 251 = .ok (.newarray .boolean, 2) := by decide +kernel
theorem dX12_init_253 : decode cX12_init 253 = .ok (.putfield 224, 3) := by decide +kernel
theorem dX12_init_256 : decode cX12_init 256 = .ok (.aload_n 0, 1) := by decide +kernel
theorem dX12_init_257 : decode cX12_init 257 = .ok (.sipush 600, 3) := by decide +kernel
theorem dX12_init_260 : decode cX12_init 260 = .ok (.newarray .int, 2) := by decide +kernel
theorem dX12_init_262 : decode cX12_init 262 = .ok (.putfield 227, 3) := by decide +kernel
theorem dX12_init_265 : decode cX12_init 265 = .ok (.aload_n 0, 1) := by decide +kernel
theorem dX12_init_266 : decode cX12_init 266 = .ok (.sipush 600, 3) := by decide +kernel
theorem dX12_init_269 : decode cX12_init 269 = .ok (.newarray .int, 2) := by decide +kernel
theorem dX12_init_271 : decode cX12_init 271 = .ok (.putfield 230, 3) := by decide +kernel
theorem dX12_init_274 : decode cX12_init 274 = .ok (.aload_n 0, 1) := by decide +kernel
theorem dX12_init_275 : decode cX12_init 275 = .ok (.sipush 600, 3) := by decide +kernel
theorem dX12_init_278 : decode cX12_init 278 = .ok (.newarray .int, 2) := by decide +kernel
theorem dX12_init_280 : decode cX12_init 280 = .ok (.putfield 233, 3) := by decide +kernel
theorem dX12_init_283 : decode cX12_init 283 = .ok (.aload_n 0, 1) := by decide +kernel
theorem dX12_init_284 : decode cX12_init 284 = .ok (.sipush 2000, 3) := by decide +kernel
theorem dX12_init_287 : decode cX12_init 287 = .ok (.newarray .int, 2) := by decide +kernel
theorem dX12_init_289 : decode cX12_init 289 = .ok (.putfield 236, 3) := by decide +kernel
theorem dX12_init_292 : decode cX12_init 292 = .ok (.aload_n 0, 1) := by decide +kernel
theorem dX12_init_293 : decode cX12_init 293 = .ok (.sipush 600, 3) := by decide +kernel
theorem dX12_init_296 : decode cX12_init 296 = .ok (.newarray .int, 2) := by decide +kernel
theorem dX12_init_298 : decode cX12_init 298 = .ok (.putfield 239, 3) := by decide +kernel
theorem dX12_init_301 : decode cX12_init 301 = .ok (.aload_n 0, 1) := by decide +kernel
theorem dX12_init_302 : decode cX12_init 302 = .ok (.sipush 600, 3) := by decide +kernel
theorem dX12_init_305 : decode cX12_init 305 = .ok (.newarray .int, 2) := by decide +kernel
theorem dX12_init_307 : decode cX12_init 307 = .ok (.putfield 242, 3) := by decide +kernel
theorem dX12_init_310 : decode cX12_init 310 = .ok (.aload_n 0, 1) := by decide +kernel
theorem dX12_init_311 : decode cX12_init 311 = .ok (.sipush 200, 3) := by decide +kernel
theorem dX12_init_314 : decode cX12_init 314 = .ok (.newarray .int, 2) := by decide +kernel
theorem dX12_init_316 : decode cX12_init 316 = .ok (.putfield 245, 3) := by decide +kernel
theorem dX12_init_319 : decode cX12_init 319 = .ok (.aload_n 0, 1) := by decide +kernel
theorem dX12_init_320 : decode cX12_init 320 = .ok (.bipush 26, 2) := by decide +kernel
theorem dX12_init_322 : decode cX12_init 322 = .ok (.newarray .boolean, 2) := by decide +kernel
theorem dX12_init_324 : decode cX12_init 324 = .ok (.putfield 248, 3) := by decide +kernel
theorem dX12_init_327 : decode cX12_init 327 = .ok (.aload_n 0, 1) := by decide +kernel
theorem dX12_init_328 : decode cX12_init 328 = .ok (.sipush 800, 3) := by decide +kernel
theorem dX12_init_331 : decode cX12_init 331 = .ok (.newarray .int, 2) := by decide +kernel
theorem dX12_init_333 : decode cX12_init 333 = .ok (.putfield 251, 3) := by decide +kernel
theorem dX12_init_336 : decode cX12_init 336 = .ok (.aload_n 0, 1) := by decide +kernel
theorem dX12_init_337 : decode cX12_init 337 = .ok (.sipush 800, 3) := by decide +kernel
theorem dX12_init_340 : decode cX12_init 340 = .ok (.newarray .int, 2) := by decide +kernel
theorem dX12_init_342 : decode cX12_init 342 = .ok (.putfield 254, 3) := by decide +kernel
theorem dX12_init_345 : decode cX12_init 345 = .ok (.aload_n 0, 1) := by decide +kernel
theorem dX12_init_346 : decode cX12_init 346 = .ok (.sipush 800, 3) := by decide +kernel
theorem dX12_init_349 : decode cX12_init 349 = .ok (.newarray .int, 2) := by decide +kernel
theorem dX12_init_351 : decode cX12_init 351 = .ok (.putfield 257, 3) := by decide +kernel
theorem dX12_init_354 : decode cX12_init 354 = .ok (.aload_n 0, 1) := by decide +kernel
theorem dX12_init_355 : decode cX12_init 355 = .ok (.sipush 800, 3) := by decide +kernel
theorem dX12_init_358 : decode cX12_init 358 = .ok (.newarray .int, 2) := by decide +kernel
theorem dX12_init_360 : decode cX12_init 360 = .ok (.putfield 260, 3) := by decide +kernel
theorem dX12_init_363 : decode cX12_init 363 = .ok (.aload_n 0, 1) := by decide +kernel
theorem dX12_init_364 : decode cX12_init 364 = .ok (.sipush 800, 3) := by decide +kernel
theorem dX12_init_367 : decode cX12_init 367 = .ok (.newarray .int, 2) := by decide +kernel
theorem dX12_init_369 : decode cX12_init 369 = .ok (.putfield 263, 3) := by decide +kernel
theorem dX12_init_372 : decode cX12_init 372 = .ok (.aload_n 0, 1) := by decide +kernel
theorem dX12_init_373 : decode cX12_init 373 = .ok (.sipush 800, 3) := by decide +kernel
theorem dX12_init_376 : decode cX12_init 376 = .ok (.newarray .int, 2) := by decide +kernel
theorem dX12_init_378 : decode cX12_init 378 = .ok (.putfield 266, 3) := by decide +kernel
theorem dX12_init_381 : decode cX12_init 381 = .ok (.aload_n 0, 1) := by decide +kernel
theorem dX12_init_382 : decode cX12_init 382 = .ok (.sipush 800, 3) := by decide +kernel
theorem dX12_init_385 : decode cX12_init 385 = .ok (.newarray .int, 2) := by decide +kernel
theorem dX12_init_387 : decode cX12_init 387 = .ok (.putfield 269, 3) := by decide +kernel
theorem dX12_init_390 : decode cX12_init 390 = .ok (.aload_n 0, 1) := by decide +kernel
theorem dX12_init_391 : decode cX12_init 391 = .ok (.sipush 800, 3) := by decide +kernel
theorem dX12_init_394 : decode cX12_init 394 = .ok (.newarray .int, 2) := by decide +kernel
theorem dX12_init_396 : decode cX12_init 396 = .ok (.putfield 272, 3) := by decide +kernel
theorem dX12_init_399 : decode cX12_init 399 = .ok (.aload_n 0, 1) := by decide +kernel
theorem dX12_init_400 : decode cX12_init 400 = .ok (.sipush 500, 3) := by decide +kernel
theorem dX12_init_403 : decode cX12_init 403 = .ok (.newarray .int, 2) := by decide +kernel
theorem dX12_init_405 : decode cX12_init 405 = .ok (.putfield 275, 3) := by decide +kernel
theorem dX12_init_408 : decode cX12_init 408 = .ok (.aload_n 0, 1) := by decide +kernel
theorem dX12_init_409 : decode cX12_init 409 = .ok (.sipush 500, 3) := by decide +kernel
theorem dX12_init_412 : decode cX12_init 412 = .ok (.newarray .int, 2) := by decide +kernel
theorem dX12_init_414 : decode cX12_init 414 = .ok (.putfield 278, 3) := by decide +kernel
theorem dX12_init_417 : decode cX12_init 417 = .ok (.aload_n 0, 1) := by decide +kernel
theorem dX12_init_418 : decode cX12_init 418 = .ok (.sipush 500, 3) := by decide +kernel
theorem dX12_init_421 : decode cX12_init 421 = .ok (.newarray .int, 2) := by decide +kernel
theorem dX12_init_423 : decode cX12_init 423 = .ok (.putfield 281, 3) := by decide +kernel
theorem dX12_init_426 : decode cX12_init 426 = .ok (.aload_n 0, 1) := by decide +kernel
theorem dX12_init_427 : decode cX12_init 427 = .ok (.bipush 100, 2) := by decide +kernel
theorem dX12_init_429 : decode cX12_init 429 = .ok (.newarray .int, 2) := by decide +kernel
theorem dX12_init_431 : decode cX12_init 431 = .ok (.putfield 284, 3) := by decide +kernel
theorem dX12_init_434 : decode cX12_init 434 = .ok (.aload_n 0, 1) := by decide +kernel
theorem dX12_init_435 : decode cX12_init 435 = .ok (.bipush 100, 2) := by decide +kernel
theorem dX12_init_437 : decode cX12_init 437 = .ok (.newarray .int, 2) := by decide +kernel
theorem dX12_init_439 : decode cX12_init 439 = .ok (.putfield 287, 3) := by decide +kernel
theorem dX12_init_442 : decode cX12_init 442 = .ok (.aload_n 0, 1) := by decide +kernel
theorem dX12_init_443 : decode cX12_init 443 = .ok (.sipush 5832, 3) := by decide +kernel
theorem dX12_init_446 : decode cX12_init 446 = .ok (.newarray .int, 2) := by decide +kernel
theorem dX12_init_448 : decode cX12_init 448 = .ok (.putfield 290, 3) := by decide +kernel
theorem dX12_init_451 : decode cX12_init 451 = .ok (.aload_n 0, 1) := by decide +kernel
theorem dX12_init_452 : decode cX12_init 452 = .ok (.bipush 27, 2) := by decide +kernel
theorem dX12_init_454 : decode cX12_init 454 = .ok (.newarray .int, 2) := by decide +kernel
theorem dX12_init_456 : decode cX12_init 456 = .ok (.putfield 293, 3) := by decide +kernel
theorem dX12_init_459 : decode cX12_init 459 = .ok (.aload_n 0, 1) := by decide +kernel
theorem dX12_init_460 : decode cX12_init 460 = .ok (.bipush 27, 2) := by decide +kernel
theorem dX12_init_462 : decode cX12_init 462 = .ok (.newarray .int, 2) := by decide +kernel
theorem dX12_init_464 : decode cX12_init 464 = .ok (.putfield 296, 3) := by decide +kernel
theorem dX12_init_467 : decode cX12_init 467 = .ok (.aload_n 0, 1) := by decide +kernel
theorem dX12_init_468 : decode cX12_init 468 = .ok (.bipush 80, 2) := by decide +kernel
theorem dX12_init_470 : decode cX12_init 470 = .ok (.newarray .int, 2) := by decide +kernel
theorem dX12_init_472 : decode cX12_init 472 = .ok (.putfield 299, 3) := by decide +kernel
theorem dX12_init_475 : decode cX12_init 475 = .ok (.aload_n 0, 1) := by decide +kernel
theorem dX12_init_476 : decode cX12_init 476 = .ok (.bipush 20, 2) := by decide +kernel
theorem dX12_init_478 : decode cX12_init 478 = .ok (.newarray .int, 2) := by decide +kernel
theorem dX12_init_480 : decode cX12_init 480 = .ok (.putfield 302, 3) := by decide +kernel
theorem dX12_init_483 : decode cX12_init 483 = .ok (.aload_n 0, 1) := by decide +kernel
theorem dX12_init_484 : decode cX12_init 484 = .ok (.bipush 20, 2) := by decide +kernel
theorem dX12_init_486 : decode cX12_init 486 = .ok (.newarray .int, 2) := by decide +kernel
theorem dX12_init_488 : decode cX12_init 488 = .ok (.putfield 305, 3) := by decide +kernel
theorem dX12_init_491 : decode cX12_init 491 = .ok (.aload_n 0, 1) := by decide +kernel
theorem dX12_init_492 : decode cX12_init 492 = .ok (.bipush 20, 2) := by decide +kernel
theorem dX12_init_494 : decode cX12_init 494 = .ok (.newarray .int, 2) := by decide +kernel
theorem dX12_init_496 : decode cX12_init 496 = .ok (.putfield 308, 3) := by decide +kernel
theorem dX12_init_499 : decode cX12_init 499 = .ok (.aload_n 0, 1) := by decide +kernel
theorem dX12_init_500 : decode cX12_init 500 = .ok (.bipush 20, 2) := by decide +kernel
theorem dX12_init_502 : decode cX12_init 502 = .ok (.newarray .int, 2) := by decide +kernel
theorem dX12_init_504 : decode cX12_init 504 = .ok (.putfield 311, 3) := by decide +kernel
theorem dX12_init_507 : decode cX12_init 507 = .ok (.aload_n 0, 1) := by decide +kernel
theorem dX12_init_508 : decode cX12_init 508 = .ok (.bipush 20, 2) := by decide +kernel
theorem dX12_init_510 : decode cX12_init 510 = .ok (.newarray .int, 2) := by decide +kernel
theorem dX12_init_512 : decode cX12_init 512 = .ok (.putfield 314, 3) := by decide +kernel
theorem dX12_init_515 : decode cX12_init 515 = .ok (.aload_n 0, 1) := by decide +kernel
theorem dX12_init_516 : decode cX12_init 516 = .ok (.sipush 160, 3) := by decide +kernel
theorem dX12_init_519 : decode cX12_init 519 = .ok (.newarray .int, 2) := by decide +kernel
theorem dX12_init_521 : decode cX12_init 521 = .ok (.putfield 317, 3) := by decide +kernel
theorem dX12_init_524 : decode cX12_init 524 = .ok (.aload_n 0, 1) := by decide +kernel
theorem dX12_init_525 : decode cX12_init 525 = .ok (.bipush 122, 2) := by decide +kernel
theorem dX12_init_527 : decode cX12_init 527 = .ok (.newarray .int, 2) := by decide +kernel
theorem dX12_init_529 : decode cX12_init 529 = .ok (.putfield 320, 3) := by decide +kernel
theorem dX12_init_532 : decode cX12_init 532 = .ok (.aload_n 0, 1) := by decide +kernel
theorem dX12_init_533 : decode cX12_init 533 = .ok (.bipush 124, 2) := by decide +kernel
theorem dX12_init_535 : decode cX12_init 535 = .ok (.iconst 2, 1) := by decide +kernel
theorem dX12_init_536 : decode cX12_init 536 = .ok (.iconst 1, 1) := by decide +kernel
theorem dX12_init_537 : decode cX12_init 537 = .ok (.iconst 0, 1) := by decide +kernel
theorem dX12_init_538 : decode cX12_init 538 = .ok (.bipush 10, 2) := by decide +kernel
theorem dX12_init_540 : decode cX12_init 540 = .ok (.invokevirtual 323, 3) := by decide +kernel
theorem dX12_init_543 : decode cX12_init 543 = .ok (.aload_n 0, 1) := by decide +kernel
theorem dX12_init_544 : decode cX12_init 544 = .ok (.bipush 38, 2) := by decide +kernel
theorem dX12_init_546 : decode cX12_init 546 = .ok (.iconst 2, 1) := by decide +kernel
theorem dX12_init_547 : decode cX12_init 547 = .ok (.iconst 2, 1) := by decide +kernel
theorem dX12_init_548 : decode cX12_init 548 = .ok (.iconst 0, 1) := by decide +kernel
theorem dX12_init_549 : decode cX12_init 549 = .ok (.bipush 9, 2) := by decide +kernel
theorem dX12_init_551 : decode cX12_init 551 = .ok (.invokevirtual 323, 3) := by decide +kernel
theorem dX12_init_554 : decode cX12_init 554 = .ok (.aload_n 0, 1) := by decide +kernel
theorem dX12_init_555 : decode cX12_init 555 = .ok (.bipush 60, 2) := by decide +kernel
theorem dX12_init_557 : decode cX12_init 557 = .ok (.iconst 2, 1) := by decide +kernel
theorem dX12_init_558 : decode cX12_init 558 = .ok (.iconst 3, 1) := by decide +kernel
theorem dX12_init_559 : decode cX12_init 559 = .ok (.iconst 2, 1) := by decide +kernel
theorem dX12_init_560 : decode cX12_init 560 = .ok (.bipush 6, 2) := by decide +kernel
theorem dX12_init_562 : decode cX12_init 562 = .ok (.invokevirtual 323, 3) := by decide +kernel
theorem dX12_init_565 : decode cX12_init 565 = .ok (.aload_n 0, 1) := by decide +kernel
theorem dX12_init_566 : decode cX12_init 566 = .ok (.bipush 61, 2) := by decide +kernel
theorem dX12_init_568 : decode cX12_init 568 = .ok (.iconst 2, 1) := by decide +kernel
theorem dX12_init_569 : decode cX12_init 569 = .ok (.iconst 3, 1) := by decide +kernel
theorem dX12_init_570 : decode cX12_init 570 = .ok (.iconst 2, 1) := by decide +kernel
theorem dX12_init_571 : decode cX12_init 571 = .ok (.bipush 7, 2) := by decide +kernel
theorem dX12_init_573 : decode cX12_init 573 = .ok (.invokevirtual 323, 3) := by decide +kernel
theorem dX12_init_576 : decode cX12_init 576 = .ok (.aload_n 0, 1) := by decide +kernel
theorem dX12_init_577 : decode cX12_init 577 = .ok (.bipush 62, 2) := by decide +kernel
theorem dX12_init_579 : decode cX12_init 579 = .ok (.iconst 2, 1) := by decide +kernel
theorem dX12_init_580 : decode cX12_init 580 = .ok (.iconst 3, 1) := by decide +kernel
theorem dX12_init_581 : decode cX12_init 581 = .ok (.iconst 2, 1) := by decide +kernel
theorem dX12_init_582 : decode cX12_init 582 = .ok (.bipush 8, 2) := by decide +kernel
theorem dX12_init_584 : decode cX12_init 584 = .ok (.invokevirtual 323, 3) := by decide +kernel
theorem dX12_init_587 : decode cX12_init 587 = .ok (.aload_n 0, 1) := by decide +kernel
theorem dX12_init_588 : decode cX12_init 588 = .ok (.bipush 43, 2) := by decide +kernel
theorem dX12_init_590 : decode cX12_init 590 = .ok (.iconst 2, 1) := by decide +kernel
theorem dX12_init_591 : decode cX12_init 591 = .ok (.iconst 4, 1) := by decide +kernel
theorem dX12_init_592 : decode cX12_init 592 = .ok (.iconst 0, 1) := by decide +kernel
theorem dX12_init_593 : decode cX12_init 593 = .ok (.iconst 0, 1) := by decide +kernel
theorem dX12_init_594 : decode cX12_init 594 = .ok (.invokevirtual 323, 3) := by decide +kernel
theorem dX12_init_597 : decode cX12_init 597 = .ok (.aload_n 0, 1) := by decide +kernel
theorem dX12_init_598 : decode cX12_init 598 = .ok (.bipush 45, 2) := by decide +kernel
theorem dX12_init_600 : decode cX12_init 600 = .ok (.iconst 2, 1) := by decide +kernel
theorem dX12_init_601 : decode cX12_init 601 = .ok (.iconst 4, 1) := by decide +kernel
theorem dX12_init_602 : decode cX12_init 602 = .ok (.iconst 0, 1) := by decide +kernel
theorem dX12_init_603 : decode cX12_init 603 = .ok (.iconst 1, 1) := by decide +kernel
theorem dX12_init_604 : decode cX12_init 604 = .ok (.invokevirtual 323, 3) := by decide +kernel
theorem dX12_init_607 : decode cX12_init 607 = .ok (.aload_n 0, 1) := by decide +kernel
theorem dX12_init_608 : decode cX12_init 608 = .ok (.bipush 42, 2) := by decide +kernel
theorem dX12_init_610 : decode cX12_init 610 = .ok (.iconst 2, 1) := by decide +kernel
theorem dX12_init_611 : decode cX12_init 611 = .ok (.iconst 5, 1) := by decide +kernel
theorem dX12_init_612 : decode cX12_init 612 = .ok (.iconst 0, 1) := by decide +kernel
theorem dX12_init_613 : decode cX12_init 613 = .ok (.iconst 2, 1) := by decide +kernel
theorem dX12_init_614 : decode cX12_init 614 = .ok (.invokevirtual 323, 3) := by decide +kernel
theorem dX12_init_617 : decode cX12_init 617 = .ok (.aload_n 0, 1) := by decide +kernel
theorem dX12_init_618 : decode cX12_init 618 = .ok (.bipush 47, 2) := by decide +kernel
theorem dX12_init_620 : decode cX12_init 620 = .ok (.iconst 2, 1) := by decide +kernel
theorem dX12_init_621 : decode cX12_init 621 = .ok (.iconst 5, 1) := by decide +kernel
theorem dX12_init_622 : decode cX12_init 622 = .ok (.iconst 0, 1) := by decide +kernel
theorem dX12_init_623 : decode cX12_init 623 = .ok (.iconst 3, 1) := by decide +kernel
theorem dX12_init_624 : decode cX12_init 624 = .ok (.invokevirtual 323, 3) := by decide +kernel
theorem dX12_init_627 : decode cX12_init 627 = .ok (.aload_n 0, 1) := by decide +kernel
theorem dX12_init_628 : decode cX12_init 628 = .ok (.bipush 37, 2) := by decide +kernel
theorem dX12_init_630 : decode cX12_init 630 = .ok (.iconst 2, 1) := by decide +kernel
theorem dX12_init_631 : decode cX12_init 631 = .ok (.iconst 5, 1) := by decide +kernel
theorem dX12_init_632 : decode cX12_init 632 = .ok (.iconst 0, 1) := by decide +kernel
theorem dX12_init_633 : decode cX12_init 633 = .ok (.iconst 4, 1) := by decide +kernel
theorem dX12_init_634 : decode cX12_init 634 = .ok (.invokevirtual 323, 3) := by decide +kernel
theorem dX12_init_637 : decode cX12_init 637 = .ok (.aload_n 0, 1) := by decide +kernel
theorem dX12_init_638 : decode cX12_init 638 = .ok (.bipush 94, 2) := by decide +kernel
theorem dX12_init_640 : decode cX12_init 640 = .ok (.iconst 2, 1) := by decide +kernel
theorem dX12_init_641 : decode cX12_init 641 = .ok (.bipush 7, 2) := by decide +kernel
theorem dX12_init_643 : decode cX12_init 643 = .ok (.iconst 1, 1) := by decide +kernel
theorem dX12_init_644 : decode cX12_init 644 = .ok (.iconst 5, 1) := by decide +kernel
theorem dX12_init_645 : decode cX12_init 645 = .ok (.invokevirtual 323, 3) := by decide +kernel
theorem dX12_init_648 : decode cX12_init 648 = .ok (.aload_n 0, 1) := by decide +kernel
theorem dX12_init_649 : decode cX12_init 649 = .ok (.bipush 45, 2) := by decide +kernel
theorem dX12_init_651 : decode cX12_init 651 = .ok (.iconst 0, 1) := by decide +kernel
theorem dX12_init_652 : decode cX12_init 652 = .ok (.bipush 6, 2) := by decide +kernel
theorem dX12_init_654 : decode cX12_init 654 = .ok (.iconst 0, 1) := by decide +kernel
theorem dX12_init_655 : decode cX12_init 655 = .ok (.bipush 11, 2) := by decide +kernel
theorem dX12_init_657 : decode cX12_init 657 = .ok (.invokevirtual 323, 3) := by decide +kernel
theorem dX12_init_660 : decode cX12_init 660 = .ok (.aload_n 0, 1) := by decide +kernel
theorem dX12_init_661 : decode cX12_init 661 = .ok (.bipush 126, 2) := by decide +kernel
theorem dX12_init_663 : decode cX12_init 663 = .ok (.iconst 0, 1) := by decide +kernel
theorem dX12_init_664 : decode cX12_init 664 = .ok (.bipush 6, 2) := by decide +kernel
theorem dX12_init_666 : decode cX12_init 666 = .ok (.iconst 0, 1) := by decide +kernel
theorem dX12_init_667 : decode cX12_init 667 = .ok (.bipush 12, 2) := by decide +kernel
theorem dX12_init_669 : decode cX12_init 669 = .ok (.invokevirtual 323, 3) := by decide +kernel
theorem dX12_init_672 : decode cX12_init 672 = .ok (.aload_n 0, 1) := by decide +kernel
theorem dX12_init_673 : decode cX12_init 673 = .ok (.bipush 33, 2) := by decide +kernel
theorem dX12_init_675 : decode cX12_init 675 = .ok (.iconst 1, 1) := by decide +kernel
theorem dX12_init_676 : decode cX12_init 676 = .ok (.bipush 8, 2) := by decide +kernel
theorem dX12_init_678 : decode cX12_init 678 = .ok (.iconst 0, 1) := by decide +kernel
theorem dX12_init_679 : decode cX12_init 679 = .ok (.bipush 13, 2) := by decide +kernel
theorem dX12_init_681 : decode cX12_init 681 = .ok (.invokevirtual 323, 3) := by decide +kernel
theorem dX12_init_684 : decode cX12_init 684 = .ok (.iconst 0, 1) := by decide +kernel
theorem dX12_init_685 : decode cX12_init 685 = .ok (.istore_n 1, 1) := by decide +kernel
theorem dX12_init_686 : decode cX12_init 686 = .ok (.iload_n 1, 1) := by decide +kernel
theorem dX12_init_687 : decode cX12_init 687 = .ok (.bipush 60, 2) := by decide +kernel
theorem dX12_init_689 : decode cX12_init 689 = .ok (.if_icmp .ge 15, 3) := by decide +kernel
theorem dX12_init_692 : decode cX12_init 692 = .ok (.aload_n 0, 1) := by decide +kernel
theorem dX12_init_693 : decode cX12_init 693 = .ok (.iload_n 1, 1) := by decide +kernel
theorem dX12_init_694 : decode cX12_init 694 = .ok (.iconst 0, 1) := by decide +kernel
theorem dX12_init_695 : decode cX12_init 695 = .ok (.invokevirtual 96, 3) := by decide +kernel
theorem dX12_init_698 : decode cX12_init 698 = .ok (.iinc 1 1, 3) := by decide +kernel
theorem dX12_init_701 : decode cX12_init 701 = .ok (.goto (-15), 3) := by decide +kernel
theorem dX12_init_704 : decode cX12_init 704 = .ok (.return_, 1) := by decide +kernel
theorem dX12_word_0 : decode cX12_word 0 = .ok (.aload_n 0, 1) := by decide +kernel
theorem dX12_word_1 : decode cX12_word 1 = .ok (.getfield 187, 3) := by decide +kernel
theorem dX12_word_4 : decode cX12_word 4 = .ok (.aload_n 0, 1) := by decide +kernel
theorem dX12_word_5 : decode cX12_word 5 = .ok (.getfield 327, 3) := by decide +kernel
theorem dX12_word_8 : decode cX12_word 8 = .ok (.iload_n 1, 1) := by decide +kernel
theorem dX12_word_9 : decode cX12_word 9 = .ok (.iastore, 1) := by decide +kernel
theorem dX12_word_10 : decode cX12_word 10 = .ok (.aload_n 0, 1) := by decide +kernel
theorem dX12_word_11 : decode cX12_word 11 = .ok (.getfield 190, 3) := by decide +kernel
theorem dX12_word_14 : decode cX12_word 14 = .ok (.aload_n 0, 1) := by decide +kernel
theorem dX12_word_15 : decode cX12_word 15 = .ok (.getfield 327, 3) := by decide +kernel
theorem dX12_word_18 : decode cX12_word 18 = .ok (.iload_n 2, 1) := by decide +kernel
theorem dX12_word_19 : decode cX12_word 19 = .ok (.iastore, 1) := by decide +kernel
theorem dX12_word_20 : decode cX12_word 20 = .ok (.aload_n 0, 1) := by decide +kernel
theorem dX12_word_21 : decode cX12_word 21 = .ok (.getfield 193, 3) := by decide +kernel
theorem dX12_word_24 : decode cX12_word 24 = .ok (.aload_n 0, 1) := by decide +kernel
theorem dX12_word_25 : decode cX12_word 25 = .ok (.getfield 327, 3) := by decide +kernel
theorem dX12_word_28 : decode cX12_word 28 = .ok (.iload_n 3, 1) := by decide +kernel
theorem dX12_word_29 : decode cX12_word 29 = .ok (.iastore, 1) := by decide +kernel
theorem dX12_word_30 : decode cX12_word 30 = .ok (.aload_n 0, 1) := by decide +kernel
theorem dX12_word_31 : decode cX12_word 31 = .ok (.getfield 196, 3) := by decide +kernel
theorem dX12_word_34 : decode cX12_word 34 = .ok (.aload_n 0, 1) := by decide +kernel
theorem dX12_word_35 : decode cX12_word 35 = .ok (.getfield 327, 3) := by decide +kernel
theorem dX12_word_38 : decode cX12_word 38 = .ok (.iconst (-1), 1) := by decide +kernel
theorem dX12_word_39 : decode cX12_word 39 = .ok (.iastore, 1) := by decide +kernel
theorem dX12_word_40 : decode cX12_word 40 = .ok (.aload_n 0, 1) := by decide +kernel
theorem dX12_word_41 : decode cX12_word 41 = .ok (.getfield 199, 3) := by decide +kernel
theorem dX12_word_44 : decode cX12_word 44 = .ok (.aload_n 0, 1) := by decide +kernel
theorem dX12_word_45 : decode cX12_word 45 = .ok (.getfield 327, 3) := by decide +kernel
theorem dX12_word_48 : decode cX12_word 48 = .ok (.iconst 0, 1) := by decide +kernel
theorem dX12_word_49 : decode cX12_word 49 = .ok (.bastore, 1) := by decide +kernel
theorem dX12_word_50 : decode cX12_word 50 = .ok (.aload_n 0, 1) := by decide +kernel
theorem dX12_word_51 : decode cX12_word 51 = .ok (.dup, 1) := by decide +kernel
theorem dX12_word_52 : decode cX12_word 52 = .ok (.getfield 327, 3) := by decide +kernel
theorem dX12_word_55 : decode cX12_word 55 = .ok (.iconst 1, 1) := by decide +kernel
theorem dX12_word_56 : decode cX12_word 56 = .ok (.iadd, 1) := by decide +kernel
theorem dX12_word_57 : decode cX12_word 57 = .ok (.putfield 327, 3) := by decide +kernel
theorem dX12_word_60 : decode cX12_word 60 = .ok (.return_, 1) := by decide +kernel
theorem dX12_digit_0 : decode cX12_digit 0 = .ok (.iload_n 0, 1) := by decide +kernel
theorem dX12_digit_1 : decode cX12_digit 1 = .ok (.bipush 48, 2) := by decide +kernel
theorem dX12_digit_3 : decode cX12_digit 3 = .ok (.bipush 57, 2) := by decide +kernel
theorem dX12_digit_5 : decode cX12_digit 5 = .ok (.invokestatic 106, 3) := by decide +kernel
theorem dX12_digit_8 : decode cX12_digit 8 = .ok (.ifCond .eq 10, 3) := by decide +kernel
theorem dX12_digit_11 : decode cX12_digit 11 = .ok (.iload_n 0, 1) := by decide +kernel
theorem dX12_digit_12 : decode cX12_digit 12 = .ok (.bipush 48, 2) := by decide +kernel
theorem dX12_digit_14 : decode cX12_digit 14 = .ok (.isub, 1) := by decide +kernel
theorem dX12_digit_15 : decode cX12_digit 15 = .ok (.goto 25, 3) := by decide +kernel
theorem dX12_digit_18 : decode cX12_digit 18 = .ok (.iload_n 0, 1) := by decide +kernel
theorem dX12_digit_19 : decode cX12_digit 19 = .ok (.bipush 97, 2) := by decide +kernel
theorem dX12_digit_21 : decode cX12_digit 21 = .ok (.bipush 102, 2) := by decide +kernel
theorem dX12_digit_23 : decode cX12_digit 23 = .ok (.invokestatic 106, 3) := by decide +kernel
theorem dX12_digit_26 : decode cX12_digit 26 = .ok (.ifCond .eq 13, 3) := by decide +kernel
theorem dX12_digit_29 : decode cX12_digit 29 = .ok (.iload_n 0, 1) := by decide +kernel
theorem dX12_digit_30 : decode cX12_digit 30 = .ok (.bipush 97, 2) := by decide +kernel
theorem dX12_digit_32 : decode cX12_digit 32 = .ok (.isub, 1) := by decide +kernel
theorem dX12_digit_33 : decode cX12_digit 33 = .ok (.bipush 10, 2) := by decide +kernel
theorem dX12_digit_35 : decode cX12_digit 35 = .ok (.iadd, 1) := by decide +kernel
theorem dX12_digit_36 : decode cX12_digit 36 = .ok (.goto 4, 3) := by decide +kernel
theorem dX12_digit_39 : decode cX12_digit 39 = .ok (.iconst (-1), 1) := by decide +kernel
theorem dX12_digit_40 : decode cX12_digit 40 = .ok (.istore_n 2, 1) := by decide +kernel
theorem dX12_digit_41 : decode cX12_digit 41 = .ok (.iload_n 2, 1) := by decide +kernel
theorem dX12_digit_42 : decode cX12_digit 42 = .ok (.iload_n 1, 1) := by decide +kernel
theorem dX12_digit_43 : decode cX12_digit 43 = .ok (.if_icmp .ge 7, 3) := by decide +kernel
theorem dX12_digit_46 : decode cX12_digit 46 = .ok (.iload_n 2, 1) := by decide +kernel
theorem dX12_digit_47 : decode cX12_digit 47 = .ok (.goto 4, 3) := by decide +kernel
theorem dX12_digit_50 : decode cX12_digit 50 = .ok (.iconst (-1), 1) := by decide +kernel
theorem dX12_digit_51 : decode cX12_digit 51 = .ok (.ireturn, 1) := by decide +kernel
theorem dX12_typedAt_0 : decode cX12_typedAt 0 = .ok (.iload_n 1, 1) := by decide +kernel
theorem dX12_typedAt_1 : decode cX12_typedAt 1 = .ok (.aload_n 0, 1) := by decide +kernel
theorem dX12_typedAt_2 : decode cX12_typedAt 2 = .ok (.getfield 330, 3) := by decide +kernel
theorem dX12_typedAt_5 : decode cX12_typedAt 5 = .ok (.if_icmp .ge 12, 3) := by decide +kernel
theorem dX12_typedAt_8 : decode cX12_typedAt 8 = .ok (.aload_n 0, 1) := by decide +kernel
theorem dX12_typedAt_9 : decode cX12_typedAt 9 = .ok (.getfield 184, 3) := by decide +kernel
theorem dX12_typedAt_12 : decode cX12_typedAt 12 = .ok (.iload_n 1, 1) := by decide +kernel
theorem dX12_typedAt_13 : decode cX12_typedAt 13 = .ok (.iaload, 1) := by decide +kernel
theorem dX12_typedAt_14 : decode cX12_typedAt 14 = .ok (.goto 4, 3) := by decide +kernel
theorem dX12_typedAt_17 : decode cX12_typedAt 17 = .ok (.iconst (-1), 1) := by decide +kernel
theorem dX12_typedAt_18 : decode cX12_typedAt 18 = .ok (.ireturn, 1) := by decide +kernel
theorem dX12_number_0 : decode cX12_number 0 = .ok (.aload_n 0, 1) := by decide +kernel
theorem dX12_number_1 : decode cX12_number 1 = .ok (.iload_n 1, 1) := by decide +kernel
theorem dX12_number_2 : decode cX12_number 2 = .ok (.iconst 1, 1) := by decide +kernel
theorem dX12_number_3 : decode cX12_number 3 = .ok (.iadd, 1) := by decide +kernel
theorem dX12_number_4 : decode cX12_number 4 = .ok (.invokevirtual 333, 3) := by decide +kernel
theorem dX12_number_7 : decode cX12_number 7 = .ok (.istore_n 2, 1) := by decide +kernel
theorem dX12_number_8 : decode cX12_number 8 = .ok (.aload_n 0, 1) := by decide +kernel
theorem dX12_number_9 : decode cX12_number 9 = .ok (.iload_n 1, 1) := by decide +kernel
theorem dX12_number_10 : decode cX12_number 10 = .ok (.invokevirtual 333, 3) := by decide +kernel
theorem dX12_number_13 : decode cX12_number 13 = .ok (.bipush 48, 2) := by decide +kernel
theorem dX12_number_15 : decode cX12_number 15 = .ok (.if_icmp .eq 8, 3) := by decide +kernel
theorem dX12_number_18 : decode cX12_number 18 = .ok (.bipush 10, 2) := by decide +kernel
theorem dX12_number_20 : decode cX12_number 20 = .ok (.goto 37, 3) := by decide +kernel
theorem dX12_number_23 : decode cX12_number 23 = .ok (.iload_n 2, 1) := by decide +kernel
theorem dX12_number_24 : decode cX12_number 24 = .ok (.bipush 120, 2) := by decide +kernel
theorem dX12_number_26 : decode cX12_number 26 = .ok (.if_icmp .ne 8, 3) := by decide +kernel
theorem dX12_number_29 : decode cX12_number 29 = .ok (.bipush 16, 2) := by decide +kernel
theorem dX12_number_31 : decode cX12_number 31 = .ok (.goto 26, 3) := by decide +kernel
theorem dX12_number_34 : decode cX12_number 34 = .ok (.iload_n 2, 1) := by decide +kernel
theorem dX12_number_35 : decode cX12_number 35 = .ok (.bipush 111, 2) := by decide +kernel
theorem dX12_number_37 : decode cX12_number 37 = .ok (.if_icmp .ne 8, 3) := by decide +kernel
theorem dX12_number_40 : decode cX12_number 40 = .ok (.bipush 8, 2) := by decide +kernel
theorem dX12_number_42 : decode cX12_number 42 = .ok (.goto 15, 3) := by decide +kernel
theorem dX12_number_45 : decode cX12_number 45 = .ok (.iload_n 2, 1) := by decide +kernel
theorem dX12_number_46 : decode cX12_number 46 = .ok (.bipush 98, 2) := by decide +kernel
theorem dX12_number_48 : decode cX12_number 48 = .ok (.if_icmp .ne 7, 3) := by decide +kernel
theorem dX12_number_51 : decode cX12_number 51 = .ok (.iconst 2, 1) := by decide +kernel
theorem dX12_number_52 : decode cX12_number 52 = .ok (.goto 5, 3) := by decide +kernel
theorem dX12_number_55 : decode cX12_number 55 = .ok (.bipush 10, 2) := by decide +kernel
theorem dX12_number_57 : decode cX12_number 57 = .ok (.istore_n 3, 1) := by decide +kernel
theorem dX12_number_58 : decode cX12_number 58 = .ok (.iload_n 3, 1) := by decide +kernel
theorem dX12_number_59 : decode cX12_number 59 = .ok (.bipush 10, 2) := by decide +kernel
theorem dX12_number_61 : decode cX12_number 61 = .ok (.if_icmp .ne 7, 3) := by decide +kernel
theorem dX12_number_64 : decode cX12_number 64 = .ok (.iload_n 1, 1) := by decide +kernel
theorem dX12_number_65 : decode cX12_number 65 = .ok (.goto 6, 3) := by decide +kernel
theorem dX12_number_68 : decode cX12_number 68 = .ok (.iload_n 1, 1) := by decide +kernel
theorem dX12_number_69 : decode cX12_number 69 = .ok (.iconst 2, 1) := by decide +kernel
theorem dX12_number_70 : decode cX12_number 70 = .ok (.iadd, 1) := by decide +kernel
theorem dX12_number_71 : decode cX12_number 71 = .ok (.istore 4, 2) := by decide +kernel
theorem dX12_number_73 : decode cX12_number 73 = .ok (.iload_n 3, 1) := by decide +kernel
theorem dX12_number_74 : decode cX12_number 74 = .ok (.bipush 10, 2) := by decide +kernel
theorem dX12_number_76 : decode cX12_number 76 = .ok (.if_icmp .ne 8, 3) := by decide +kernel
theorem dX12_number_79 : decode cX12_number 79 = .ok (.bipush 9, 2) := by decide +kernel
theorem dX12_number_81 : decode cX12_number 81 = .ok (.goto 5, 3) := by decide +kernel
theorem dX12_number_84 : decode cX12_number 84 = .ok (.bipush 7, 2) := by decide +kernel
theorem dX12_number_86 : decode cX12_number 86 = .ok (.istore 5, 2) := by decide +kernel
theorem dX12_number_88 : decode cX12_number 88 = .ok (.iload 4, 2) := by decide +kernel
theorem dX12_number_90 : decode cX12_number 90 = .ok (.istore 6, 2) := by decide +kernel
theorem dX12_number_92 : decode cX12_number 92 = .ok (.iconst 0, 1) := by decide +kernel
theorem dX12_number_93 : decode cX12_number 93 = .ok (.istore 7, 2) := by decide +kernel
theorem dX12_number_95 : decode cX12_number 95 = .ok (.iload 4, 2) := by decide +kernel
theorem dX12_number_97 : decode cX12_number 97 = .ok (.iload 6, 2) := by decide +kernel
theorem dX12_number_99 : decode cX12_number 99 = .ok (.isub, 1) := by decide +kernel
theorem dX12_number_100 : decode cX12_number 100 = .ok (.iload 5, 2) := by decide +kernel
theorem dX12_number_102 : decode cX12_number 102 = .ok (.if_icmp .ge 50, 3) := by decide +kernel
theorem dX12_number_105 : decode cX12_number 105 = .ok (.iload 4, 2) := by decide +kernel
theorem dX12_number_107 : decode cX12_number 107 = .ok (.aload_n 0, 1) := by decide +kernel
theorem dX12_number_108 : decode cX12_number 108 = .ok (.getfield 330, 3) := by decide +kernel
theorem dX12_number_111 : decode cX12_number 111 = .ok (.if_icmp .ge 41, 3) := by decide +kernel
theorem dX12_number_114 : decode cX12_number 114 = .ok (.aload_n 0, 1) := by decide +kernel
theorem dX12_number_115 : decode cX12_number 115 = .ok (.getfield 184, 3) := by decide +kernel
theorem dX12_number_118 : decode cX12_number 118 = .ok (.iload 4, 2) := by decide +kernel
theorem dX12_number_120 : decode cX12_number 120 = .ok (.iaload, 1) := by decide +kernel
theorem dX12_number_121 : decode cX12_number 121 = .ok (.iload_n 3, 1) := by decide +kernel
theorem dX12_number_122 : decode cX12_number 122 = .ok (.invokestatic 336, 3) := by decide +kernel
theorem dX12_number_125 : decode cX12_number 125 = .ok (.ifCond .lt 27, 3) := by decide +kernel
theorem dX12_number_128 : decode cX12_number 128 = .ok (.iload_n 3, 1) := by decide +kernel
theorem dX12_number_129 : decode cX12_number 129 = .ok (.iload 7, 2) := by decide +kernel
theorem dX12_number_131 : decode cX12_number 131 = .ok (.imul, 1) := by decide +kernel
theorem dX12_number_132 : decode cX12_number 132 = .ok (.aload_n 0, 1) := by decide +kernel
theorem dX12_number_133 : decode cX12_number 133 = .ok (.getfield 184, 3) := by decide +kernel
theorem dX12_number_136 : decode cX12_number 136 = .ok (.iload 4, 2) := by decide +kernel
theorem dX12_number_138 : decode cX12_number 138 = .ok (.iaload, 1) := by decide +kernel
theorem dX12_number_139 : decode cX12_number 139 = .ok (.iload_n 3, 1) := by decide +kernel
theorem dX12_number_140 : decode cX12_number 140 = .ok (.invokestatic 336, 3) := by decide +kernel
theorem dX12_number_143 : decode cX12_number 143 = .ok (.iadd, 1) := by decide +kernel
theorem dX12_number_144 : decode cX12_number 144 = .ok (.istore 7, 2) := by decide +kernel
theorem dX12_number_146 : decode cX12_number 146 = .ok (.iinc 4 1, 3) := by decide +kernel
theorem dX12_number_149 : decode cX12_number 149 = .ok (.goto (-54), 3) := by decide +kernel
theorem dX12_number_152 : decode cX12_number 152 = .ok (.aload_n 0, 1) := by decide +kernel
theorem dX12_number_153 : decode cX12_number 153 = .ok (.iconst 0, 1) := by decide +kernel
theorem dX12_number_154 : decode cX12_number 154 = .ok (.iload 7, 2) := by decide +kernel
theorem dX12_number_156 : decode cX12_number 156 = .ok (.iload_n 1, 1) := by decide +kernel
theorem dX12_number_157 : decode cX12_number 157 = .ok (.invokevirtual 339, 3) := by decide +kernel
theorem dX12_number_160 : decode cX12_number 160 = .ok (.iload 4, 2) := by decide +kernel
theorem dX12_number_162 : decode cX12_number 162 = .ok (.iload 6, 2) := by decide +kernel
theorem dX12_number_164 : decode cX12_number 164 = .ok (.if_icmp .ne 9, 3) := by decide +kernel
theorem dX12_number_167 : decode cX12_number 167 = .ok (.iload 4, 2) := by decide +kernel
theorem dX12_number_169 : decode cX12_number 169 = .ok (.ineg, 1) := by decide +kernel
theorem dX12_number_170 : decode cX12_number 170 = .ok (.goto 5, 3) := by decide +kernel
theorem dX12_number_173 : decode cX12_number 173 = .ok (.iload 4, 2) := by decide +kernel
theorem dX12_number_175 : decode cX12_number 175 = .ok (.ireturn, 1) := by decide +kernel
theorem dX12_lex_0 : decode cX12_lex 0 = .ok (.aload_n 0, 1) := by decide +kernel
theorem dX12_lex_1 : decode cX12_lex 1 = .ok (.iconst 0, 1) := by decide +kernel
theorem dX12_lex_2 : decode cX12_lex 2 = .ok (.putfield 327, 3) := by decide +kernel
theorem dX12_lex_5 : decode cX12_lex 5 = .ok (.aload_n 0, 1) := by decide +kernel
theorem dX12_lex_6 : decode cX12_lex 6 = .ok (.iconst 0, 1) := by decide +kernel
theorem dX12_lex_7 : decode cX12_lex 7 = .ok (.putfield 342, 3) := by decide +kernel
theorem dX12_lex_10 : decode cX12_lex 10 = .ok (.iconst 0, 1) := by decide +kernel
theorem dX12_lex_11 : decode cX12_lex 11 = .ok (.istore_n 1, 1) := by decide +kernel
theorem dX12_lex_12 : decode cX12_lex 12 = .ok (.iload_n 1, 1) := by decide +kernel
theorem dX12_lex_13 : decode cX12_lex 13 = .ok (.aload_n 0, 1) := by decide +kernel
theorem dX12_lex_14 : decode cX12_lex 14 = .ok (.getfield 330, 3) := by decide +kernel
theorem dX12_lex_17 : decode cX12_lex 17 = .ok (.if_icmp .ge 168, 3) := by decide +kernel
theorem dX12_lex_20 : decode cX12_lex 20 = .ok (.aload_n 0, 1) := by decide +kernel
theorem dX12_lex_21 : decode cX12_lex 21 = .ok (.getfield 184, 3) := by decide +kernel
theorem dX12_lex_24 : decode cX12_lex 24 = .ok (.iload_n 1, 1) := by decide +kernel
theorem dX12_lex_25 : decode cX12_lex 25 = .ok (.iaload, 1) := by decide +kernel
theorem dX12_lex_26 : decode cX12_lex 26 = .ok (.istore_n 2, 1) := by decide +kernel
theorem dX12_lex_27 : decode cX12_lex 27 = .ok (.iload_n 2, 1) := by decide +kernel
theorem dX12_lex_28 : decode cX12_lex 28 = .ok (.bipush 32, 2) := by decide +kernel
theorem dX12_lex_30 : decode cX12_lex 30 = .ok (.if_icmp .ne 9, 3) := by decide +kernel
theorem dX12_lex_33 : decode cX12_lex 33 = .ok (.iinc 1 1, 3) := by decide +kernel
theorem dX12_lex_36 : decode cX12_lex 36 = .ok (.goto 146, 3) := by decide +kernel
theorem dX12_lex_39 : decode cX12_lex 39 = .ok (.iload_n 2, 1) := by decide +kernel
theorem dX12_lex_40 : decode cX12_lex 40 = .ok (.bipush 48, 2) := by decide +kernel
theorem dX12_lex_42 : decode cX12_lex 42 = .ok (.bipush 57, 2) := by decide +kernel
theorem dX12_lex_44 : decode cX12_lex 44 = .ok (.invokestatic 106, 3) := by decide +kernel
theorem dX12_lex_47 : decode cX12_lex 47 = .ok (.ifCond .eq 52, 3) := by decide +kernel
theorem dX12_lex_50 : decode cX12_lex 50 = .ok (.aload_n 0, 1) := by decide +kernel
theorem dX12_lex_51 : decode cX12_lex 51 = .ok (.iload_n 1, 1) := by decide +kernel
theorem dX12_lex_52 : decode cX12_lex 52 = .ok (.invokevirtual 346, 3) := by decide +kernel
theorem dX12_lex_55 : decode cX12_lex 55 = .ok (.istore_n 3, 1) := by decide +kernel
theorem dX12_lex_56 : decode cX12_lex 56 = .ok (.iload_n 3, 1) := by decide +kernel
theorem dX12_lex_57 : decode cX12_lex 57 = .ok (.ifCond .ge 37, 3) := by decide +kernel
theorem dX12_lex_60 : decode cX12_lex 60 = .ok (.aload_n 0, 1) := by decide +kernel
theorem dX12_lex_61 : decode cX12_lex 61 = .ok (.iload_n 3, 1) := by decide +kernel
theorem dX12_lex_62 : decode cX12_lex 62 = .ok (.ineg, 1) := by decide +kernel
theorem dX12_lex_63 : decode cX12_lex 63 = .ok (.aload_n 0, 1) := by decide +kernel
theorem dX12_lex_64 : decode cX12_lex 64 = .ok (.getfield 330, 3) := by decide +kernel
theorem dX12_lex_67 : decode cX12_lex 67 = .ok (.if_icmp .ne 7, 3) := by decide +kernel
theorem dX12_lex_70 : decode cX12_lex 70 = .ok (.iconst 1, 1) := by decide +kernel
theorem dX12_lex_71 : decode cX12_lex 71 = .ok (.goto 4, 3) := by decide +kernel
theorem dX12_lex_74 : decode cX12_lex 74 = .ok (.iconst 0, 1) := by decide +kernel
theorem dX12_lex_75 : decode cX12_lex 75 = .ok (.putfield 342, 3) := by decide +kernel
theorem dX12_lex_78 : decode cX12_lex 78 = .ok (.aload_n 0, 1) := by decide +kernel
theorem dX12_lex_79 : decode cX12_lex 79 = .ok (.getfield 342, 3) := by decide +kernel
theorem dX12_lex_82 : decode cX12_lex 82 = .ok (.ifCond .ne 11, 3) := by decide +kernel
theorem dX12_lex_85 : decode cX12_lex 85 = .ok (.aload_n 0, 1) := by decide +kernel
theorem dX12_lex_86 : decode cX12_lex 86 = .ok (.iconst (-1), 1) := by decide +kernel
theorem dX12_lex_87 : decode cX12_lex 87 = .ok (.iconst 0, 1) := by decide +kernel
theorem dX12_lex_88 : decode cX12_lex 88 = .ok (.iload_n 3, 1) := by decide +kernel
theorem dX12_lex_89 : decode cX12_lex 89 = .ok (.ineg, 1) := by decide +kernel
theorem dX12_lex_90 : decode cX12_lex 90 = .ok (.invokevirtual 339, 3) := by decide +kernel
theorem dX12_lex_93 : decode cX12_lex 93 = .ok (.return_, 1) := by decide +kernel
theorem dX12_lex_94 : decode cX12_lex 94 = .ok (.iload_n 3, 1) := by decide +kernel
theorem dX12_lex_95 : decode cX12_lex 95 = .ok (.istore_n 1, 1) := by decide +kernel
theorem dX12_lex_96 : decode cX12_lex 96 = .ok (.goto 86, 3) := by decide +kernel
theorem dX12_lex_99 : decode cX12_lex 99 = .ok (.aload_n 0, 1) := by decide +kernel
theorem dX12_lex_100 : decode cX12_lex 100 = .ok (.iload_n 2, 1) := by decide +kernel
theorem dX12_lex_101 : decode cX12_lex 101 = .ok (.bipush 97, 2) := by decide +kernel
theorem dX12_lex_103 : decode cX12_lex 103 = .ok (.bipush 122, 2) := by decide +kernel
theorem dX12_lex_105 : decode cX12_lex 105 = .ok (.invokestatic 106, 3) := by decide +kernel
theorem dX12_lex_108 : decode cX12_lex 108 = .ok (.ifCond .eq 7, 3) := by decide +kernel
theorem dX12_lex_111 : decode cX12_lex 111 = .ok (.iconst 1, 1) := by decide +kernel
theorem dX12_lex_112 : decode cX12_lex 112 = .ok (.goto 46, 3) := by decide +kernel
theorem dX12_lex_115 : decode cX12_lex 115 = .ok (.iload_n 2, 1) := by decide +kernel
theorem dX12_lex_116 : decode cX12_lex 116 = .ok (.bipush 40, 2) := by decide +kernel
theorem dX12_lex_118 : decode cX12_lex 118 = .ok (.if_icmp .ne 7, 3) := by decide +kernel
theorem dX12_lex_121 : decode cX12_lex 121 = .ok (.iconst 3, 1) := by decide +kernel
theorem dX12_lex_122 : decode cX12_lex 122 = .ok (.goto 36, 3) := by decide +kernel
theorem dX12_lex_125 : decode cX12_lex 125 = .ok (.iload_n 2, 1) := by decide +kernel
theorem dX12_lex_126 : decode cX12_lex 126 = .ok (.bipush 41, 2) := by decide +kernel
theorem dX12_lex_128 : decode cX12_lex 128 = .ok (.if_icmp .ne 7, 3) := by decide +kernel
theorem dX12_lex_131 : decode cX12_lex 131 = .ok (.iconst 4, 1) := by decide +kernel
theorem dX12_lex_132 : decode cX12_lex 132 = .ok (.goto 26, 3) := by decide +kernel
theorem dX12_lex_135 : decode cX12_lex 135 = .ok (.iload_n 2, 1) := by decide +kernel
theorem dX12_lex_136 : decode cX12_lex 136 = .ok (.bipush 44, 2) := by decide +kernel
theorem dX12_lex_138 : decode cX12_lex 138 = .ok (.if_icmp .ne 7, 3) := by decide +kernel
theorem dX12_lex_141 : decode cX12_lex 141 = .ok (.iconst 5, 1) := by decide +kernel
theorem dX12_lex_142 : decode cX12_lex 142 = .ok (.goto 16, 3) := by decide +kernel
theorem dX12_lex_145 : decode cX12_lex 145 = .ok (.iload_n 2, 1) := by decide +kernel
theorem dX12_lex_146 : decode cX12_lex 146 = .ok (.invokestatic 156, 3) := by decide +kernel
theorem dX12_lex_149 : decode cX12_lex 149 = .ok (.iconst (-1), 1) := by decide +kernel
theorem dX12_lex_150 : decode cX12_lex 150 = .ok (.if_icmp .eq 7, 3) := by decide +kernel
theorem dX12_lex_153 : decode cX12_lex 153 = .ok (.iconst 2, 1) := by decide +kernel
theorem dX12_lex_154 : decode cX12_lex 154 = .ok (.goto 4, 3) := by decide +kernel
theorem dX12_lex_157 : decode cX12_lex 157 = .ok (.iconst (-1), 1) := by decide +kernel
theorem dX12_lex_158 : decode cX12_lex 158 = .ok (.iload_n 2, 1) := by decide +kernel
theorem dX12_lex_159 : decode cX12_lex 159 = .ok (.iload_n 1, 1) := by decide +kernel
theorem dX12_lex_160 : decode cX12_lex 160 = .ok (.invokevirtual 339, 3) := by decide +kernel
theorem dX12_lex_163 : decode cX12_lex 163 = .ok (.aload_n 0, 1) := by decide +kernel
theorem dX12_lex_164 : decode cX12_lex 164 = .ok (.getfield 187, 3) := by decide +kernel
theorem dX12_lex_167 : decode cX12_lex 167 = .ok (.aload_n 0, 1) := by decide +kernel
theorem dX12_lex_168 : decode cX12_lex 168 = .ok (.getfield 327, 3) := by decide +kernel
theorem dX12_lex_171 : decode cX12_lex 171 = .ok (.iconst 1, 1) := by decide +kernel
theorem dX12_lex_172 : decode cX12_lex 172 = .ok (.isub, 1) := by decide +kernel
theorem dX12_lex_173 : decode cX12_lex 173 = .ok (.iaload, 1) := by decide +kernel
theorem dX12_lex_174 : decode cX12_lex 174 = .ok (.iconst (-1), 1) := by decide +kernel
theorem dX12_lex_175 : decode cX12_lex 175 = .ok (.if_icmp .ne 4, 3) := by decide +kernel
theorem dX12_lex_178 : decode cX12_lex 178 = .ok (.return_, 1) := by decide +kernel
theorem dX12_lex_179 : decode cX12_lex 179 = .ok (.iinc 1 1, 3) := by decide +kernel
theorem dX12_lex_182 : decode cX12_lex 182 = .ok (.goto (-170), 3) := by decide +kernel
theorem dX12_lex_185 : decode cX12_lex 185 = .ok (.return_, 1) := by decide +kernel
theorem dX12_does_0 : decode cX12_does 0 = .ok (.aload_n 0, 1) := by decide +kernel
theorem dX12_does_1 : decode cX12_does 1 = .ok (.getfield 203, 3) := by decide +kernel
theorem dX12_does_4 : decode cX12_does 4 = .ok (.aload_n 0, 1) := by decide +kernel
theorem dX12_does_5 : decode cX12_does 5 = .ok (.getfield 349, 3) := by decide +kernel
theorem dX12_does_8 : decode cX12_does 8 = .ok (.iload_n 1, 1) := by decide +kernel
theorem dX12_does_9 : decode cX12_does 9 = .ok (.iastore, 1) := by decide +kernel
theorem dX12_does_10 : decode cX12_does 10 = .ok (.aload_n 0, 1) := by decide +kernel
theorem dX12_does_11 : decode cX12_does 11 = .ok (.getfield 206, 3) := by decide +kernel
theorem dX12_does_14 : decode cX12_does 14 = .ok (.aload_n 0, 1) := by decide +kernel
theorem dX12_does_15 : decode cX12_does 15 = .ok (.getfield 349, 3) := by decide +kernel
theorem dX12_does_18 : decode cX12_does 18 = .ok (.iload_n 2, 1) := by decide +kernel
theorem dX12_does_19 : decode cX12_does 19 = .ok (.iastore, 1) := by decide +kernel
theorem dX12_does_20 : decode cX12_does 20 = .ok (.aload_n 0, 1) := by decide +kernel
theorem dX12_does_21 : decode cX12_does 21 = .ok (.getfield 209, 3) := by decide +kernel
theorem dX12_does_24 : decode cX12_does 24 = .ok (.aload_n 0, 1) := by decide +kernel
theorem dX12_does_25 : decode cX12_does 25 = .ok (.getfield 349, 3) := by decide +kernel
theorem dX12_does_28 : decode cX12_does 28 = .ok (.iload_n 3, 1) := by decide +kernel
theorem dX12_does_29 : decode cX12_does 29 = .ok (.iastore, 1) := by decide +kernel
theorem dX12_does_30 : decode cX12_does 30 = .ok (.aload_n 0, 1) := by decide +kernel
theorem dX12_does_31 : decode cX12_does 31 = .ok (.getfield 212, 3) := by decide +kernel
theorem dX12_does_34 : decode cX12_does 34 = .ok (.aload_n 0, 1) := by decide +kernel
theorem dX12_does_35 : decode cX12_does 35 = .ok (.getfield 349, 3) := by decide +kernel
theorem dX12_does_38 : decode cX12_does 38 = .ok (.iload 4, 2) := by decide +kernel
theorem dX12_does_40 : decode cX12_does 40 = .ok (.iastore, 1) := by decide +kernel
theorem dX12_does_41 : decode cX12_does 41 = .ok (.iconst 1, 1) := by decide +kernel
theorem dX12_does_42 : decode cX12_does 42 = .ok (.istore 5, 2) := by decide +kernel
theorem dX12_does_44 : decode cX12_does 44 = .ok (.iconst 0, 1) := by decide +kernel
theorem dX12_does_45 : decode cX12_does 45 = .ok (.istore 6, 2) := by decide +kernel
theorem dX12_does_47 : decode cX12_does 47 = .ok (.iload 6, 2) := by decide +kernel
theorem dX12_does_49 : decode cX12_does 49 = .ok (.iload 4, 2) := by decide +kernel
theorem dX12_does_51 : decode cX12_does 51 = .ok (.if_icmp .ge 33, 3) := by decide +kernel
theorem dX12_does_54 : decode cX12_does 54 = .ok (.iload 5, 2) := by decide +kernel
theorem dX12_does_56 : decode cX12_does 56 = .ok (.aload_n 0, 1) := by decide +kernel
theorem dX12_does_57 : decode cX12_does 57 = .ok (.getfield 215, 3) := by decide +kernel
theorem dX12_does_60 : decode cX12_does 60 = .ok (.aload_n 0, 1) := by decide +kernel
theorem dX12_does_61 : decode cX12_does 61 = .ok (.getfield 221, 3) := by decide +kernel
theorem dX12_does_64 : decode cX12_does 64 = .ok (.aload_n 0, 1) := by decide +kernel
theorem dX12_does_65 : decode cX12_does 65 = .ok (.getfield 352, 3) := by decide +kernel
theorem dX12_does_68 : decode cX12_does 68 = .ok (.iconst 1, 1) := by decide +kernel
theorem dX12_does_69 : decode cX12_does 69 = .ok (.isub, 1) := by decide +kernel
theorem dX12_does_70 : decode cX12_does 70 = .ok (.iload 6, 2) := by decide +kernel
theorem dX12_does_72 : decode cX12_does 72 = .ok (.isub, 1) := by decide +kernel
theorem dX12_does_73 : decode cX12_does 73 = .ok (.iaload, 1) := by decide +kernel
theorem dX12_does_74 : decode cX12_does 74 = .ok (.iaload, 1) := by decide +kernel
theorem dX12_does_75 : decode cX12_does 75 = .ok (.iadd, 1) := by decide +kernel
theorem dX12_does_76 : decode cX12_does 76 = .ok (.istore 5, 2) := by decide +kernel
theorem dX12_does_78 : decode cX12_does 78 = .ok (.iinc 6 1, 3) := by decide +kernel
theorem dX12_does_81 : decode cX12_does 81 = .ok (.goto (-34), 3) := by decide +kernel
theorem dX12_does_84 : decode cX12_does 84 = .ok (.aload_n 0, 1) := by decide +kernel
theorem dX12_does_85 : decode cX12_does 85 = .ok (.getfield 215, 3) := by decide +kernel
theorem dX12_does_88 : decode cX12_does 88 = .ok (.aload_n 0, 1) := by decide +kernel
theorem dX12_does_89 : decode cX12_does 89 = .ok (.getfield 349, 3) := by decide +kernel
theorem dX12_does_92 : decode cX12_does 92 = .ok (.iload 5, 2) := by decide +kernel
theorem dX12_does_94 : decode cX12_does 94 = .ok (.iastore, 1) := by decide +kernel
theorem dX12_does_95 : decode cX12_does 95 = .ok (.aload_n 0, 1) := by decide +kernel
theorem dX12_does_96 : decode cX12_does 96 = .ok (.dup, 1) := by decide +kernel
theorem dX12_does_97 : decode cX12_does 97 = .ok (.getfield 352, 3) := by decide +kernel
theorem dX12_does_100 : decode cX12_does 100 = .ok (.iload 4, 2) := by decide +kernel
theorem dX12_does_102 : decode cX12_does 102 = .ok (.isub, 1) := by decide +kernel
theorem dX12_does_103 : decode cX12_does 103 = .ok (.putfield 352, 3) := by decide +kernel
theorem dX12_does_106 : decode cX12_does 106 = .ok (.aload_n 0, 1) := by decide +kernel
theorem dX12_does_107 : decode cX12_does 107 = .ok (.getfield 221, 3) := by decide +kernel
theorem dX12_does_110 : decode cX12_does 110 = .ok (.aload_n 0, 1) := by decide +kernel
theorem dX12_does_111 : decode cX12_does 111 = .ok (.getfield 352, 3) := by decide +kernel
theorem dX12_does_114 : decode cX12_does 114 = .ok (.aload_n 0, 1) := by decide +kernel
theorem dX12_does_115 : decode cX12_does 115 = .ok (.getfield 349, 3) := by decide +kernel
theorem dX12_does_118 : decode cX12_does 118 = .ok (.iastore, 1) := by decide +kernel
theorem dX12_does_119 : decode cX12_does 119 = .ok (.aload_n 0, 1) := by decide +kernel
theorem dX12_does_120 : decode cX12_does 120 = .ok (.getfield 224, 3) := by decide +kernel
theorem dX12_does_123 : decode cX12_does 123 = .ok (.aload_n 0, 1) := by decide +kernel
theorem dX12_does_124 : decode cX12_does 124 = .ok (.getfield 352, 3) := by decide +kernel
theorem dX12_does_127 : decode cX12_does 127 = .ok (.iconst 0, 1) := by decide +kernel
theorem dX12_does_128 : decode cX12_does 128 = .ok (.bastore, 1) := by decide +kernel
theorem dX12_does_129 : decode cX12_does 129 = .ok (.aload_n 0, 1) := by decide +kernel
theorem dX12_does_130 : decode cX12_does 130 = .ok (.dup, 1) := by decide +kernel
theorem dX12_does_131 : decode cX12_does 131 = .ok (.getfield 352, 3) := by decide +kernel
theorem dX12_does_134 : decode cX12_does 134 = .ok (.iconst 1, 1) := by decide +kernel
theorem dX12_does_135 : decode cX12_does 135 = .ok (.iadd, 1) := by decide +kernel
theorem dX12_does_136 : decode cX12_does 136 = .ok (.putfield 352, 3) := by decide +kernel
theorem dX12_does_139 : decode cX12_does 139 = .ok (.aload_n 0, 1) := by decide +kernel
theorem dX12_does_140 : decode cX12_does 140 = .ok (.dup, 1) := by decide +kernel
theorem dX12_does_141 : decode cX12_does 141 = .ok (.getfield 349, 3) := by decide +kernel
theorem dX12_does_144 : decode cX12_does 144 = .ok (.iconst 1, 1) := by decide +kernel
theorem dX12_does_145 : decode cX12_does 145 = .ok (.iadd, 1) := by decide +kernel
theorem dX12_does_146 : decode cX12_does 146 = .ok (.putfield 349, 3) := by decide +kernel
theorem dX12_does_149 : decode cX12_does 149 = .ok (.return_, 1) := by decide +kernel
theorem dX12_opens_0 : decode cX12_opens 0 = .ok (.aload_n 0, 1) := by decide +kernel
theorem dX12_opens_1 : decode cX12_opens 1 = .ok (.getfield 227, 3) := by decide +kernel
theorem dX12_opens_4 : decode cX12_opens 4 = .ok (.aload_n 0, 1) := by decide +kernel
theorem dX12_opens_5 : decode cX12_opens 5 = .ok (.getfield 355, 3) := by decide +kernel
theorem dX12_opens_8 : decode cX12_opens 8 = .ok (.iload_n 1, 1) := by decide +kernel
theorem dX12_opens_9 : decode cX12_opens 9 = .ok (.iastore, 1) := by decide +kernel
theorem dX12_opens_10 : decode cX12_opens 10 = .ok (.aload_n 0, 1) := by decide +kernel
theorem dX12_opens_11 : decode cX12_opens 11 = .ok (.getfield 230, 3) := by decide +kernel
theorem dX12_opens_14 : decode cX12_opens 14 = .ok (.aload_n 0, 1) := by decide +kernel
theorem dX12_opens_15 : decode cX12_opens 15 = .ok (.getfield 355, 3) := by decide +kernel
theorem dX12_opens_18 : decode cX12_opens 18 = .ok (.iload_n 2, 1) := by decide +kernel
theorem dX12_opens_19 : decode cX12_opens 19 = .ok (.iastore, 1) := by decide +kernel
theorem dX12_opens_20 : decode cX12_opens 20 = .ok (.aload_n 0, 1) := by decide +kernel
theorem dX12_opens_21 : decode cX12_opens 21 = .ok (.getfield 233, 3) := by decide +kernel
theorem dX12_opens_24 : decode cX12_opens 24 = .ok (.aload_n 0, 1) := by decide +kernel
theorem dX12_opens_25 : decode cX12_opens 25 = .ok (.getfield 355, 3) := by decide +kernel
theorem dX12_opens_28 : decode cX12_opens 28 = .ok (.iload_n 3, 1) := by decide +kernel
theorem dX12_opens_29 : decode cX12_opens 29 = .ok (.iastore, 1) := by decide +kernel
theorem dX12_opens_30 : decode cX12_opens 30 = .ok (.aload_n 0, 1) := by decide +kernel
theorem dX12_opens_31 : decode cX12_opens 31 = .ok (.dup, 1) := by decide +kernel
theorem dX12_opens_32 : decode cX12_opens 32 = .ok (.getfield 355, 3) := by decide +kernel
theorem dX12_opens_35 : decode cX12_opens 35 = .ok (.iconst 1, 1) := by decide +kernel
theorem dX12_opens_36 : decode cX12_opens 36 = .ok (.iadd, 1) := by decide +kernel
theorem dX12_opens_37 : decode cX12_opens 37 = .ok (.putfield 355, 3) := by decide +kernel
theorem dX12_opens_40 : decode cX12_opens 40 = .ok (.return_, 1) := by decide +kernel
theorem dX12_reduce_0 : decode cX12_reduce 0 = .ok (.aload_n 0, 1) := by decide +kernel
theorem dX12_reduce_1 : decode cX12_reduce 1 = .ok (.getfield 355, 3) := by decide +kernel
theorem dX12_reduce_4 : decode cX12_reduce 4 = .ok (.ifCond .le 97, 3) := by decide +kernel
theorem dX12_reduce_7 : decode cX12_reduce 7 = .ok (.aload_n 0, 1) := by decide +kernel
theorem dX12_reduce_8 : decode cX12_reduce 8 = .ok (.getfield 227, 3) := by decide +kernel
theorem dX12_reduce_11 : decode cX12_reduce 11 = .ok (.aload_n 0, 1) := by decide +kernel
theorem dX12_reduce_12 : decode cX12_reduce 12 = .ok (.getfield 355, 3) := by decide +kernel
theorem dX12_reduce_15 : decode cX12_reduce 15 = .ok (.iconst 1, 1) := by decide +kernel
theorem dX12_reduce_16 : decode cX12_reduce 16 = .ok (.isub, 1) := by decide +kernel
theorem dX12_reduce_17 : decode cX12_reduce 17 = .ok (.iaload, 1) := by decide +kernel
theorem dX12_reduce_18 : decode cX12_reduce 18 = .ok (.iconst 2, 1) := by decide +kernel
theorem dX12_reduce_19 : decode cX12_reduce 19 = .ok (.if_icmp .lt 82, 3) := by decide +kernel
theorem dX12_reduce_22 : decode cX12_reduce 22 = .ok (.aload_n 0, 1) := by decide +kernel
theorem dX12_reduce_23 : decode cX12_reduce 23 = .ok (.getfield 233, 3) := by decide +kernel
theorem dX12_reduce_26 : decode cX12_reduce 26 = .ok (.aload_n 0, 1) := by decide +kernel
theorem dX12_reduce_27 : decode cX12_reduce 27 = .ok (.getfield 355, 3) := by decide +kernel
theorem dX12_reduce_30 : decode cX12_reduce 30 = .ok (.iconst 1, 1) := by decide +kernel
theorem dX12_reduce_31 : decode cX12_reduce 31 = .ok (.isub, 1) := by decide +kernel
theorem dX12_reduce_32 : decode cX12_reduce 32 = .ok (.iaload, 1) := by decide +kernel
theorem dX12_reduce_33 : decode cX12_reduce 33 = .ok (.iload_n 1, 1) := by decide +kernel
theorem dX12_reduce_34 : decode cX12_reduce 34 = .ok (.if_icmp .le 67, 3) := by decide +kernel
theorem dX12_reduce_37 : decode cX12_reduce 37 = .ok (.aload_n 0, 1) := by decide +kernel
theorem dX12_reduce_38 : decode cX12_reduce 38 = .ok (.dup, 1) := by decide +kernel
theorem dX12_reduce_39 : decode cX12_reduce 39 = .ok (.getfield 355, 3) := by decide +kernel
theorem dX12_reduce_42 : decode cX12_reduce 42 = .ok (.iconst 1, 1) := by decide +kernel
theorem dX12_reduce_43 : decode cX12_reduce 43 = .ok (.isub, 1) := by decide +kernel
theorem dX12_reduce_44 : decode cX12_reduce 44 = .ok (.putfield 355, 3) := by decide +kernel
theorem dX12_reduce_47 : decode cX12_reduce 47 = .ok (.aload_n 0, 1) := by decide +kernel
theorem dX12_reduce_48 : decode cX12_reduce 48 = .ok (.getfield 227, 3) := by decide +kernel
theorem dX12_reduce_51 : decode cX12_reduce 51 = .ok (.aload_n 0, 1) := by decide +kernel
theorem dX12_reduce_52 : decode cX12_reduce 52 = .ok (.getfield 355, 3) := by decide +kernel
theorem dX12_reduce_55 : decode cX12_reduce 55 = .ok (.iaload, 1) := by decide +kernel
theorem dX12_reduce_56 : decode cX12_reduce 56 = .ok (.iconst 2, 1) := by decide +kernel
theorem dX12_reduce_57 : decode cX12_reduce 57 = .ok (.if_icmp .ne 7, 3) := by decide +kernel
theorem dX12_reduce_60 : decode cX12_reduce 60 = .ok (.iconst 1, 1) := by decide +kernel
theorem dX12_reduce_61 : decode cX12_reduce 61 = .ok (.goto 4, 3) := by decide +kernel
theorem dX12_reduce_64 : decode cX12_reduce 64 = .ok (.iconst 0, 1) := by decide +kernel
theorem dX12_reduce_65 : decode cX12_reduce 65 = .ok (.istore_n 2, 1) := by decide +kernel
theorem dX12_reduce_66 : decode cX12_reduce 66 = .ok (.aload_n 0, 1) := by decide +kernel
theorem dX12_reduce_67 : decode cX12_reduce 67 = .ok (.iconst 3, 1) := by decide +kernel
theorem dX12_reduce_68 : decode cX12_reduce 68 = .ok (.aload_n 0, 1) := by decide +kernel
theorem dX12_reduce_69 : decode cX12_reduce 69 = .ok (.getfield 230, 3) := by decide +kernel
theorem dX12_reduce_72 : decode cX12_reduce 72 = .ok (.aload_n 0, 1) := by decide +kernel
theorem dX12_reduce_73 : decode cX12_reduce 73 = .ok (.getfield 355, 3) := by decide +kernel
theorem dX12_reduce_76 : decode cX12_reduce 76 = .ok (.iaload, 1) := by decide +kernel
theorem dX12_reduce_77 : decode cX12_reduce 77 = .ok (.iload_n 2, 1) := by decide +kernel
theorem dX12_reduce_78 : decode cX12_reduce 78 = .ok (.ifCond .eq 7, 3) := by decide +kernel
theorem dX12_reduce_81 : decode cX12_reduce 81 = .ok (.iconst 0, 1) := by decide +kernel
theorem dX12_reduce_82 : decode cX12_reduce 82 = .ok (.goto 4, 3) := by decide +kernel
theorem dX12_reduce_85 : decode cX12_reduce 85 = .ok (.iconst 2, 1) := by decide +kernel
theorem dX12_reduce_86 : decode cX12_reduce 86 = .ok (.iload_n 2, 1) := by decide +kernel
theorem dX12_reduce_87 : decode cX12_reduce 87 = .ok (.ifCond .eq 7, 3) := by decide +kernel
theorem dX12_reduce_90 : decode cX12_reduce 90 = .ok (.iconst 1, 1) := by decide +kernel
theorem dX12_reduce_91 : decode cX12_reduce 91 = .ok (.goto 4, 3) := by decide +kernel
theorem dX12_reduce_94 : decode cX12_reduce 94 = .ok (.iconst 2, 1) := by decide +kernel
theorem dX12_reduce_95 : decode cX12_reduce 95 = .ok (.invokevirtual 358, 3) := by decide +kernel
theorem dX12_reduce_98 : decode cX12_reduce 98 = .ok (.goto (-98), 3) := by decide +kernel
theorem dX12_reduce_101 : decode cX12_reduce 101 = .ok (.return_, 1) := by decide +kernel
theorem dX12_isNeither_0 : decode cX12_isNeither 0 = .ok (.aload_n 0, 1) := by decide +kernel
theorem dX12_isNeither_1 : decode cX12_isNeither 1 = .ok (.getfield 221, 3) := by decide +kernel
theorem dX12_isNeither_4 : decode cX12_isNeither 4 = .ok (.aload_n 0, 1) := by decide +kernel
theorem dX12_isNeither_5 : decode cX12_isNeither 5 = .ok (.getfield 352, 3) := by decide +kernel
theorem dX12_isNeither_8 : decode cX12_isNeither 8 = .ok (.iconst 1, 1) := by decide +kernel
theorem dX12_isNeither_9 : decode cX12_isNeither 9 = .ok (.isub, 1) := by decide +kernel
theorem dX12_isNeither_10 : decode cX12_isNeither 10 = .ok (.iaload, 1) := by decide +kernel
theorem dX12_isNeither_11 : decode cX12_isNeither 11 = .ok (.istore_n 2, 1) := by decide +kernel
theorem dX12_isNeither_12 : decode cX12_isNeither 12 = .ok (.aload_n 0, 1) := by decide +kernel
theorem dX12_isNeither_13 : decode cX12_isNeither 13 = .ok (.getfield 224, 3) := by decide +kernel
theorem dX12_isNeither_16 : decode cX12_isNeither 16 = .ok (.aload_n 0, 1) := by decide +kernel
theorem dX12_isNeither_17 : decode cX12_isNeither 17 = .ok (.getfield 352, 3) := by decide +kernel
theorem dX12_isNeither_20 : decode cX12_isNeither 20 = .ok (.iconst 1, 1) := by decide +kernel
theorem dX12_isNeither_21 : decode cX12_isNeither 21 = .ok (.isub, 1) := by decide +kernel
theorem dX12_isNeither_22 : decode cX12_isNeither 22 = .ok (.baload, 1) := by decide +kernel
theorem dX12_isNeither_23 : decode cX12_isNeither 23 = .ok (.ifCond .ne 42, 3) := by decide +kernel
theorem dX12_isNeither_26 : decode cX12_isNeither 26 = .ok (.aload_n 0, 1) := by decide +kernel
theorem dX12_isNeither_27 : decode cX12_isNeither 27 = .ok (.getfield 203, 3) := by decide +kernel
theorem dX12_isNeither_30 : decode cX12_isNeither 30 = .ok (.iload_n 2, 1) := by decide +kernel
theorem dX12_isNeither_31 : decode cX12_isNeither 31 = .ok (.iaload, 1) := by decide +kernel
theorem dX12_isNeither_32 : decode cX12_isNeither 32 = .ok (.iconst 3, 1) := by decide +kernel
theorem dX12_isNeither_33 : decode cX12_isNeither 33 = .ok (.if_icmp .ne 32, 3) := by decide +kernel
theorem dX12_isNeither_36 : decode cX12_isNeither 36 = .ok (.aload_n 0, 1) := by decide +kernel
theorem dX12_isNeither_37 : decode cX12_isNeither 37 = .ok (.getfield 209, 3) := by decide +kernel
theorem dX12_isNeither_40 : decode cX12_isNeither 40 = .ok (.iload_n 2, 1) := by decide +kernel
theorem dX12_isNeither_41 : decode cX12_isNeither 41 = .ok (.iaload, 1) := by decide +kernel
theorem dX12_isNeither_42 : decode cX12_isNeither 42 = .ok (.iconst 2, 1) := by decide +kernel
theorem dX12_isNeither_43 : decode cX12_isNeither 43 = .ok (.if_icmp .ne 22, 3) := by decide +kernel
theorem dX12_isNeither_46 : decode cX12_isNeither 46 = .ok (.aload_n 0, 1) := by decide +kernel
theorem dX12_isNeither_47 : decode cX12_isNeither 47 = .ok (.aload_n 0, 1) := by decide +kernel
theorem dX12_isNeither_48 : decode cX12_isNeither 48 = .ok (.getfield 206, 3) := by decide +kernel
theorem dX12_isNeither_51 : decode cX12_isNeither 51 = .ok (.iload_n 2, 1) := by decide +kernel
theorem dX12_isNeither_52 : decode cX12_isNeither 52 = .ok (.iaload, 1) := by decide +kernel
theorem dX12_isNeither_53 : decode cX12_isNeither 53 = .ok (.iconst 2, 1) := by decide +kernel
theorem dX12_isNeither_54 : decode cX12_isNeither 54 = .ok (.invokevirtual 361, 3) := by decide +kernel
theorem dX12_isNeither_57 : decode cX12_isNeither 57 = .ok (.iload_n 1, 1) := by decide +kernel
theorem dX12_isNeither_58 : decode cX12_isNeither 58 = .ok (.if_icmp .ne 7, 3) := by decide +kernel
theorem dX12_isNeither_61 : decode cX12_isNeither 61 = .ok (.iconst 1, 1) := by decide +kernel
theorem dX12_isNeither_62 : decode cX12_isNeither 62 = .ok (.goto 4, 3) := by decide +kernel
theorem dX12_isNeither_65 : decode cX12_isNeither 65 = .ok (.iconst 0, 1) := by decide +kernel
theorem dX12_isNeither_66 : decode cX12_isNeither 66 = .ok (.ireturn, 1) := by decide +kernel
theorem dX12_nextWord_0 : decode cX12_nextWord 0 = .ok (.iload_n 1, 1) := by decide +kernel
theorem dX12_nextWord_1 : decode cX12_nextWord 1 = .ok (.iconst 1, 1) := by decide +kernel
theorem dX12_nextWord_2 : decode cX12_nextWord 2 = .ok (.iadd, 1) := by decide +kernel
theorem dX12_nextWord_3 : decode cX12_nextWord 3 = .ok (.istore_n 2, 1) := by decide +kernel
theorem dX12_nextWord_4 : decode cX12_nextWord 4 = .ok (.iload_n 2, 1) := by decide +kernel
theorem dX12_nextWord_5 : decode cX12_nextWord 5 = .ok (.aload_n 0, 1) := by decide +kernel
theorem dX12_nextWord_6 : decode cX12_nextWord 6 = .ok (.getfield 327, 3) := by decide +kernel
theorem dX12_nextWord_9 : decode cX12_nextWord 9 = .ok (.if_icmp .ge 18, 3) := by decide +kernel
theorem dX12_nextWord_12 : decode cX12_nextWord 12 = .ok (.aload_n 0, 1) := by decide +kernel
theorem dX12_nextWord_13 : decode cX12_nextWord 13 = .ok (.getfield 199, 3) := by decide +kernel
theorem dX12_nextWord_16 : decode cX12_nextWord 16 = .ok (.iload_n 2, 1) := by decide +kernel
theorem dX12_nextWord_17 : decode cX12_nextWord 17 = .ok (.baload, 1) := by decide +kernel
theorem dX12_nextWord_18 : decode cX12_nextWord 18 = .ok (.ifCond .eq 9, 3) := by decide +kernel
theorem dX12_nextWord_21 : decode cX12_nextWord 21 = .ok (.iinc 2 1, 3) := by decide +kernel
theorem dX12_nextWord_24 : decode cX12_nextWord 24 = .ok (.goto (-20), 3) := by decide +kernel
theorem dX12_nextWord_27 : decode cX12_nextWord 27 = .ok (.iload_n 2, 1) := by decide +kernel
theorem dX12_nextWord_28 : decode cX12_nextWord 28 = .ok (.ireturn, 1) := by decide +kernel
theorem dX12_operand_0 : decode cX12_operand 0 = .ok (.aload_n 0, 1) := by decide +kernel
theorem dX12_operand_1 : decode cX12_operand 1 = .ok (.getfield 187, 3) := by decide +kernel
theorem dX12_operand_4 : decode cX12_operand 4 = .ok (.iload_n 1, 1) := by decide +kernel
theorem dX12_operand_5 : decode cX12_operand 5 = .ok (.iaload, 1) := by decide +kernel
theorem dX12_operand_6 : decode cX12_operand 6 = .ok (.tableswitch 148 0 3 #[30, 45, 108, 99], 30) := by decide +kernel
theorem dX12_operand_36 : decode cX12_operand 36 = .ok (.aload_n 0, 1) := by decide +kernel
theorem dX12_operand_37 : decode cX12_operand 37 = .ok (.iconst 0, 1) := by decide +kernel
theorem dX12_operand_38 : decode cX12_operand 38 = .ok (.aload_n 0, 1) := by decide +kernel
theorem dX12_operand_39 : decode cX12_operand 39 = .ok (.getfield 190, 3) := by decide +kernel
theorem dX12_operand_42 : decode cX12_operand 42 = .ok (.iload_n 1, 1) := by decide +kernel
theorem dX12_operand_43 : decode cX12_operand 43 = .ok (.iaload, 1) := by decide +kernel
theorem dX12_operand_44 : decode cX12_operand 44 = .ok (.iconst (-1), 1) := by decide +kernel
theorem dX12_operand_45 : decode cX12_operand 45 = .ok (.iconst 0, 1) := by decide +kernel
theorem dX12_operand_46 : decode cX12_operand 46 = .ok (.invokevirtual 358, 3) := by decide +kernel
theorem dX12_operand_49 : decode cX12_operand 49 = .ok (.iconst 1, 1) := by decide +kernel
theorem dX12_operand_50 : decode cX12_operand 50 = .ok (.ireturn, 1) := by decide +kernel
theorem dX12_operand_51 : decode cX12_operand 51 = .ok (.aload_n 0, 1) := by decide +kernel
theorem dX12_operand_52 : decode cX12_operand 52 = .ok (.iload_n 1, 1) := by decide +kernel
theorem dX12_operand_53 : decode cX12_operand 53 = .ok (.invokevirtual 364, 3) := by decide +kernel
theorem dX12_operand_56 : decode cX12_operand 56 = .ok (.istore_n 2, 1) := by decide +kernel
theorem dX12_operand_57 : decode cX12_operand 57 = .ok (.iload_n 2, 1) := by decide +kernel
theorem dX12_operand_58 : decode cX12_operand 58 = .ok (.aload_n 0, 1) := by decide +kernel
theorem dX12_operand_59 : decode cX12_operand 59 = .ok (.getfield 327, 3) := by decide +kernel
theorem dX12_operand_62 : decode cX12_operand 62 = .ok (.if_icmp .ge 28, 3) := by decide +kernel
theorem dX12_operand_65 : decode cX12_operand 65 = .ok (.aload_n 0, 1) := by decide +kernel
theorem dX12_operand_66 : decode cX12_operand 66 = .ok (.getfield 187, 3) := by decide +kernel
theorem dX12_operand_69 : decode cX12_operand 69 = .ok (.iload_n 2, 1) := by decide +kernel
theorem dX12_operand_70 : decode cX12_operand 70 = .ok (.iaload, 1) := by decide +kernel
theorem dX12_operand_71 : decode cX12_operand 71 = .ok (.iconst 3, 1) := by decide +kernel
theorem dX12_operand_72 : decode cX12_operand 72 = .ok (.if_icmp .ne 18, 3) := by decide +kernel
theorem dX12_operand_75 : decode cX12_operand 75 = .ok (.aload_n 0, 1) := by decide +kernel
theorem dX12_operand_76 : decode cX12_operand 76 = .ok (.iconst 1, 1) := by decide +kernel
theorem dX12_operand_77 : decode cX12_operand 77 = .ok (.aload_n 0, 1) := by decide +kernel
theorem dX12_operand_78 : decode cX12_operand 78 = .ok (.getfield 190, 3) := by decide +kernel
theorem dX12_operand_81 : decode cX12_operand 81 = .ok (.iload_n 1, 1) := by decide +kernel
theorem dX12_operand_82 : decode cX12_operand 82 = .ok (.iaload, 1) := by decide +kernel
theorem dX12_operand_83 : decode cX12_operand 83 = .ok (.iconst 1, 1) := by decide +kernel
theorem dX12_operand_84 : decode cX12_operand 84 = .ok (.invokevirtual 367, 3) := by decide +kernel
theorem dX12_operand_87 : decode cX12_operand 87 = .ok (.goto 16, 3) := by decide +kernel
theorem dX12_operand_90 : decode cX12_operand 90 = .ok (.aload_n 0, 1) := by decide +kernel
theorem dX12_operand_91 : decode cX12_operand 91 = .ok (.iconst 1, 1) := by decide +kernel
theorem dX12_operand_92 : decode cX12_operand 92 = .ok (.aload_n 0, 1) := by decide +kernel
theorem dX12_operand_93 : decode cX12_operand 93 = .ok (.getfield 190, 3) := by decide +kernel
theorem dX12_operand_96 : decode cX12_operand 96 = .ok (.iload_n 1, 1) := by decide +kernel
theorem dX12_operand_97 : decode cX12_operand 97 = .ok (.iaload, 1) := by decide +kernel
theorem dX12_operand_98 : decode cX12_operand 98 = .ok (.iconst (-1), 1) := by decide +kernel
theorem dX12_operand_99 : decode cX12_operand 99 = .ok (.iconst 0, 1) := by decide +kernel
theorem dX12_operand_100 : decode cX12_operand 100 = .ok (.invokevirtual 358, 3) := by decide +kernel
theorem dX12_operand_103 : decode cX12_operand 103 = .ok (.iconst 1, 1) := by decide +kernel
theorem dX12_operand_104 : decode cX12_operand 104 = .ok (.ireturn, 1) := by decide +kernel
theorem dX12_operand_105 : decode cX12_operand 105 = .ok (.aload_n 0, 1) := by decide +kernel
theorem dX12_operand_106 : decode cX12_operand 106 = .ok (.iconst 0, 1) := by decide +kernel
theorem dX12_operand_107 : decode cX12_operand 107 = .ok (.iconst 0, 1) := by decide +kernel
theorem dX12_operand_108 : decode cX12_operand 108 = .ok (.iconst 0, 1) := by decide +kernel
theorem dX12_operand_109 : decode cX12_operand 109 = .ok (.invokevirtual 367, 3) := by decide +kernel
theorem dX12_operand_112 : decode cX12_operand 112 = .ok (.iconst 1, 1) := by decide +kernel
theorem dX12_operand_113 : decode cX12_operand 113 = .ok (.ireturn, 1) := by decide +kernel
theorem dX12_operand_114 : decode cX12_operand 114 = .ok (.aload_n 0, 1) := by decide +kernel
theorem dX12_operand_115 : decode cX12_operand 115 = .ok (.aload_n 0, 1) := by decide +kernel
theorem dX12_operand_116 : decode cX12_operand 116 = .ok (.getfield 190, 3) := by decide +kernel
theorem dX12_operand_119 : decode cX12_operand 119 = .ok (.iload_n 1, 1) := by decide +kernel
theorem dX12_operand_120 : decode cX12_operand 120 = .ok (.iaload, 1) := by decide +kernel
theorem dX12_operand_121 : decode cX12_operand 121 = .ok (.iconst 0, 1) := by decide +kernel
theorem dX12_operand_122 : decode cX12_operand 122 = .ok (.invokevirtual 361, 3) := by decide +kernel
theorem dX12_operand_125 : decode cX12_operand 125 = .ok (.istore_n 3, 1) := by decide +kernel
theorem dX12_operand_126 : decode cX12_operand 126 = .ok (.iload_n 3, 1) := by decide +kernel
theorem dX12_operand_127 : decode cX12_operand 127 = .ok (.ifCond .le 17, 3) := by decide +kernel
theorem dX12_operand_130 : decode cX12_operand 130 = .ok (.aload_n 0, 1) := by decide +kernel
theorem dX12_operand_131 : decode cX12_operand 131 = .ok (.iconst 2, 1) := by decide +kernel
theorem dX12_operand_132 : decode cX12_operand 132 = .ok (.aload_n 0, 1) := by decide +kernel
theorem dX12_operand_133 : decode cX12_operand 133 = .ok (.getfield 190, 3) := by decide +kernel
theorem dX12_operand_136 : decode cX12_operand 136 = .ok (.iload_n 1, 1) := by decide +kernel
theorem dX12_operand_137 : decode cX12_operand 137 = .ok (.iaload, 1) := by decide +kernel
theorem dX12_operand_138 : decode cX12_operand 138 = .ok (.iload_n 3, 1) := by decide +kernel
theorem dX12_operand_139 : decode cX12_operand 139 = .ok (.iconst 1, 1) := by decide +kernel
theorem dX12_operand_140 : decode cX12_operand 140 = .ok (.iadd, 1) := by decide +kernel
theorem dX12_operand_141 : decode cX12_operand 141 = .ok (.invokevirtual 367, 3) := by decide +kernel
theorem dX12_operand_144 : decode cX12_operand 144 = .ok (.iload_n 3, 1) := by decide +kernel
theorem dX12_operand_145 : decode cX12_operand 145 = .ok (.ifCond .le 7, 3) := by decide +kernel
theorem dX12_operand_148 : decode cX12_operand 148 = .ok (.iconst 1, 1) := by decide +kernel
theorem dX12_operand_149 : decode cX12_operand 149 = .ok (.goto 4, 3) := by decide +kernel
theorem dX12_operand_152 : decode cX12_operand 152 = .ok (.iconst 0, 1) := by decide +kernel
theorem dX12_operand_153 : decode cX12_operand 153 = .ok (.ireturn, 1) := by decide +kernel
theorem dX12_operand_154 : decode cX12_operand 154 = .ok (.iconst 0, 1) := by decide +kernel
theorem dX12_operand_155 : decode cX12_operand 155 = .ok (.ireturn, 1) := by decide +kernel
theorem dX12_sign__0 : decode cX12_sign_ 0 = .ok (.aload_n 0, 1) := by decide +kernel
theorem dX12_sign__1 : decode cX12_sign_ 1 = .ok (.iload_n 2, 1) := by decide +kernel
theorem dX12_sign__2 : decode cX12_sign_ 2 = .ok (.iconst 2, 1) := by decide +kernel
theorem dX12_sign__3 : decode cX12_sign_ 3 = .ok (.invokevirtual 361, 3) := by decide +kernel
theorem dX12_sign__6 : decode cX12_sign_ 6 = .ok (.istore_n 3, 1) := by decide +kernel
theorem dX12_sign__7 : decode cX12_sign_ 7 = .ok (.aload_n 0, 1) := by decide +kernel
theorem dX12_sign__8 : decode cX12_sign_ 8 = .ok (.iload_n 2, 1) := by decide +kernel
theorem dX12_sign__9 : decode cX12_sign_ 9 = .ok (.iconst 1, 1) := by decide +kernel
theorem dX12_sign__10 : decode cX12_sign_ 10 = .ok (.invokevirtual 361, 3) := by decide +kernel
theorem dX12_sign__13 : decode cX12_sign_ 13 = .ok (.istore 4, 2) := by decide +kernel
theorem dX12_sign__15 : decode cX12_sign_ 15 = .ok (.iload_n 3, 1) := by decide +kernel
theorem dX12_sign__16 : decode cX12_sign_ 16 = .ok (.ifCond .le 68, 3) := by decide +kernel
theorem dX12_sign__19 : decode cX12_sign_ 19 = .ok (.aload_n 0, 1) := by decide +kernel
theorem dX12_sign__20 : decode cX12_sign_ 20 = .ok (.iload_n 3, 1) := by decide +kernel
theorem dX12_sign__21 : decode cX12_sign_ 21 = .ok (.invokevirtual 369, 3) := by decide +kernel
theorem dX12_sign__24 : decode cX12_sign_ 24 = .ok (.aload_n 0, 1) := by decide +kernel
theorem dX12_sign__25 : decode cX12_sign_ 25 = .ok (.getfield 159, 3) := by decide +kernel
theorem dX12_sign__28 : decode cX12_sign_ 28 = .ok (.iconst 3, 1) := by decide +kernel
theorem dX12_sign__29 : decode cX12_sign_ 29 = .ok (.iload_n 2, 1) := by decide +kernel
theorem dX12_sign__30 : decode cX12_sign_ 30 = .ok (.invokestatic 156, 3) := by decide +kernel
theorem dX12_sign__33 : decode cX12_sign_ 33 = .ok (.imul, 1) := by decide +kernel
theorem dX12_sign__34 : decode cX12_sign_ 34 = .ok (.iconst 2, 1) := by decide +kernel
theorem dX12_sign__35 : decode cX12_sign_ 35 = .ok (.iadd, 1) := by decide +kernel
theorem dX12_sign__36 : decode cX12_sign_ 36 = .ok (.iaload, 1) := by decide +kernel
theorem dX12_sign__37 : decode cX12_sign_ 37 = .ok (.iconst 2, 1) := by decide +kernel
theorem dX12_sign__38 : decode cX12_sign_ 38 = .ok (.if_icmp .ne 13, 3) := by decide +kernel
theorem dX12_sign__41 : decode cX12_sign_ 41 = .ok (.aload_n 0, 1) := by decide +kernel
theorem dX12_sign__42 : decode cX12_sign_ 42 = .ok (.iload_n 3, 1) := by decide +kernel
theorem dX12_sign__43 : decode cX12_sign_ 43 = .ok (.invokevirtual 372, 3) := by decide +kernel
theorem dX12_sign__46 : decode cX12_sign_ 46 = .ok (.ifCond .eq 5, 3) := by decide +kernel
theorem dX12_sign__49 : decode cX12_sign_ 49 = .ok (.iconst 0, 1) := by decide +kernel
theorem dX12_sign__50 : decode cX12_sign_ 50 = .ok (.ireturn, 1) := by decide +kernel
theorem dX12_sign__51 : decode cX12_sign_ 51 = .ok (.aload_n 0, 1) := by decide +kernel
theorem dX12_sign__52 : decode cX12_sign_ 52 = .ok (.iconst 3, 1) := by decide +kernel
theorem dX12_sign__53 : decode cX12_sign_ 53 = .ok (.iload_n 2, 1) := by decide +kernel
theorem dX12_sign__54 : decode cX12_sign_ 54 = .ok (.aload_n 0, 1) := by decide +kernel
theorem dX12_sign__55 : decode cX12_sign_ 55 = .ok (.getfield 159, 3) := by decide +kernel
theorem dX12_sign__58 : decode cX12_sign_ 58 = .ok (.iconst 3, 1) := by decide +kernel
theorem dX12_sign__59 : decode cX12_sign_ 59 = .ok (.iload_n 2, 1) := by decide +kernel
theorem dX12_sign__60 : decode cX12_sign_ 60 = .ok (.invokestatic 156, 3) := by decide +kernel
theorem dX12_sign__63 : decode cX12_sign_ 63 = .ok (.imul, 1) := by decide +kernel
theorem dX12_sign__64 : decode cX12_sign_ 64 = .ok (.iconst 2, 1) := by decide +kernel
theorem dX12_sign__65 : decode cX12_sign_ 65 = .ok (.iadd, 1) := by decide +kernel
theorem dX12_sign__66 : decode cX12_sign_ 66 = .ok (.iaload, 1) := by decide +kernel
theorem dX12_sign__67 : decode cX12_sign_ 67 = .ok (.iconst 1, 1) := by decide +kernel
theorem dX12_sign__68 : decode cX12_sign_ 68 = .ok (.if_icmp .ne 7, 3) := by decide +kernel
theorem dX12_sign__71 : decode cX12_sign_ 71 = .ok (.iload_n 3, 1) := by decide +kernel
theorem dX12_sign__72 : decode cX12_sign_ 72 = .ok (.goto 6, 3) := by decide +kernel
theorem dX12_sign__75 : decode cX12_sign_ 75 = .ok (.iload_n 3, 1) := by decide +kernel
theorem dX12_sign__76 : decode cX12_sign_ 76 = .ok (.iconst 1, 1) := by decide +kernel
theorem dX12_sign__77 : decode cX12_sign_ 77 = .ok (.iadd, 1) := by decide +kernel
theorem dX12_sign__78 : decode cX12_sign_ 78 = .ok (.invokevirtual 367, 3) := by decide +kernel
theorem dX12_sign__81 : decode cX12_sign_ 81 = .ok (.goto 22, 3) := by decide +kernel
theorem dX12_sign__84 : decode cX12_sign_ 84 = .ok (.iload 4, 2) := by decide +kernel
theorem dX12_sign__86 : decode cX12_sign_ 86 = .ok (.ifCond .le 17, 3) := by decide +kernel
theorem dX12_sign__89 : decode cX12_sign_ 89 = .ok (.aload_n 0, 1) := by decide +kernel
theorem dX12_sign__90 : decode cX12_sign_ 90 = .ok (.iload 4, 2) := by decide +kernel
theorem dX12_sign__92 : decode cX12_sign_ 92 = .ok (.invokevirtual 369, 3) := by decide +kernel
theorem dX12_sign__95 : decode cX12_sign_ 95 = .ok (.aload_n 0, 1) := by decide +kernel
theorem dX12_sign__96 : decode cX12_sign_ 96 = .ok (.iconst 3, 1) := by decide +kernel
theorem dX12_sign__97 : decode cX12_sign_ 97 = .ok (.iload_n 2, 1) := by decide +kernel
theorem dX12_sign__98 : decode cX12_sign_ 98 = .ok (.iconst 1, 1) := by decide +kernel
theorem dX12_sign__99 : decode cX12_sign_ 99 = .ok (.iconst 1, 1) := by decide +kernel
theorem dX12_sign__100 : decode cX12_sign_ 100 = .ok (.invokevirtual 358, 3) := by decide +kernel
theorem dX12_sign__103 : decode cX12_sign_ 103 = .ok (.iload_n 3, 1) := by decide +kernel
theorem dX12_sign__104 : decode cX12_sign_ 104 = .ok (.ifCond .gt 8, 3) := by decide +kernel
theorem dX12_sign__107 : decode cX12_sign_ 107 = .ok (.iload 4, 2) := by decide +kernel
theorem dX12_sign__109 : decode cX12_sign_ 109 = .ok (.ifCond .le 7, 3) := by decide +kernel
theorem dX12_sign__112 : decode cX12_sign_ 112 = .ok (.iconst 1, 1) := by decide +kernel
theorem dX12_sign__113 : decode cX12_sign_ 113 = .ok (.goto 4, 3) := by decide +kernel
theorem dX12_sign__116 : decode cX12_sign_ 116 = .ok (.iconst 0, 1) := by decide +kernel
theorem dX12_sign__117 : decode cX12_sign_ 117 = .ok (.ireturn, 1) := by decide +kernel
theorem dX12_operator_0 : decode cX12_operator 0 = .ok (.aload_n 0, 1) := by decide +kernel
theorem dX12_operator_1 : decode cX12_operator 1 = .ok (.getfield 187, 3) := by decide +kernel
theorem dX12_operator_4 : decode cX12_operator 4 = .ok (.iload_n 1, 1) := by decide +kernel
theorem dX12_operator_5 : decode cX12_operator 5 = .ok (.iaload, 1) := by decide +kernel
theorem dX12_operator_6 : decode cX12_operator 6 = .ok (.iconst 2, 1) := by decide +kernel
theorem dX12_operator_7 : decode cX12_operator 7 = .ok (.if_icmp .ne 15, 3) := by decide +kernel
theorem dX12_operator_10 : decode cX12_operator 10 = .ok (.aload_n 0, 1) := by decide +kernel
theorem dX12_operator_11 : decode cX12_operator 11 = .ok (.iload_n 1, 1) := by decide +kernel
theorem dX12_operator_12 : decode cX12_operator 12 = .ok (.aload_n 0, 1) := by decide +kernel
theorem dX12_operator_13 : decode cX12_operator 13 = .ok (.getfield 190, 3) := by decide +kernel
theorem dX12_operator_16 : decode cX12_operator 16 = .ok (.iload_n 1, 1) := by decide +kernel
theorem dX12_operator_17 : decode cX12_operator 17 = .ok (.iaload, 1) := by decide +kernel
theorem dX12_operator_18 : decode cX12_operator 18 = .ok (.invokevirtual 375, 3) := by decide +kernel
theorem dX12_operator_21 : decode cX12_operator 21 = .ok (.ireturn, 1) := by decide +kernel
theorem dX12_operator_22 : decode cX12_operator 22 = .ok (.aload_n 0, 1) := by decide +kernel
theorem dX12_operator_23 : decode cX12_operator 23 = .ok (.getfield 187, 3) := by decide +kernel
theorem dX12_operator_26 : decode cX12_operator 26 = .ok (.iload_n 1, 1) := by decide +kernel
theorem dX12_operator_27 : decode cX12_operator 27 = .ok (.iaload, 1) := by decide +kernel
theorem dX12_operator_28 : decode cX12_operator 28 = .ok (.iconst 4, 1) := by decide +kernel
theorem dX12_operator_29 : decode cX12_operator 29 = .ok (.if_icmp .eq 15, 3) := by decide +kernel
theorem dX12_operator_32 : decode cX12_operator 32 = .ok (.aload_n 0, 1) := by decide +kernel
theorem dX12_operator_33 : decode cX12_operator 33 = .ok (.getfield 187, 3) := by decide +kernel
theorem dX12_operator_36 : decode cX12_operator 36 = .ok (.iload_n 1, 1) := by decide +kernel
theorem dX12_operator_37 : decode cX12_operator 37 = .ok (.iaload, 1) := by decide +kernel
theorem dX12_operator_38 : decode cX12_operator 38 = .ok (.iconst 5, 1) := by decide +kernel
theorem dX12_operator_39 : decode cX12_operator 39 = .ok (.if_icmp .eq 5, 3) := by decide +kernel
theorem dX12_operator_42 : decode cX12_operator 42 = .ok (.iconst 0, 1) := by decide +kernel
theorem dX12_operator_43 : decode cX12_operator 43 = .ok (.ireturn, 1) := by decide +kernel
theorem dX12_operator_44 : decode cX12_operator 44 = .ok (.aload_n 0, 1) := by decide +kernel
theorem dX12_operator_45 : decode cX12_operator 45 = .ok (.iconst 0, 1) := by decide +kernel
theorem dX12_operator_46 : decode cX12_operator 46 = .ok (.invokevirtual 369, 3) := by decide +kernel
theorem dX12_operator_49 : decode cX12_operator 49 = .ok (.aload_n 0, 1) := by decide +kernel
theorem dX12_operator_50 : decode cX12_operator 50 = .ok (.getfield 355, 3) := by decide +kernel
theorem dX12_operator_53 : decode cX12_operator 53 = .ok (.ifCond .ne 5, 3) := by decide +kernel
theorem dX12_operator_56 : decode cX12_operator 56 = .ok (.iconst 0, 1) := by decide +kernel
theorem dX12_operator_57 : decode cX12_operator 57 = .ok (.ireturn, 1) := by decide +kernel
theorem dX12_operator_58 : decode cX12_operator 58 = .ok (.aload_n 0, 1) := by decide +kernel
theorem dX12_operator_59 : decode cX12_operator 59 = .ok (.getfield 187, 3) := by decide +kernel
theorem dX12_operator_62 : decode cX12_operator 62 = .ok (.iload_n 1, 1) := by decide +kernel
theorem dX12_operator_63 : decode cX12_operator 63 = .ok (.iaload, 1) := by decide +kernel
theorem dX12_operator_64 : decode cX12_operator 64 = .ok (.iconst 5, 1) := by decide +kernel
theorem dX12_operator_65 : decode cX12_operator 65 = .ok (.if_icmp .ne 54, 3) := by decide +kernel
theorem dX12_operator_68 : decode cX12_operator 68 = .ok (.aload_n 0, 1) := by decide +kernel
theorem dX12_operator_69 : decode cX12_operator 69 = .ok (.getfield 233, 3) := by decide +kernel
theorem dX12_operator_72 : decode cX12_operator 72 = .ok (.aload_n 0, 1) := by decide +kernel
theorem dX12_operator_73 : decode cX12_operator 73 = .ok (.getfield 355, 3) := by decide +kernel
theorem dX12_operator_76 : decode cX12_operator 76 = .ok (.iconst 1, 1) := by decide +kernel
theorem dX12_operator_77 : decode cX12_operator 77 = .ok (.isub, 1) := by decide +kernel
theorem dX12_operator_78 : decode cX12_operator 78 = .ok (.dup2, 1) := by decide +kernel
theorem dX12_operator_79 : decode cX12_operator 79 = .ok (.iaload, 1) := by decide +kernel
theorem dX12_operator_80 : decode cX12_operator 80 = .ok (.iconst 1, 1) := by decide +kernel
theorem dX12_operator_81 : decode cX12_operator 81 = .ok (.iadd, 1) := by decide +kernel
theorem dX12_operator_82 : decode cX12_operator 82 = .ok (.iastore, 1) := by decide +kernel
theorem dX12_operator_83 : decode cX12_operator 83 = .ok (.aload_n 0, 1) := by decide +kernel
theorem dX12_operator_84 : decode cX12_operator 84 = .ok (.getfield 227, 3) := by decide +kernel
theorem dX12_operator_87 : decode cX12_operator 87 = .ok (.aload_n 0, 1) := by decide +kernel
theorem dX12_operator_88 : decode cX12_operator 88 = .ok (.getfield 355, 3) := by decide +kernel
theorem dX12_operator_91 : decode cX12_operator 91 = .ok (.iconst 1, 1) := by decide +kernel
theorem dX12_operator_92 : decode cX12_operator 92 = .ok (.isub, 1) := by decide +kernel
theorem dX12_operator_93 : decode cX12_operator 93 = .ok (.iaload, 1) := by decide +kernel
theorem dX12_operator_94 : decode cX12_operator 94 = .ok (.iconst 1, 1) := by decide +kernel
theorem dX12_operator_95 : decode cX12_operator 95 = .ok (.if_icmp .ne 22, 3) := by decide +kernel
theorem dX12_operator_98 : decode cX12_operator 98 = .ok (.aload_n 0, 1) := by decide +kernel
theorem dX12_operator_99 : decode cX12_operator 99 = .ok (.getfield 233, 3) := by decide +kernel
theorem dX12_operator_102 : decode cX12_operator 102 = .ok (.aload_n 0, 1) := by decide +kernel
theorem dX12_operator_103 : decode cX12_operator 103 = .ok (.getfield 355, 3) := by decide +kernel
theorem dX12_operator_106 : decode cX12_operator 106 = .ok (.iconst 1, 1) := by decide +kernel
theorem dX12_operator_107 : decode cX12_operator 107 = .ok (.isub, 1) := by decide +kernel
theorem dX12_operator_108 : decode cX12_operator 108 = .ok (.iaload, 1) := by decide +kernel
theorem dX12_operator_109 : decode cX12_operator 109 = .ok (.iconst 4, 1) := by decide +kernel
theorem dX12_operator_110 : decode cX12_operator 110 = .ok (.if_icmp .gt 7, 3) := by decide +kernel
theorem dX12_operator_113 : decode cX12_operator 113 = .ok (.iconst 1, 1) := by decide +kernel
theorem dX12_operator_114 : decode cX12_operator 114 = .ok (.goto 4, 3) := by decide +kernel
theorem dX12_operator_117 : decode cX12_operator 117 = .ok (.iconst 0, 1) := by decide +kernel
theorem dX12_operator_118 : decode cX12_operator 118 = .ok (.ireturn, 1) := by decide +kernel
theorem dX12_operator_119 : decode cX12_operator 119 = .ok (.aload_n 0, 1) := by decide +kernel
theorem dX12_operator_120 : decode cX12_operator 120 = .ok (.dup, 1) := by decide +kernel
theorem dX12_operator_121 : decode cX12_operator 121 = .ok (.getfield 355, 3) := by decide +kernel
theorem dX12_operator_124 : decode cX12_operator 124 = .ok (.iconst 1, 1) := by decide +kernel
theorem dX12_operator_125 : decode cX12_operator 125 = .ok (.isub, 1) := by decide +kernel
theorem dX12_operator_126 : decode cX12_operator 126 = .ok (.putfield 355, 3) := by decide +kernel
theorem dX12_operator_129 : decode cX12_operator 129 = .ok (.aload_n 0, 1) := by decide +kernel
theorem dX12_operator_130 : decode cX12_operator 130 = .ok (.getfield 227, 3) := by decide +kernel
theorem dX12_operator_133 : decode cX12_operator 133 = .ok (.aload_n 0, 1) := by decide +kernel
theorem dX12_operator_134 : decode cX12_operator 134 = .ok (.getfield 355, 3) := by decide +kernel
theorem dX12_operator_137 : decode cX12_operator 137 = .ok (.iaload, 1) := by decide +kernel
theorem dX12_operator_138 : decode cX12_operator 138 = .ok (.iconst 1, 1) := by decide +kernel
theorem dX12_operator_139 : decode cX12_operator 139 = .ok (.if_icmp .ne 30, 3) := by decide +kernel
theorem dX12_operator_142 : decode cX12_operator 142 = .ok (.aload_n 0, 1) := by decide +kernel
theorem dX12_operator_143 : decode cX12_operator 143 = .ok (.iconst 2, 1) := by decide +kernel
theorem dX12_operator_144 : decode cX12_operator 144 = .ok (.aload_n 0, 1) := by decide +kernel
theorem dX12_operator_145 : decode cX12_operator 145 = .ok (.getfield 230, 3) := by decide +kernel
theorem dX12_operator_148 : decode cX12_operator 148 = .ok (.aload_n 0, 1) := by decide +kernel
theorem dX12_operator_149 : decode cX12_operator 149 = .ok (.getfield 355, 3) := by decide +kernel
theorem dX12_operator_152 : decode cX12_operator 152 = .ok (.iaload, 1) := by decide +kernel
theorem dX12_operator_153 : decode cX12_operator 153 = .ok (.iconst (-1), 1) := by decide +kernel
theorem dX12_operator_154 : decode cX12_operator 154 = .ok (.aload_n 0, 1) := by decide +kernel
theorem dX12_operator_155 : decode cX12_operator 155 = .ok (.getfield 233, 3) := by decide +kernel
theorem dX12_operator_158 : decode cX12_operator 158 = .ok (.aload_n 0, 1) := by decide +kernel
theorem dX12_operator_159 : decode cX12_operator 159 = .ok (.getfield 355, 3) := by decide +kernel
theorem dX12_operator_162 : decode cX12_operator 162 = .ok (.iaload, 1) := by decide +kernel
theorem dX12_operator_163 : decode cX12_operator 163 = .ok (.invokevirtual 358, 3) := by decide +kernel
theorem dX12_operator_166 : decode cX12_operator 166 = .ok (.goto 15, 3) := by decide +kernel
theorem dX12_operator_169 : decode cX12_operator 169 = .ok (.aload_n 0, 1) := by decide +kernel
theorem dX12_operator_170 : decode cX12_operator 170 = .ok (.getfield 224, 3) := by decide +kernel
theorem dX12_operator_173 : decode cX12_operator 173 = .ok (.aload_n 0, 1) := by decide +kernel
theorem dX12_operator_174 : decode cX12_operator 174 = .ok (.getfield 352, 3) := by decide +kernel
theorem dX12_operator_177 : decode cX12_operator 177 = .ok (.iconst 1, 1) := by decide +kernel
theorem dX12_operator_178 : decode cX12_operator 178 = .ok (.isub, 1) := by decide +kernel
theorem dX12_operator_179 : decode cX12_operator 179 = .ok (.iconst 1, 1) := by decide +kernel
theorem dX12_operator_180 : decode cX12_operator 180 = .ok (.bastore, 1) := by decide +kernel
theorem dX12_operator_181 : decode cX12_operator 181 = .ok (.iconst 1, 1) := by decide +kernel
theorem dX12_operator_182 : decode cX12_operator 182 = .ok (.ireturn, 1) := by decide +kernel
theorem dX12_parse_0 : decode cX12_parse 0 = .ok (.aload_n 0, 1) := by decide +kernel
theorem dX12_parse_1 : decode cX12_parse 1 = .ok (.iconst 0, 1) := by decide +kernel
theorem dX12_parse_2 : decode cX12_parse 2 = .ok (.putfield 349, 3) := by decide +kernel
theorem dX12_parse_5 : decode cX12_parse 5 = .ok (.aload_n 0, 1) := by decide +kernel
theorem dX12_parse_6 : decode cX12_parse 6 = .ok (.iconst 0, 1) := by decide +kernel
theorem dX12_parse_7 : decode cX12_parse 7 = .ok (.putfield 352, 3) := by decide +kernel
theorem dX12_parse_10 : decode cX12_parse 10 = .ok (.aload_n 0, 1) := by decide +kernel
theorem dX12_parse_11 : decode cX12_parse 11 = .ok (.iconst 0, 1) := by decide +kernel
theorem dX12_parse_12 : decode cX12_parse 12 = .ok (.putfield 355, 3) := by decide +kernel
theorem dX12_parse_15 : decode cX12_parse 15 = .ok (.iconst 1, 1) := by decide +kernel
theorem dX12_parse_16 : decode cX12_parse 16 = .ok (.istore_n 1, 1) := by decide +kernel
theorem dX12_parse_17 : decode cX12_parse 17 = .ok (.aload_n 0, 1) := by decide +kernel
theorem dX12_parse_18 : decode cX12_parse 18 = .ok (.iconst (-1), 1) := by decide +kernel
theorem dX12_parse_19 : decode cX12_parse 19 = .ok (.invokevirtual 364, 3) := by decide +kernel
theorem dX12_parse_22 : decode cX12_parse 22 = .ok (.istore_n 2, 1) := by decide +kernel
theorem dX12_parse_23 : decode cX12_parse 23 = .ok (.iload_n 2, 1) := by decide +kernel
theorem dX12_parse_24 : decode cX12_parse 24 = .ok (.aload_n 0, 1) := by decide +kernel
theorem dX12_parse_25 : decode cX12_parse 25 = .ok (.getfield 327, 3) := by decide +kernel
theorem dX12_parse_28 : decode cX12_parse 28 = .ok (.if_icmp .ge 147, 3) := by decide +kernel
theorem dX12_parse_31 : decode cX12_parse 31 = .ok (.iload_n 1, 1) := by decide +kernel
theorem dX12_parse_32 : decode cX12_parse 32 = .ok (.ifCond .eq 84, 3) := by decide +kernel
theorem dX12_parse_35 : decode cX12_parse 35 = .ok (.aload_n 0, 1) := by decide +kernel
theorem dX12_parse_36 : decode cX12_parse 36 = .ok (.iload_n 2, 1) := by decide +kernel
theorem dX12_parse_37 : decode cX12_parse 37 = .ok (.invokevirtual 377, 3) := by decide +kernel
theorem dX12_parse_40 : decode cX12_parse 40 = .ok (.ifCond .ne 5, 3) := by decide +kernel
theorem dX12_parse_43 : decode cX12_parse 43 = .ok (.iload_n 2, 1) := by decide +kernel
theorem dX12_parse_44 : decode cX12_parse 44 = .ok (.ireturn, 1) := by decide +kernel
theorem dX12_parse_45 : decode cX12_parse 45 = .ok (.aload_n 0, 1) := by decide +kernel
theorem dX12_parse_46 : decode cX12_parse 46 = .ok (.getfield 187, 3) := by decide +kernel
theorem dX12_parse_49 : decode cX12_parse 49 = .ok (.iload_n 2, 1) := by decide +kernel
theorem dX12_parse_50 : decode cX12_parse 50 = .ok (.iaload, 1) := by decide +kernel
theorem dX12_parse_51 : decode cX12_parse 51 = .ok (.iconst 1, 1) := by decide +kernel
theorem dX12_parse_52 : decode cX12_parse 52 = .ok (.if_icmp .ne 15, 3) := by decide +kernel
theorem dX12_parse_55 : decode cX12_parse 55 = .ok (.aload_n 0, 1) := by decide +kernel
theorem dX12_parse_56 : decode cX12_parse 56 = .ok (.iload_n 2, 1) := by decide +kernel
theorem dX12_parse_57 : decode cX12_parse 57 = .ok (.invokevirtual 380, 3) := by decide +kernel
theorem dX12_parse_60 : decode cX12_parse 60 = .ok (.ifCond .eq 7, 3) := by decide +kernel
theorem dX12_parse_63 : decode cX12_parse 63 = .ok (.iconst 1, 1) := by decide +kernel
theorem dX12_parse_64 : decode cX12_parse 64 = .ok (.goto 4, 3) := by decide +kernel
theorem dX12_parse_67 : decode cX12_parse 67 = .ok (.iconst 0, 1) := by decide +kernel
theorem dX12_parse_68 : decode cX12_parse 68 = .ok (.istore_n 3, 1) := by decide +kernel
theorem dX12_parse_69 : decode cX12_parse 69 = .ok (.iload_n 3, 1) := by decide +kernel
theorem dX12_parse_70 : decode cX12_parse 70 = .ok (.ifCond .eq 11, 3) := by decide +kernel
theorem dX12_parse_73 : decode cX12_parse 73 = .ok (.aload_n 0, 1) := by decide +kernel
theorem dX12_parse_74 : decode cX12_parse 74 = .ok (.iload_n 2, 1) := by decide +kernel
theorem dX12_parse_75 : decode cX12_parse 75 = .ok (.invokevirtual 364, 3) := by decide +kernel
theorem dX12_parse_78 : decode cX12_parse 78 = .ok (.goto 4, 3) := by decide +kernel
theorem dX12_parse_81 : decode cX12_parse 81 = .ok (.iload_n 2, 1) := by decide +kernel
theorem dX12_parse_82 : decode cX12_parse 82 = .ok (.istore_n 2, 1) := by decide +kernel
theorem dX12_parse_83 : decode cX12_parse 83 = .ok (.iload_n 3, 1) := by decide +kernel
theorem dX12_parse_84 : decode cX12_parse 84 = .ok (.ifCond .ne 23, 3) := by decide +kernel
theorem dX12_parse_87 : decode cX12_parse 87 = .ok (.aload_n 0, 1) := by decide +kernel
theorem dX12_parse_88 : decode cX12_parse 88 = .ok (.getfield 187, 3) := by decide +kernel
theorem dX12_parse_91 : decode cX12_parse 91 = .ok (.iload_n 2, 1) := by decide +kernel
theorem dX12_parse_92 : decode cX12_parse 92 = .ok (.iaload, 1) := by decide +kernel
theorem dX12_parse_93 : decode cX12_parse 93 = .ok (.iconst 3, 1) := by decide +kernel
theorem dX12_parse_94 : decode cX12_parse 94 = .ok (.if_icmp .eq 13, 3) := by decide +kernel
theorem dX12_parse_97 : decode cX12_parse 97 = .ok (.aload_n 0, 1) := by decide +kernel
theorem dX12_parse_98 : decode cX12_parse 98 = .ok (.getfield 187, 3) := by decide +kernel
theorem dX12_parse_101 : decode cX12_parse 101 = .ok (.iload_n 2, 1) := by decide +kernel
theorem dX12_parse_102 : decode cX12_parse 102 = .ok (.iaload, 1) := by decide +kernel
theorem dX12_parse_103 : decode cX12_parse 103 = .ok (.iconst 2, 1) := by decide +kernel
theorem dX12_parse_104 : decode cX12_parse 104 = .ok (.if_icmp .ne 7, 3) := by decide +kernel
theorem dX12_parse_107 : decode cX12_parse 107 = .ok (.iconst 1, 1) := by decide +kernel
theorem dX12_parse_108 : decode cX12_parse 108 = .ok (.goto 4, 3) := by decide +kernel
theorem dX12_parse_111 : decode cX12_parse 111 = .ok (.iconst 0, 1) := by decide +kernel
theorem dX12_parse_112 : decode cX12_parse 112 = .ok (.istore_n 1, 1) := by decide +kernel
theorem dX12_parse_113 : decode cX12_parse 113 = .ok (.goto 53, 3) := by decide +kernel
theorem dX12_parse_116 : decode cX12_parse 116 = .ok (.aload_n 0, 1) := by decide +kernel
theorem dX12_parse_117 : decode cX12_parse 117 = .ok (.iload_n 2, 1) := by decide +kernel
theorem dX12_parse_118 : decode cX12_parse 118 = .ok (.invokevirtual 383, 3) := by decide +kernel
theorem dX12_parse_121 : decode cX12_parse 121 = .ok (.ifCond .ne 5, 3) := by decide +kernel
theorem dX12_parse_124 : decode cX12_parse 124 = .ok (.iload_n 2, 1) := by decide +kernel
theorem dX12_parse_125 : decode cX12_parse 125 = .ok (.ireturn, 1) := by decide +kernel
theorem dX12_parse_126 : decode cX12_parse 126 = .ok (.aload_n 0, 1) := by decide +kernel
theorem dX12_parse_127 : decode cX12_parse 127 = .ok (.getfield 187, 3) := by decide +kernel
theorem dX12_parse_130 : decode cX12_parse 130 = .ok (.iload_n 2, 1) := by decide +kernel
theorem dX12_parse_131 : decode cX12_parse 131 = .ok (.iaload, 1) := by decide +kernel
theorem dX12_parse_132 : decode cX12_parse 132 = .ok (.iconst 5, 1) := by decide +kernel
theorem dX12_parse_133 : decode cX12_parse 133 = .ok (.if_icmp .eq 27, 3) := by decide +kernel
theorem dX12_parse_136 : decode cX12_parse 136 = .ok (.aload_n 0, 1) := by decide +kernel
theorem dX12_parse_137 : decode cX12_parse 137 = .ok (.getfield 187, 3) := by decide +kernel
theorem dX12_parse_140 : decode cX12_parse 140 = .ok (.iload_n 2, 1) := by decide +kernel
theorem dX12_parse_141 : decode cX12_parse 141 = .ok (.iaload, 1) := by decide +kernel
theorem dX12_parse_142 : decode cX12_parse 142 = .ok (.iconst 2, 1) := by decide +kernel
theorem dX12_parse_143 : decode cX12_parse 143 = .ok (.if_icmp .ne 21, 3) := by decide +kernel
theorem dX12_parse_146 : decode cX12_parse 146 = .ok (.aload_n 0, 1) := by decide +kernel
theorem dX12_parse_147 : decode cX12_parse 147 = .ok (.aload_n 0, 1) := by decide +kernel
theorem dX12_parse_148 : decode cX12_parse 148 = .ok (.getfield 190, 3) := by decide +kernel
theorem dX12_parse_151 : decode cX12_parse 151 = .ok (.iload_n 2, 1) := by decide +kernel
theorem dX12_parse_152 : decode cX12_parse 152 = .ok (.iaload, 1) := by decide +kernel
theorem dX12_parse_153 : decode cX12_parse 153 = .ok (.iconst 2, 1) := by decide +kernel
theorem dX12_parse_154 : decode cX12_parse 154 = .ok (.invokevirtual 361, 3) := by decide +kernel
theorem dX12_parse_157 : decode cX12_parse 157 = .ok (.ifCond .le 7, 3) := by decide +kernel
theorem dX12_parse_160 : decode cX12_parse 160 = .ok (.iconst 1, 1) := by decide +kernel
theorem dX12_parse_161 : decode cX12_parse 161 = .ok (.goto 4, 3) := by decide +kernel
theorem dX12_parse_164 : decode cX12_parse 164 = .ok (.iconst 0, 1) := by decide +kernel
theorem dX12_parse_165 : decode cX12_parse 165 = .ok (.istore_n 1, 1) := by decide +kernel
theorem dX12_parse_166 : decode cX12_parse 166 = .ok (.aload_n 0, 1) := by decide +kernel
theorem dX12_parse_167 : decode cX12_parse 167 = .ok (.iload_n 2, 1) := by decide +kernel
theorem dX12_parse_168 : decode cX12_parse 168 = .ok (.invokevirtual 364, 3) := by decide +kernel
theorem dX12_parse_171 : decode cX12_parse 171 = .ok (.istore_n 2, 1) := by decide +kernel
theorem dX12_parse_172 : decode cX12_parse 172 = .ok (.goto (-149), 3) := by decide +kernel
theorem dX12_parse_175 : decode cX12_parse 175 = .ok (.iload_n 1, 1) := by decide +kernel
theorem dX12_parse_176 : decode cX12_parse 176 = .ok (.ifCond .eq 8, 3) := by decide +kernel
theorem dX12_parse_179 : decode cX12_parse 179 = .ok (.aload_n 0, 1) := by decide +kernel
theorem dX12_parse_180 : decode cX12_parse 180 = .ok (.getfield 327, 3) := by decide +kernel
theorem dX12_parse_183 : decode cX12_parse 183 = .ok (.ireturn, 1) := by decide +kernel
theorem dX12_parse_184 : decode cX12_parse 184 = .ok (.aload_n 0, 1) := by decide +kernel
theorem dX12_parse_185 : decode cX12_parse 185 = .ok (.iconst 0, 1) := by decide +kernel
theorem dX12_parse_186 : decode cX12_parse 186 = .ok (.invokevirtual 369, 3) := by decide +kernel
theorem dX12_parse_189 : decode cX12_parse 189 = .ok (.aload_n 0, 1) := by decide +kernel
theorem dX12_parse_190 : decode cX12_parse 190 = .ok (.getfield 355, 3) := by decide +kernel
theorem dX12_parse_193 : decode cX12_parse 193 = .ok (.ifCond .le 10, 3) := by decide +kernel
theorem dX12_parse_196 : decode cX12_parse 196 = .ok (.aload_n 0, 1) := by decide +kernel
theorem dX12_parse_197 : decode cX12_parse 197 = .ok (.getfield 327, 3) := by decide +kernel
theorem dX12_parse_200 : decode cX12_parse 200 = .ok (.goto 4, 3) := by decide +kernel
theorem dX12_parse_203 : decode cX12_parse 203 = .ok (.iconst (-1), 1) := by decide +kernel
theorem dX12_parse_204 : decode cX12_parse 204 = .ok (.ireturn, 1) := by decide +kernel
theorem dX12_opensCall_0 : decode cX12_opensCall 0 = .ok (.aload_n 0, 1) := by decide +kernel
theorem dX12_opensCall_1 : decode cX12_opensCall 1 = .ok (.iload_n 1, 1) := by decide +kernel
theorem dX12_opensCall_2 : decode cX12_opensCall 2 = .ok (.invokevirtual 364, 3) := by decide +kernel
theorem dX12_opensCall_5 : decode cX12_opensCall 5 = .ok (.istore_n 2, 1) := by decide +kernel
theorem dX12_opensCall_6 : decode cX12_opensCall 6 = .ok (.iload_n 2, 1) := by decide +kernel
theorem dX12_opensCall_7 : decode cX12_opensCall 7 = .ok (.aload_n 0, 1) := by decide +kernel
theorem dX12_opensCall_8 : decode cX12_opensCall 8 = .ok (.getfield 327, 3) := by decide +kernel
theorem dX12_opensCall_11 : decode cX12_opensCall 11 = .ok (.if_icmp .ge 17, 3) := by decide +kernel
theorem dX12_opensCall_14 : decode cX12_opensCall 14 = .ok (.aload_n 0, 1) := by decide +kernel
theorem dX12_opensCall_15 : decode cX12_opensCall 15 = .ok (.getfield 187, 3) := by decide +kernel
theorem dX12_opensCall_18 : decode cX12_opensCall 18 = .ok (.iload_n 2, 1) := by decide +kernel
theorem dX12_opensCall_19 : decode cX12_opensCall 19 = .ok (.iaload, 1) := by decide +kernel
theorem dX12_opensCall_20 : decode cX12_opensCall 20 = .ok (.iconst 3, 1) := by decide +kernel
theorem dX12_opensCall_21 : decode cX12_opensCall 21 = .ok (.if_icmp .ne 7, 3) := by decide +kernel
theorem dX12_opensCall_24 : decode cX12_opensCall 24 = .ok (.iconst 1, 1) := by decide +kernel
theorem dX12_opensCall_25 : decode cX12_opensCall 25 = .ok (.goto 4, 3) := by decide +kernel
theorem dX12_opensCall_28 : decode cX12_opensCall 28 = .ok (.iconst 0, 1) := by decide +kernel
theorem dX12_opensCall_29 : decode cX12_opensCall 29 = .ok (.ireturn, 1) := by decide +kernel
theorem dX12_lay_0 : decode cX12_lay 0 = .ok (.aload_n 0, 1) := by decide +kernel
theorem dX12_lay_1 : decode cX12_lay 1 = .ok (.getfield 218, 3) := by decide +kernel
theorem dX12_lay_4 : decode cX12_lay 4 = .ok (.aload_n 0, 1) := by decide +kernel
theorem dX12_lay_5 : decode cX12_lay 5 = .ok (.getfield 349, 3) := by decide +kernel
theorem dX12_lay_8 : decode cX12_lay 8 = .ok (.iconst 1, 1) := by decide +kernel
theorem dX12_lay_9 : decode cX12_lay 9 = .ok (.isub, 1) := by decide +kernel
theorem dX12_lay_10 : decode cX12_lay 10 = .ok (.iconst 0, 1) := by decide +kernel
theorem dX12_lay_11 : decode cX12_lay 11 = .ok (.iastore, 1) := by decide +kernel
theorem dX12_lay_12 : decode cX12_lay 12 = .ok (.aload_n 0, 1) := by decide +kernel
theorem dX12_lay_13 : decode cX12_lay 13 = .ok (.getfield 349, 3) := by decide +kernel
theorem dX12_lay_16 : decode cX12_lay 16 = .ok (.iconst 1, 1) := by decide +kernel
theorem dX12_lay_17 : decode cX12_lay 17 = .ok (.isub, 1) := by decide +kernel
theorem dX12_lay_18 : decode cX12_lay 18 = .ok (.istore_n 2, 1) := by decide +kernel
theorem dX12_lay_19 : decode cX12_lay 19 = .ok (.iload_n 2, 1) := by decide +kernel
theorem dX12_lay_20 : decode cX12_lay 20 = .ok (.ifCond .lt 115, 3) := by decide +kernel
theorem dX12_lay_23 : decode cX12_lay 23 = .ok (.aload_n 0, 1) := by decide +kernel
theorem dX12_lay_24 : decode cX12_lay 24 = .ok (.getfield 218, 3) := by decide +kernel
theorem dX12_lay_27 : decode cX12_lay 27 = .ok (.iload_n 2, 1) := by decide +kernel
theorem dX12_lay_28 : decode cX12_lay 28 = .ok (.iaload, 1) := by decide +kernel
theorem dX12_lay_29 : decode cX12_lay 29 = .ok (.istore_n 3, 1) := by decide +kernel
theorem dX12_lay_30 : decode cX12_lay 30 = .ok (.aload_n 0, 1) := by decide +kernel
theorem dX12_lay_31 : decode cX12_lay 31 = .ok (.iload_n 1, 1) := by decide +kernel
theorem dX12_lay_32 : decode cX12_lay 32 = .ok (.iload_n 3, 1) := by decide +kernel
theorem dX12_lay_33 : decode cX12_lay 33 = .ok (.iadd, 1) := by decide +kernel
theorem dX12_lay_34 : decode cX12_lay 34 = .ok (.aload_n 0, 1) := by decide +kernel
theorem dX12_lay_35 : decode cX12_lay 35 = .ok (.getfield 203, 3) := by decide +kernel
theorem dX12_lay_38 : decode cX12_lay 38 = .ok (.iload_n 2, 1) := by decide +kernel
theorem dX12_lay_39 : decode cX12_lay 39 = .ok (.iaload, 1) := by decide +kernel
theorem dX12_lay_40 : decode cX12_lay 40 = .ok (.aload_n 0, 1) := by decide +kernel
theorem dX12_lay_41 : decode cX12_lay 41 = .ok (.getfield 206, 3) := by decide +kernel
theorem dX12_lay_44 : decode cX12_lay 44 = .ok (.iload_n 2, 1) := by decide +kernel
theorem dX12_lay_45 : decode cX12_lay 45 = .ok (.iaload, 1) := by decide +kernel
theorem dX12_lay_46 : decode cX12_lay 46 = .ok (.aload_n 0, 1) := by decide +kernel
theorem dX12_lay_47 : decode cX12_lay 47 = .ok (.getfield 209, 3) := by decide +kernel
theorem dX12_lay_50 : decode cX12_lay 50 = .ok (.iload_n 2, 1) := by decide +kernel
theorem dX12_lay_51 : decode cX12_lay 51 = .ok (.iaload, 1) := by decide +kernel
theorem dX12_lay_52 : decode cX12_lay 52 = .ok (.aload_n 0, 1) := by decide +kernel
theorem dX12_lay_53 : decode cX12_lay 53 = .ok (.getfield 212, 3) := by decide +kernel
theorem dX12_lay_56 : decode cX12_lay 56 = .ok (.iload_n 2, 1) := by decide +kernel
theorem dX12_lay_57 : decode cX12_lay 57 = .ok (.iaload, 1) := by decide +kernel
theorem dX12_lay_58 : decode cX12_lay 58 = .ok (.invokevirtual 386, 3) := by decide +kernel
theorem dX12_lay_61 : decode cX12_lay 61 = .ok (.iload_n 2, 1) := by decide +kernel
theorem dX12_lay_62 : decode cX12_lay 62 = .ok (.iconst 1, 1) := by decide +kernel
theorem dX12_lay_63 : decode cX12_lay 63 = .ok (.isub, 1) := by decide +kernel
theorem dX12_lay_64 : decode cX12_lay 64 = .ok (.istore 4, 2) := by decide +kernel
theorem dX12_lay_66 : decode cX12_lay 66 = .ok (.iload_n 3, 1) := by decide +kernel
theorem dX12_lay_67 : decode cX12_lay 67 = .ok (.aload_n 0, 1) := by decide +kernel
theorem dX12_lay_68 : decode cX12_lay 68 = .ok (.getfield 215, 3) := by decide +kernel
theorem dX12_lay_71 : decode cX12_lay 71 = .ok (.iload_n 2, 1) := by decide +kernel
theorem dX12_lay_72 : decode cX12_lay 72 = .ok (.iaload, 1) := by decide +kernel
theorem dX12_lay_73 : decode cX12_lay 73 = .ok (.iadd, 1) := by decide +kernel
theorem dX12_lay_74 : decode cX12_lay 74 = .ok (.istore 5, 2) := by decide +kernel
theorem dX12_lay_76 : decode cX12_lay 76 = .ok (.iconst 0, 1) := by decide +kernel
theorem dX12_lay_77 : decode cX12_lay 77 = .ok (.istore 6, 2) := by decide +kernel
theorem dX12_lay_79 : decode cX12_lay 79 = .ok (.iload 6, 2) := by decide +kernel
theorem dX12_lay_81 : decode cX12_lay 81 = .ok (.aload_n 0, 1) := by decide +kernel
theorem dX12_lay_82 : decode cX12_lay 82 = .ok (.getfield 212, 3) := by decide +kernel
theorem dX12_lay_85 : decode cX12_lay 85 = .ok (.iload_n 2, 1) := by decide +kernel
theorem dX12_lay_86 : decode cX12_lay 86 = .ok (.iaload, 1) := by decide +kernel
theorem dX12_lay_87 : decode cX12_lay 87 = .ok (.if_icmp .ge 42, 3) := by decide +kernel
theorem dX12_lay_90 : decode cX12_lay 90 = .ok (.iload 5, 2) := by decide +kernel
theorem dX12_lay_92 : decode cX12_lay 92 = .ok (.aload_n 0, 1) := by decide +kernel
theorem dX12_lay_93 : decode cX12_lay 93 = .ok (.getfield 215, 3) := by decide +kernel
theorem dX12_lay_96 : decode cX12_lay 96 = .ok (.iload 4, 2) := by decide +kernel
theorem dX12_lay_98 : decode cX12_lay 98 = .ok (.iaload, 1) := by decide +kernel
theorem dX12_lay_99 : decode cX12_lay 99 = .ok (.isub, 1) := by decide +kernel
theorem dX12_lay_100 : decode cX12_lay 100 = .ok (.istore 5, 2) := by decide +kernel
theorem dX12_lay_102 : decode cX12_lay 102 = .ok (.aload_n 0, 1) := by decide +kernel
theorem dX12_lay_103 : decode cX12_lay 103 = .ok (.getfield 218, 3) := by decide +kernel
theorem dX12_lay_106 : decode cX12_lay 106 = .ok (.iload 4, 2) := by decide +kernel
theorem dX12_lay_108 : decode cX12_lay 108 = .ok (.iload 5, 2) := by decide +kernel
theorem dX12_lay_110 : decode cX12_lay 110 = .ok (.iastore, 1) := by decide +kernel
theorem dX12_lay_111 : decode cX12_lay 111 = .ok (.iload 4, 2) := by decide +kernel
theorem dX12_lay_113 : decode cX12_lay 113 = .ok (.aload_n 0, 1) := by decide +kernel
theorem dX12_lay_114 : decode cX12_lay 114 = .ok (.getfield 215, 3) := by decide +kernel
theorem dX12_lay_117 : decode cX12_lay 117 = .ok (.iload 4, 2) := by decide +kernel
theorem dX12_lay_119 : decode cX12_lay 119 = .ok (.iaload, 1) := by decide +kernel
theorem dX12_lay_120 : decode cX12_lay 120 = .ok (.isub, 1) := by decide +kernel
theorem dX12_lay_121 : decode cX12_lay 121 = .ok (.istore 4, 2) := by decide +kernel
theorem dX12_lay_123 : decode cX12_lay 123 = .ok (.iinc 6 1, 3) := by decide +kernel
theorem dX12_lay_126 : decode cX12_lay 126 = .ok (.goto (-47), 3) := by decide +kernel
theorem dX12_lay_129 : decode cX12_lay 129 = .ok (.iinc 2 (-1), 3) := by decide +kernel
theorem dX12_lay_132 : decode cX12_lay 132 = .ok (.goto (-113), 3) := by decide +kernel
theorem dX12_lay_135 : decode cX12_lay 135 = .ok (.aload_n 0, 1) := by decide +kernel
theorem dX12_lay_136 : decode cX12_lay 136 = .ok (.iload_n 1, 1) := by decide +kernel
theorem dX12_lay_137 : decode cX12_lay 137 = .ok (.aload_n 0, 1) := by decide +kernel
theorem dX12_lay_138 : decode cX12_lay 138 = .ok (.getfield 349, 3) := by decide +kernel
theorem dX12_lay_141 : decode cX12_lay 141 = .ok (.invokevirtual 389, 3) := by decide +kernel
theorem dX12_lay_144 : decode cX12_lay 144 = .ok (.aload_n 0, 1) := by decide +kernel
theorem dX12_lay_145 : decode cX12_lay 145 = .ok (.getfield 349, 3) := by decide +kernel
theorem dX12_lay_148 : decode cX12_lay 148 = .ok (.ireturn, 1) := by decide +kernel
theorem dX12_faultOf_0 : decode cX12_faultOf 0 = .ok (.aload_n 0, 1) := by decide +kernel
theorem dX12_faultOf_1 : decode cX12_faultOf 1 = .ok (.invokevirtual 392, 3) := by decide +kernel
theorem dX12_faultOf_4 : decode cX12_faultOf 4 = .ok (.aload_n 0, 1) := by decide +kernel
theorem dX12_faultOf_5 : decode cX12_faultOf 5 = .ok (.invokevirtual 395, 3) := by decide +kernel
theorem dX12_faultOf_8 : decode cX12_faultOf 8 = .ok (.istore_n 1, 1) := by decide +kernel
theorem dX12_faultOf_9 : decode cX12_faultOf 9 = .ok (.iload_n 1, 1) := by decide +kernel
theorem dX12_faultOf_10 : decode cX12_faultOf 10 = .ok (.iconst (-1), 1) := by decide +kernel
theorem dX12_faultOf_11 : decode cX12_faultOf 11 = .ok (.if_icmp .ne 21, 3) := by decide +kernel
theorem dX12_faultOf_14 : decode cX12_faultOf 14 = .ok (.aload_n 0, 1) := by decide +kernel
theorem dX12_faultOf_15 : decode cX12_faultOf 15 = .ok (.getfield 342, 3) := by decide +kernel
theorem dX12_faultOf_18 : decode cX12_faultOf 18 = .ok (.ifCond .eq 10, 3) := by decide +kernel
theorem dX12_faultOf_21 : decode cX12_faultOf 21 = .ok (.aload_n 0, 1) := by decide +kernel
theorem dX12_faultOf_22 : decode cX12_faultOf 22 = .ok (.getfield 330, 3) := by decide +kernel
theorem dX12_faultOf_25 : decode cX12_faultOf 25 = .ok (.goto 28, 3) := by decide +kernel
theorem dX12_faultOf_28 : decode cX12_faultOf 28 = .ok (.iconst (-1), 1) := by decide +kernel
theorem dX12_faultOf_29 : decode cX12_faultOf 29 = .ok (.goto 24, 3) := by decide +kernel
theorem dX12_faultOf_32 : decode cX12_faultOf 32 = .ok (.iload_n 1, 1) := by decide +kernel
theorem dX12_faultOf_33 : decode cX12_faultOf 33 = .ok (.aload_n 0, 1) := by decide +kernel
theorem dX12_faultOf_34 : decode cX12_faultOf 34 = .ok (.getfield 327, 3) := by decide +kernel
theorem dX12_faultOf_37 : decode cX12_faultOf 37 = .ok (.if_icmp .ge 12, 3) := by decide +kernel
theorem dX12_faultOf_40 : decode cX12_faultOf 40 = .ok (.aload_n 0, 1) := by decide +kernel
theorem dX12_faultOf_41 : decode cX12_faultOf 41 = .ok (.getfield 193, 3) := by decide +kernel
theorem dX12_faultOf_44 : decode cX12_faultOf 44 = .ok (.iload_n 1, 1) := by decide +kernel
theorem dX12_faultOf_45 : decode cX12_faultOf 45 = .ok (.iaload, 1) := by decide +kernel
theorem dX12_faultOf_46 : decode cX12_faultOf 46 = .ok (.goto 7, 3) := by decide +kernel
theorem dX12_faultOf_49 : decode cX12_faultOf 49 = .ok (.aload_n 0, 1) := by decide +kernel
theorem dX12_faultOf_50 : decode cX12_faultOf 50 = .ok (.getfield 330, 3) := by decide +kernel
theorem dX12_faultOf_53 : decode cX12_faultOf 53 = .ok (.ireturn, 1) := by decide +kernel
theorem dX12_task_0 : decode cX12_task 0 = .ok (.aload_n 0, 1) := by decide +kernel
theorem dX12_task_1 : decode cX12_task 1 = .ok (.getfield 239, 3) := by decide +kernel
theorem dX12_task_4 : decode cX12_task 4 = .ok (.aload_n 0, 1) := by decide +kernel
theorem dX12_task_5 : decode cX12_task 5 = .ok (.getfield 399, 3) := by decide +kernel
theorem dX12_task_8 : decode cX12_task 8 = .ok (.iload_n 1, 1) := by decide +kernel
theorem dX12_task_9 : decode cX12_task 9 = .ok (.iastore, 1) := by decide +kernel
theorem dX12_task_10 : decode cX12_task 10 = .ok (.aload_n 0, 1) := by decide +kernel
theorem dX12_task_11 : decode cX12_task 11 = .ok (.getfield 242, 3) := by decide +kernel
theorem dX12_task_14 : decode cX12_task 14 = .ok (.aload_n 0, 1) := by decide +kernel
theorem dX12_task_15 : decode cX12_task 15 = .ok (.getfield 399, 3) := by decide +kernel
theorem dX12_task_18 : decode cX12_task 18 = .ok (.iload_n 2, 1) := by decide +kernel
theorem dX12_task_19 : decode cX12_task 19 = .ok (.iastore, 1) := by decide +kernel
theorem dX12_task_20 : decode cX12_task 20 = .ok (.aload_n 0, 1) := by decide +kernel
theorem dX12_task_21 : decode cX12_task 21 = .ok (.dup, 1) := by decide +kernel
theorem dX12_task_22 : decode cX12_task 22 = .ok (.getfield 399, 3) := by decide +kernel
theorem dX12_task_25 : decode cX12_task 25 = .ok (.iconst 1, 1) := by decide +kernel
theorem dX12_task_26 : decode cX12_task 26 = .ok (.iadd, 1) := by decide +kernel
theorem dX12_task_27 : decode cX12_task 27 = .ok (.putfield 399, 3) := by decide +kernel
theorem dX12_task_30 : decode cX12_task 30 = .ok (.return_, 1) := by decide +kernel
theorem dX12_operandTask_0 : decode cX12_operandTask 0 = .ok (.aload_n 0, 1) := by decide +kernel
theorem dX12_operandTask_1 : decode cX12_operandTask 1 = .ok (.getfield 135, 3) := by decide +kernel
theorem dX12_operandTask_4 : decode cX12_operandTask 4 = .ok (.iload_n 1, 1) := by decide +kernel
theorem dX12_operandTask_5 : decode cX12_operandTask 5 = .ok (.iaload, 1) := by decide +kernel
theorem dX12_operandTask_6 : decode cX12_operandTask 6 = .ok (.iconst 3, 1) := by decide +kernel
theorem dX12_operandTask_7 : decode cX12_operandTask 7 = .ok (.if_icmp .ne 7, 3) := by decide +kernel
theorem dX12_operandTask_10 : decode cX12_operandTask 10 = .ok (.iconst 1, 1) := by decide +kernel
theorem dX12_operandTask_11 : decode cX12_operandTask 11 = .ok (.goto 4, 3) := by decide +kernel
theorem dX12_operandTask_14 : decode cX12_operandTask 14 = .ok (.iconst 0, 1) := by decide +kernel
theorem dX12_operandTask_15 : decode cX12_operandTask 15 = .ok (.istore_n 2, 1) := by decide +kernel
theorem dX12_operandTask_16 : decode cX12_operandTask 16 = .ok (.iload_n 2, 1) := by decide +kernel
theorem dX12_operandTask_17 : decode cX12_operandTask 17 = .ok (.ifCond .eq 10, 3) := by decide +kernel
theorem dX12_operandTask_20 : decode cX12_operandTask 20 = .ok (.aload_n 0, 1) := by decide +kernel
theorem dX12_operandTask_21 : decode cX12_operandTask 21 = .ok (.bipush 12, 2) := by decide +kernel
theorem dX12_operandTask_23 : decode cX12_operandTask 23 = .ok (.iconst 0, 1) := by decide +kernel
theorem dX12_operandTask_24 : decode cX12_operandTask 24 = .ok (.invokevirtual 402, 3) := by decide +kernel
theorem dX12_operandTask_27 : decode cX12_operandTask 27 = .ok (.aload_n 0, 1) := by decide +kernel
theorem dX12_operandTask_28 : decode cX12_operandTask 28 = .ok (.bipush 10, 2) := by decide +kernel
theorem dX12_operandTask_30 : decode cX12_operandTask 30 = .ok (.iload_n 1, 1) := by decide +kernel
theorem dX12_operandTask_31 : decode cX12_operandTask 31 = .ok (.invokevirtual 402, 3) := by decide +kernel
theorem dX12_operandTask_34 : decode cX12_operandTask 34 = .ok (.iload_n 2, 1) := by decide +kernel
theorem dX12_operandTask_35 : decode cX12_operandTask 35 = .ok (.ifCond .eq 10, 3) := by decide +kernel
theorem dX12_operandTask_38 : decode cX12_operandTask 38 = .ok (.aload_n 0, 1) := by decide +kernel
theorem dX12_operandTask_39 : decode cX12_operandTask 39 = .ok (.bipush 11, 2) := by decide +kernel
theorem dX12_operandTask_41 : decode cX12_operandTask 41 = .ok (.iconst 0, 1) := by decide +kernel
theorem dX12_operandTask_42 : decode cX12_operandTask 42 = .ok (.invokevirtual 402, 3) := by decide +kernel
theorem dX12_operandTask_45 : decode cX12_operandTask 45 = .ok (.return_, 1) := by decide +kernel
theorem dX12_tasksOf_0 : decode cX12_tasksOf 0 = .ok (.aload_n 0, 1) := by decide +kernel
theorem dX12_tasksOf_1 : decode cX12_tasksOf 1 = .ok (.getfield 135, 3) := by decide +kernel
theorem dX12_tasksOf_4 : decode cX12_tasksOf 4 = .ok (.iload_n 1, 1) := by decide +kernel
theorem dX12_tasksOf_5 : decode cX12_tasksOf 5 = .ok (.iaload, 1) := by decide +kernel
theorem dX12_tasksOf_6 : decode cX12_tasksOf 6 = .ok (.tableswitch 130 0 2 #[26, 40, 54], 26) := by decide +kernel
theorem dX12_tasksOf_32 : decode cX12_tasksOf 32 = .ok (.aload_n 0, 1) := by decide +kernel
theorem dX12_tasksOf_33 : decode cX12_tasksOf 33 = .ok (.iconst 0, 1) := by decide +kernel
theorem dX12_tasksOf_34 : decode cX12_tasksOf 34 = .ok (.aload_n 0, 1) := by decide +kernel
theorem dX12_tasksOf_35 : decode cX12_tasksOf 35 = .ok (.getfield 138, 3) := by decide +kernel
theorem dX12_tasksOf_38 : decode cX12_tasksOf 38 = .ok (.iload_n 1, 1) := by decide +kernel
theorem dX12_tasksOf_39 : decode cX12_tasksOf 39 = .ok (.iaload, 1) := by decide +kernel
theorem dX12_tasksOf_40 : decode cX12_tasksOf 40 = .ok (.invokevirtual 402, 3) := by decide +kernel
theorem dX12_tasksOf_43 : decode cX12_tasksOf 43 = .ok (.goto 182, 3) := by decide +kernel
theorem dX12_tasksOf_46 : decode cX12_tasksOf 46 = .ok (.aload_n 0, 1) := by decide +kernel
theorem dX12_tasksOf_47 : decode cX12_tasksOf 47 = .ok (.iconst 1, 1) := by decide +kernel
theorem dX12_tasksOf_48 : decode cX12_tasksOf 48 = .ok (.aload_n 0, 1) := by decide +kernel
theorem dX12_tasksOf_49 : decode cX12_tasksOf 49 = .ok (.getfield 138, 3) := by decide +kernel
theorem dX12_tasksOf_52 : decode cX12_tasksOf 52 = .ok (.iload_n 1, 1) := by decide +kernel
theorem dX12_tasksOf_53 : decode cX12_tasksOf 53 = .ok (.iaload, 1) := by decide +kernel
theorem dX12_tasksOf_54 : decode cX12_tasksOf 54 = .ok (.invokevirtual 402, 3) := by decide +kernel
theorem dX12_tasksOf_57 : decode cX12_tasksOf 57 = .ok (.goto 168, 3) := by decide +kernel
theorem dX12_tasksOf_60 : decode cX12_tasksOf 60 = .ok (.aload_n 0, 1) := by decide +kernel
theorem dX12_tasksOf_61 : decode cX12_tasksOf 61 = .ok (.iconst 4, 1) := by decide +kernel
theorem dX12_tasksOf_62 : decode cX12_tasksOf 62 = .ok (.bipush 41, 2) := by decide +kernel
theorem dX12_tasksOf_64 : decode cX12_tasksOf 64 = .ok (.invokevirtual 402, 3) := by decide +kernel
theorem dX12_tasksOf_67 : decode cX12_tasksOf 67 = .ok (.aload_n 0, 1) := by decide +kernel
theorem dX12_tasksOf_68 : decode cX12_tasksOf 68 = .ok (.getfield 144, 3) := by decide +kernel
theorem dX12_tasksOf_71 : decode cX12_tasksOf 71 = .ok (.iload_n 1, 1) := by decide +kernel
theorem dX12_tasksOf_72 : decode cX12_tasksOf 72 = .ok (.iaload, 1) := by decide +kernel
theorem dX12_tasksOf_73 : decode cX12_tasksOf 73 = .ok (.iconst 1, 1) := by decide +kernel
theorem dX12_tasksOf_74 : decode cX12_tasksOf 74 = .ok (.isub, 1) := by decide +kernel
theorem dX12_tasksOf_75 : decode cX12_tasksOf 75 = .ok (.istore_n 2, 1) := by decide +kernel
theorem dX12_tasksOf_76 : decode cX12_tasksOf 76 = .ok (.iload_n 2, 1) := by decide +kernel
theorem dX12_tasksOf_77 : decode cX12_tasksOf 77 = .ok (.ifCond .lt 45, 3) := by decide +kernel
theorem dX12_tasksOf_80 : decode cX12_tasksOf 80 = .ok (.aload_n 0, 1) := by decide +kernel
theorem dX12_tasksOf_81 : decode cX12_tasksOf 81 = .ok (.bipush 10, 2) := by decide +kernel
theorem dX12_tasksOf_83 : decode cX12_tasksOf 83 = .ok (.aload_n 0, 1) := by decide +kernel
theorem dX12_tasksOf_84 : decode cX12_tasksOf 84 = .ok (.iload_n 1, 1) := by decide +kernel
theorem dX12_tasksOf_85 : decode cX12_tasksOf 85 = .ok (.iload_n 2, 1) := by decide +kernel
theorem dX12_tasksOf_86 : decode cX12_tasksOf 86 = .ok (.invokevirtual 405, 3) := by decide +kernel
theorem dX12_tasksOf_89 : decode cX12_tasksOf 89 = .ok (.invokevirtual 402, 3) := by decide +kernel
theorem dX12_tasksOf_92 : decode cX12_tasksOf 92 = .ok (.aload_n 0, 1) := by decide +kernel
theorem dX12_tasksOf_93 : decode cX12_tasksOf 93 = .ok (.iload_n 2, 1) := by decide +kernel
theorem dX12_tasksOf_94 : decode cX12_tasksOf 94 = .ok (.ifCond .le 7, 3) := by decide +kernel
theorem dX12_tasksOf_97 : decode cX12_tasksOf 97 = .ok (.iconst 5, 1) := by decide +kernel
theorem dX12_tasksOf_98 : decode cX12_tasksOf 98 = .ok (.goto 4, 3) := by decide +kernel
theorem dX12_tasksOf_101 : decode cX12_tasksOf 101 = .ok (.iconst 3, 1) := by decide +kernel
theorem dX12_tasksOf_102 : decode cX12_tasksOf 102 = .ok (.iload_n 2, 1) := by decide +kernel
theorem dX12_tasksOf_103 : decode cX12_tasksOf 103 = .ok (.ifCond .le 8, 3) := by decide +kernel
theorem dX12_tasksOf_106 : decode cX12_tasksOf 106 = .ok (.bipush 44, 2) := by decide +kernel
theorem dX12_tasksOf_108 : decode cX12_tasksOf 108 = .ok (.goto 5, 3) := by decide +kernel
theorem dX12_tasksOf_111 : decode cX12_tasksOf 111 = .ok (.bipush 40, 2) := by decide +kernel
theorem dX12_tasksOf_113 : decode cX12_tasksOf 113 = .ok (.invokevirtual 402, 3) := by decide +kernel
theorem dX12_tasksOf_116 : decode cX12_tasksOf 116 = .ok (.iinc 2 (-1), 3) := by decide +kernel
theorem dX12_tasksOf_119 : decode cX12_tasksOf 119 = .ok (.goto (-43), 3) := by decide +kernel
theorem dX12_tasksOf_122 : decode cX12_tasksOf 122 = .ok (.aload_n 0, 1) := by decide +kernel
theorem dX12_tasksOf_123 : decode cX12_tasksOf 123 = .ok (.iconst 1, 1) := by decide +kernel
theorem dX12_tasksOf_124 : decode cX12_tasksOf 124 = .ok (.aload_n 0, 1) := by decide +kernel
theorem dX12_tasksOf_125 : decode cX12_tasksOf 125 = .ok (.getfield 138, 3) := by decide +kernel
theorem dX12_tasksOf_128 : decode cX12_tasksOf 128 = .ok (.iload_n 1, 1) := by decide +kernel
theorem dX12_tasksOf_129 : decode cX12_tasksOf 129 = .ok (.iaload, 1) := by decide +kernel
theorem dX12_tasksOf_130 : decode cX12_tasksOf 130 = .ok (.invokevirtual 402, 3) := by decide +kernel
theorem dX12_tasksOf_133 : decode cX12_tasksOf 133 = .ok (.goto 92, 3) := by decide +kernel
theorem dX12_tasksOf_136 : decode cX12_tasksOf 136 = .ok (.aload_n 0, 1) := by decide +kernel
theorem dX12_tasksOf_137 : decode cX12_tasksOf 137 = .ok (.getfield 141, 3) := by decide +kernel
theorem dX12_tasksOf_140 : decode cX12_tasksOf 140 = .ok (.iload_n 1, 1) := by decide +kernel
theorem dX12_tasksOf_141 : decode cX12_tasksOf 141 = .ok (.iaload, 1) := by decide +kernel
theorem dX12_tasksOf_142 : decode cX12_tasksOf 142 = .ok (.iconst 2, 1) := by decide +kernel
theorem dX12_tasksOf_143 : decode cX12_tasksOf 143 = .ok (.if_icmp .ne 34, 3) := by decide +kernel
theorem dX12_tasksOf_146 : decode cX12_tasksOf 146 = .ok (.aload_n 0, 1) := by decide +kernel
theorem dX12_tasksOf_147 : decode cX12_tasksOf 147 = .ok (.aload_n 0, 1) := by decide +kernel
theorem dX12_tasksOf_148 : decode cX12_tasksOf 148 = .ok (.iload_n 1, 1) := by decide +kernel
theorem dX12_tasksOf_149 : decode cX12_tasksOf 149 = .ok (.iconst 1, 1) := by decide +kernel
theorem dX12_tasksOf_150 : decode cX12_tasksOf 150 = .ok (.invokevirtual 405, 3) := by decide +kernel
theorem dX12_tasksOf_153 : decode cX12_tasksOf 153 = .ok (.invokevirtual 408, 3) := by decide +kernel
theorem dX12_tasksOf_156 : decode cX12_tasksOf 156 = .ok (.aload_n 0, 1) := by decide +kernel
theorem dX12_tasksOf_157 : decode cX12_tasksOf 157 = .ok (.iconst 2, 1) := by decide +kernel
theorem dX12_tasksOf_158 : decode cX12_tasksOf 158 = .ok (.aload_n 0, 1) := by decide +kernel
theorem dX12_tasksOf_159 : decode cX12_tasksOf 159 = .ok (.getfield 138, 3) := by decide +kernel
theorem dX12_tasksOf_162 : decode cX12_tasksOf 162 = .ok (.iload_n 1, 1) := by decide +kernel
theorem dX12_tasksOf_163 : decode cX12_tasksOf 163 = .ok (.iaload, 1) := by decide +kernel
theorem dX12_tasksOf_164 : decode cX12_tasksOf 164 = .ok (.invokevirtual 402, 3) := by decide +kernel
theorem dX12_tasksOf_167 : decode cX12_tasksOf 167 = .ok (.aload_n 0, 1) := by decide +kernel
theorem dX12_tasksOf_168 : decode cX12_tasksOf 168 = .ok (.iload_n 1, 1) := by decide +kernel
theorem dX12_tasksOf_169 : decode cX12_tasksOf 169 = .ok (.iconst 1, 1) := by decide +kernel
theorem dX12_tasksOf_170 : decode cX12_tasksOf 170 = .ok (.iadd, 1) := by decide +kernel
theorem dX12_tasksOf_171 : decode cX12_tasksOf 171 = .ok (.invokevirtual 408, 3) := by decide +kernel
theorem dX12_tasksOf_174 : decode cX12_tasksOf 174 = .ok (.goto 51, 3) := by decide +kernel
theorem dX12_tasksOf_177 : decode cX12_tasksOf 177 = .ok (.aload_n 0, 1) := by decide +kernel
theorem dX12_tasksOf_178 : decode cX12_tasksOf 178 = .ok (.getfield 141, 3) := by decide +kernel
theorem dX12_tasksOf_181 : decode cX12_tasksOf 181 = .ok (.iload_n 1, 1) := by decide +kernel
theorem dX12_tasksOf_182 : decode cX12_tasksOf 182 = .ok (.iaload, 1) := by decide +kernel
theorem dX12_tasksOf_183 : decode cX12_tasksOf 183 = .ok (.ifCond .ne 24, 3) := by decide +kernel
theorem dX12_tasksOf_186 : decode cX12_tasksOf 186 = .ok (.aload_n 0, 1) := by decide +kernel
theorem dX12_tasksOf_187 : decode cX12_tasksOf 187 = .ok (.iload_n 1, 1) := by decide +kernel
theorem dX12_tasksOf_188 : decode cX12_tasksOf 188 = .ok (.iconst 1, 1) := by decide +kernel
theorem dX12_tasksOf_189 : decode cX12_tasksOf 189 = .ok (.iadd, 1) := by decide +kernel
theorem dX12_tasksOf_190 : decode cX12_tasksOf 190 = .ok (.invokevirtual 408, 3) := by decide +kernel
theorem dX12_tasksOf_193 : decode cX12_tasksOf 193 = .ok (.aload_n 0, 1) := by decide +kernel
theorem dX12_tasksOf_194 : decode cX12_tasksOf 194 = .ok (.iconst 2, 1) := by decide +kernel
theorem dX12_tasksOf_195 : decode cX12_tasksOf 195 = .ok (.aload_n 0, 1) := by decide +kernel
theorem dX12_tasksOf_196 : decode cX12_tasksOf 196 = .ok (.getfield 138, 3) := by decide +kernel
theorem dX12_tasksOf_199 : decode cX12_tasksOf 199 = .ok (.iload_n 1, 1) := by decide +kernel
theorem dX12_tasksOf_200 : decode cX12_tasksOf 200 = .ok (.iaload, 1) := by decide +kernel
theorem dX12_tasksOf_201 : decode cX12_tasksOf 201 = .ok (.invokevirtual 402, 3) := by decide +kernel
theorem dX12_tasksOf_204 : decode cX12_tasksOf 204 = .ok (.goto 21, 3) := by decide +kernel
theorem dX12_tasksOf_207 : decode cX12_tasksOf 207 = .ok (.aload_n 0, 1) := by decide +kernel
theorem dX12_tasksOf_208 : decode cX12_tasksOf 208 = .ok (.iconst 2, 1) := by decide +kernel
theorem dX12_tasksOf_209 : decode cX12_tasksOf 209 = .ok (.aload_n 0, 1) := by decide +kernel
theorem dX12_tasksOf_210 : decode cX12_tasksOf 210 = .ok (.getfield 138, 3) := by decide +kernel
theorem dX12_tasksOf_213 : decode cX12_tasksOf 213 = .ok (.iload_n 1, 1) := by decide +kernel
theorem dX12_tasksOf_214 : decode cX12_tasksOf 214 = .ok (.iaload, 1) := by decide +kernel
theorem dX12_tasksOf_215 : decode cX12_tasksOf 215 = .ok (.invokevirtual 402, 3) := by decide +kernel
theorem dX12_tasksOf_218 : decode cX12_tasksOf 218 = .ok (.aload_n 0, 1) := by decide +kernel
theorem dX12_tasksOf_219 : decode cX12_tasksOf 219 = .ok (.iload_n 1, 1) := by decide +kernel
theorem dX12_tasksOf_220 : decode cX12_tasksOf 220 = .ok (.iconst 1, 1) := by decide +kernel
theorem dX12_tasksOf_221 : decode cX12_tasksOf 221 = .ok (.iadd, 1) := by decide +kernel
theorem dX12_tasksOf_222 : decode cX12_tasksOf 222 = .ok (.invokevirtual 408, 3) := by decide +kernel
theorem dX12_tasksOf_225 : decode cX12_tasksOf 225 = .ok (.return_, 1) := by decide +kernel
theorem dX12_wordsOf_0 : decode cX12_wordsOf 0 = .ok (.aload_n 0, 1) := by decide +kernel
theorem dX12_wordsOf_1 : decode cX12_wordsOf 1 = .ok (.iconst 0, 1) := by decide +kernel
theorem dX12_wordsOf_2 : decode cX12_wordsOf 2 = .ok (.putfield 327, 3) := by decide +kernel
theorem dX12_wordsOf_5 : decode cX12_wordsOf 5 = .ok (.aload_n 0, 1) := by decide +kernel
theorem dX12_wordsOf_6 : decode cX12_wordsOf 6 = .ok (.iconst 0, 1) := by decide +kernel
theorem dX12_wordsOf_7 : decode cX12_wordsOf 7 = .ok (.putfield 399, 3) := by decide +kernel
theorem dX12_wordsOf_10 : decode cX12_wordsOf 10 = .ok (.iconst 0, 1) := by decide +kernel
theorem dX12_wordsOf_11 : decode cX12_wordsOf 11 = .ok (.istore_n 2, 1) := by decide +kernel
theorem dX12_wordsOf_12 : decode cX12_wordsOf 12 = .ok (.aload_n 0, 1) := by decide +kernel
theorem dX12_wordsOf_13 : decode cX12_wordsOf 13 = .ok (.bipush 10, 2) := by decide +kernel
theorem dX12_wordsOf_15 : decode cX12_wordsOf 15 = .ok (.iload_n 1, 1) := by decide +kernel
theorem dX12_wordsOf_16 : decode cX12_wordsOf 16 = .ok (.invokevirtual 402, 3) := by decide +kernel
theorem dX12_wordsOf_19 : decode cX12_wordsOf 19 = .ok (.aload_n 0, 1) := by decide +kernel
theorem dX12_wordsOf_20 : decode cX12_wordsOf 20 = .ok (.getfield 399, 3) := by decide +kernel
theorem dX12_wordsOf_23 : decode cX12_wordsOf 23 = .ok (.ifCond .le 136, 3) := by decide +kernel
theorem dX12_wordsOf_26 : decode cX12_wordsOf 26 = .ok (.aload_n 0, 1) := by decide +kernel
theorem dX12_wordsOf_27 : decode cX12_wordsOf 27 = .ok (.dup, 1) := by decide +kernel
theorem dX12_wordsOf_28 : decode cX12_wordsOf 28 = .ok (.getfield 399, 3) := by decide +kernel
theorem dX12_wordsOf_31 : decode cX12_wordsOf 31 = .ok (.iconst 1, 1) := by decide +kernel
theorem dX12_wordsOf_32 : decode cX12_wordsOf 32 = .ok (.isub, 1) := by decide +kernel
theorem dX12_wordsOf_33 : decode cX12_wordsOf 33 = .ok (.putfield 399, 3) := by decide +kernel
theorem dX12_wordsOf_36 : decode cX12_wordsOf 36 = .ok (.aload_n 0, 1) := by decide +kernel
theorem dX12_wordsOf_37 : decode cX12_wordsOf 37 = .ok (.getfield 242, 3) := by decide +kernel
theorem dX12_wordsOf_40 : decode cX12_wordsOf 40 = .ok (.aload_n 0, 1) := by decide +kernel
theorem dX12_wordsOf_41 : decode cX12_wordsOf 41 = .ok (.getfield 399, 3) := by decide +kernel
theorem dX12_wordsOf_44 : decode cX12_wordsOf 44 = .ok (.iaload, 1) := by decide +kernel
theorem dX12_wordsOf_45 : decode cX12_wordsOf 45 = .ok (.istore_n 3, 1) := by decide +kernel
theorem dX12_wordsOf_46 : decode cX12_wordsOf 46 = .ok (.aload_n 0, 1) := by decide +kernel
theorem dX12_wordsOf_47 : decode cX12_wordsOf 47 = .ok (.getfield 239, 3) := by decide +kernel
theorem dX12_wordsOf_50 : decode cX12_wordsOf 50 = .ok (.aload_n 0, 1) := by decide +kernel
theorem dX12_wordsOf_51 : decode cX12_wordsOf 51 = .ok (.getfield 399, 3) := by decide +kernel
theorem dX12_wordsOf_54 : decode cX12_wordsOf 54 = .ok (.iaload, 1) := by decide +kernel
theorem dX12_wordsOf_55 : decode cX12_wordsOf 55 = .ok (.tableswitch 86 10 12 #[25, 33, 57], 25) := by decide +kernel
theorem dX12_wordsOf_80 : decode cX12_wordsOf 80 = .ok (.aload_n 0, 1) := by decide +kernel
theorem dX12_wordsOf_81 : decode cX12_wordsOf 81 = .ok (.iload_n 3, 1) := by decide +kernel
theorem dX12_wordsOf_82 : decode cX12_wordsOf 82 = .ok (.invokevirtual 411, 3) := by decide +kernel
theorem dX12_wordsOf_85 : decode cX12_wordsOf 85 = .ok (.goto 71, 3) := by decide +kernel
theorem dX12_wordsOf_88 : decode cX12_wordsOf 88 = .ok (.aload_n 0, 1) := by decide +kernel
theorem dX12_wordsOf_89 : decode cX12_wordsOf 89 = .ok (.getfield 245, 3) := by decide +kernel
theorem dX12_wordsOf_92 : decode cX12_wordsOf 92 = .ok (.iload_n 2, 1) := by decide +kernel
theorem dX12_wordsOf_93 : decode cX12_wordsOf 93 = .ok (.aload_n 0, 1) := by decide +kernel
theorem dX12_wordsOf_94 : decode cX12_wordsOf 94 = .ok (.getfield 327, 3) := by decide +kernel
theorem dX12_wordsOf_97 : decode cX12_wordsOf 97 = .ok (.iastore, 1) := by decide +kernel
theorem dX12_wordsOf_98 : decode cX12_wordsOf 98 = .ok (.iinc 2 1, 3) := by decide +kernel
theorem dX12_wordsOf_101 : decode cX12_wordsOf 101 = .ok (.aload_n 0, 1) := by decide +kernel
theorem dX12_wordsOf_102 : decode cX12_wordsOf 102 = .ok (.iconst 3, 1) := by decide +kernel
theorem dX12_wordsOf_103 : decode cX12_wordsOf 103 = .ok (.bipush 40, 2) := by decide +kernel
theorem dX12_wordsOf_105 : decode cX12_wordsOf 105 = .ok (.iconst 0, 1) := by decide +kernel
theorem dX12_wordsOf_106 : decode cX12_wordsOf 106 = .ok (.invokevirtual 339, 3) := by decide +kernel
theorem dX12_wordsOf_109 : decode cX12_wordsOf 109 = .ok (.goto 47, 3) := by decide +kernel
theorem dX12_wordsOf_112 : decode cX12_wordsOf 112 = .ok (.iinc 2 (-1), 3) := by decide +kernel
theorem dX12_wordsOf_115 : decode cX12_wordsOf 115 = .ok (.aload_n 0, 1) := by decide +kernel
theorem dX12_wordsOf_116 : decode cX12_wordsOf 116 = .ok (.getfield 196, 3) := by decide +kernel
theorem dX12_wordsOf_119 : decode cX12_wordsOf 119 = .ok (.aload_n 0, 1) := by decide +kernel
theorem dX12_wordsOf_120 : decode cX12_wordsOf 120 = .ok (.getfield 245, 3) := by decide +kernel
theorem dX12_wordsOf_123 : decode cX12_wordsOf 123 = .ok (.iload_n 2, 1) := by decide +kernel
theorem dX12_wordsOf_124 : decode cX12_wordsOf 124 = .ok (.iaload, 1) := by decide +kernel
theorem dX12_wordsOf_125 : decode cX12_wordsOf 125 = .ok (.aload_n 0, 1) := by decide +kernel
theorem dX12_wordsOf_126 : decode cX12_wordsOf 126 = .ok (.getfield 327, 3) := by decide +kernel
theorem dX12_wordsOf_129 : decode cX12_wordsOf 129 = .ok (.iastore, 1) := by decide +kernel
theorem dX12_wordsOf_130 : decode cX12_wordsOf 130 = .ok (.aload_n 0, 1) := by decide +kernel
theorem dX12_wordsOf_131 : decode cX12_wordsOf 131 = .ok (.iconst 4, 1) := by decide +kernel
theorem dX12_wordsOf_132 : decode cX12_wordsOf 132 = .ok (.bipush 41, 2) := by decide +kernel
theorem dX12_wordsOf_134 : decode cX12_wordsOf 134 = .ok (.iconst 0, 1) := by decide +kernel
theorem dX12_wordsOf_135 : decode cX12_wordsOf 135 = .ok (.invokevirtual 339, 3) := by decide +kernel
theorem dX12_wordsOf_138 : decode cX12_wordsOf 138 = .ok (.goto 18, 3) := by decide +kernel
theorem dX12_wordsOf_141 : decode cX12_wordsOf 141 = .ok (.aload_n 0, 1) := by decide +kernel
theorem dX12_wordsOf_142 : decode cX12_wordsOf 142 = .ok (.aload_n 0, 1) := by decide +kernel
theorem dX12_wordsOf_143 : decode cX12_wordsOf 143 = .ok (.getfield 239, 3) := by decide +kernel
theorem dX12_wordsOf_146 : decode cX12_wordsOf 146 = .ok (.aload_n 0, 1) := by decide +kernel
theorem dX12_wordsOf_147 : decode cX12_wordsOf 147 = .ok (.getfield 399, 3) := by decide +kernel
theorem dX12_wordsOf_150 : decode cX12_wordsOf 150 = .ok (.iaload, 1) := by decide +kernel
theorem dX12_wordsOf_151 : decode cX12_wordsOf 151 = .ok (.iload_n 3, 1) := by decide +kernel
theorem dX12_wordsOf_152 : decode cX12_wordsOf 152 = .ok (.iconst 0, 1) := by decide +kernel
theorem dX12_wordsOf_153 : decode cX12_wordsOf 153 = .ok (.invokevirtual 339, 3) := by decide +kernel
theorem dX12_wordsOf_156 : decode cX12_wordsOf 156 = .ok (.goto (-137), 3) := by decide +kernel
theorem dX12_wordsOf_159 : decode cX12_wordsOf 159 = .ok (.return_, 1) := by decide +kernel
theorem dX12_setGone_0 : decode cX12_setGone 0 = .ok (.aload_n 0, 1) := by decide +kernel
theorem dX12_setGone_1 : decode cX12_setGone 1 = .ok (.getfield 199, 3) := by decide +kernel
theorem dX12_setGone_4 : decode cX12_setGone 4 = .ok (.iload_n 1, 1) := by decide +kernel
theorem dX12_setGone_5 : decode cX12_setGone 5 = .ok (.iload_n 2, 1) := by decide +kernel
theorem dX12_setGone_6 : decode cX12_setGone 6 = .ok (.bastore, 1) := by decide +kernel
theorem dX12_setGone_7 : decode cX12_setGone 7 = .ok (.aload_n 0, 1) := by decide +kernel
theorem dX12_setGone_8 : decode cX12_setGone 8 = .ok (.getfield 199, 3) := by decide +kernel
theorem dX12_setGone_11 : decode cX12_setGone 11 = .ok (.aload_n 0, 1) := by decide +kernel
theorem dX12_setGone_12 : decode cX12_setGone 12 = .ok (.getfield 196, 3) := by decide +kernel
theorem dX12_setGone_15 : decode cX12_setGone 15 = .ok (.iload_n 1, 1) := by decide +kernel
theorem dX12_setGone_16 : decode cX12_setGone 16 = .ok (.iaload, 1) := by decide +kernel
theorem dX12_setGone_17 : decode cX12_setGone 17 = .ok (.iload_n 2, 1) := by decide +kernel
theorem dX12_setGone_18 : decode cX12_setGone 18 = .ok (.bastore, 1) := by decide +kernel
theorem dX12_setGone_19 : decode cX12_setGone 19 = .ok (.return_, 1) := by decide +kernel
theorem dX12_makes_0 : decode cX12_makes 0 = .ok (.aload_n 0, 1) := by decide +kernel
theorem dX12_makes_1 : decode cX12_makes 1 = .ok (.invokevirtual 395, 3) := by decide +kernel
theorem dX12_makes_4 : decode cX12_makes 4 = .ok (.iconst (-1), 1) := by decide +kernel
theorem dX12_makes_5 : decode cX12_makes 5 = .ok (.if_icmp .eq 5, 3) := by decide +kernel
theorem dX12_makes_8 : decode cX12_makes 8 = .ok (.iconst 0, 1) := by decide +kernel
theorem dX12_makes_9 : decode cX12_makes 9 = .ok (.ireturn, 1) := by decide +kernel
theorem dX12_makes_10 : decode cX12_makes 10 = .ok (.aload_n 0, 1) := by decide +kernel
theorem dX12_makes_11 : decode cX12_makes 11 = .ok (.sipush 13440, 3) := by decide +kernel
theorem dX12_makes_14 : decode cX12_makes 14 = .ok (.invokevirtual 414, 3) := by decide +kernel
theorem dX12_makes_17 : decode cX12_makes 17 = .ok (.pop, 1) := by decide +kernel
theorem dX12_makes_18 : decode cX12_makes 18 = .ok (.aload_n 0, 1) := by decide +kernel
theorem dX12_makes_19 : decode cX12_makes 19 = .ok (.sipush 13440, 3) := by decide +kernel
theorem dX12_makes_22 : decode cX12_makes 22 = .ok (.iload_n 1, 1) := by decide +kernel
theorem dX12_makes_23 : decode cX12_makes 23 = .ok (.invokevirtual 417, 3) := by decide +kernel
theorem dX12_makes_26 : decode cX12_makes 26 = .ok (.ireturn, 1) := by decide +kernel
theorem dX12_fewest_0 : decode cX12_fewest 0 = .ok (.aload_n 0, 1) := by decide +kernel
theorem dX12_fewest_1 : decode cX12_fewest 1 = .ok (.iload_n 1, 1) := by decide +kernel
theorem dX12_fewest_2 : decode cX12_fewest 2 = .ok (.invokevirtual 420, 3) := by decide +kernel
theorem dX12_fewest_5 : decode cX12_fewest 5 = .ok (.iconst 0, 1) := by decide +kernel
theorem dX12_fewest_6 : decode cX12_fewest 6 = .ok (.istore_n 2, 1) := by decide +kernel
theorem dX12_fewest_7 : decode cX12_fewest 7 = .ok (.iload_n 2, 1) := by decide +kernel
theorem dX12_fewest_8 : decode cX12_fewest 8 = .ok (.aload_n 0, 1) := by decide +kernel
theorem dX12_fewest_9 : decode cX12_fewest 9 = .ok (.getfield 327, 3) := by decide +kernel
theorem dX12_fewest_12 : decode cX12_fewest 12 = .ok (.if_icmp .ge 39, 3) := by decide +kernel
theorem dX12_fewest_15 : decode cX12_fewest 15 = .ok (.aload_n 0, 1) := by decide +kernel
theorem dX12_fewest_16 : decode cX12_fewest 16 = .ok (.getfield 196, 3) := by decide +kernel
theorem dX12_fewest_19 : decode cX12_fewest 19 = .ok (.iload_n 2, 1) := by decide +kernel
theorem dX12_fewest_20 : decode cX12_fewest 20 = .ok (.iaload, 1) := by decide +kernel
theorem dX12_fewest_21 : decode cX12_fewest 21 = .ok (.iconst (-1), 1) := by decide +kernel
theorem dX12_fewest_22 : decode cX12_fewest 22 = .ok (.if_icmp .eq 23, 3) := by decide +kernel
theorem dX12_fewest_25 : decode cX12_fewest 25 = .ok (.aload_n 0, 1) := by decide +kernel
theorem dX12_fewest_26 : decode cX12_fewest 26 = .ok (.iload_n 2, 1) := by decide +kernel
theorem dX12_fewest_27 : decode cX12_fewest 27 = .ok (.iconst 1, 1) := by decide +kernel
theorem dX12_fewest_28 : decode cX12_fewest 28 = .ok (.invokevirtual 423, 3) := by decide +kernel
theorem dX12_fewest_31 : decode cX12_fewest 31 = .ok (.aload_n 0, 1) := by decide +kernel
theorem dX12_fewest_32 : decode cX12_fewest 32 = .ok (.iload_n 1, 1) := by decide +kernel
theorem dX12_fewest_33 : decode cX12_fewest 33 = .ok (.invokevirtual 427, 3) := by decide +kernel
theorem dX12_fewest_36 : decode cX12_fewest 36 = .ok (.ifCond .ne 9, 3) := by decide +kernel
theorem dX12_fewest_39 : decode cX12_fewest 39 = .ok (.aload_n 0, 1) := by decide +kernel
theorem dX12_fewest_40 : decode cX12_fewest 40 = .ok (.iload_n 2, 1) := by decide +kernel
theorem dX12_fewest_41 : decode cX12_fewest 41 = .ok (.iconst 0, 1) := by decide +kernel
theorem dX12_fewest_42 : decode cX12_fewest 42 = .ok (.invokevirtual 423, 3) := by decide +kernel
theorem dX12_fewest_45 : decode cX12_fewest 45 = .ok (.iinc 2 1, 3) := by decide +kernel
theorem dX12_fewest_48 : decode cX12_fewest 48 = .ok (.goto (-41), 3) := by decide +kernel
theorem dX12_fewest_51 : decode cX12_fewest 51 = .ok (.return_, 1) := by decide +kernel
theorem dX12_prints_0 : decode cX12_prints 0 = .ok (.aload_n 0, 1) := by decide +kernel
theorem dX12_prints_1 : decode cX12_prints 1 = .ok (.getfield 236, 3) := by decide +kernel
theorem dX12_prints_4 : decode cX12_prints 4 = .ok (.aload_n 0, 1) := by decide +kernel
theorem dX12_prints_5 : decode cX12_prints 5 = .ok (.getfield 430, 3) := by decide +kernel
theorem dX12_prints_8 : decode cX12_prints 8 = .ok (.iload_n 1, 1) := by decide +kernel
theorem dX12_prints_9 : decode cX12_prints 9 = .ok (.iastore, 1) := by decide +kernel
theorem dX12_prints_10 : decode cX12_prints 10 = .ok (.aload_n 0, 1) := by decide +kernel
theorem dX12_prints_11 : decode cX12_prints 11 = .ok (.dup, 1) := by decide +kernel
theorem dX12_prints_12 : decode cX12_prints 12 = .ok (.getfield 430, 3) := by decide +kernel
theorem dX12_prints_15 : decode cX12_prints 15 = .ok (.iconst 1, 1) := by decide +kernel
theorem dX12_prints_16 : decode cX12_prints 16 = .ok (.iadd, 1) := by decide +kernel
theorem dX12_prints_17 : decode cX12_prints 17 = .ok (.putfield 430, 3) := by decide +kernel
theorem dX12_prints_20 : decode cX12_prints 20 = .ok (.return_, 1) := by decide +kernel
theorem dX12_outNumber_0 : decode cX12_outNumber 0 = .ok (.iconst 1, 1) := by decide +kernel
theorem dX12_outNumber_1 : decode cX12_outNumber 1 = .ok (.istore_n 2, 1) := by decide +kernel
theorem dX12_outNumber_2 : decode cX12_outNumber 2 = .ok (.iload_n 1, 1) := by decide +kernel
theorem dX12_outNumber_3 : decode cX12_outNumber 3 = .ok (.iload_n 2, 1) := by decide +kernel
theorem dX12_outNumber_4 : decode cX12_outNumber 4 = .ok (.idiv, 1) := by decide +kernel
theorem dX12_outNumber_5 : decode cX12_outNumber 5 = .ok (.bipush 10, 2) := by decide +kernel
theorem dX12_outNumber_7 : decode cX12_outNumber 7 = .ok (.if_icmp .lt 11, 3) := by decide +kernel
theorem dX12_outNumber_10 : decode cX12_outNumber 10 = .ok (.iload_n 2, 1) := by decide +kernel
theorem dX12_outNumber_11 : decode cX12_outNumber 11 = .ok (.bipush 10, 2) := by decide +kernel
theorem dX12_outNumber_13 : decode cX12_outNumber 13 = .ok (.imul, 1) := by decide +kernel
theorem dX12_outNumber_14 : decode cX12_outNumber 14 = .ok (.istore_n 2, 1) := by decide +kernel
theorem dX12_outNumber_15 : decode cX12_outNumber 15 = .ok (.goto (-13), 3) := by decide +kernel
theorem dX12_outNumber_18 : decode cX12_outNumber 18 = .ok (.iload_n 2, 1) := by decide +kernel
theorem dX12_outNumber_19 : decode cX12_outNumber 19 = .ok (.ifCond .le 24, 3) := by decide +kernel
theorem dX12_outNumber_22 : decode cX12_outNumber 22 = .ok (.aload_n 0, 1) := by decide +kernel
theorem dX12_outNumber_23 : decode cX12_outNumber 23 = .ok (.bipush 48, 2) := by decide +kernel
theorem dX12_outNumber_25 : decode cX12_outNumber 25 = .ok (.iload_n 1, 1) := by decide +kernel
theorem dX12_outNumber_26 : decode cX12_outNumber 26 = .ok (.iload_n 2, 1) := by decide +kernel
theorem dX12_outNumber_27 : decode cX12_outNumber 27 = .ok (.idiv, 1) := by decide +kernel
theorem dX12_outNumber_28 : decode cX12_outNumber 28 = .ok (.bipush 10, 2) := by decide +kernel
theorem dX12_outNumber_30 : decode cX12_outNumber 30 = .ok (.irem, 1) := by decide +kernel
theorem dX12_outNumber_31 : decode cX12_outNumber 31 = .ok (.iadd, 1) := by decide +kernel
theorem dX12_outNumber_32 : decode cX12_outNumber 32 = .ok (.invokevirtual 433, 3) := by decide +kernel
theorem dX12_outNumber_35 : decode cX12_outNumber 35 = .ok (.iload_n 2, 1) := by decide +kernel
theorem dX12_outNumber_36 : decode cX12_outNumber 36 = .ok (.bipush 10, 2) := by decide +kernel
theorem dX12_outNumber_38 : decode cX12_outNumber 38 = .ok (.idiv, 1) := by decide +kernel
theorem dX12_outNumber_39 : decode cX12_outNumber 39 = .ok (.istore_n 2, 1) := by decide +kernel
theorem dX12_outNumber_40 : decode cX12_outNumber 40 = .ok (.goto (-22), 3) := by decide +kernel
theorem dX12_outNumber_43 : decode cX12_outNumber 43 = .ok (.return_, 1) := by decide +kernel
theorem dX12_outWords_0 : decode cX12_outWords 0 = .ok (.aload_n 0, 1) := by decide +kernel
theorem dX12_outWords_1 : decode cX12_outWords 1 = .ok (.iconst 0, 1) := by decide +kernel
theorem dX12_outWords_2 : decode cX12_outWords 2 = .ok (.putfield 430, 3) := by decide +kernel
theorem dX12_outWords_5 : decode cX12_outWords 5 = .ok (.iconst 0, 1) := by decide +kernel
theorem dX12_outWords_6 : decode cX12_outWords 6 = .ok (.istore_n 1, 1) := by decide +kernel
theorem dX12_outWords_7 : decode cX12_outWords 7 = .ok (.iload_n 1, 1) := by decide +kernel
theorem dX12_outWords_8 : decode cX12_outWords 8 = .ok (.aload_n 0, 1) := by decide +kernel
theorem dX12_outWords_9 : decode cX12_outWords 9 = .ok (.getfield 327, 3) := by decide +kernel
theorem dX12_outWords_12 : decode cX12_outWords 12 = .ok (.if_icmp .ge 59, 3) := by decide +kernel
theorem dX12_outWords_15 : decode cX12_outWords 15 = .ok (.aload_n 0, 1) := by decide +kernel
theorem dX12_outWords_16 : decode cX12_outWords 16 = .ok (.getfield 199, 3) := by decide +kernel
theorem dX12_outWords_19 : decode cX12_outWords 19 = .ok (.iload_n 1, 1) := by decide +kernel
theorem dX12_outWords_20 : decode cX12_outWords 20 = .ok (.baload, 1) := by decide +kernel
theorem dX12_outWords_21 : decode cX12_outWords 21 = .ok (.ifCond .ne 25, 3) := by decide +kernel
theorem dX12_outWords_24 : decode cX12_outWords 24 = .ok (.aload_n 0, 1) := by decide +kernel
theorem dX12_outWords_25 : decode cX12_outWords 25 = .ok (.getfield 187, 3) := by decide +kernel
theorem dX12_outWords_28 : decode cX12_outWords 28 = .ok (.iload_n 1, 1) := by decide +kernel
theorem dX12_outWords_29 : decode cX12_outWords 29 = .ok (.iaload, 1) := by decide +kernel
theorem dX12_outWords_30 : decode cX12_outWords 30 = .ok (.ifCond .ne 16, 3) := by decide +kernel
theorem dX12_outWords_33 : decode cX12_outWords 33 = .ok (.aload_n 0, 1) := by decide +kernel
theorem dX12_outWords_34 : decode cX12_outWords 34 = .ok (.aload_n 0, 1) := by decide +kernel
theorem dX12_outWords_35 : decode cX12_outWords 35 = .ok (.getfield 190, 3) := by decide +kernel
theorem dX12_outWords_38 : decode cX12_outWords 38 = .ok (.iload_n 1, 1) := by decide +kernel
theorem dX12_outWords_39 : decode cX12_outWords 39 = .ok (.iaload, 1) := by decide +kernel
theorem dX12_outWords_40 : decode cX12_outWords 40 = .ok (.invokevirtual 436, 3) := by decide +kernel
theorem dX12_outWords_43 : decode cX12_outWords 43 = .ok (.goto 22, 3) := by decide +kernel
theorem dX12_outWords_46 : decode cX12_outWords 46 = .ok (.aload_n 0, 1) := by decide +kernel
theorem dX12_outWords_47 : decode cX12_outWords 47 = .ok (.getfield 199, 3) := by decide +kernel
theorem dX12_outWords_50 : decode cX12_outWords 50 = .ok (.iload_n 1, 1) := by decide +kernel
theorem dX12_outWords_51 : decode cX12_outWords 51 = .ok (.baload, 1) := by decide +kernel
theorem dX12_outWords_52 : decode cX12_outWords 52 = .ok (.ifCond .ne 13, 3) := by decide +kernel
theorem dX12_outWords_55 : decode cX12_outWords 55 = .ok (.aload_n 0, 1) := by decide +kernel
theorem dX12_outWords_56 : decode cX12_outWords 56 = .ok (.aload_n 0, 1) := by decide +kernel
theorem dX12_outWords_57 : decode cX12_outWords 57 = .ok (.getfield 190, 3) := by decide +kernel
theorem dX12_outWords_60 : decode cX12_outWords 60 = .ok (.iload_n 1, 1) := by decide +kernel
theorem dX12_outWords_61 : decode cX12_outWords 61 = .ok (.iaload, 1) := by decide +kernel
theorem dX12_outWords_62 : decode cX12_outWords 62 = .ok (.invokevirtual 433, 3) := by decide +kernel
theorem dX12_outWords_65 : decode cX12_outWords 65 = .ok (.iinc 1 1, 3) := by decide +kernel
theorem dX12_outWords_68 : decode cX12_outWords 68 = .ok (.goto (-61), 3) := by decide +kernel
theorem dX12_outWords_71 : decode cX12_outWords 71 = .ok (.return_, 1) := by decide +kernel
theorem dX12_hasOwnCall_0 : decode cX12_hasOwnCall 0 = .ok (.iconst 0, 1) := by decide +kernel
theorem dX12_hasOwnCall_1 : decode cX12_hasOwnCall 1 = .ok (.istore_n 2, 1) := by decide +kernel
theorem dX12_hasOwnCall_2 : decode cX12_hasOwnCall 2 = .ok (.iload_n 1, 1) := by decide +kernel
theorem dX12_hasOwnCall_3 : decode cX12_hasOwnCall 3 = .ok (.istore_n 3, 1) := by decide +kernel
theorem dX12_hasOwnCall_4 : decode cX12_hasOwnCall 4 = .ok (.iload_n 3, 1) := by decide +kernel
theorem dX12_hasOwnCall_5 : decode cX12_hasOwnCall 5 = .ok (.iload_n 1, 1) := by decide +kernel
theorem dX12_hasOwnCall_6 : decode cX12_hasOwnCall 6 = .ok (.aload_n 0, 1) := by decide +kernel
theorem dX12_hasOwnCall_7 : decode cX12_hasOwnCall 7 = .ok (.getfield 147, 3) := by decide +kernel
theorem dX12_hasOwnCall_10 : decode cX12_hasOwnCall 10 = .ok (.iload_n 1, 1) := by decide +kernel
theorem dX12_hasOwnCall_11 : decode cX12_hasOwnCall 11 = .ok (.iaload, 1) := by decide +kernel
theorem dX12_hasOwnCall_12 : decode cX12_hasOwnCall 12 = .ok (.iadd, 1) := by decide +kernel
theorem dX12_hasOwnCall_13 : decode cX12_hasOwnCall 13 = .ok (.if_icmp .ge 51, 3) := by decide +kernel
theorem dX12_hasOwnCall_16 : decode cX12_hasOwnCall 16 = .ok (.iload_n 2, 1) := by decide +kernel
theorem dX12_hasOwnCall_17 : decode cX12_hasOwnCall 17 = .ok (.ifCond .ne 35, 3) := by decide +kernel
theorem dX12_hasOwnCall_20 : decode cX12_hasOwnCall 20 = .ok (.aload_n 0, 1) := by decide +kernel
theorem dX12_hasOwnCall_21 : decode cX12_hasOwnCall 21 = .ok (.getfield 135, 3) := by decide +kernel
theorem dX12_hasOwnCall_24 : decode cX12_hasOwnCall 24 = .ok (.iload_n 3, 1) := by decide +kernel
theorem dX12_hasOwnCall_25 : decode cX12_hasOwnCall 25 = .ok (.iaload, 1) := by decide +kernel
theorem dX12_hasOwnCall_26 : decode cX12_hasOwnCall 26 = .ok (.iconst 2, 1) := by decide +kernel
theorem dX12_hasOwnCall_27 : decode cX12_hasOwnCall 27 = .ok (.if_icmp .ne 29, 3) := by decide +kernel
theorem dX12_hasOwnCall_30 : decode cX12_hasOwnCall 30 = .ok (.aload_n 0, 1) := by decide +kernel
theorem dX12_hasOwnCall_31 : decode cX12_hasOwnCall 31 = .ok (.getfield 138, 3) := by decide +kernel
theorem dX12_hasOwnCall_34 : decode cX12_hasOwnCall 34 = .ok (.iload_n 3, 1) := by decide +kernel
theorem dX12_hasOwnCall_35 : decode cX12_hasOwnCall 35 = .ok (.iaload, 1) := by decide +kernel
theorem dX12_hasOwnCall_36 : decode cX12_hasOwnCall 36 = .ok (.bipush 105, 2) := by decide +kernel
theorem dX12_hasOwnCall_38 : decode cX12_hasOwnCall 38 = .ok (.if_icmp .eq 14, 3) := by decide +kernel
theorem dX12_hasOwnCall_41 : decode cX12_hasOwnCall 41 = .ok (.aload_n 0, 1) := by decide +kernel
theorem dX12_hasOwnCall_42 : decode cX12_hasOwnCall 42 = .ok (.getfield 138, 3) := by decide +kernel
theorem dX12_hasOwnCall_45 : decode cX12_hasOwnCall 45 = .ok (.iload_n 3, 1) := by decide +kernel
theorem dX12_hasOwnCall_46 : decode cX12_hasOwnCall 46 = .ok (.iaload, 1) := by decide +kernel
theorem dX12_hasOwnCall_47 : decode cX12_hasOwnCall 47 = .ok (.bipush 115, 2) := by decide +kernel
theorem dX12_hasOwnCall_49 : decode cX12_hasOwnCall 49 = .ok (.if_icmp .ne 7, 3) := by decide +kernel
theorem dX12_hasOwnCall_52 : decode cX12_hasOwnCall 52 = .ok (.iconst 1, 1) := by decide +kernel
theorem dX12_hasOwnCall_53 : decode cX12_hasOwnCall 53 = .ok (.goto 4, 3) := by decide +kernel
theorem dX12_hasOwnCall_56 : decode cX12_hasOwnCall 56 = .ok (.iconst 0, 1) := by decide +kernel
theorem dX12_hasOwnCall_57 : decode cX12_hasOwnCall 57 = .ok (.istore_n 2, 1) := by decide +kernel
theorem dX12_hasOwnCall_58 : decode cX12_hasOwnCall 58 = .ok (.iinc 3 1, 3) := by decide +kernel
theorem dX12_hasOwnCall_61 : decode cX12_hasOwnCall 61 = .ok (.goto (-57), 3) := by decide +kernel
theorem dX12_hasOwnCall_64 : decode cX12_hasOwnCall 64 = .ok (.iload_n 2, 1) := by decide +kernel
theorem dX12_hasOwnCall_65 : decode cX12_hasOwnCall 65 = .ok (.ireturn, 1) := by decide +kernel
theorem dX12_outPostfix_0 : decode cX12_outPostfix 0 = .ok (.aload_n 0, 1) := by decide +kernel
theorem dX12_outPostfix_1 : decode cX12_outPostfix 1 = .ok (.iconst 0, 1) := by decide +kernel
theorem dX12_outPostfix_2 : decode cX12_outPostfix 2 = .ok (.putfield 430, 3) := by decide +kernel
theorem dX12_outPostfix_5 : decode cX12_outPostfix 5 = .ok (.aload_n 0, 1) := by decide +kernel
theorem dX12_outPostfix_6 : decode cX12_outPostfix 6 = .ok (.iload_n 1, 1) := by decide +kernel
theorem dX12_outPostfix_7 : decode cX12_outPostfix 7 = .ok (.invokevirtual 439, 3) := by decide +kernel
theorem dX12_outPostfix_10 : decode cX12_outPostfix 10 = .ok (.istore_n 2, 1) := by decide +kernel
theorem dX12_outPostfix_11 : decode cX12_outPostfix 11 = .ok (.iconst 0, 1) := by decide +kernel
theorem dX12_outPostfix_12 : decode cX12_outPostfix 12 = .ok (.istore_n 3, 1) := by decide +kernel
theorem dX12_outPostfix_13 : decode cX12_outPostfix 13 = .ok (.iload_n 3, 1) := by decide +kernel
theorem dX12_outPostfix_14 : decode cX12_outPostfix 14 = .ok (.iload_n 2, 1) := by decide +kernel
theorem dX12_outPostfix_15 : decode cX12_outPostfix 15 = .ok (.if_icmp .ge 117, 3) := by decide +kernel
theorem dX12_outPostfix_18 : decode cX12_outPostfix 18 = .ok (.aload_n 0, 1) := by decide +kernel
theorem dX12_outPostfix_19 : decode cX12_outPostfix 19 = .ok (.getfield 150, 3) := by decide +kernel
theorem dX12_outPostfix_22 : decode cX12_outPostfix 22 = .ok (.iload_n 3, 1) := by decide +kernel
theorem dX12_outPostfix_23 : decode cX12_outPostfix 23 = .ok (.iaload, 1) := by decide +kernel
theorem dX12_outPostfix_24 : decode cX12_outPostfix 24 = .ok (.istore 4, 2) := by decide +kernel
theorem dX12_outPostfix_26 : decode cX12_outPostfix 26 = .ok (.iload_n 3, 1) := by decide +kernel
theorem dX12_outPostfix_27 : decode cX12_outPostfix 27 = .ok (.ifCond .le 9, 3) := by decide +kernel
theorem dX12_outPostfix_30 : decode cX12_outPostfix 30 = .ok (.aload_n 0, 1) := by decide +kernel
theorem dX12_outPostfix_31 : decode cX12_outPostfix 31 = .ok (.bipush 32, 2) := by decide +kernel
theorem dX12_outPostfix_33 : decode cX12_outPostfix 33 = .ok (.invokevirtual 433, 3) := by decide +kernel
theorem dX12_outPostfix_36 : decode cX12_outPostfix 36 = .ok (.aload_n 0, 1) := by decide +kernel
theorem dX12_outPostfix_37 : decode cX12_outPostfix 37 = .ok (.getfield 135, 3) := by decide +kernel
theorem dX12_outPostfix_40 : decode cX12_outPostfix 40 = .ok (.iload 4, 2) := by decide +kernel
theorem dX12_outPostfix_42 : decode cX12_outPostfix 42 = .ok (.iaload, 1) := by decide +kernel
theorem dX12_outPostfix_43 : decode cX12_outPostfix 43 = .ok (.ifCond .ne 17, 3) := by decide +kernel
theorem dX12_outPostfix_46 : decode cX12_outPostfix 46 = .ok (.aload_n 0, 1) := by decide +kernel
theorem dX12_outPostfix_47 : decode cX12_outPostfix 47 = .ok (.aload_n 0, 1) := by decide +kernel
theorem dX12_outPostfix_48 : decode cX12_outPostfix 48 = .ok (.getfield 138, 3) := by decide +kernel
theorem dX12_outPostfix_51 : decode cX12_outPostfix 51 = .ok (.iload 4, 2) := by decide +kernel
theorem dX12_outPostfix_53 : decode cX12_outPostfix 53 = .ok (.iaload, 1) := by decide +kernel
theorem dX12_outPostfix_54 : decode cX12_outPostfix 54 = .ok (.invokevirtual 436, 3) := by decide +kernel
theorem dX12_outPostfix_57 : decode cX12_outPostfix 57 = .ok (.goto 14, 3) := by decide +kernel
theorem dX12_outPostfix_60 : decode cX12_outPostfix 60 = .ok (.aload_n 0, 1) := by decide +kernel
theorem dX12_outPostfix_61 : decode cX12_outPostfix 61 = .ok (.aload_n 0, 1) := by decide +kernel
theorem dX12_outPostfix_62 : decode cX12_outPostfix 62 = .ok (.getfield 138, 3) := by decide +kernel
theorem dX12_outPostfix_65 : decode cX12_outPostfix 65 = .ok (.iload 4, 2) := by decide +kernel
theorem dX12_outPostfix_67 : decode cX12_outPostfix 67 = .ok (.iaload, 1) := by decide +kernel
theorem dX12_outPostfix_68 : decode cX12_outPostfix 68 = .ok (.invokevirtual 433, 3) := by decide +kernel
theorem dX12_outPostfix_71 : decode cX12_outPostfix 71 = .ok (.aload_n 0, 1) := by decide +kernel
theorem dX12_outPostfix_72 : decode cX12_outPostfix 72 = .ok (.getfield 135, 3) := by decide +kernel
theorem dX12_outPostfix_75 : decode cX12_outPostfix 75 = .ok (.iload 4, 2) := by decide +kernel
theorem dX12_outPostfix_77 : decode cX12_outPostfix 77 = .ok (.iaload, 1) := by decide +kernel
theorem dX12_outPostfix_78 : decode cX12_outPostfix 78 = .ok (.iconst 2, 1) := by decide +kernel
theorem dX12_outPostfix_79 : decode cX12_outPostfix 79 = .ok (.if_icmp .ne 20, 3) := by decide +kernel
theorem dX12_outPostfix_82 : decode cX12_outPostfix 82 = .ok (.aload_n 0, 1) := by decide +kernel
theorem dX12_outPostfix_83 : decode cX12_outPostfix 83 = .ok (.bipush 48, 2) := by decide +kernel
theorem dX12_outPostfix_85 : decode cX12_outPostfix 85 = .ok (.aload_n 0, 1) := by decide +kernel
theorem dX12_outPostfix_86 : decode cX12_outPostfix 86 = .ok (.getfield 144, 3) := by decide +kernel
theorem dX12_outPostfix_89 : decode cX12_outPostfix 89 = .ok (.iload 4, 2) := by decide +kernel
theorem dX12_outPostfix_91 : decode cX12_outPostfix 91 = .ok (.iaload, 1) := by decide +kernel
theorem dX12_outPostfix_92 : decode cX12_outPostfix 92 = .ok (.iadd, 1) := by decide +kernel
theorem dX12_outPostfix_93 : decode cX12_outPostfix 93 = .ok (.invokevirtual 433, 3) := by decide +kernel
theorem dX12_outPostfix_96 : decode cX12_outPostfix 96 = .ok (.goto 30, 3) := by decide +kernel
theorem dX12_outPostfix_99 : decode cX12_outPostfix 99 = .ok (.aload_n 0, 1) := by decide +kernel
theorem dX12_outPostfix_100 : decode cX12_outPostfix 100 = .ok (.getfield 135, 3) := by decide +kernel
theorem dX12_outPostfix_103 : decode cX12_outPostfix 103 = .ok (.iload 4, 2) := by decide +kernel
theorem dX12_outPostfix_105 : decode cX12_outPostfix 105 = .ok (.iaload, 1) := by decide +kernel
theorem dX12_outPostfix_106 : decode cX12_outPostfix 106 = .ok (.iconst 3, 1) := by decide +kernel
theorem dX12_outPostfix_107 : decode cX12_outPostfix 107 = .ok (.if_icmp .ne 19, 3) := by decide +kernel
theorem dX12_outPostfix_110 : decode cX12_outPostfix 110 = .ok (.aload_n 0, 1) := by decide +kernel
theorem dX12_outPostfix_111 : decode cX12_outPostfix 111 = .ok (.getfield 141, 3) := by decide +kernel
theorem dX12_outPostfix_114 : decode cX12_outPostfix 114 = .ok (.iload 4, 2) := by decide +kernel
theorem dX12_outPostfix_116 : decode cX12_outPostfix 116 = .ok (.iaload, 1) := by decide +kernel
theorem dX12_outPostfix_117 : decode cX12_outPostfix 117 = .ok (.ifCond .ne 9, 3) := by decide +kernel
theorem dX12_outPostfix_120 : decode cX12_outPostfix 120 = .ok (.aload_n 0, 1) := by decide +kernel
theorem dX12_outPostfix_121 : decode cX12_outPostfix 121 = .ok (.bipush 39, 2) := by decide +kernel
theorem dX12_outPostfix_123 : decode cX12_outPostfix 123 = .ok (.invokevirtual 433, 3) := by decide +kernel
theorem dX12_outPostfix_126 : decode cX12_outPostfix 126 = .ok (.iinc 3 1, 3) := by decide +kernel
theorem dX12_outPostfix_129 : decode cX12_outPostfix 129 = .ok (.goto (-116), 3) := by decide +kernel
theorem dX12_outPostfix_132 : decode cX12_outPostfix 132 = .ok (.return_, 1) := by decide +kernel
theorem dX12_enter_0 : decode cX12_enter 0 = .ok (.aload_n 0, 1) := by decide +kernel
theorem dX12_enter_1 : decode cX12_enter 1 = .ok (.getfield 251, 3) := by decide +kernel
theorem dX12_enter_4 : decode cX12_enter 4 = .ok (.aload_n 0, 1) := by decide +kernel
theorem dX12_enter_5 : decode cX12_enter 5 = .ok (.getfield 442, 3) := by decide +kernel
theorem dX12_enter_8 : decode cX12_enter 8 = .ok (.iload_n 1, 1) := by decide +kernel
theorem dX12_enter_9 : decode cX12_enter 9 = .ok (.iastore, 1) := by decide +kernel
theorem dX12_enter_10 : decode cX12_enter 10 = .ok (.aload_n 0, 1) := by decide +kernel
theorem dX12_enter_11 : decode cX12_enter 11 = .ok (.getfield 254, 3) := by decide +kernel
theorem dX12_enter_14 : decode cX12_enter 14 = .ok (.aload_n 0, 1) := by decide +kernel
theorem dX12_enter_15 : decode cX12_enter 15 = .ok (.getfield 442, 3) := by decide +kernel
theorem dX12_enter_18 : decode cX12_enter 18 = .ok (.iconst 0, 1) := by decide +kernel
theorem dX12_enter_19 : decode cX12_enter 19 = .ok (.iastore, 1) := by decide +kernel
theorem dX12_enter_20 : decode cX12_enter 20 = .ok (.aload_n 0, 1) := by decide +kernel
theorem dX12_enter_21 : decode cX12_enter 21 = .ok (.getfield 257, 3) := by decide +kernel
theorem dX12_enter_24 : decode cX12_enter 24 = .ok (.aload_n 0, 1) := by decide +kernel
theorem dX12_enter_25 : decode cX12_enter 25 = .ok (.getfield 442, 3) := by decide +kernel
theorem dX12_enter_28 : decode cX12_enter 28 = .ok (.iload_n 2, 1) := by decide +kernel
theorem dX12_enter_29 : decode cX12_enter 29 = .ok (.iastore, 1) := by decide +kernel
theorem dX12_enter_30 : decode cX12_enter 30 = .ok (.aload_n 0, 1) := by decide +kernel
theorem dX12_enter_31 : decode cX12_enter 31 = .ok (.dup, 1) := by decide +kernel
theorem dX12_enter_32 : decode cX12_enter 32 = .ok (.getfield 442, 3) := by decide +kernel
theorem dX12_enter_35 : decode cX12_enter 35 = .ok (.iconst 1, 1) := by decide +kernel
theorem dX12_enter_36 : decode cX12_enter 36 = .ok (.iadd, 1) := by decide +kernel
theorem dX12_enter_37 : decode cX12_enter 37 = .ok (.putfield 442, 3) := by decide +kernel
theorem dX12_enter_40 : decode cX12_enter 40 = .ok (.return_, 1) := by decide +kernel
theorem dX12_top_0 : decode cX12_top 0 = .ok (.bipush 60, 2) := by decide +kernel
theorem dX12_top_2 : decode cX12_top 2 = .ok (.aload_n 0, 1) := by decide +kernel
theorem dX12_top_3 : decode cX12_top 3 = .ok (.getfield 445, 3) := by decide +kernel
theorem dX12_top_6 : decode cX12_top 6 = .ok (.iadd, 1) := by decide +kernel
theorem dX12_top_7 : decode cX12_top 7 = .ok (.iconst 1, 1) := by decide +kernel
theorem dX12_top_8 : decode cX12_top 8 = .ok (.isub, 1) := by decide +kernel
theorem dX12_top_9 : decode cX12_top 9 = .ok (.ireturn, 1) := by decide +kernel
theorem dX12_count_0 : decode cX12_count 0 = .ok (.aload_n 0, 1) := by decide +kernel
theorem dX12_count_1 : decode cX12_count 1 = .ok (.getfield 448, 3) := by decide +kernel
theorem dX12_count_4 : decode cX12_count 4 = .ok (.sipush 200, 3) := by decide +kernel
theorem dX12_count_7 : decode cX12_count 7 = .ok (.if_icmp .ne 6, 3) := by decide +kernel
theorem dX12_count_10 : decode cX12_count 10 = .ok (.bipush 9, 2) := by decide +kernel
theorem dX12_count_12 : decode cX12_count 12 = .ok (.ireturn, 1) := by decide +kernel
theorem dX12_count_13 : decode cX12_count 13 = .ok (.aload_n 0, 1) := by decide +kernel
theorem dX12_count_14 : decode cX12_count 14 = .ok (.dup, 1) := by decide +kernel
theorem dX12_count_15 : decode cX12_count 15 = .ok (.getfield 448, 3) := by decide +kernel
theorem dX12_count_18 : decode cX12_count 18 = .ok (.iconst 1, 1) := by decide +kernel
theorem dX12_count_19 : decode cX12_count 19 = .ok (.iadd, 1) := by decide +kernel
theorem dX12_count_20 : decode cX12_count 20 = .ok (.putfield 448, 3) := by decide +kernel
theorem dX12_count_23 : decode cX12_count 23 = .ok (.iconst 0, 1) := by decide +kernel
theorem dX12_count_24 : decode cX12_count 24 = .ok (.ireturn, 1) := by decide +kernel
theorem dX12_look_0 : decode cX12_look 0 = .ok (.iload_n 2, 1) := by decide +kernel
theorem dX12_look_1 : decode cX12_look 1 = .ok (.istore_n 3, 1) := by decide +kernel
theorem dX12_look_2 : decode cX12_look 2 = .ok (.iload_n 3, 1) := by decide +kernel
theorem dX12_look_3 : decode cX12_look 3 = .ok (.ifCond .lt 32, 3) := by decide +kernel
theorem dX12_look_6 : decode cX12_look 6 = .ok (.aload_n 0, 1) := by decide +kernel
theorem dX12_look_7 : decode cX12_look 7 = .ok (.getfield 278, 3) := by decide +kernel
theorem dX12_look_10 : decode cX12_look 10 = .ok (.iload_n 3, 1) := by decide +kernel
theorem dX12_look_11 : decode cX12_look 11 = .ok (.iaload, 1) := by decide +kernel
theorem dX12_look_12 : decode cX12_look 12 = .ok (.ifCond .ne 23, 3) := by decide +kernel
theorem dX12_look_15 : decode cX12_look 15 = .ok (.aload_n 0, 1) := by decide +kernel
theorem dX12_look_16 : decode cX12_look 16 = .ok (.getfield 275, 3) := by decide +kernel
theorem dX12_look_19 : decode cX12_look 19 = .ok (.iload_n 3, 1) := by decide +kernel
theorem dX12_look_20 : decode cX12_look 20 = .ok (.iaload, 1) := by decide +kernel
theorem dX12_look_21 : decode cX12_look 21 = .ok (.iload_n 1, 1) := by decide +kernel
theorem dX12_look_22 : decode cX12_look 22 = .ok (.if_icmp .eq 13, 3) := by decide +kernel
theorem dX12_look_25 : decode cX12_look 25 = .ok (.aload_n 0, 1) := by decide +kernel
theorem dX12_look_26 : decode cX12_look 26 = .ok (.getfield 281, 3) := by decide +kernel
theorem dX12_look_29 : decode cX12_look 29 = .ok (.iload_n 3, 1) := by decide +kernel
theorem dX12_look_30 : decode cX12_look 30 = .ok (.iaload, 1) := by decide +kernel
theorem dX12_look_31 : decode cX12_look 31 = .ok (.istore_n 3, 1) := by decide +kernel
theorem dX12_look_32 : decode cX12_look 32 = .ok (.goto (-30), 3) := by decide +kernel
theorem dX12_look_35 : decode cX12_look 35 = .ok (.iload_n 3, 1) := by decide +kernel
theorem dX12_look_36 : decode cX12_look 36 = .ok (.ifCond .lt 20, 3) := by decide +kernel
theorem dX12_look_39 : decode cX12_look 39 = .ok (.aload_n 0, 1) := by decide +kernel
theorem dX12_look_40 : decode cX12_look 40 = .ok (.getfield 278, 3) := by decide +kernel
theorem dX12_look_43 : decode cX12_look 43 = .ok (.iload_n 3, 1) := by decide +kernel
theorem dX12_look_44 : decode cX12_look 44 = .ok (.iaload, 1) := by decide +kernel
theorem dX12_look_45 : decode cX12_look 45 = .ok (.ifCond .ne 11, 3) := by decide +kernel
theorem dX12_look_48 : decode cX12_look 48 = .ok (.sipush 1000, 3) := by decide +kernel
theorem dX12_look_51 : decode cX12_look 51 = .ok (.iconst 3, 1) := by decide +kernel
theorem dX12_look_52 : decode cX12_look 52 = .ok (.iload_n 3, 1) := by decide +kernel
theorem dX12_look_53 : decode cX12_look 53 = .ok (.imul, 1) := by decide +kernel
theorem dX12_look_54 : decode cX12_look 54 = .ok (.iadd, 1) := by decide +kernel
theorem dX12_look_55 : decode cX12_look 55 = .ok (.ireturn, 1) := by decide +kernel
theorem dX12_look_56 : decode cX12_look 56 = .ok (.iload_n 3, 1) := by decide +kernel
theorem dX12_look_57 : decode cX12_look 57 = .ok (.ifCond .lt 40, 3) := by decide +kernel
theorem dX12_look_60 : decode cX12_look 60 = .ok (.iload_n 1, 1) := by decide +kernel
theorem dX12_look_61 : decode cX12_look 61 = .ok (.bipush 120, 2) := by decide +kernel
theorem dX12_look_63 : decode cX12_look 63 = .ok (.bipush 122, 2) := by decide +kernel
theorem dX12_look_65 : decode cX12_look 65 = .ok (.invokestatic 106, 3) := by decide +kernel
theorem dX12_look_68 : decode cX12_look 68 = .ok (.ifCond .eq 29, 3) := by decide +kernel
theorem dX12_look_71 : decode cX12_look 71 = .ok (.iload_n 1, 1) := by decide +kernel
theorem dX12_look_72 : decode cX12_look 72 = .ok (.bipush 120, 2) := by decide +kernel
theorem dX12_look_74 : decode cX12_look 74 = .ok (.isub, 1) := by decide +kernel
theorem dX12_look_75 : decode cX12_look 75 = .ok (.aload_n 0, 1) := by decide +kernel
theorem dX12_look_76 : decode cX12_look 76 = .ok (.getfield 278, 3) := by decide +kernel
theorem dX12_look_79 : decode cX12_look 79 = .ok (.iload_n 3, 1) := by decide +kernel
theorem dX12_look_80 : decode cX12_look 80 = .ok (.iaload, 1) := by decide +kernel
theorem dX12_look_81 : decode cX12_look 81 = .ok (.if_icmp .ge 16, 3) := by decide +kernel
theorem dX12_look_84 : decode cX12_look 84 = .ok (.sipush 1000, 3) := by decide +kernel
theorem dX12_look_87 : decode cX12_look 87 = .ok (.iconst 3, 1) := by decide +kernel
theorem dX12_look_88 : decode cX12_look 88 = .ok (.iload_n 3, 1) := by decide +kernel
theorem dX12_look_89 : decode cX12_look 89 = .ok (.imul, 1) := by decide +kernel
theorem dX12_look_90 : decode cX12_look 90 = .ok (.iadd, 1) := by decide +kernel
theorem dX12_look_91 : decode cX12_look 91 = .ok (.iload_n 1, 1) := by decide +kernel
theorem dX12_look_92 : decode cX12_look 92 = .ok (.iadd, 1) := by decide +kernel
theorem dX12_look_93 : decode cX12_look 93 = .ok (.bipush 120, 2) := by decide +kernel
theorem dX12_look_95 : decode cX12_look 95 = .ok (.isub, 1) := by decide +kernel
theorem dX12_look_96 : decode cX12_look 96 = .ok (.ireturn, 1) := by decide +kernel
theorem dX12_look_97 : decode cX12_look 97 = .ok (.aload_n 0, 1) := by decide +kernel
theorem dX12_look_98 : decode cX12_look 98 = .ok (.getfield 248, 3) := by decide +kernel
theorem dX12_look_101 : decode cX12_look 101 = .ok (.iload_n 1, 1) := by decide +kernel
theorem dX12_look_102 : decode cX12_look 102 = .ok (.bipush 97, 2) := by decide +kernel
theorem dX12_look_104 : decode cX12_look 104 = .ok (.isub, 1) := by decide +kernel
theorem dX12_look_105 : decode cX12_look 105 = .ok (.baload, 1) := by decide +kernel
theorem dX12_look_106 : decode cX12_look 106 = .ok (.ifCond .eq 10, 3) := by decide +kernel
theorem dX12_look_109 : decode cX12_look 109 = .ok (.iload_n 1, 1) := by decide +kernel
theorem dX12_look_110 : decode cX12_look 110 = .ok (.bipush 97, 2) := by decide +kernel
theorem dX12_look_112 : decode cX12_look 112 = .ok (.isub, 1) := by decide +kernel
theorem dX12_look_113 : decode cX12_look 113 = .ok (.goto 4, 3) := by decide +kernel
theorem dX12_look_116 : decode cX12_look 116 = .ok (.iconst (-1), 1) := by decide +kernel
theorem dX12_look_117 : decode cX12_look 117 = .ok (.ireturn, 1) := by decide +kernel
theorem dX12_leaf_0 : decode cX12_leaf 0 = .ok (.aload_n 0, 1) := by decide +kernel
theorem dX12_leaf_1 : decode cX12_leaf 1 = .ok (.invokevirtual 451, 3) := by decide +kernel
theorem dX12_leaf_4 : decode cX12_leaf 4 = .ok (.istore_n 3, 1) := by decide +kernel
theorem dX12_leaf_5 : decode cX12_leaf 5 = .ok (.iload_n 3, 1) := by decide +kernel
theorem dX12_leaf_6 : decode cX12_leaf 6 = .ok (.ifCond .le 5, 3) := by decide +kernel
theorem dX12_leaf_9 : decode cX12_leaf 9 = .ok (.iload_n 3, 1) := by decide +kernel
theorem dX12_leaf_10 : decode cX12_leaf 10 = .ok (.ireturn, 1) := by decide +kernel
theorem dX12_leaf_11 : decode cX12_leaf 11 = .ok (.aload_n 0, 1) := by decide +kernel
theorem dX12_leaf_12 : decode cX12_leaf 12 = .ok (.dup, 1) := by decide +kernel
theorem dX12_leaf_13 : decode cX12_leaf 13 = .ok (.getfield 442, 3) := by decide +kernel
theorem dX12_leaf_16 : decode cX12_leaf 16 = .ok (.iconst 1, 1) := by decide +kernel
theorem dX12_leaf_17 : decode cX12_leaf 17 = .ok (.isub, 1) := by decide +kernel
theorem dX12_leaf_18 : decode cX12_leaf 18 = .ok (.putfield 442, 3) := by decide +kernel
theorem dX12_leaf_21 : decode cX12_leaf 21 = .ok (.aload_n 0, 1) := by decide +kernel
theorem dX12_leaf_22 : decode cX12_leaf 22 = .ok (.getfield 135, 3) := by decide +kernel
theorem dX12_leaf_25 : decode cX12_leaf 25 = .ok (.iload_n 1, 1) := by decide +kernel
theorem dX12_leaf_26 : decode cX12_leaf 26 = .ok (.iaload, 1) := by decide +kernel
theorem dX12_leaf_27 : decode cX12_leaf 27 = .ok (.ifCond .ne 23, 3) := by decide +kernel
theorem dX12_leaf_30 : decode cX12_leaf 30 = .ok (.aload_n 0, 1) := by decide +kernel
theorem dX12_leaf_31 : decode cX12_leaf 31 = .ok (.bipush 60, 2) := by decide +kernel
theorem dX12_leaf_33 : decode cX12_leaf 33 = .ok (.aload_n 0, 1) := by decide +kernel
theorem dX12_leaf_34 : decode cX12_leaf 34 = .ok (.getfield 445, 3) := by decide +kernel
theorem dX12_leaf_37 : decode cX12_leaf 37 = .ok (.iadd, 1) := by decide +kernel
theorem dX12_leaf_38 : decode cX12_leaf 38 = .ok (.aload_n 0, 1) := by decide +kernel
theorem dX12_leaf_39 : decode cX12_leaf 39 = .ok (.getfield 138, 3) := by decide +kernel
theorem dX12_leaf_42 : decode cX12_leaf 42 = .ok (.iload_n 1, 1) := by decide +kernel
theorem dX12_leaf_43 : decode cX12_leaf 43 = .ok (.iaload, 1) := by decide +kernel
theorem dX12_leaf_44 : decode cX12_leaf 44 = .ok (.invokevirtual 96, 3) := by decide +kernel
theorem dX12_leaf_47 : decode cX12_leaf 47 = .ok (.goto 37, 3) := by decide +kernel
theorem dX12_leaf_50 : decode cX12_leaf 50 = .ok (.aload_n 0, 1) := by decide +kernel
theorem dX12_leaf_51 : decode cX12_leaf 51 = .ok (.aload_n 0, 1) := by decide +kernel
theorem dX12_leaf_52 : decode cX12_leaf 52 = .ok (.getfield 138, 3) := by decide +kernel
theorem dX12_leaf_55 : decode cX12_leaf 55 = .ok (.iload_n 1, 1) := by decide +kernel
theorem dX12_leaf_56 : decode cX12_leaf 56 = .ok (.iaload, 1) := by decide +kernel
theorem dX12_leaf_57 : decode cX12_leaf 57 = .ok (.iload_n 2, 1) := by decide +kernel
theorem dX12_leaf_58 : decode cX12_leaf 58 = .ok (.invokevirtual 454, 3) := by decide +kernel
theorem dX12_leaf_61 : decode cX12_leaf 61 = .ok (.istore 4, 2) := by decide +kernel
theorem dX12_leaf_63 : decode cX12_leaf 63 = .ok (.iload 4, 2) := by decide +kernel
theorem dX12_leaf_65 : decode cX12_leaf 65 = .ok (.iconst (-1), 1) := by decide +kernel
theorem dX12_leaf_66 : decode cX12_leaf 66 = .ok (.if_icmp .ne 5, 3) := by decide +kernel
theorem dX12_leaf_69 : decode cX12_leaf 69 = .ok (.iconst 4, 1) := by decide +kernel
theorem dX12_leaf_70 : decode cX12_leaf 70 = .ok (.ireturn, 1) := by decide +kernel
theorem dX12_leaf_71 : decode cX12_leaf 71 = .ok (.aload_n 0, 1) := by decide +kernel
theorem dX12_leaf_72 : decode cX12_leaf 72 = .ok (.bipush 60, 2) := by decide +kernel
theorem dX12_leaf_74 : decode cX12_leaf 74 = .ok (.aload_n 0, 1) := by decide +kernel
theorem dX12_leaf_75 : decode cX12_leaf 75 = .ok (.getfield 445, 3) := by decide +kernel
theorem dX12_leaf_78 : decode cX12_leaf 78 = .ok (.iadd, 1) := by decide +kernel
theorem dX12_leaf_79 : decode cX12_leaf 79 = .ok (.iload 4, 2) := by decide +kernel
theorem dX12_leaf_81 : decode cX12_leaf 81 = .ok (.invokevirtual 115, 3) := by decide +kernel
theorem dX12_leaf_84 : decode cX12_leaf 84 = .ok (.aload_n 0, 1) := by decide +kernel
theorem dX12_leaf_85 : decode cX12_leaf 85 = .ok (.dup, 1) := by decide +kernel
theorem dX12_leaf_86 : decode cX12_leaf 86 = .ok (.getfield 445, 3) := by decide +kernel
theorem dX12_leaf_89 : decode cX12_leaf 89 = .ok (.iconst 1, 1) := by decide +kernel
theorem dX12_leaf_90 : decode cX12_leaf 90 = .ok (.iadd, 1) := by decide +kernel
theorem dX12_leaf_91 : decode cX12_leaf 91 = .ok (.putfield 445, 3) := by decide +kernel
theorem dX12_leaf_94 : decode cX12_leaf 94 = .ok (.iconst 0, 1) := by decide +kernel
theorem dX12_leaf_95 : decode cX12_leaf 95 = .ok (.ireturn, 1) := by decide +kernel
theorem dX12_choose_0 : decode cX12_choose 0 = .ok (.aload_n 0, 1) := by decide +kernel
theorem dX12_choose_1 : decode cX12_choose 1 = .ok (.getfield 254, 3) := by decide +kernel
theorem dX12_choose_4 : decode cX12_choose 4 = .ok (.iload_n 1, 1) := by decide +kernel
theorem dX12_choose_5 : decode cX12_choose 5 = .ok (.iaload, 1) := by decide +kernel
theorem dX12_choose_6 : decode cX12_choose 6 = .ok (.ifCond .ne 54, 3) := by decide +kernel
theorem dX12_choose_9 : decode cX12_choose 9 = .ok (.aload_n 0, 1) := by decide +kernel
theorem dX12_choose_10 : decode cX12_choose 10 = .ok (.invokevirtual 451, 3) := by decide +kernel
theorem dX12_choose_13 : decode cX12_choose 13 = .ok (.istore_n 3, 1) := by decide +kernel
theorem dX12_choose_14 : decode cX12_choose 14 = .ok (.iload_n 3, 1) := by decide +kernel
theorem dX12_choose_15 : decode cX12_choose 15 = .ok (.ifCond .gt 13, 3) := by decide +kernel
theorem dX12_choose_18 : decode cX12_choose 18 = .ok (.aload_n 0, 1) := by decide +kernel
theorem dX12_choose_19 : decode cX12_choose 19 = .ok (.getfield 144, 3) := by decide +kernel
theorem dX12_choose_22 : decode cX12_choose 22 = .ok (.iload_n 2, 1) := by decide +kernel
theorem dX12_choose_23 : decode cX12_choose 23 = .ok (.iaload, 1) := by decide +kernel
theorem dX12_choose_24 : decode cX12_choose 24 = .ok (.iconst 3, 1) := by decide +kernel
theorem dX12_choose_25 : decode cX12_choose 25 = .ok (.if_icmp .eq 13, 3) := by decide +kernel
theorem dX12_choose_28 : decode cX12_choose 28 = .ok (.iload_n 3, 1) := by decide +kernel
theorem dX12_choose_29 : decode cX12_choose 29 = .ok (.ifCond .le 7, 3) := by decide +kernel
theorem dX12_choose_32 : decode cX12_choose 32 = .ok (.iload_n 3, 1) := by decide +kernel
theorem dX12_choose_33 : decode cX12_choose 33 = .ok (.goto 4, 3) := by decide +kernel
theorem dX12_choose_36 : decode cX12_choose 36 = .ok (.iconst 5, 1) := by decide +kernel
theorem dX12_choose_37 : decode cX12_choose 37 = .ok (.ireturn, 1) := by decide +kernel
theorem dX12_choose_38 : decode cX12_choose 38 = .ok (.aload_n 0, 1) := by decide +kernel
theorem dX12_choose_39 : decode cX12_choose 39 = .ok (.getfield 254, 3) := by decide +kernel
theorem dX12_choose_42 : decode cX12_choose 42 = .ok (.iload_n 1, 1) := by decide +kernel
theorem dX12_choose_43 : decode cX12_choose 43 = .ok (.iconst 1, 1) := by decide +kernel
theorem dX12_choose_44 : decode cX12_choose 44 = .ok (.iastore, 1) := by decide +kernel
theorem dX12_choose_45 : decode cX12_choose 45 = .ok (.aload_n 0, 1) := by decide +kernel
theorem dX12_choose_46 : decode cX12_choose 46 = .ok (.iload_n 2, 1) := by decide +kernel
theorem dX12_choose_47 : decode cX12_choose 47 = .ok (.iconst 1, 1) := by decide +kernel
theorem dX12_choose_48 : decode cX12_choose 48 = .ok (.iadd, 1) := by decide +kernel
theorem dX12_choose_49 : decode cX12_choose 49 = .ok (.aload_n 0, 1) := by decide +kernel
theorem dX12_choose_50 : decode cX12_choose 50 = .ok (.getfield 257, 3) := by decide +kernel
theorem dX12_choose_53 : decode cX12_choose 53 = .ok (.iload_n 1, 1) := by decide +kernel
theorem dX12_choose_54 : decode cX12_choose 54 = .ok (.iaload, 1) := by decide +kernel
theorem dX12_choose_55 : decode cX12_choose 55 = .ok (.invokevirtual 457, 3) := by decide +kernel
theorem dX12_choose_58 : decode cX12_choose 58 = .ok (.iconst 0, 1) := by decide +kernel
theorem dX12_choose_59 : decode cX12_choose 59 = .ok (.ireturn, 1) := by decide +kernel
theorem dX12_choose_60 : decode cX12_choose 60 = .ok (.aload_n 0, 1) := by decide +kernel
theorem dX12_choose_61 : decode cX12_choose 61 = .ok (.aload_n 0, 1) := by decide +kernel
theorem dX12_choose_62 : decode cX12_choose 62 = .ok (.invokevirtual 460, 3) := by decide +kernel
theorem dX12_choose_65 : decode cX12_choose 65 = .ok (.invokevirtual 81, 3) := by decide +kernel
theorem dX12_choose_68 : decode cX12_choose 68 = .ok (.ifCond .eq 7, 3) := by decide +kernel
theorem dX12_choose_71 : decode cX12_choose 71 = .ok (.iconst 1, 1) := by decide +kernel
theorem dX12_choose_72 : decode cX12_choose 72 = .ok (.goto 4, 3) := by decide +kernel
theorem dX12_choose_75 : decode cX12_choose 75 = .ok (.iconst 0, 1) := by decide +kernel
theorem dX12_choose_76 : decode cX12_choose 76 = .ok (.istore_n 3, 1) := by decide +kernel
theorem dX12_choose_77 : decode cX12_choose 77 = .ok (.aload_n 0, 1) := by decide +kernel
theorem dX12_choose_78 : decode cX12_choose 78 = .ok (.dup, 1) := by decide +kernel
theorem dX12_choose_79 : decode cX12_choose 79 = .ok (.getfield 445, 3) := by decide +kernel
theorem dX12_choose_82 : decode cX12_choose 82 = .ok (.iconst 1, 1) := by decide +kernel
theorem dX12_choose_83 : decode cX12_choose 83 = .ok (.isub, 1) := by decide +kernel
theorem dX12_choose_84 : decode cX12_choose 84 = .ok (.putfield 445, 3) := by decide +kernel
theorem dX12_choose_87 : decode cX12_choose 87 = .ok (.aload_n 0, 1) := by decide +kernel
theorem dX12_choose_88 : decode cX12_choose 88 = .ok (.dup, 1) := by decide +kernel
theorem dX12_choose_89 : decode cX12_choose 89 = .ok (.getfield 442, 3) := by decide +kernel
theorem dX12_choose_92 : decode cX12_choose 92 = .ok (.iconst 1, 1) := by decide +kernel
theorem dX12_choose_93 : decode cX12_choose 93 = .ok (.isub, 1) := by decide +kernel
theorem dX12_choose_94 : decode cX12_choose 94 = .ok (.putfield 442, 3) := by decide +kernel
theorem dX12_choose_97 : decode cX12_choose 97 = .ok (.aload_n 0, 1) := by decide +kernel
theorem dX12_choose_98 : decode cX12_choose 98 = .ok (.aload_n 0, 1) := by decide +kernel
theorem dX12_choose_99 : decode cX12_choose 99 = .ok (.iload_n 2, 1) := by decide +kernel
theorem dX12_choose_100 : decode cX12_choose 100 = .ok (.iload_n 3, 1) := by decide +kernel
theorem dX12_choose_101 : decode cX12_choose 101 = .ok (.ifCond .eq 7, 3) := by decide +kernel
theorem dX12_choose_104 : decode cX12_choose 104 = .ok (.iconst 1, 1) := by decide +kernel
theorem dX12_choose_105 : decode cX12_choose 105 = .ok (.goto 4, 3) := by decide +kernel
theorem dX12_choose_108 : decode cX12_choose 108 = .ok (.iconst 2, 1) := by decide +kernel
theorem dX12_choose_109 : decode cX12_choose 109 = .ok (.invokevirtual 405, 3) := by decide +kernel
theorem dX12_choose_112 : decode cX12_choose 112 = .ok (.aload_n 0, 1) := by decide +kernel
theorem dX12_choose_113 : decode cX12_choose 113 = .ok (.getfield 257, 3) := by decide +kernel
theorem dX12_choose_116 : decode cX12_choose 116 = .ok (.iload_n 1, 1) := by decide +kernel
theorem dX12_choose_117 : decode cX12_choose 117 = .ok (.iaload, 1) := by decide +kernel
theorem dX12_choose_118 : decode cX12_choose 118 = .ok (.invokevirtual 457, 3) := by decide +kernel
theorem dX12_choose_121 : decode cX12_choose 121 = .ok (.iconst 0, 1) := by decide +kernel
theorem dX12_choose_122 : decode cX12_choose 122 = .ok (.ireturn, 1) := by decide +kernel
theorem dX12_beginSum_0 : decode cX12_beginSum 0 = .ok (.aload_n 0, 1) := by decide +kernel
theorem dX12_beginSum_1 : decode cX12_beginSum 1 = .ok (.invokevirtual 460, 3) := by decide +kernel
theorem dX12_beginSum_4 : decode cX12_beginSum 4 = .ok (.iconst 1, 1) := by decide +kernel
theorem dX12_beginSum_5 : decode cX12_beginSum 5 = .ok (.isub, 1) := by decide +kernel
theorem dX12_beginSum_6 : decode cX12_beginSum 6 = .ok (.istore_n 3, 1) := by decide +kernel
theorem dX12_beginSum_7 : decode cX12_beginSum 7 = .ok (.aload_n 0, 1) := by decide +kernel
theorem dX12_beginSum_8 : decode cX12_beginSum 8 = .ok (.invokevirtual 460, 3) := by decide +kernel
theorem dX12_beginSum_11 : decode cX12_beginSum 11 = .ok (.istore 4, 2) := by decide +kernel
theorem dX12_beginSum_13 : decode cX12_beginSum 13 = .ok (.aload_n 0, 1) := by decide +kernel
theorem dX12_beginSum_14 : decode cX12_beginSum 14 = .ok (.iload_n 3, 1) := by decide +kernel
theorem dX12_beginSum_15 : decode cX12_beginSum 15 = .ok (.invokevirtual 92, 3) := by decide +kernel
theorem dX12_beginSum_18 : decode cX12_beginSum 18 = .ok (.ifCond .eq 12, 3) := by decide +kernel
theorem dX12_beginSum_21 : decode cX12_beginSum 21 = .ok (.aload_n 0, 1) := by decide +kernel
theorem dX12_beginSum_22 : decode cX12_beginSum 22 = .ok (.iload 4, 2) := by decide +kernel
theorem dX12_beginSum_24 : decode cX12_beginSum 24 = .ok (.invokevirtual 92, 3) := by decide +kernel
theorem dX12_beginSum_27 : decode cX12_beginSum 27 = .ok (.ifCond .ne 5, 3) := by decide +kernel
theorem dX12_beginSum_30 : decode cX12_beginSum 30 = .ok (.iconst 2, 1) := by decide +kernel
theorem dX12_beginSum_31 : decode cX12_beginSum 31 = .ok (.ireturn, 1) := by decide +kernel
theorem dX12_beginSum_32 : decode cX12_beginSum 32 = .ok (.aload_n 0, 1) := by decide +kernel
theorem dX12_beginSum_33 : decode cX12_beginSum 33 = .ok (.iload_n 3, 1) := by decide +kernel
theorem dX12_beginSum_34 : decode cX12_beginSum 34 = .ok (.iload 4, 2) := by decide +kernel
theorem dX12_beginSum_36 : decode cX12_beginSum 36 = .ok (.invokevirtual 132, 3) := by decide +kernel
theorem dX12_beginSum_39 : decode cX12_beginSum 39 = .ok (.ifCond .le 34, 3) := by decide +kernel
theorem dX12_beginSum_42 : decode cX12_beginSum 42 = .ok (.aload_n 0, 1) := by decide +kernel
theorem dX12_beginSum_43 : decode cX12_beginSum 43 = .ok (.dup, 1) := by decide +kernel
theorem dX12_beginSum_44 : decode cX12_beginSum 44 = .ok (.getfield 445, 3) := by decide +kernel
theorem dX12_beginSum_47 : decode cX12_beginSum 47 = .ok (.iconst 1, 1) := by decide +kernel
theorem dX12_beginSum_48 : decode cX12_beginSum 48 = .ok (.isub, 1) := by decide +kernel
theorem dX12_beginSum_49 : decode cX12_beginSum 49 = .ok (.putfield 445, 3) := by decide +kernel
theorem dX12_beginSum_52 : decode cX12_beginSum 52 = .ok (.aload_n 0, 1) := by decide +kernel
theorem dX12_beginSum_53 : decode cX12_beginSum 53 = .ok (.aload_n 0, 1) := by decide +kernel
theorem dX12_beginSum_54 : decode cX12_beginSum 54 = .ok (.invokevirtual 460, 3) := by decide +kernel
theorem dX12_beginSum_57 : decode cX12_beginSum 57 = .ok (.iconst 0, 1) := by decide +kernel
theorem dX12_beginSum_58 : decode cX12_beginSum 58 = .ok (.invokevirtual 96, 3) := by decide +kernel
theorem dX12_beginSum_61 : decode cX12_beginSum 61 = .ok (.aload_n 0, 1) := by decide +kernel
theorem dX12_beginSum_62 : decode cX12_beginSum 62 = .ok (.dup, 1) := by decide +kernel
theorem dX12_beginSum_63 : decode cX12_beginSum 63 = .ok (.getfield 442, 3) := by decide +kernel
theorem dX12_beginSum_66 : decode cX12_beginSum 66 = .ok (.iconst 1, 1) := by decide +kernel
theorem dX12_beginSum_67 : decode cX12_beginSum 67 = .ok (.isub, 1) := by decide +kernel
theorem dX12_beginSum_68 : decode cX12_beginSum 68 = .ok (.putfield 442, 3) := by decide +kernel
theorem dX12_beginSum_71 : decode cX12_beginSum 71 = .ok (.iconst 0, 1) := by decide +kernel
theorem dX12_beginSum_72 : decode cX12_beginSum 72 = .ok (.ireturn, 1) := by decide +kernel
theorem dX12_beginSum_73 : decode cX12_beginSum 73 = .ok (.aload_n 0, 1) := by decide +kernel
theorem dX12_beginSum_74 : decode cX12_beginSum 74 = .ok (.sipush 3600, 3) := by decide +kernel
theorem dX12_beginSum_77 : decode cX12_beginSum 77 = .ok (.iload 4, 2) := by decide +kernel
theorem dX12_beginSum_79 : decode cX12_beginSum 79 = .ok (.iload_n 3, 1) := by decide +kernel
theorem dX12_beginSum_80 : decode cX12_beginSum 80 = .ok (.iconst (-1), 1) := by decide +kernel
theorem dX12_beginSum_81 : decode cX12_beginSum 81 = .ok (.invokevirtual 121, 3) := by decide +kernel
theorem dX12_beginSum_84 : decode cX12_beginSum 84 = .ok (.istore 5, 2) := by decide +kernel
theorem dX12_beginSum_86 : decode cX12_beginSum 86 = .ok (.iload 5, 2) := by decide +kernel
theorem dX12_beginSum_88 : decode cX12_beginSum 88 = .ok (.ifCond .eq 15, 3) := by decide +kernel
theorem dX12_beginSum_91 : decode cX12_beginSum 91 = .ok (.aload_n 0, 1) := by decide +kernel
theorem dX12_beginSum_92 : decode cX12_beginSum 92 = .ok (.sipush 3600, 3) := by decide +kernel
theorem dX12_beginSum_95 : decode cX12_beginSum 95 = .ok (.invokevirtual 103, 3) := by decide +kernel
theorem dX12_beginSum_98 : decode cX12_beginSum 98 = .ok (.iconst 1, 1) := by decide +kernel
theorem dX12_beginSum_99 : decode cX12_beginSum 99 = .ok (.iadd, 1) := by decide +kernel
theorem dX12_beginSum_100 : decode cX12_beginSum 100 = .ok (.goto 5, 3) := by decide +kernel
theorem dX12_beginSum_103 : decode cX12_beginSum 103 = .ok (.bipush 31, 2) := by decide +kernel
theorem dX12_beginSum_105 : decode cX12_beginSum 105 = .ok (.istore 6, 2) := by decide +kernel
theorem dX12_beginSum_107 : decode cX12_beginSum 107 = .ok (.iload 6, 2) := by decide +kernel
theorem dX12_beginSum_109 : decode cX12_beginSum 109 = .ok (.bipush 30, 2) := by decide +kernel
theorem dX12_beginSum_111 : decode cX12_beginSum 111 = .ok (.if_icmp .le 5, 3) := by decide +kernel
theorem dX12_beginSum_114 : decode cX12_beginSum 114 = .ok (.iconst 3, 1) := by decide +kernel
theorem dX12_beginSum_115 : decode cX12_beginSum 115 = .ok (.ireturn, 1) := by decide +kernel
theorem dX12_beginSum_116 : decode cX12_beginSum 116 = .ok (.aload_n 0, 1) := by decide +kernel
theorem dX12_beginSum_117 : decode cX12_beginSum 117 = .ok (.getfield 260, 3) := by decide +kernel
theorem dX12_beginSum_120 : decode cX12_beginSum 120 = .ok (.iload_n 1, 1) := by decide +kernel
theorem dX12_beginSum_121 : decode cX12_beginSum 121 = .ok (.aload_n 0, 1) := by decide +kernel
theorem dX12_beginSum_122 : decode cX12_beginSum 122 = .ok (.getfield 463, 3) := by decide +kernel
theorem dX12_beginSum_125 : decode cX12_beginSum 125 = .ok (.iastore, 1) := by decide +kernel
theorem dX12_beginSum_126 : decode cX12_beginSum 126 = .ok (.aload_n 0, 1) := by decide +kernel
theorem dX12_beginSum_127 : decode cX12_beginSum 127 = .ok (.getfield 275, 3) := by decide +kernel
theorem dX12_beginSum_130 : decode cX12_beginSum 130 = .ok (.aload_n 0, 1) := by decide +kernel
theorem dX12_beginSum_131 : decode cX12_beginSum 131 = .ok (.getfield 463, 3) := by decide +kernel
theorem dX12_beginSum_134 : decode cX12_beginSum 134 = .ok (.aload_n 0, 1) := by decide +kernel
theorem dX12_beginSum_135 : decode cX12_beginSum 135 = .ok (.getfield 138, 3) := by decide +kernel
theorem dX12_beginSum_138 : decode cX12_beginSum 138 = .ok (.iload_n 2, 1) := by decide +kernel
theorem dX12_beginSum_139 : decode cX12_beginSum 139 = .ok (.iconst 1, 1) := by decide +kernel
theorem dX12_beginSum_140 : decode cX12_beginSum 140 = .ok (.iadd, 1) := by decide +kernel
theorem dX12_beginSum_141 : decode cX12_beginSum 141 = .ok (.iaload, 1) := by decide +kernel
theorem dX12_beginSum_142 : decode cX12_beginSum 142 = .ok (.iastore, 1) := by decide +kernel
theorem dX12_beginSum_143 : decode cX12_beginSum 143 = .ok (.aload_n 0, 1) := by decide +kernel
theorem dX12_beginSum_144 : decode cX12_beginSum 144 = .ok (.getfield 278, 3) := by decide +kernel
theorem dX12_beginSum_147 : decode cX12_beginSum 147 = .ok (.aload_n 0, 1) := by decide +kernel
theorem dX12_beginSum_148 : decode cX12_beginSum 148 = .ok (.getfield 463, 3) := by decide +kernel
theorem dX12_beginSum_151 : decode cX12_beginSum 151 = .ok (.iconst 0, 1) := by decide +kernel
theorem dX12_beginSum_152 : decode cX12_beginSum 152 = .ok (.iastore, 1) := by decide +kernel
theorem dX12_beginSum_153 : decode cX12_beginSum 153 = .ok (.aload_n 0, 1) := by decide +kernel
theorem dX12_beginSum_154 : decode cX12_beginSum 154 = .ok (.getfield 281, 3) := by decide +kernel
theorem dX12_beginSum_157 : decode cX12_beginSum 157 = .ok (.aload_n 0, 1) := by decide +kernel
theorem dX12_beginSum_158 : decode cX12_beginSum 158 = .ok (.getfield 463, 3) := by decide +kernel
theorem dX12_beginSum_161 : decode cX12_beginSum 161 = .ok (.aload_n 0, 1) := by decide +kernel
theorem dX12_beginSum_162 : decode cX12_beginSum 162 = .ok (.getfield 257, 3) := by decide +kernel
theorem dX12_beginSum_165 : decode cX12_beginSum 165 = .ok (.iload_n 1, 1) := by decide +kernel
theorem dX12_beginSum_166 : decode cX12_beginSum 166 = .ok (.iaload, 1) := by decide +kernel
theorem dX12_beginSum_167 : decode cX12_beginSum 167 = .ok (.iastore, 1) := by decide +kernel
theorem dX12_beginSum_168 : decode cX12_beginSum 168 = .ok (.aload_n 0, 1) := by decide +kernel
theorem dX12_beginSum_169 : decode cX12_beginSum 169 = .ok (.sipush 1000, 3) := by decide +kernel
theorem dX12_beginSum_172 : decode cX12_beginSum 172 = .ok (.iconst 3, 1) := by decide +kernel
theorem dX12_beginSum_173 : decode cX12_beginSum 173 = .ok (.aload_n 0, 1) := by decide +kernel
theorem dX12_beginSum_174 : decode cX12_beginSum 174 = .ok (.getfield 463, 3) := by decide +kernel
theorem dX12_beginSum_177 : decode cX12_beginSum 177 = .ok (.imul, 1) := by decide +kernel
theorem dX12_beginSum_178 : decode cX12_beginSum 178 = .ok (.iadd, 1) := by decide +kernel
theorem dX12_beginSum_179 : decode cX12_beginSum 179 = .ok (.iload_n 3, 1) := by decide +kernel
theorem dX12_beginSum_180 : decode cX12_beginSum 180 = .ok (.invokevirtual 115, 3) := by decide +kernel
theorem dX12_beginSum_183 : decode cX12_beginSum 183 = .ok (.aload_n 0, 1) := by decide +kernel
theorem dX12_beginSum_184 : decode cX12_beginSum 184 = .ok (.dup, 1) := by decide +kernel
theorem dX12_beginSum_185 : decode cX12_beginSum 185 = .ok (.getfield 463, 3) := by decide +kernel
theorem dX12_beginSum_188 : decode cX12_beginSum 188 = .ok (.iconst 1, 1) := by decide +kernel
theorem dX12_beginSum_189 : decode cX12_beginSum 189 = .ok (.iadd, 1) := by decide +kernel
theorem dX12_beginSum_190 : decode cX12_beginSum 190 = .ok (.putfield 463, 3) := by decide +kernel
theorem dX12_beginSum_193 : decode cX12_beginSum 193 = .ok (.aload_n 0, 1) := by decide +kernel
theorem dX12_beginSum_194 : decode cX12_beginSum 194 = .ok (.dup, 1) := by decide +kernel
theorem dX12_beginSum_195 : decode cX12_beginSum 195 = .ok (.getfield 445, 3) := by decide +kernel
theorem dX12_beginSum_198 : decode cX12_beginSum 198 = .ok (.iconst 1, 1) := by decide +kernel
theorem dX12_beginSum_199 : decode cX12_beginSum 199 = .ok (.isub, 1) := by decide +kernel
theorem dX12_beginSum_200 : decode cX12_beginSum 200 = .ok (.putfield 445, 3) := by decide +kernel
theorem dX12_beginSum_203 : decode cX12_beginSum 203 = .ok (.aload_n 0, 1) := by decide +kernel
theorem dX12_beginSum_204 : decode cX12_beginSum 204 = .ok (.aload_n 0, 1) := by decide +kernel
theorem dX12_beginSum_205 : decode cX12_beginSum 205 = .ok (.invokevirtual 460, 3) := by decide +kernel
theorem dX12_beginSum_208 : decode cX12_beginSum 208 = .ok (.iconst 0, 1) := by decide +kernel
theorem dX12_beginSum_209 : decode cX12_beginSum 209 = .ok (.invokevirtual 96, 3) := by decide +kernel
theorem dX12_beginSum_212 : decode cX12_beginSum 212 = .ok (.aload_n 0, 1) := by decide +kernel
theorem dX12_beginSum_213 : decode cX12_beginSum 213 = .ok (.getfield 272, 3) := by decide +kernel
theorem dX12_beginSum_216 : decode cX12_beginSum 216 = .ok (.iload_n 1, 1) := by decide +kernel
theorem dX12_beginSum_217 : decode cX12_beginSum 217 = .ok (.iload 6, 2) := by decide +kernel
theorem dX12_beginSum_219 : decode cX12_beginSum 219 = .ok (.iastore, 1) := by decide +kernel
theorem dX12_beginSum_220 : decode cX12_beginSum 220 = .ok (.aload_n 0, 1) := by decide +kernel
theorem dX12_beginSum_221 : decode cX12_beginSum 221 = .ok (.getfield 254, 3) := by decide +kernel
theorem dX12_beginSum_224 : decode cX12_beginSum 224 = .ok (.iload_n 1, 1) := by decide +kernel
theorem dX12_beginSum_225 : decode cX12_beginSum 225 = .ok (.iconst 3, 1) := by decide +kernel
theorem dX12_beginSum_226 : decode cX12_beginSum 226 = .ok (.iastore, 1) := by decide +kernel
theorem dX12_beginSum_227 : decode cX12_beginSum 227 = .ok (.aload_n 0, 1) := by decide +kernel
theorem dX12_beginSum_228 : decode cX12_beginSum 228 = .ok (.aload_n 0, 1) := by decide +kernel
theorem dX12_beginSum_229 : decode cX12_beginSum 229 = .ok (.iload_n 2, 1) := by decide +kernel
theorem dX12_beginSum_230 : decode cX12_beginSum 230 = .ok (.iconst 3, 1) := by decide +kernel
theorem dX12_beginSum_231 : decode cX12_beginSum 231 = .ok (.invokevirtual 405, 3) := by decide +kernel
theorem dX12_beginSum_234 : decode cX12_beginSum 234 = .ok (.aload_n 0, 1) := by decide +kernel
theorem dX12_beginSum_235 : decode cX12_beginSum 235 = .ok (.getfield 260, 3) := by decide +kernel
theorem dX12_beginSum_238 : decode cX12_beginSum 238 = .ok (.iload_n 1, 1) := by decide +kernel
theorem dX12_beginSum_239 : decode cX12_beginSum 239 = .ok (.iaload, 1) := by decide +kernel
theorem dX12_beginSum_240 : decode cX12_beginSum 240 = .ok (.invokevirtual 457, 3) := by decide +kernel
theorem dX12_beginSum_243 : decode cX12_beginSum 243 = .ok (.iconst 0, 1) := by decide +kernel
theorem dX12_beginSum_244 : decode cX12_beginSum 244 = .ok (.ireturn, 1) := by decide +kernel
theorem dX12_goOnSum_0 : decode cX12_goOnSum 0 = .ok (.aload_n 0, 1) := by decide +kernel
theorem dX12_goOnSum_1 : decode cX12_goOnSum 1 = .ok (.aload_n 0, 1) := by decide +kernel
theorem dX12_goOnSum_2 : decode cX12_goOnSum 2 = .ok (.invokevirtual 460, 3) := by decide +kernel
theorem dX12_goOnSum_5 : decode cX12_goOnSum 5 = .ok (.iconst 1, 1) := by decide +kernel
theorem dX12_goOnSum_6 : decode cX12_goOnSum 6 = .ok (.isub, 1) := by decide +kernel
theorem dX12_goOnSum_7 : decode cX12_goOnSum 7 = .ok (.aload_n 0, 1) := by decide +kernel
theorem dX12_goOnSum_8 : decode cX12_goOnSum 8 = .ok (.invokevirtual 460, 3) := by decide +kernel
theorem dX12_goOnSum_11 : decode cX12_goOnSum 11 = .ok (.iconst 1, 1) := by decide +kernel
theorem dX12_goOnSum_12 : decode cX12_goOnSum 12 = .ok (.isub, 1) := by decide +kernel
theorem dX12_goOnSum_13 : decode cX12_goOnSum 13 = .ok (.aload_n 0, 1) := by decide +kernel
theorem dX12_goOnSum_14 : decode cX12_goOnSum 14 = .ok (.invokevirtual 460, 3) := by decide +kernel
theorem dX12_goOnSum_17 : decode cX12_goOnSum 17 = .ok (.iconst 1, 1) := by decide +kernel
theorem dX12_goOnSum_18 : decode cX12_goOnSum 18 = .ok (.invokevirtual 121, 3) := by decide +kernel
theorem dX12_goOnSum_21 : decode cX12_goOnSum 21 = .ok (.istore_n 3, 1) := by decide +kernel
theorem dX12_goOnSum_22 : decode cX12_goOnSum 22 = .ok (.aload_n 0, 1) := by decide +kernel
theorem dX12_goOnSum_23 : decode cX12_goOnSum 23 = .ok (.dup, 1) := by decide +kernel
theorem dX12_goOnSum_24 : decode cX12_goOnSum 24 = .ok (.getfield 445, 3) := by decide +kernel
theorem dX12_goOnSum_27 : decode cX12_goOnSum 27 = .ok (.iconst 1, 1) := by decide +kernel
theorem dX12_goOnSum_28 : decode cX12_goOnSum 28 = .ok (.isub, 1) := by decide +kernel
theorem dX12_goOnSum_29 : decode cX12_goOnSum 29 = .ok (.putfield 445, 3) := by decide +kernel
theorem dX12_goOnSum_32 : decode cX12_goOnSum 32 = .ok (.iload_n 3, 1) := by decide +kernel
theorem dX12_goOnSum_33 : decode cX12_goOnSum 33 = .ok (.ifCond .ne 5, 3) := by decide +kernel
theorem dX12_goOnSum_36 : decode cX12_goOnSum 36 = .ok (.iconst 3, 1) := by decide +kernel
theorem dX12_goOnSum_37 : decode cX12_goOnSum 37 = .ok (.ireturn, 1) := by decide +kernel
theorem dX12_goOnSum_38 : decode cX12_goOnSum 38 = .ok (.aload_n 0, 1) := by decide +kernel
theorem dX12_goOnSum_39 : decode cX12_goOnSum 39 = .ok (.getfield 272, 3) := by decide +kernel
theorem dX12_goOnSum_42 : decode cX12_goOnSum 42 = .ok (.iload_n 1, 1) := by decide +kernel
theorem dX12_goOnSum_43 : decode cX12_goOnSum 43 = .ok (.dup2, 1) := by decide +kernel
theorem dX12_goOnSum_44 : decode cX12_goOnSum 44 = .ok (.iaload, 1) := by decide +kernel
theorem dX12_goOnSum_45 : decode cX12_goOnSum 45 = .ok (.iconst 1, 1) := by decide +kernel
theorem dX12_goOnSum_46 : decode cX12_goOnSum 46 = .ok (.isub, 1) := by decide +kernel
theorem dX12_goOnSum_47 : decode cX12_goOnSum 47 = .ok (.iastore, 1) := by decide +kernel
theorem dX12_goOnSum_48 : decode cX12_goOnSum 48 = .ok (.aload_n 0, 1) := by decide +kernel
theorem dX12_goOnSum_49 : decode cX12_goOnSum 49 = .ok (.getfield 272, 3) := by decide +kernel
theorem dX12_goOnSum_52 : decode cX12_goOnSum 52 = .ok (.iload_n 1, 1) := by decide +kernel
theorem dX12_goOnSum_53 : decode cX12_goOnSum 53 = .ok (.iaload, 1) := by decide +kernel
theorem dX12_goOnSum_54 : decode cX12_goOnSum 54 = .ok (.ifCond .ne 25, 3) := by decide +kernel
theorem dX12_goOnSum_57 : decode cX12_goOnSum 57 = .ok (.aload_n 0, 1) := by decide +kernel
theorem dX12_goOnSum_58 : decode cX12_goOnSum 58 = .ok (.aload_n 0, 1) := by decide +kernel
theorem dX12_goOnSum_59 : decode cX12_goOnSum 59 = .ok (.getfield 260, 3) := by decide +kernel
theorem dX12_goOnSum_62 : decode cX12_goOnSum 62 = .ok (.iload_n 1, 1) := by decide +kernel
theorem dX12_goOnSum_63 : decode cX12_goOnSum 63 = .ok (.iaload, 1) := by decide +kernel
theorem dX12_goOnSum_64 : decode cX12_goOnSum 64 = .ok (.putfield 463, 3) := by decide +kernel
theorem dX12_goOnSum_67 : decode cX12_goOnSum 67 = .ok (.aload_n 0, 1) := by decide +kernel
theorem dX12_goOnSum_68 : decode cX12_goOnSum 68 = .ok (.dup, 1) := by decide +kernel
theorem dX12_goOnSum_69 : decode cX12_goOnSum 69 = .ok (.getfield 442, 3) := by decide +kernel
theorem dX12_goOnSum_72 : decode cX12_goOnSum 72 = .ok (.iconst 1, 1) := by decide +kernel
theorem dX12_goOnSum_73 : decode cX12_goOnSum 73 = .ok (.isub, 1) := by decide +kernel
theorem dX12_goOnSum_74 : decode cX12_goOnSum 74 = .ok (.putfield 442, 3) := by decide +kernel
theorem dX12_goOnSum_77 : decode cX12_goOnSum 77 = .ok (.iconst 0, 1) := by decide +kernel
theorem dX12_goOnSum_78 : decode cX12_goOnSum 78 = .ok (.ireturn, 1) := by decide +kernel
theorem dX12_goOnSum_79 : decode cX12_goOnSum 79 = .ok (.aload_n 0, 1) := by decide +kernel
theorem dX12_goOnSum_80 : decode cX12_goOnSum 80 = .ok (.sipush 3600, 3) := by decide +kernel
theorem dX12_goOnSum_83 : decode cX12_goOnSum 83 = .ok (.iconst 1, 1) := by decide +kernel
theorem dX12_goOnSum_84 : decode cX12_goOnSum 84 = .ok (.invokevirtual 96, 3) := by decide +kernel
theorem dX12_goOnSum_87 : decode cX12_goOnSum 87 = .ok (.sipush 1000, 3) := by decide +kernel
theorem dX12_goOnSum_90 : decode cX12_goOnSum 90 = .ok (.iconst 3, 1) := by decide +kernel
theorem dX12_goOnSum_91 : decode cX12_goOnSum 91 = .ok (.aload_n 0, 1) := by decide +kernel
theorem dX12_goOnSum_92 : decode cX12_goOnSum 92 = .ok (.getfield 260, 3) := by decide +kernel
theorem dX12_goOnSum_95 : decode cX12_goOnSum 95 = .ok (.iload_n 1, 1) := by decide +kernel
theorem dX12_goOnSum_96 : decode cX12_goOnSum 96 = .ok (.iaload, 1) := by decide +kernel
theorem dX12_goOnSum_97 : decode cX12_goOnSum 97 = .ok (.imul, 1) := by decide +kernel
theorem dX12_goOnSum_98 : decode cX12_goOnSum 98 = .ok (.iadd, 1) := by decide +kernel
theorem dX12_goOnSum_99 : decode cX12_goOnSum 99 = .ok (.istore 4, 2) := by decide +kernel
theorem dX12_goOnSum_101 : decode cX12_goOnSum 101 = .ok (.aload_n 0, 1) := by decide +kernel
theorem dX12_goOnSum_102 : decode cX12_goOnSum 102 = .ok (.iload 4, 2) := by decide +kernel
theorem dX12_goOnSum_104 : decode cX12_goOnSum 104 = .ok (.iload 4, 2) := by decide +kernel
theorem dX12_goOnSum_106 : decode cX12_goOnSum 106 = .ok (.sipush 3600, 3) := by decide +kernel
theorem dX12_goOnSum_109 : decode cX12_goOnSum 109 = .ok (.iconst 1, 1) := by decide +kernel
theorem dX12_goOnSum_110 : decode cX12_goOnSum 110 = .ok (.invokevirtual 121, 3) := by decide +kernel
theorem dX12_goOnSum_113 : decode cX12_goOnSum 113 = .ok (.pop, 1) := by decide +kernel
theorem dX12_goOnSum_114 : decode cX12_goOnSum 114 = .ok (.aload_n 0, 1) := by decide +kernel
theorem dX12_goOnSum_115 : decode cX12_goOnSum 115 = .ok (.aload_n 0, 1) := by decide +kernel
theorem dX12_goOnSum_116 : decode cX12_goOnSum 116 = .ok (.iload_n 2, 1) := by decide +kernel
theorem dX12_goOnSum_117 : decode cX12_goOnSum 117 = .ok (.iconst 3, 1) := by decide +kernel
theorem dX12_goOnSum_118 : decode cX12_goOnSum 118 = .ok (.invokevirtual 405, 3) := by decide +kernel
theorem dX12_goOnSum_121 : decode cX12_goOnSum 121 = .ok (.aload_n 0, 1) := by decide +kernel
theorem dX12_goOnSum_122 : decode cX12_goOnSum 122 = .ok (.getfield 260, 3) := by decide +kernel
theorem dX12_goOnSum_125 : decode cX12_goOnSum 125 = .ok (.iload_n 1, 1) := by decide +kernel
theorem dX12_goOnSum_126 : decode cX12_goOnSum 126 = .ok (.iaload, 1) := by decide +kernel
theorem dX12_goOnSum_127 : decode cX12_goOnSum 127 = .ok (.invokevirtual 457, 3) := by decide +kernel
theorem dX12_goOnSum_130 : decode cX12_goOnSum 130 = .ok (.iconst 0, 1) := by decide +kernel
theorem dX12_goOnSum_131 : decode cX12_goOnSum 131 = .ok (.ireturn, 1) := by decide +kernel
theorem dX12_sums_0 : decode cX12_sums 0 = .ok (.aload_n 0, 1) := by decide +kernel
theorem dX12_sums_1 : decode cX12_sums 1 = .ok (.getfield 254, 3) := by decide +kernel
theorem dX12_sums_4 : decode cX12_sums 4 = .ok (.iload_n 1, 1) := by decide +kernel
theorem dX12_sums_5 : decode cX12_sums 5 = .ok (.iaload, 1) := by decide +kernel
theorem dX12_sums_6 : decode cX12_sums 6 = .ok (.iconst 3, 1) := by decide +kernel
theorem dX12_sums_7 : decode cX12_sums 7 = .ok (.if_icmp .ne 10, 3) := by decide +kernel
theorem dX12_sums_10 : decode cX12_sums 10 = .ok (.aload_n 0, 1) := by decide +kernel
theorem dX12_sums_11 : decode cX12_sums 11 = .ok (.iload_n 1, 1) := by decide +kernel
theorem dX12_sums_12 : decode cX12_sums 12 = .ok (.iload_n 2, 1) := by decide +kernel
theorem dX12_sums_13 : decode cX12_sums 13 = .ok (.invokevirtual 466, 3) := by decide +kernel
theorem dX12_sums_16 : decode cX12_sums 16 = .ok (.ireturn, 1) := by decide +kernel
theorem dX12_sums_17 : decode cX12_sums 17 = .ok (.aload_n 0, 1) := by decide +kernel
theorem dX12_sums_18 : decode cX12_sums 18 = .ok (.getfield 254, 3) := by decide +kernel
theorem dX12_sums_21 : decode cX12_sums 21 = .ok (.iload_n 1, 1) := by decide +kernel
theorem dX12_sums_22 : decode cX12_sums 22 = .ok (.iaload, 1) := by decide +kernel
theorem dX12_sums_23 : decode cX12_sums 23 = .ok (.iconst 2, 1) := by decide +kernel
theorem dX12_sums_24 : decode cX12_sums 24 = .ok (.if_icmp .ne 10, 3) := by decide +kernel
theorem dX12_sums_27 : decode cX12_sums 27 = .ok (.aload_n 0, 1) := by decide +kernel
theorem dX12_sums_28 : decode cX12_sums 28 = .ok (.iload_n 1, 1) := by decide +kernel
theorem dX12_sums_29 : decode cX12_sums 29 = .ok (.iload_n 2, 1) := by decide +kernel
theorem dX12_sums_30 : decode cX12_sums 30 = .ok (.invokevirtual 469, 3) := by decide +kernel
theorem dX12_sums_33 : decode cX12_sums 33 = .ok (.ireturn, 1) := by decide +kernel
theorem dX12_sums_34 : decode cX12_sums 34 = .ok (.aload_n 0, 1) := by decide +kernel
theorem dX12_sums_35 : decode cX12_sums 35 = .ok (.getfield 254, 3) := by decide +kernel
theorem dX12_sums_38 : decode cX12_sums 38 = .ok (.iload_n 1, 1) := by decide +kernel
theorem dX12_sums_39 : decode cX12_sums 39 = .ok (.iaload, 1) := by decide +kernel
theorem dX12_sums_40 : decode cX12_sums 40 = .ok (.ifCond .ne 10, 3) := by decide +kernel
theorem dX12_sums_43 : decode cX12_sums 43 = .ok (.aload_n 0, 1) := by decide +kernel
theorem dX12_sums_44 : decode cX12_sums 44 = .ok (.invokevirtual 451, 3) := by decide +kernel
theorem dX12_sums_47 : decode cX12_sums 47 = .ok (.goto 4, 3) := by decide +kernel
theorem dX12_sums_50 : decode cX12_sums 50 = .ok (.iconst 0, 1) := by decide +kernel
theorem dX12_sums_51 : decode cX12_sums 51 = .ok (.istore_n 3, 1) := by decide +kernel
theorem dX12_sums_52 : decode cX12_sums 52 = .ok (.iload_n 3, 1) := by decide +kernel
theorem dX12_sums_53 : decode cX12_sums 53 = .ok (.ifCond .le 5, 3) := by decide +kernel
theorem dX12_sums_56 : decode cX12_sums 56 = .ok (.iload_n 3, 1) := by decide +kernel
theorem dX12_sums_57 : decode cX12_sums 57 = .ok (.ireturn, 1) := by decide +kernel
theorem dX12_sums_58 : decode cX12_sums 58 = .ok (.aload_n 0, 1) := by decide +kernel
theorem dX12_sums_59 : decode cX12_sums 59 = .ok (.getfield 254, 3) := by decide +kernel
theorem dX12_sums_62 : decode cX12_sums 62 = .ok (.iload_n 1, 1) := by decide +kernel
theorem dX12_sums_63 : decode cX12_sums 63 = .ok (.iaload, 1) := by decide +kernel
theorem dX12_sums_64 : decode cX12_sums 64 = .ok (.ifCond .ne 15, 3) := by decide +kernel
theorem dX12_sums_67 : decode cX12_sums 67 = .ok (.aload_n 0, 1) := by decide +kernel
theorem dX12_sums_68 : decode cX12_sums 68 = .ok (.getfield 144, 3) := by decide +kernel
theorem dX12_sums_71 : decode cX12_sums 71 = .ok (.iload_n 2, 1) := by decide +kernel
theorem dX12_sums_72 : decode cX12_sums 72 = .ok (.iaload, 1) := by decide +kernel
theorem dX12_sums_73 : decode cX12_sums 73 = .ok (.iconst 4, 1) := by decide +kernel
theorem dX12_sums_74 : decode cX12_sums 74 = .ok (.if_icmp .eq 5, 3) := by decide +kernel
theorem dX12_sums_77 : decode cX12_sums 77 = .ok (.iconst 5, 1) := by decide +kernel
theorem dX12_sums_78 : decode cX12_sums 78 = .ok (.ireturn, 1) := by decide +kernel
theorem dX12_sums_79 : decode cX12_sums 79 = .ok (.aload_n 0, 1) := by decide +kernel
theorem dX12_sums_80 : decode cX12_sums 80 = .ok (.getfield 254, 3) := by decide +kernel
theorem dX12_sums_83 : decode cX12_sums 83 = .ok (.iload_n 1, 1) := by decide +kernel
theorem dX12_sums_84 : decode cX12_sums 84 = .ok (.iaload, 1) := by decide +kernel
theorem dX12_sums_85 : decode cX12_sums 85 = .ok (.ifCond .ne 18, 3) := by decide +kernel
theorem dX12_sums_88 : decode cX12_sums 88 = .ok (.aload_n 0, 1) := by decide +kernel
theorem dX12_sums_89 : decode cX12_sums 89 = .ok (.getfield 135, 3) := by decide +kernel
theorem dX12_sums_92 : decode cX12_sums 92 = .ok (.iload_n 2, 1) := by decide +kernel
theorem dX12_sums_93 : decode cX12_sums 93 = .ok (.iconst 1, 1) := by decide +kernel
theorem dX12_sums_94 : decode cX12_sums 94 = .ok (.iadd, 1) := by decide +kernel
theorem dX12_sums_95 : decode cX12_sums 95 = .ok (.iaload, 1) := by decide +kernel
theorem dX12_sums_96 : decode cX12_sums 96 = .ok (.iconst 1, 1) := by decide +kernel
theorem dX12_sums_97 : decode cX12_sums 97 = .ok (.if_icmp .eq 6, 3) := by decide +kernel
theorem dX12_sums_100 : decode cX12_sums 100 = .ok (.bipush 10, 2) := by decide +kernel
theorem dX12_sums_102 : decode cX12_sums 102 = .ok (.ireturn, 1) := by decide +kernel
theorem dX12_sums_103 : decode cX12_sums 103 = .ok (.aload_n 0, 1) := by decide +kernel
theorem dX12_sums_104 : decode cX12_sums 104 = .ok (.getfield 254, 3) := by decide +kernel
theorem dX12_sums_107 : decode cX12_sums 107 = .ok (.iload_n 1, 1) := by decide +kernel
theorem dX12_sums_108 : decode cX12_sums 108 = .ok (.dup2, 1) := by decide +kernel
theorem dX12_sums_109 : decode cX12_sums 109 = .ok (.iaload, 1) := by decide +kernel
theorem dX12_sums_110 : decode cX12_sums 110 = .ok (.iconst 1, 1) := by decide +kernel
theorem dX12_sums_111 : decode cX12_sums 111 = .ok (.iadd, 1) := by decide +kernel
theorem dX12_sums_112 : decode cX12_sums 112 = .ok (.iastore, 1) := by decide +kernel
theorem dX12_sums_113 : decode cX12_sums 113 = .ok (.aload_n 0, 1) := by decide +kernel
theorem dX12_sums_114 : decode cX12_sums 114 = .ok (.aload_n 0, 1) := by decide +kernel
theorem dX12_sums_115 : decode cX12_sums 115 = .ok (.iload_n 2, 1) := by decide +kernel
theorem dX12_sums_116 : decode cX12_sums 116 = .ok (.aload_n 0, 1) := by decide +kernel
theorem dX12_sums_117 : decode cX12_sums 117 = .ok (.getfield 254, 3) := by decide +kernel
theorem dX12_sums_120 : decode cX12_sums 120 = .ok (.iload_n 1, 1) := by decide +kernel
theorem dX12_sums_121 : decode cX12_sums 121 = .ok (.iaload, 1) := by decide +kernel
theorem dX12_sums_122 : decode cX12_sums 122 = .ok (.invokevirtual 405, 3) := by decide +kernel
theorem dX12_sums_125 : decode cX12_sums 125 = .ok (.aload_n 0, 1) := by decide +kernel
theorem dX12_sums_126 : decode cX12_sums 126 = .ok (.getfield 257, 3) := by decide +kernel
theorem dX12_sums_129 : decode cX12_sums 129 = .ok (.iload_n 1, 1) := by decide +kernel
theorem dX12_sums_130 : decode cX12_sums 130 = .ok (.iaload, 1) := by decide +kernel
theorem dX12_sums_131 : decode cX12_sums 131 = .ok (.invokevirtual 457, 3) := by decide +kernel
theorem dX12_sums_134 : decode cX12_sums 134 = .ok (.iconst 0, 1) := by decide +kernel
theorem dX12_sums_135 : decode cX12_sums 135 = .ok (.ireturn, 1) := by decide +kernel
theorem dX12_caseAt_0 : decode cX12_caseAt 0 = .ok (.sipush 2400, 3) := by decide +kernel
theorem dX12_caseAt_3 : decode cX12_caseAt 3 = .ok (.bipush 30, 2) := by decide +kernel
theorem dX12_caseAt_5 : decode cX12_caseAt 5 = .ok (.bipush 8, 2) := by decide +kernel
theorem dX12_caseAt_7 : decode cX12_caseAt 7 = .ok (.iload_n 0, 1) := by decide +kernel
theorem dX12_caseAt_8 : decode cX12_caseAt 8 = .ok (.imul, 1) := by decide +kernel
theorem dX12_caseAt_9 : decode cX12_caseAt 9 = .ok (.iconst 2, 1) := by decide +kernel
theorem dX12_caseAt_10 : decode cX12_caseAt 10 = .ok (.iload_n 1, 1) := by decide +kernel
theorem dX12_caseAt_11 : decode cX12_caseAt 11 = .ok (.imul, 1) := by decide +kernel
theorem dX12_caseAt_12 : decode cX12_caseAt 12 = .ok (.iadd, 1) := by decide +kernel
theorem dX12_caseAt_13 : decode cX12_caseAt 13 = .ok (.iload_n 2, 1) := by decide +kernel
theorem dX12_caseAt_14 : decode cX12_caseAt 14 = .ok (.iadd, 1) := by decide +kernel
theorem dX12_caseAt_15 : decode cX12_caseAt 15 = .ok (.imul, 1) := by decide +kernel
theorem dX12_caseAt_16 : decode cX12_caseAt 16 = .ok (.iadd, 1) := by decide +kernel
theorem dX12_caseAt_17 : decode cX12_caseAt 17 = .ok (.ireturn, 1) := by decide +kernel
theorem dX12_callFunction_0 : decode cX12_callFunction 0 = .ok (.aload_n 0, 1) := by decide +kernel
theorem dX12_callFunction_1 : decode cX12_callFunction 1 = .ok (.getfield 144, 3) := by decide +kernel
theorem dX12_callFunction_4 : decode cX12_callFunction 4 = .ok (.iload_n 2, 1) := by decide +kernel
theorem dX12_callFunction_5 : decode cX12_callFunction 5 = .ok (.iaload, 1) := by decide +kernel
theorem dX12_callFunction_6 : decode cX12_callFunction 6 = .ok (.istore 4, 2) := by decide +kernel
theorem dX12_callFunction_8 : decode cX12_callFunction 8 = .ok (.aload_n 0, 1) := by decide +kernel
theorem dX12_callFunction_9 : decode cX12_callFunction 9 = .ok (.getfield 175, 3) := by decide +kernel
theorem dX12_callFunction_12 : decode cX12_callFunction 12 = .ok (.iload_n 3, 1) := by decide +kernel
theorem dX12_callFunction_13 : decode cX12_callFunction 13 = .ok (.iaload, 1) := by decide +kernel
theorem dX12_callFunction_14 : decode cX12_callFunction 14 = .ok (.iload 4, 2) := by decide +kernel
theorem dX12_callFunction_16 : decode cX12_callFunction 16 = .ok (.if_icmp .ne 8, 3) := by decide +kernel
theorem dX12_callFunction_19 : decode cX12_callFunction 19 = .ok (.iload 4, 2) := by decide +kernel
theorem dX12_callFunction_21 : decode cX12_callFunction 21 = .ok (.ifCond .ne 5, 3) := by decide +kernel
theorem dX12_callFunction_24 : decode cX12_callFunction 24 = .ok (.iconst 5, 1) := by decide +kernel
theorem dX12_callFunction_25 : decode cX12_callFunction 25 = .ok (.ireturn, 1) := by decide +kernel
theorem dX12_callFunction_26 : decode cX12_callFunction 26 = .ok (.aload_n 0, 1) := by decide +kernel
theorem dX12_callFunction_27 : decode cX12_callFunction 27 = .ok (.getfield 472, 3) := by decide +kernel
theorem dX12_callFunction_30 : decode cX12_callFunction 30 = .ok (.bipush 12, 2) := by decide +kernel
theorem dX12_callFunction_32 : decode cX12_callFunction 32 = .ok (.if_icmp .ne 6, 3) := by decide +kernel
theorem dX12_callFunction_35 : decode cX12_callFunction 35 = .ok (.bipush 8, 2) := by decide +kernel
theorem dX12_callFunction_37 : decode cX12_callFunction 37 = .ok (.ireturn, 1) := by decide +kernel
theorem dX12_callFunction_38 : decode cX12_callFunction 38 = .ok (.aload_n 0, 1) := by decide +kernel
theorem dX12_callFunction_39 : decode cX12_callFunction 39 = .ok (.dup, 1) := by decide +kernel
theorem dX12_callFunction_40 : decode cX12_callFunction 40 = .ok (.getfield 472, 3) := by decide +kernel
theorem dX12_callFunction_43 : decode cX12_callFunction 43 = .ok (.iconst 1, 1) := by decide +kernel
theorem dX12_callFunction_44 : decode cX12_callFunction 44 = .ok (.iadd, 1) := by decide +kernel
theorem dX12_callFunction_45 : decode cX12_callFunction 45 = .ok (.putfield 472, 3) := by decide +kernel
theorem dX12_callFunction_48 : decode cX12_callFunction 48 = .ok (.aload_n 0, 1) := by decide +kernel
theorem dX12_callFunction_49 : decode cX12_callFunction 49 = .ok (.getfield 260, 3) := by decide +kernel
theorem dX12_callFunction_52 : decode cX12_callFunction 52 = .ok (.iload_n 1, 1) := by decide +kernel
theorem dX12_callFunction_53 : decode cX12_callFunction 53 = .ok (.aload_n 0, 1) := by decide +kernel
theorem dX12_callFunction_54 : decode cX12_callFunction 54 = .ok (.getfield 463, 3) := by decide +kernel
theorem dX12_callFunction_57 : decode cX12_callFunction 57 = .ok (.iastore, 1) := by decide +kernel
theorem dX12_callFunction_58 : decode cX12_callFunction 58 = .ok (.aload_n 0, 1) := by decide +kernel
theorem dX12_callFunction_59 : decode cX12_callFunction 59 = .ok (.getfield 278, 3) := by decide +kernel
theorem dX12_callFunction_62 : decode cX12_callFunction 62 = .ok (.aload_n 0, 1) := by decide +kernel
theorem dX12_callFunction_63 : decode cX12_callFunction 63 = .ok (.getfield 463, 3) := by decide +kernel
theorem dX12_callFunction_66 : decode cX12_callFunction 66 = .ok (.iload 4, 2) := by decide +kernel
theorem dX12_callFunction_68 : decode cX12_callFunction 68 = .ok (.iastore, 1) := by decide +kernel
theorem dX12_callFunction_69 : decode cX12_callFunction 69 = .ok (.aload_n 0, 1) := by decide +kernel
theorem dX12_callFunction_70 : decode cX12_callFunction 70 = .ok (.getfield 275, 3) := by decide +kernel
theorem dX12_callFunction_73 : decode cX12_callFunction 73 = .ok (.aload_n 0, 1) := by decide +kernel
theorem dX12_callFunction_74 : decode cX12_callFunction 74 = .ok (.getfield 463, 3) := by decide +kernel
theorem dX12_callFunction_77 : decode cX12_callFunction 77 = .ok (.iconst 0, 1) := by decide +kernel
theorem dX12_callFunction_78 : decode cX12_callFunction 78 = .ok (.iastore, 1) := by decide +kernel
theorem dX12_callFunction_79 : decode cX12_callFunction 79 = .ok (.aload_n 0, 1) := by decide +kernel
theorem dX12_callFunction_80 : decode cX12_callFunction 80 = .ok (.getfield 281, 3) := by decide +kernel
theorem dX12_callFunction_83 : decode cX12_callFunction 83 = .ok (.aload_n 0, 1) := by decide +kernel
theorem dX12_callFunction_84 : decode cX12_callFunction 84 = .ok (.getfield 463, 3) := by decide +kernel
theorem dX12_callFunction_87 : decode cX12_callFunction 87 = .ok (.iconst (-1), 1) := by decide +kernel
theorem dX12_callFunction_88 : decode cX12_callFunction 88 = .ok (.iastore, 1) := by decide +kernel
theorem dX12_callFunction_89 : decode cX12_callFunction 89 = .ok (.aload_n 0, 1) := by decide +kernel
theorem dX12_callFunction_90 : decode cX12_callFunction 90 = .ok (.dup, 1) := by decide +kernel
theorem dX12_callFunction_91 : decode cX12_callFunction 91 = .ok (.getfield 445, 3) := by decide +kernel
theorem dX12_callFunction_94 : decode cX12_callFunction 94 = .ok (.iload 4, 2) := by decide +kernel
theorem dX12_callFunction_96 : decode cX12_callFunction 96 = .ok (.isub, 1) := by decide +kernel
theorem dX12_callFunction_97 : decode cX12_callFunction 97 = .ok (.putfield 445, 3) := by decide +kernel
theorem dX12_callFunction_100 : decode cX12_callFunction 100 = .ok (.iconst 0, 1) := by decide +kernel
theorem dX12_callFunction_101 : decode cX12_callFunction 101 = .ok (.istore 5, 2) := by decide +kernel
theorem dX12_callFunction_103 : decode cX12_callFunction 103 = .ok (.iload 5, 2) := by decide +kernel
theorem dX12_callFunction_105 : decode cX12_callFunction 105 = .ok (.iload 4, 2) := by decide +kernel
theorem dX12_callFunction_107 : decode cX12_callFunction 107 = .ok (.if_icmp .ge 36, 3) := by decide +kernel
theorem dX12_callFunction_110 : decode cX12_callFunction 110 = .ok (.aload_n 0, 1) := by decide +kernel
theorem dX12_callFunction_111 : decode cX12_callFunction 111 = .ok (.sipush 1000, 3) := by decide +kernel
theorem dX12_callFunction_114 : decode cX12_callFunction 114 = .ok (.iconst 3, 1) := by decide +kernel
theorem dX12_callFunction_115 : decode cX12_callFunction 115 = .ok (.aload_n 0, 1) := by decide +kernel
theorem dX12_callFunction_116 : decode cX12_callFunction 116 = .ok (.getfield 463, 3) := by decide +kernel
theorem dX12_callFunction_119 : decode cX12_callFunction 119 = .ok (.imul, 1) := by decide +kernel
theorem dX12_callFunction_120 : decode cX12_callFunction 120 = .ok (.iadd, 1) := by decide +kernel
theorem dX12_callFunction_121 : decode cX12_callFunction 121 = .ok (.iload 5, 2) := by decide +kernel
theorem dX12_callFunction_123 : decode cX12_callFunction 123 = .ok (.iadd, 1) := by decide +kernel
theorem dX12_callFunction_124 : decode cX12_callFunction 124 = .ok (.bipush 60, 2) := by decide +kernel
theorem dX12_callFunction_126 : decode cX12_callFunction 126 = .ok (.aload_n 0, 1) := by decide +kernel
theorem dX12_callFunction_127 : decode cX12_callFunction 127 = .ok (.getfield 445, 3) := by decide +kernel
theorem dX12_callFunction_130 : decode cX12_callFunction 130 = .ok (.iadd, 1) := by decide +kernel
theorem dX12_callFunction_131 : decode cX12_callFunction 131 = .ok (.iload 5, 2) := by decide +kernel
theorem dX12_callFunction_133 : decode cX12_callFunction 133 = .ok (.iadd, 1) := by decide +kernel
theorem dX12_callFunction_134 : decode cX12_callFunction 134 = .ok (.invokevirtual 115, 3) := by decide +kernel
theorem dX12_callFunction_137 : decode cX12_callFunction 137 = .ok (.iinc 5 1, 3) := by decide +kernel
theorem dX12_callFunction_140 : decode cX12_callFunction 140 = .ok (.goto (-37), 3) := by decide +kernel
theorem dX12_callFunction_143 : decode cX12_callFunction 143 = .ok (.aload_n 0, 1) := by decide +kernel
theorem dX12_callFunction_144 : decode cX12_callFunction 144 = .ok (.dup, 1) := by decide +kernel
theorem dX12_callFunction_145 : decode cX12_callFunction 145 = .ok (.getfield 463, 3) := by decide +kernel
theorem dX12_callFunction_148 : decode cX12_callFunction 148 = .ok (.iconst 1, 1) := by decide +kernel
theorem dX12_callFunction_149 : decode cX12_callFunction 149 = .ok (.iadd, 1) := by decide +kernel
theorem dX12_callFunction_150 : decode cX12_callFunction 150 = .ok (.putfield 463, 3) := by decide +kernel
theorem dX12_callFunction_153 : decode cX12_callFunction 153 = .ok (.aload_n 0, 1) := by decide +kernel
theorem dX12_callFunction_154 : decode cX12_callFunction 154 = .ok (.getfield 263, 3) := by decide +kernel
theorem dX12_callFunction_157 : decode cX12_callFunction 157 = .ok (.iload_n 1, 1) := by decide +kernel
theorem dX12_callFunction_158 : decode cX12_callFunction 158 = .ok (.iload_n 3, 1) := by decide +kernel
theorem dX12_callFunction_159 : decode cX12_callFunction 159 = .ok (.iastore, 1) := by decide +kernel
theorem dX12_callFunction_160 : decode cX12_callFunction 160 = .ok (.aload_n 0, 1) := by decide +kernel
theorem dX12_callFunction_161 : decode cX12_callFunction 161 = .ok (.getfield 266, 3) := by decide +kernel
theorem dX12_callFunction_164 : decode cX12_callFunction 164 = .ok (.iload_n 1, 1) := by decide +kernel
theorem dX12_callFunction_165 : decode cX12_callFunction 165 = .ok (.iconst 0, 1) := by decide +kernel
theorem dX12_callFunction_166 : decode cX12_callFunction 166 = .ok (.iastore, 1) := by decide +kernel
theorem dX12_callFunction_167 : decode cX12_callFunction 167 = .ok (.aload_n 0, 1) := by decide +kernel
theorem dX12_callFunction_168 : decode cX12_callFunction 168 = .ok (.getfield 269, 3) := by decide +kernel
theorem dX12_callFunction_171 : decode cX12_callFunction 171 = .ok (.iload_n 1, 1) := by decide +kernel
theorem dX12_callFunction_172 : decode cX12_callFunction 172 = .ok (.iconst (-1), 1) := by decide +kernel
theorem dX12_callFunction_173 : decode cX12_callFunction 173 = .ok (.iastore, 1) := by decide +kernel
theorem dX12_callFunction_174 : decode cX12_callFunction 174 = .ok (.aload_n 0, 1) := by decide +kernel
theorem dX12_callFunction_175 : decode cX12_callFunction 175 = .ok (.getfield 272, 3) := by decide +kernel
theorem dX12_callFunction_178 : decode cX12_callFunction 178 = .ok (.iload_n 1, 1) := by decide +kernel
theorem dX12_callFunction_179 : decode cX12_callFunction 179 = .ok (.iconst 0, 1) := by decide +kernel
theorem dX12_callFunction_180 : decode cX12_callFunction 180 = .ok (.iastore, 1) := by decide +kernel
theorem dX12_callFunction_181 : decode cX12_callFunction 181 = .ok (.aload_n 0, 1) := by decide +kernel
theorem dX12_callFunction_182 : decode cX12_callFunction 182 = .ok (.getfield 254, 3) := by decide +kernel
theorem dX12_callFunction_185 : decode cX12_callFunction 185 = .ok (.iload_n 1, 1) := by decide +kernel
theorem dX12_callFunction_186 : decode cX12_callFunction 186 = .ok (.iload 4, 2) := by decide +kernel
theorem dX12_callFunction_188 : decode cX12_callFunction 188 = .ok (.iconst 1, 1) := by decide +kernel
theorem dX12_callFunction_189 : decode cX12_callFunction 189 = .ok (.iadd, 1) := by decide +kernel
theorem dX12_callFunction_190 : decode cX12_callFunction 190 = .ok (.iastore, 1) := by decide +kernel
theorem dX12_callFunction_191 : decode cX12_callFunction 191 = .ok (.iconst 0, 1) := by decide +kernel
theorem dX12_callFunction_192 : decode cX12_callFunction 192 = .ok (.ireturn, 1) := by decide +kernel
theorem dX12_holds_0 : decode cX12_holds 0 = .ok (.aload_n 0, 1) := by decide +kernel
theorem dX12_holds_1 : decode cX12_holds 1 = .ok (.getfield 272, 3) := by decide +kernel
theorem dX12_holds_4 : decode cX12_holds 4 = .ok (.iload_n 1, 1) := by decide +kernel
theorem dX12_holds_5 : decode cX12_holds 5 = .ok (.dup2, 1) := by decide +kernel
theorem dX12_holds_6 : decode cX12_holds 6 = .ok (.iaload, 1) := by decide +kernel
theorem dX12_holds_7 : decode cX12_holds 7 = .ok (.iload_n 2, 1) := by decide +kernel
theorem dX12_holds_8 : decode cX12_holds 8 = .ok (.ifCond .eq 7, 3) := by decide +kernel
theorem dX12_holds_11 : decode cX12_holds 11 = .ok (.iconst 1, 1) := by decide +kernel
theorem dX12_holds_12 : decode cX12_holds 12 = .ok (.goto 4, 3) := by decide +kernel
theorem dX12_holds_15 : decode cX12_holds 15 = .ok (.iconst 0, 1) := by decide +kernel
theorem dX12_holds_16 : decode cX12_holds 16 = .ok (.iadd, 1) := by decide +kernel
theorem dX12_holds_17 : decode cX12_holds 17 = .ok (.iastore, 1) := by decide +kernel
theorem dX12_holds_18 : decode cX12_holds 18 = .ok (.aload_n 0, 1) := by decide +kernel
theorem dX12_holds_19 : decode cX12_holds 19 = .ok (.getfield 269, 3) := by decide +kernel
theorem dX12_holds_22 : decode cX12_holds 22 = .ok (.iload_n 1, 1) := by decide +kernel
theorem dX12_holds_23 : decode cX12_holds 23 = .ok (.iload_n 2, 1) := by decide +kernel
theorem dX12_holds_24 : decode cX12_holds 24 = .ok (.ifCond .eq 12, 3) := by decide +kernel
theorem dX12_holds_27 : decode cX12_holds 27 = .ok (.aload_n 0, 1) := by decide +kernel
theorem dX12_holds_28 : decode cX12_holds 28 = .ok (.getfield 266, 3) := by decide +kernel
theorem dX12_holds_31 : decode cX12_holds 31 = .ok (.iload_n 1, 1) := by decide +kernel
theorem dX12_holds_32 : decode cX12_holds 32 = .ok (.iaload, 1) := by decide +kernel
theorem dX12_holds_33 : decode cX12_holds 33 = .ok (.goto 9, 3) := by decide +kernel
theorem dX12_holds_36 : decode cX12_holds 36 = .ok (.aload_n 0, 1) := by decide +kernel
theorem dX12_holds_37 : decode cX12_holds 37 = .ok (.getfield 269, 3) := by decide +kernel
theorem dX12_holds_40 : decode cX12_holds 40 = .ok (.iload_n 1, 1) := by decide +kernel
theorem dX12_holds_41 : decode cX12_holds 41 = .ok (.iaload, 1) := by decide +kernel
theorem dX12_holds_42 : decode cX12_holds 42 = .ok (.iastore, 1) := by decide +kernel
theorem dX12_holds_43 : decode cX12_holds 43 = .ok (.aload_n 0, 1) := by decide +kernel
theorem dX12_holds_44 : decode cX12_holds 44 = .ok (.getfield 266, 3) := by decide +kernel
theorem dX12_holds_47 : decode cX12_holds 47 = .ok (.iload_n 1, 1) := by decide +kernel
theorem dX12_holds_48 : decode cX12_holds 48 = .ok (.dup2, 1) := by decide +kernel
theorem dX12_holds_49 : decode cX12_holds 49 = .ok (.iaload, 1) := by decide +kernel
theorem dX12_holds_50 : decode cX12_holds 50 = .ok (.iconst 1, 1) := by decide +kernel
theorem dX12_holds_51 : decode cX12_holds 51 = .ok (.iadd, 1) := by decide +kernel
theorem dX12_holds_52 : decode cX12_holds 52 = .ok (.iastore, 1) := by decide +kernel
theorem dX12_holds_53 : decode cX12_holds 53 = .ok (.return_, 1) := by decide +kernel
theorem dX12_cases_0 : decode cX12_cases 0 = .ok (.aload_n 0, 1) := by decide +kernel
theorem dX12_cases_1 : decode cX12_cases 1 = .ok (.getfield 263, 3) := by decide +kernel
theorem dX12_cases_4 : decode cX12_cases 4 = .ok (.iload_n 1, 1) := by decide +kernel
theorem dX12_cases_5 : decode cX12_cases 5 = .ok (.iaload, 1) := by decide +kernel
theorem dX12_cases_6 : decode cX12_cases 6 = .ok (.istore_n 3, 1) := by decide +kernel
theorem dX12_cases_7 : decode cX12_cases 7 = .ok (.iload_n 2, 1) := by decide +kernel
theorem dX12_cases_8 : decode cX12_cases 8 = .ok (.iconst 3, 1) := by decide +kernel
theorem dX12_cases_9 : decode cX12_cases 9 = .ok (.if_icmp .ne 35, 3) := by decide +kernel
theorem dX12_cases_12 : decode cX12_cases 12 = .ok (.aload_n 0, 1) := by decide +kernel
theorem dX12_cases_13 : decode cX12_cases 13 = .ok (.dup, 1) := by decide +kernel
theorem dX12_cases_14 : decode cX12_cases 14 = .ok (.getfield 472, 3) := by decide +kernel
theorem dX12_cases_17 : decode cX12_cases 17 = .ok (.iconst 1, 1) := by decide +kernel
theorem dX12_cases_18 : decode cX12_cases 18 = .ok (.isub, 1) := by decide +kernel
theorem dX12_cases_19 : decode cX12_cases 19 = .ok (.putfield 472, 3) := by decide +kernel
theorem dX12_cases_22 : decode cX12_cases 22 = .ok (.aload_n 0, 1) := by decide +kernel
theorem dX12_cases_23 : decode cX12_cases 23 = .ok (.aload_n 0, 1) := by decide +kernel
theorem dX12_cases_24 : decode cX12_cases 24 = .ok (.getfield 260, 3) := by decide +kernel
theorem dX12_cases_27 : decode cX12_cases 27 = .ok (.iload_n 1, 1) := by decide +kernel
theorem dX12_cases_28 : decode cX12_cases 28 = .ok (.iaload, 1) := by decide +kernel
theorem dX12_cases_29 : decode cX12_cases 29 = .ok (.putfield 463, 3) := by decide +kernel
theorem dX12_cases_32 : decode cX12_cases 32 = .ok (.aload_n 0, 1) := by decide +kernel
theorem dX12_cases_33 : decode cX12_cases 33 = .ok (.dup, 1) := by decide +kernel
theorem dX12_cases_34 : decode cX12_cases 34 = .ok (.getfield 442, 3) := by decide +kernel
theorem dX12_cases_37 : decode cX12_cases 37 = .ok (.iconst 1, 1) := by decide +kernel
theorem dX12_cases_38 : decode cX12_cases 38 = .ok (.isub, 1) := by decide +kernel
theorem dX12_cases_39 : decode cX12_cases 39 = .ok (.putfield 442, 3) := by decide +kernel
theorem dX12_cases_42 : decode cX12_cases 42 = .ok (.iconst 0, 1) := by decide +kernel
theorem dX12_cases_43 : decode cX12_cases 43 = .ok (.ireturn, 1) := by decide +kernel
theorem dX12_cases_44 : decode cX12_cases 44 = .ok (.iload_n 2, 1) := by decide +kernel
theorem dX12_cases_45 : decode cX12_cases 45 = .ok (.iconst 2, 1) := by decide +kernel
theorem dX12_cases_46 : decode cX12_cases 46 = .ok (.if_icmp .ne 50, 3) := by decide +kernel
theorem dX12_cases_49 : decode cX12_cases 49 = .ok (.aload_n 0, 1) := by decide +kernel
theorem dX12_cases_50 : decode cX12_cases 50 = .ok (.aload_n 0, 1) := by decide +kernel
theorem dX12_cases_51 : decode cX12_cases 51 = .ok (.invokevirtual 460, 3) := by decide +kernel
theorem dX12_cases_54 : decode cX12_cases 54 = .ok (.invokevirtual 81, 3) := by decide +kernel
theorem dX12_cases_57 : decode cX12_cases 57 = .ok (.ifCond .eq 7, 3) := by decide +kernel
theorem dX12_cases_60 : decode cX12_cases 60 = .ok (.iconst 1, 1) := by decide +kernel
theorem dX12_cases_61 : decode cX12_cases 61 = .ok (.goto 4, 3) := by decide +kernel
theorem dX12_cases_64 : decode cX12_cases 64 = .ok (.iconst 0, 1) := by decide +kernel
theorem dX12_cases_65 : decode cX12_cases 65 = .ok (.istore 4, 2) := by decide +kernel
theorem dX12_cases_67 : decode cX12_cases 67 = .ok (.aload_n 0, 1) := by decide +kernel
theorem dX12_cases_68 : decode cX12_cases 68 = .ok (.dup, 1) := by decide +kernel
theorem dX12_cases_69 : decode cX12_cases 69 = .ok (.getfield 445, 3) := by decide +kernel
theorem dX12_cases_72 : decode cX12_cases 72 = .ok (.iconst 1, 1) := by decide +kernel
theorem dX12_cases_73 : decode cX12_cases 73 = .ok (.isub, 1) := by decide +kernel
theorem dX12_cases_74 : decode cX12_cases 74 = .ok (.putfield 445, 3) := by decide +kernel
theorem dX12_cases_77 : decode cX12_cases 77 = .ok (.aload_n 0, 1) := by decide +kernel
theorem dX12_cases_78 : decode cX12_cases 78 = .ok (.getfield 254, 3) := by decide +kernel
theorem dX12_cases_81 : decode cX12_cases 81 = .ok (.iload_n 1, 1) := by decide +kernel
theorem dX12_cases_82 : decode cX12_cases 82 = .ok (.dup2, 1) := by decide +kernel
theorem dX12_cases_83 : decode cX12_cases 83 = .ok (.iaload, 1) := by decide +kernel
theorem dX12_cases_84 : decode cX12_cases 84 = .ok (.iconst 1, 1) := by decide +kernel
theorem dX12_cases_85 : decode cX12_cases 85 = .ok (.isub, 1) := by decide +kernel
theorem dX12_cases_86 : decode cX12_cases 86 = .ok (.iastore, 1) := by decide +kernel
theorem dX12_cases_87 : decode cX12_cases 87 = .ok (.aload_n 0, 1) := by decide +kernel
theorem dX12_cases_88 : decode cX12_cases 88 = .ok (.iload_n 1, 1) := by decide +kernel
theorem dX12_cases_89 : decode cX12_cases 89 = .ok (.iload 4, 2) := by decide +kernel
theorem dX12_cases_91 : decode cX12_cases 91 = .ok (.invokevirtual 475, 3) := by decide +kernel
theorem dX12_cases_94 : decode cX12_cases 94 = .ok (.iconst 0, 1) := by decide +kernel
theorem dX12_cases_95 : decode cX12_cases 95 = .ok (.ireturn, 1) := by decide +kernel
theorem dX12_cases_96 : decode cX12_cases 96 = .ok (.aload_n 0, 1) := by decide +kernel
theorem dX12_cases_97 : decode cX12_cases 97 = .ok (.getfield 266, 3) := by decide +kernel
theorem dX12_cases_100 : decode cX12_cases 100 = .ok (.iload_n 1, 1) := by decide +kernel
theorem dX12_cases_101 : decode cX12_cases 101 = .ok (.iaload, 1) := by decide +kernel
theorem dX12_cases_102 : decode cX12_cases 102 = .ok (.istore 4, 2) := by decide +kernel
theorem dX12_cases_104 : decode cX12_cases 104 = .ok (.iload 4, 2) := by decide +kernel
theorem dX12_cases_106 : decode cX12_cases 106 = .ok (.aload_n 0, 1) := by decide +kernel
theorem dX12_cases_107 : decode cX12_cases 107 = .ok (.getfield 178, 3) := by decide +kernel
theorem dX12_cases_110 : decode cX12_cases 110 = .ok (.iload_n 3, 1) := by decide +kernel
theorem dX12_cases_111 : decode cX12_cases 111 = .ok (.iaload, 1) := by decide +kernel
theorem dX12_cases_112 : decode cX12_cases 112 = .ok (.if_icmp .ne 64, 3) := by decide +kernel
theorem dX12_cases_115 : decode cX12_cases 115 = .ok (.aload_n 0, 1) := by decide +kernel
theorem dX12_cases_116 : decode cX12_cases 116 = .ok (.getfield 272, 3) := by decide +kernel
theorem dX12_cases_119 : decode cX12_cases 119 = .ok (.iload_n 1, 1) := by decide +kernel
theorem dX12_cases_120 : decode cX12_cases 120 = .ok (.iaload, 1) := by decide +kernel
theorem dX12_cases_121 : decode cX12_cases 121 = .ok (.iconst 1, 1) := by decide +kernel
theorem dX12_cases_122 : decode cX12_cases 122 = .ok (.if_icmp .eq 20, 3) := by decide +kernel
theorem dX12_cases_125 : decode cX12_cases 125 = .ok (.aload_n 0, 1) := by decide +kernel
theorem dX12_cases_126 : decode cX12_cases 126 = .ok (.getfield 272, 3) := by decide +kernel
theorem dX12_cases_129 : decode cX12_cases 129 = .ok (.iload_n 1, 1) := by decide +kernel
theorem dX12_cases_130 : decode cX12_cases 130 = .ok (.iaload, 1) := by decide +kernel
theorem dX12_cases_131 : decode cX12_cases 131 = .ok (.ifCond .ne 8, 3) := by decide +kernel
theorem dX12_cases_134 : decode cX12_cases 134 = .ok (.bipush 6, 2) := by decide +kernel
theorem dX12_cases_136 : decode cX12_cases 136 = .ok (.goto 5, 3) := by decide +kernel
theorem dX12_cases_139 : decode cX12_cases 139 = .ok (.bipush 7, 2) := by decide +kernel
theorem dX12_cases_141 : decode cX12_cases 141 = .ok (.ireturn, 1) := by decide +kernel
theorem dX12_cases_142 : decode cX12_cases 142 = .ok (.aload_n 0, 1) := by decide +kernel
theorem dX12_cases_143 : decode cX12_cases 143 = .ok (.getfield 254, 3) := by decide +kernel
theorem dX12_cases_146 : decode cX12_cases 146 = .ok (.iload_n 1, 1) := by decide +kernel
theorem dX12_cases_147 : decode cX12_cases 147 = .ok (.dup2, 1) := by decide +kernel
theorem dX12_cases_148 : decode cX12_cases 148 = .ok (.iaload, 1) := by decide +kernel
theorem dX12_cases_149 : decode cX12_cases 149 = .ok (.iconst 2, 1) := by decide +kernel
theorem dX12_cases_150 : decode cX12_cases 150 = .ok (.iadd, 1) := by decide +kernel
theorem dX12_cases_151 : decode cX12_cases 151 = .ok (.iastore, 1) := by decide +kernel
theorem dX12_cases_152 : decode cX12_cases 152 = .ok (.aload_n 0, 1) := by decide +kernel
theorem dX12_cases_153 : decode cX12_cases 153 = .ok (.iload_n 3, 1) := by decide +kernel
theorem dX12_cases_154 : decode cX12_cases 154 = .ok (.aload_n 0, 1) := by decide +kernel
theorem dX12_cases_155 : decode cX12_cases 155 = .ok (.getfield 269, 3) := by decide +kernel
theorem dX12_cases_158 : decode cX12_cases 158 = .ok (.iload_n 1, 1) := by decide +kernel
theorem dX12_cases_159 : decode cX12_cases 159 = .ok (.iaload, 1) := by decide +kernel
theorem dX12_cases_160 : decode cX12_cases 160 = .ok (.iconst 1, 1) := by decide +kernel
theorem dX12_cases_161 : decode cX12_cases 161 = .ok (.invokestatic 478, 3) := by decide +kernel
theorem dX12_cases_164 : decode cX12_cases 164 = .ok (.aload_n 0, 1) := by decide +kernel
theorem dX12_cases_165 : decode cX12_cases 165 = .ok (.getfield 260, 3) := by decide +kernel
theorem dX12_cases_168 : decode cX12_cases 168 = .ok (.iload_n 1, 1) := by decide +kernel
theorem dX12_cases_169 : decode cX12_cases 169 = .ok (.iaload, 1) := by decide +kernel
theorem dX12_cases_170 : decode cX12_cases 170 = .ok (.invokevirtual 457, 3) := by decide +kernel
theorem dX12_cases_173 : decode cX12_cases 173 = .ok (.goto 56, 3) := by decide +kernel
theorem dX12_cases_176 : decode cX12_cases 176 = .ok (.aload_n 0, 1) := by decide +kernel
theorem dX12_cases_177 : decode cX12_cases 177 = .ok (.getfield 181, 3) := by decide +kernel
theorem dX12_cases_180 : decode cX12_cases 180 = .ok (.bipush 8, 2) := by decide +kernel
theorem dX12_cases_182 : decode cX12_cases 182 = .ok (.iload_n 3, 1) := by decide +kernel
theorem dX12_cases_183 : decode cX12_cases 183 = .ok (.imul, 1) := by decide +kernel
theorem dX12_cases_184 : decode cX12_cases 184 = .ok (.iconst 2, 1) := by decide +kernel
theorem dX12_cases_185 : decode cX12_cases 185 = .ok (.iload 4, 2) := by decide +kernel
theorem dX12_cases_187 : decode cX12_cases 187 = .ok (.imul, 1) := by decide +kernel
theorem dX12_cases_188 : decode cX12_cases 188 = .ok (.iadd, 1) := by decide +kernel
theorem dX12_cases_189 : decode cX12_cases 189 = .ok (.iaload, 1) := by decide +kernel
theorem dX12_cases_190 : decode cX12_cases 190 = .ok (.ifCond .ne 12, 3) := by decide +kernel
theorem dX12_cases_193 : decode cX12_cases 193 = .ok (.aload_n 0, 1) := by decide +kernel
theorem dX12_cases_194 : decode cX12_cases 194 = .ok (.iload_n 1, 1) := by decide +kernel
theorem dX12_cases_195 : decode cX12_cases 195 = .ok (.iconst 1, 1) := by decide +kernel
theorem dX12_cases_196 : decode cX12_cases 196 = .ok (.invokevirtual 475, 3) := by decide +kernel
theorem dX12_cases_199 : decode cX12_cases 199 = .ok (.goto 30, 3) := by decide +kernel
theorem dX12_cases_202 : decode cX12_cases 202 = .ok (.aload_n 0, 1) := by decide +kernel
theorem dX12_cases_203 : decode cX12_cases 203 = .ok (.getfield 254, 3) := by decide +kernel
theorem dX12_cases_206 : decode cX12_cases 206 = .ok (.iload_n 1, 1) := by decide +kernel
theorem dX12_cases_207 : decode cX12_cases 207 = .ok (.dup2, 1) := by decide +kernel
theorem dX12_cases_208 : decode cX12_cases 208 = .ok (.iaload, 1) := by decide +kernel
theorem dX12_cases_209 : decode cX12_cases 209 = .ok (.iconst 1, 1) := by decide +kernel
theorem dX12_cases_210 : decode cX12_cases 210 = .ok (.iadd, 1) := by decide +kernel
theorem dX12_cases_211 : decode cX12_cases 211 = .ok (.iastore, 1) := by decide +kernel
theorem dX12_cases_212 : decode cX12_cases 212 = .ok (.aload_n 0, 1) := by decide +kernel
theorem dX12_cases_213 : decode cX12_cases 213 = .ok (.iload_n 3, 1) := by decide +kernel
theorem dX12_cases_214 : decode cX12_cases 214 = .ok (.iload 4, 2) := by decide +kernel
theorem dX12_cases_216 : decode cX12_cases 216 = .ok (.iconst 0, 1) := by decide +kernel
theorem dX12_cases_217 : decode cX12_cases 217 = .ok (.invokestatic 478, 3) := by decide +kernel
theorem dX12_cases_220 : decode cX12_cases 220 = .ok (.aload_n 0, 1) := by decide +kernel
theorem dX12_cases_221 : decode cX12_cases 221 = .ok (.getfield 260, 3) := by decide +kernel
theorem dX12_cases_224 : decode cX12_cases 224 = .ok (.iload_n 1, 1) := by decide +kernel
theorem dX12_cases_225 : decode cX12_cases 225 = .ok (.iaload, 1) := by decide +kernel
theorem dX12_cases_226 : decode cX12_cases 226 = .ok (.invokevirtual 457, 3) := by decide +kernel
theorem dX12_cases_229 : decode cX12_cases 229 = .ok (.iconst 0, 1) := by decide +kernel
theorem dX12_cases_230 : decode cX12_cases 230 = .ok (.ireturn, 1) := by decide +kernel
theorem dX12_applies_0 : decode cX12_applies 0 = .ok (.aload_n 0, 1) := by decide +kernel
theorem dX12_applies_1 : decode cX12_applies 1 = .ok (.getfield 144, 3) := by decide +kernel
theorem dX12_applies_4 : decode cX12_applies 4 = .ok (.iload_n 2, 1) := by decide +kernel
theorem dX12_applies_5 : decode cX12_applies 5 = .ok (.iaload, 1) := by decide +kernel
theorem dX12_applies_6 : decode cX12_applies 6 = .ok (.istore_n 3, 1) := by decide +kernel
theorem dX12_applies_7 : decode cX12_applies 7 = .ok (.aload_n 0, 1) := by decide +kernel
theorem dX12_applies_8 : decode cX12_applies 8 = .ok (.getfield 254, 3) := by decide +kernel
theorem dX12_applies_11 : decode cX12_applies 11 = .ok (.iload_n 1, 1) := by decide +kernel
theorem dX12_applies_12 : decode cX12_applies 12 = .ok (.iaload, 1) := by decide +kernel
theorem dX12_applies_13 : decode cX12_applies 13 = .ok (.iload_n 3, 1) := by decide +kernel
theorem dX12_applies_14 : decode cX12_applies 14 = .ok (.if_icmp .ge 38, 3) := by decide +kernel
theorem dX12_applies_17 : decode cX12_applies 17 = .ok (.aload_n 0, 1) := by decide +kernel
theorem dX12_applies_18 : decode cX12_applies 18 = .ok (.getfield 254, 3) := by decide +kernel
theorem dX12_applies_21 : decode cX12_applies 21 = .ok (.iload_n 1, 1) := by decide +kernel
theorem dX12_applies_22 : decode cX12_applies 22 = .ok (.dup2, 1) := by decide +kernel
theorem dX12_applies_23 : decode cX12_applies 23 = .ok (.iaload, 1) := by decide +kernel
theorem dX12_applies_24 : decode cX12_applies 24 = .ok (.iconst 1, 1) := by decide +kernel
theorem dX12_applies_25 : decode cX12_applies 25 = .ok (.iadd, 1) := by decide +kernel
theorem dX12_applies_26 : decode cX12_applies 26 = .ok (.iastore, 1) := by decide +kernel
theorem dX12_applies_27 : decode cX12_applies 27 = .ok (.aload_n 0, 1) := by decide +kernel
theorem dX12_applies_28 : decode cX12_applies 28 = .ok (.aload_n 0, 1) := by decide +kernel
theorem dX12_applies_29 : decode cX12_applies 29 = .ok (.iload_n 2, 1) := by decide +kernel
theorem dX12_applies_30 : decode cX12_applies 30 = .ok (.aload_n 0, 1) := by decide +kernel
theorem dX12_applies_31 : decode cX12_applies 31 = .ok (.getfield 254, 3) := by decide +kernel
theorem dX12_applies_34 : decode cX12_applies 34 = .ok (.iload_n 1, 1) := by decide +kernel
theorem dX12_applies_35 : decode cX12_applies 35 = .ok (.iaload, 1) := by decide +kernel
theorem dX12_applies_36 : decode cX12_applies 36 = .ok (.iconst 1, 1) := by decide +kernel
theorem dX12_applies_37 : decode cX12_applies 37 = .ok (.isub, 1) := by decide +kernel
theorem dX12_applies_38 : decode cX12_applies 38 = .ok (.invokevirtual 405, 3) := by decide +kernel
theorem dX12_applies_41 : decode cX12_applies 41 = .ok (.aload_n 0, 1) := by decide +kernel
theorem dX12_applies_42 : decode cX12_applies 42 = .ok (.getfield 257, 3) := by decide +kernel
theorem dX12_applies_45 : decode cX12_applies 45 = .ok (.iload_n 1, 1) := by decide +kernel
theorem dX12_applies_46 : decode cX12_applies 46 = .ok (.iaload, 1) := by decide +kernel
theorem dX12_applies_47 : decode cX12_applies 47 = .ok (.invokevirtual 457, 3) := by decide +kernel
theorem dX12_applies_50 : decode cX12_applies 50 = .ok (.iconst 0, 1) := by decide +kernel
theorem dX12_applies_51 : decode cX12_applies 51 = .ok (.ireturn, 1) := by decide +kernel
theorem dX12_applies_52 : decode cX12_applies 52 = .ok (.aload_n 0, 1) := by decide +kernel
theorem dX12_applies_53 : decode cX12_applies 53 = .ok (.getfield 254, 3) := by decide +kernel
theorem dX12_applies_56 : decode cX12_applies 56 = .ok (.iload_n 1, 1) := by decide +kernel
theorem dX12_applies_57 : decode cX12_applies 57 = .ok (.iaload, 1) := by decide +kernel
theorem dX12_applies_58 : decode cX12_applies 58 = .ok (.iload_n 3, 1) := by decide +kernel
theorem dX12_applies_59 : decode cX12_applies 59 = .ok (.if_icmp .le 17, 3) := by decide +kernel
theorem dX12_applies_62 : decode cX12_applies 62 = .ok (.aload_n 0, 1) := by decide +kernel
theorem dX12_applies_63 : decode cX12_applies 63 = .ok (.iload_n 1, 1) := by decide +kernel
theorem dX12_applies_64 : decode cX12_applies 64 = .ok (.aload_n 0, 1) := by decide +kernel
theorem dX12_applies_65 : decode cX12_applies 65 = .ok (.getfield 254, 3) := by decide +kernel
theorem dX12_applies_68 : decode cX12_applies 68 = .ok (.iload_n 1, 1) := by decide +kernel
theorem dX12_applies_69 : decode cX12_applies 69 = .ok (.iaload, 1) := by decide +kernel
theorem dX12_applies_70 : decode cX12_applies 70 = .ok (.iload_n 3, 1) := by decide +kernel
theorem dX12_applies_71 : decode cX12_applies 71 = .ok (.isub, 1) := by decide +kernel
theorem dX12_applies_72 : decode cX12_applies 72 = .ok (.invokevirtual 481, 3) := by decide +kernel
theorem dX12_applies_75 : decode cX12_applies 75 = .ok (.ireturn, 1) := by decide +kernel
theorem dX12_applies_76 : decode cX12_applies 76 = .ok (.aload_n 0, 1) := by decide +kernel
theorem dX12_applies_77 : decode cX12_applies 77 = .ok (.invokevirtual 451, 3) := by decide +kernel
theorem dX12_applies_80 : decode cX12_applies 80 = .ok (.istore 4, 2) := by decide +kernel
theorem dX12_applies_82 : decode cX12_applies 82 = .ok (.aload_n 0, 1) := by decide +kernel
theorem dX12_applies_83 : decode cX12_applies 83 = .ok (.getfield 135, 3) := by decide +kernel
theorem dX12_applies_86 : decode cX12_applies 86 = .ok (.iload_n 2, 1) := by decide +kernel
theorem dX12_applies_87 : decode cX12_applies 87 = .ok (.iaload, 1) := by decide +kernel
theorem dX12_applies_88 : decode cX12_applies 88 = .ok (.iconst 2, 1) := by decide +kernel
theorem dX12_applies_89 : decode cX12_applies 89 = .ok (.if_icmp .ne 18, 3) := by decide +kernel
theorem dX12_applies_92 : decode cX12_applies 92 = .ok (.bipush 100, 2) := by decide +kernel
theorem dX12_applies_94 : decode cX12_applies 94 = .ok (.aload_n 0, 1) := by decide +kernel
theorem dX12_applies_95 : decode cX12_applies 95 = .ok (.getfield 138, 3) := by decide +kernel
theorem dX12_applies_98 : decode cX12_applies 98 = .ok (.iload_n 2, 1) := by decide +kernel
theorem dX12_applies_99 : decode cX12_applies 99 = .ok (.iaload, 1) := by decide +kernel
theorem dX12_applies_100 : decode cX12_applies 100 = .ok (.iadd, 1) := by decide +kernel
theorem dX12_applies_101 : decode cX12_applies 101 = .ok (.bipush 97, 2) := by decide +kernel
theorem dX12_applies_103 : decode cX12_applies 103 = .ok (.isub, 1) := by decide +kernel
theorem dX12_applies_104 : decode cX12_applies 104 = .ok (.goto 8, 3) := by decide +kernel
theorem dX12_applies_107 : decode cX12_applies 107 = .ok (.aload_n 0, 1) := by decide +kernel
theorem dX12_applies_108 : decode cX12_applies 108 = .ok (.iload_n 2, 1) := by decide +kernel
theorem dX12_applies_109 : decode cX12_applies 109 = .ok (.invokevirtual 484, 3) := by decide +kernel
theorem dX12_applies_112 : decode cX12_applies 112 = .ok (.istore 5, 2) := by decide +kernel
theorem dX12_applies_114 : decode cX12_applies 114 = .ok (.iload 4, 2) := by decide +kernel
theorem dX12_applies_116 : decode cX12_applies 116 = .ok (.ifCond .le 6, 3) := by decide +kernel
theorem dX12_applies_119 : decode cX12_applies 119 = .ok (.iload 4, 2) := by decide +kernel
theorem dX12_applies_121 : decode cX12_applies 121 = .ok (.ireturn, 1) := by decide +kernel
theorem dX12_applies_122 : decode cX12_applies 122 = .ok (.iload 5, 2) := by decide +kernel
theorem dX12_applies_124 : decode cX12_applies 124 = .ok (.bipush 100, 2) := by decide +kernel
theorem dX12_applies_126 : decode cX12_applies 126 = .ok (.if_icmp .lt 15, 3) := by decide +kernel
theorem dX12_applies_129 : decode cX12_applies 129 = .ok (.aload_n 0, 1) := by decide +kernel
theorem dX12_applies_130 : decode cX12_applies 130 = .ok (.iload_n 1, 1) := by decide +kernel
theorem dX12_applies_131 : decode cX12_applies 131 = .ok (.iload_n 2, 1) := by decide +kernel
theorem dX12_applies_132 : decode cX12_applies 132 = .ok (.iload 5, 2) := by decide +kernel
theorem dX12_applies_134 : decode cX12_applies 134 = .ok (.bipush 100, 2) := by decide +kernel
theorem dX12_applies_136 : decode cX12_applies 136 = .ok (.isub, 1) := by decide +kernel
theorem dX12_applies_137 : decode cX12_applies 137 = .ok (.invokevirtual 487, 3) := by decide +kernel
theorem dX12_applies_140 : decode cX12_applies 140 = .ok (.ireturn, 1) := by decide +kernel
theorem dX12_applies_141 : decode cX12_applies 141 = .ok (.aload_n 0, 1) := by decide +kernel
theorem dX12_applies_142 : decode cX12_applies 142 = .ok (.dup, 1) := by decide +kernel
theorem dX12_applies_143 : decode cX12_applies 143 = .ok (.getfield 442, 3) := by decide +kernel
theorem dX12_applies_146 : decode cX12_applies 146 = .ok (.iconst 1, 1) := by decide +kernel
theorem dX12_applies_147 : decode cX12_applies 147 = .ok (.isub, 1) := by decide +kernel
theorem dX12_applies_148 : decode cX12_applies 148 = .ok (.putfield 442, 3) := by decide +kernel
theorem dX12_applies_151 : decode cX12_applies 151 = .ok (.iload_n 3, 1) := by decide +kernel
theorem dX12_applies_152 : decode cX12_applies 152 = .ok (.iconst 1, 1) := by decide +kernel
theorem dX12_applies_153 : decode cX12_applies 153 = .ok (.if_icmp .ne 14, 3) := by decide +kernel
theorem dX12_applies_156 : decode cX12_applies 156 = .ok (.aload_n 0, 1) := by decide +kernel
theorem dX12_applies_157 : decode cX12_applies 157 = .ok (.iload 5, 2) := by decide +kernel
theorem dX12_applies_159 : decode cX12_applies 159 = .ok (.aload_n 0, 1) := by decide +kernel
theorem dX12_applies_160 : decode cX12_applies 160 = .ok (.invokevirtual 460, 3) := by decide +kernel
theorem dX12_applies_163 : decode cX12_applies 163 = .ok (.invokevirtual 490, 3) := by decide +kernel
theorem dX12_applies_166 : decode cX12_applies 166 = .ok (.ireturn, 1) := by decide +kernel
theorem dX12_applies_167 : decode cX12_applies 167 = .ok (.aload_n 0, 1) := by decide +kernel
theorem dX12_applies_168 : decode cX12_applies 168 = .ok (.dup, 1) := by decide +kernel
theorem dX12_applies_169 : decode cX12_applies 169 = .ok (.getfield 445, 3) := by decide +kernel
theorem dX12_applies_172 : decode cX12_applies 172 = .ok (.iconst 1, 1) := by decide +kernel
theorem dX12_applies_173 : decode cX12_applies 173 = .ok (.isub, 1) := by decide +kernel
theorem dX12_applies_174 : decode cX12_applies 174 = .ok (.putfield 445, 3) := by decide +kernel
theorem dX12_applies_177 : decode cX12_applies 177 = .ok (.aload_n 0, 1) := by decide +kernel
theorem dX12_applies_178 : decode cX12_applies 178 = .ok (.iload 5, 2) := by decide +kernel
theorem dX12_applies_180 : decode cX12_applies 180 = .ok (.aload_n 0, 1) := by decide +kernel
theorem dX12_applies_181 : decode cX12_applies 181 = .ok (.invokevirtual 460, 3) := by decide +kernel
theorem dX12_applies_184 : decode cX12_applies 184 = .ok (.aload_n 0, 1) := by decide +kernel
theorem dX12_applies_185 : decode cX12_applies 185 = .ok (.invokevirtual 460, 3) := by decide +kernel
theorem dX12_applies_188 : decode cX12_applies 188 = .ok (.iconst 1, 1) := by decide +kernel
theorem dX12_applies_189 : decode cX12_applies 189 = .ok (.iadd, 1) := by decide +kernel
theorem dX12_applies_190 : decode cX12_applies 190 = .ok (.invokevirtual 493, 3) := by decide +kernel
theorem dX12_applies_193 : decode cX12_applies 193 = .ok (.ireturn, 1) := by decide +kernel
theorem dX12_run_0 : decode cX12_run 0 = .ok (.aload_n 0, 1) := by decide +kernel
theorem dX12_run_1 : decode cX12_run 1 = .ok (.iconst 0, 1) := by decide +kernel
theorem dX12_run_2 : decode cX12_run 2 = .ok (.putfield 445, 3) := by decide +kernel
theorem dX12_run_5 : decode cX12_run 5 = .ok (.aload_n 0, 1) := by decide +kernel
theorem dX12_run_6 : decode cX12_run 6 = .ok (.iconst 0, 1) := by decide +kernel
theorem dX12_run_7 : decode cX12_run 7 = .ok (.putfield 448, 3) := by decide +kernel
theorem dX12_run_10 : decode cX12_run 10 = .ok (.aload_n 0, 1) := by decide +kernel
theorem dX12_run_11 : decode cX12_run 11 = .ok (.iconst 0, 1) := by decide +kernel
theorem dX12_run_12 : decode cX12_run 12 = .ok (.putfield 472, 3) := by decide +kernel
theorem dX12_run_15 : decode cX12_run 15 = .ok (.aload_n 0, 1) := by decide +kernel
theorem dX12_run_16 : decode cX12_run 16 = .ok (.iconst 0, 1) := by decide +kernel
theorem dX12_run_17 : decode cX12_run 17 = .ok (.putfield 463, 3) := by decide +kernel
theorem dX12_run_20 : decode cX12_run 20 = .ok (.aload_n 0, 1) := by decide +kernel
theorem dX12_run_21 : decode cX12_run 21 = .ok (.iconst 0, 1) := by decide +kernel
theorem dX12_run_22 : decode cX12_run 22 = .ok (.putfield 442, 3) := by decide +kernel
theorem dX12_run_25 : decode cX12_run 25 = .ok (.aload_n 0, 1) := by decide +kernel
theorem dX12_run_26 : decode cX12_run 26 = .ok (.iload_n 1, 1) := by decide +kernel
theorem dX12_run_27 : decode cX12_run 27 = .ok (.iconst (-1), 1) := by decide +kernel
theorem dX12_run_28 : decode cX12_run 28 = .ok (.invokevirtual 457, 3) := by decide +kernel
theorem dX12_run_31 : decode cX12_run 31 = .ok (.iconst 0, 1) := by decide +kernel
theorem dX12_run_32 : decode cX12_run 32 = .ok (.istore_n 2, 1) := by decide +kernel
theorem dX12_run_33 : decode cX12_run 33 = .ok (.aload_n 0, 1) := by decide +kernel
theorem dX12_run_34 : decode cX12_run 34 = .ok (.getfield 442, 3) := by decide +kernel
theorem dX12_run_37 : decode cX12_run 37 = .ok (.ifCond .le 141, 3) := by decide +kernel
theorem dX12_run_40 : decode cX12_run 40 = .ok (.iload_n 2, 1) := by decide +kernel
theorem dX12_run_41 : decode cX12_run 41 = .ok (.ifCond .ne 137, 3) := by decide +kernel
theorem dX12_run_44 : decode cX12_run 44 = .ok (.aload_n 0, 1) := by decide +kernel
theorem dX12_run_45 : decode cX12_run 45 = .ok (.getfield 442, 3) := by decide +kernel
theorem dX12_run_48 : decode cX12_run 48 = .ok (.iconst 1, 1) := by decide +kernel
theorem dX12_run_49 : decode cX12_run 49 = .ok (.isub, 1) := by decide +kernel
theorem dX12_run_50 : decode cX12_run 50 = .ok (.istore_n 3, 1) := by decide +kernel
theorem dX12_run_51 : decode cX12_run 51 = .ok (.aload_n 0, 1) := by decide +kernel
theorem dX12_run_52 : decode cX12_run 52 = .ok (.getfield 251, 3) := by decide +kernel
theorem dX12_run_55 : decode cX12_run 55 = .ok (.iload_n 3, 1) := by decide +kernel
theorem dX12_run_56 : decode cX12_run 56 = .ok (.iaload, 1) := by decide +kernel
theorem dX12_run_57 : decode cX12_run 57 = .ok (.istore 4, 2) := by decide +kernel
theorem dX12_run_59 : decode cX12_run 59 = .ok (.aload_n 0, 1) := by decide +kernel
theorem dX12_run_60 : decode cX12_run 60 = .ok (.getfield 135, 3) := by decide +kernel
theorem dX12_run_63 : decode cX12_run 63 = .ok (.iload 4, 2) := by decide +kernel
theorem dX12_run_65 : decode cX12_run 65 = .ok (.iaload, 1) := by decide +kernel
theorem dX12_run_66 : decode cX12_run 66 = .ok (.iconst 2, 1) := by decide +kernel
theorem dX12_run_67 : decode cX12_run 67 = .ok (.if_icmp .ne 7, 3) := by decide +kernel
theorem dX12_run_70 : decode cX12_run 70 = .ok (.iconst 1, 1) := by decide +kernel
theorem dX12_run_71 : decode cX12_run 71 = .ok (.goto 4, 3) := by decide +kernel
theorem dX12_run_74 : decode cX12_run 74 = .ok (.iconst 0, 1) := by decide +kernel
theorem dX12_run_75 : decode cX12_run 75 = .ok (.istore 5, 2) := by decide +kernel
theorem dX12_run_77 : decode cX12_run 77 = .ok (.aload_n 0, 1) := by decide +kernel
theorem dX12_run_78 : decode cX12_run 78 = .ok (.getfield 135, 3) := by decide +kernel
theorem dX12_run_81 : decode cX12_run 81 = .ok (.iload 4, 2) := by decide +kernel
theorem dX12_run_83 : decode cX12_run 83 = .ok (.iaload, 1) := by decide +kernel
theorem dX12_run_84 : decode cX12_run 84 = .ok (.ifCond .eq 14, 3) := by decide +kernel
theorem dX12_run_87 : decode cX12_run 87 = .ok (.aload_n 0, 1) := by decide +kernel
theorem dX12_run_88 : decode cX12_run 88 = .ok (.getfield 135, 3) := by decide +kernel
theorem dX12_run_91 : decode cX12_run 91 = .ok (.iload 4, 2) := by decide +kernel
theorem dX12_run_93 : decode cX12_run 93 = .ok (.iaload, 1) := by decide +kernel
theorem dX12_run_94 : decode cX12_run 94 = .ok (.iconst 1, 1) := by decide +kernel
theorem dX12_run_95 : decode cX12_run 95 = .ok (.if_icmp .ne 18, 3) := by decide +kernel
theorem dX12_run_98 : decode cX12_run 98 = .ok (.aload_n 0, 1) := by decide +kernel
theorem dX12_run_99 : decode cX12_run 99 = .ok (.iload 4, 2) := by decide +kernel
theorem dX12_run_101 : decode cX12_run 101 = .ok (.aload_n 0, 1) := by decide +kernel
theorem dX12_run_102 : decode cX12_run 102 = .ok (.getfield 257, 3) := by decide +kernel
theorem dX12_run_105 : decode cX12_run 105 = .ok (.iload_n 3, 1) := by decide +kernel
theorem dX12_run_106 : decode cX12_run 106 = .ok (.iaload, 1) := by decide +kernel
theorem dX12_run_107 : decode cX12_run 107 = .ok (.invokevirtual 496, 3) := by decide +kernel
theorem dX12_run_110 : decode cX12_run 110 = .ok (.goto 64, 3) := by decide +kernel
theorem dX12_run_113 : decode cX12_run 113 = .ok (.iload 5, 2) := by decide +kernel
theorem dX12_run_115 : decode cX12_run 115 = .ok (.ifCond .eq 25, 3) := by decide +kernel
theorem dX12_run_118 : decode cX12_run 118 = .ok (.aload_n 0, 1) := by decide +kernel
theorem dX12_run_119 : decode cX12_run 119 = .ok (.getfield 138, 3) := by decide +kernel
theorem dX12_run_122 : decode cX12_run 122 = .ok (.iload 4, 2) := by decide +kernel
theorem dX12_run_124 : decode cX12_run 124 = .ok (.iaload, 1) := by decide +kernel
theorem dX12_run_125 : decode cX12_run 125 = .ok (.bipush 105, 2) := by decide +kernel
theorem dX12_run_127 : decode cX12_run 127 = .ok (.if_icmp .ne 13, 3) := by decide +kernel
theorem dX12_run_130 : decode cX12_run 130 = .ok (.aload_n 0, 1) := by decide +kernel
theorem dX12_run_131 : decode cX12_run 131 = .ok (.iload_n 3, 1) := by decide +kernel
theorem dX12_run_132 : decode cX12_run 132 = .ok (.iload 4, 2) := by decide +kernel
theorem dX12_run_134 : decode cX12_run 134 = .ok (.invokevirtual 499, 3) := by decide +kernel
theorem dX12_run_137 : decode cX12_run 137 = .ok (.goto 37, 3) := by decide +kernel
theorem dX12_run_140 : decode cX12_run 140 = .ok (.iload 5, 2) := by decide +kernel
theorem dX12_run_142 : decode cX12_run 142 = .ok (.ifCond .eq 25, 3) := by decide +kernel
theorem dX12_run_145 : decode cX12_run 145 = .ok (.aload_n 0, 1) := by decide +kernel
theorem dX12_run_146 : decode cX12_run 146 = .ok (.getfield 138, 3) := by decide +kernel
theorem dX12_run_149 : decode cX12_run 149 = .ok (.iload 4, 2) := by decide +kernel
theorem dX12_run_151 : decode cX12_run 151 = .ok (.iaload, 1) := by decide +kernel
theorem dX12_run_152 : decode cX12_run 152 = .ok (.bipush 115, 2) := by decide +kernel
theorem dX12_run_154 : decode cX12_run 154 = .ok (.if_icmp .ne 13, 3) := by decide +kernel
theorem dX12_run_157 : decode cX12_run 157 = .ok (.aload_n 0, 1) := by decide +kernel
theorem dX12_run_158 : decode cX12_run 158 = .ok (.iload_n 3, 1) := by decide +kernel
theorem dX12_run_159 : decode cX12_run 159 = .ok (.iload 4, 2) := by decide +kernel
theorem dX12_run_161 : decode cX12_run 161 = .ok (.invokevirtual 502, 3) := by decide +kernel
theorem dX12_run_164 : decode cX12_run 164 = .ok (.goto 10, 3) := by decide +kernel
theorem dX12_run_167 : decode cX12_run 167 = .ok (.aload_n 0, 1) := by decide +kernel
theorem dX12_run_168 : decode cX12_run 168 = .ok (.iload_n 3, 1) := by decide +kernel
theorem dX12_run_169 : decode cX12_run 169 = .ok (.iload 4, 2) := by decide +kernel
theorem dX12_run_171 : decode cX12_run 171 = .ok (.invokevirtual 505, 3) := by decide +kernel
theorem dX12_run_174 : decode cX12_run 174 = .ok (.istore_n 2, 1) := by decide +kernel
theorem dX12_run_175 : decode cX12_run 175 = .ok (.goto (-142), 3) := by decide +kernel
theorem dX12_run_178 : decode cX12_run 178 = .ok (.iload_n 2, 1) := by decide +kernel
theorem dX12_run_179 : decode cX12_run 179 = .ok (.ireturn, 1) := by decide +kernel
theorem dX12_isNumber_0 : decode cX12_isNumber 0 = .ok (.aload_n 0, 1) := by decide +kernel
theorem dX12_isNumber_1 : decode cX12_isNumber 1 = .ok (.getfield 135, 3) := by decide +kernel
theorem dX12_isNumber_4 : decode cX12_isNumber 4 = .ok (.iload_n 1, 1) := by decide +kernel
theorem dX12_isNumber_5 : decode cX12_isNumber 5 = .ok (.iaload, 1) := by decide +kernel
theorem dX12_isNumber_6 : decode cX12_isNumber 6 = .ok (.ifCond .ne 17, 3) := by decide +kernel
theorem dX12_isNumber_9 : decode cX12_isNumber 9 = .ok (.aload_n 0, 1) := by decide +kernel
theorem dX12_isNumber_10 : decode cX12_isNumber 10 = .ok (.getfield 138, 3) := by decide +kernel
theorem dX12_isNumber_13 : decode cX12_isNumber 13 = .ok (.iload_n 1, 1) := by decide +kernel
theorem dX12_isNumber_14 : decode cX12_isNumber 14 = .ok (.iaload, 1) := by decide +kernel
theorem dX12_isNumber_15 : decode cX12_isNumber 15 = .ok (.iload_n 2, 1) := by decide +kernel
theorem dX12_isNumber_16 : decode cX12_isNumber 16 = .ok (.if_icmp .ne 7, 3) := by decide +kernel
theorem dX12_isNumber_19 : decode cX12_isNumber 19 = .ok (.iconst 1, 1) := by decide +kernel
theorem dX12_isNumber_20 : decode cX12_isNumber 20 = .ok (.goto 4, 3) := by decide +kernel
theorem dX12_isNumber_23 : decode cX12_isNumber 23 = .ok (.iconst 0, 1) := by decide +kernel
theorem dX12_isNumber_24 : decode cX12_isNumber 24 = .ok (.ireturn, 1) := by decide +kernel
theorem dX12_whole_0 : decode cX12_whole 0 = .ok (.ldc2_w 508, 3) := by decide +kernel
theorem dX12_whole_3 : decode cX12_whole 3 = .ok (.lstore 4, 2) := by decide +kernel
theorem dX12_whole_5 : decode cX12_whole 5 = .ok (.iload_n 1, 1) := by decide +kernel
theorem dX12_whole_6 : decode cX12_whole 6 = .ok (.ifCond .ne 13, 3) := by decide +kernel
theorem dX12_whole_9 : decode cX12_whole 9 = .ok (.iload_n 2, 1) := by decide +kernel
theorem dX12_whole_10 : decode cX12_whole 10 = .ok (.i2l, 1) := by decide +kernel
theorem dX12_whole_11 : decode cX12_whole 11 = .ok (.iload_n 3, 1) := by decide +kernel
theorem dX12_whole_12 : decode cX12_whole 12 = .ok (.i2l, 1) := by decide +kernel
theorem dX12_whole_13 : decode cX12_whole 13 = .ok (.ladd, 1) := by decide +kernel
theorem dX12_whole_14 : decode cX12_whole 14 = .ok (.lstore 4, 2) := by decide +kernel
theorem dX12_whole_16 : decode cX12_whole 16 = .ok (.goto 108, 3) := by decide +kernel
theorem dX12_whole_19 : decode cX12_whole 19 = .ok (.iload_n 1, 1) := by decide +kernel
theorem dX12_whole_20 : decode cX12_whole 20 = .ok (.iconst 1, 1) := by decide +kernel
theorem dX12_whole_21 : decode cX12_whole 21 = .ok (.if_icmp .ne 13, 3) := by decide +kernel
theorem dX12_whole_24 : decode cX12_whole 24 = .ok (.iload_n 2, 1) := by decide +kernel
theorem dX12_whole_25 : decode cX12_whole 25 = .ok (.i2l, 1) := by decide +kernel
theorem dX12_whole_26 : decode cX12_whole 26 = .ok (.iload_n 3, 1) := by decide +kernel
theorem dX12_whole_27 : decode cX12_whole 27 = .ok (.i2l, 1) := by decide +kernel
theorem dX12_whole_28 : decode cX12_whole 28 = .ok (.lsub, 1) := by decide +kernel
theorem dX12_whole_29 : decode cX12_whole 29 = .ok (.lstore 4, 2) := by decide +kernel
theorem dX12_whole_31 : decode cX12_whole 31 = .ok (.goto 93, 3) := by decide +kernel
theorem dX12_whole_34 : decode cX12_whole 34 = .ok (.iload_n 1, 1) := by decide +kernel
theorem dX12_whole_35 : decode cX12_whole 35 = .ok (.iconst 2, 1) := by decide +kernel
theorem dX12_whole_36 : decode cX12_whole 36 = .ok (.if_icmp .ne 13, 3) := by decide +kernel
theorem dX12_whole_39 : decode cX12_whole 39 = .ok (.iload_n 2, 1) := by decide +kernel
theorem dX12_whole_40 : decode cX12_whole 40 = .ok (.i2l, 1) := by decide +kernel
theorem dX12_whole_41 : decode cX12_whole 41 = .ok (.iload_n 3, 1) := by decide +kernel
theorem dX12_whole_42 : decode cX12_whole 42 = .ok (.i2l, 1) := by decide +kernel
theorem dX12_whole_43 : decode cX12_whole 43 = .ok (.lmul, 1) := by decide +kernel
theorem dX12_whole_44 : decode cX12_whole 44 = .ok (.lstore 4, 2) := by decide +kernel
theorem dX12_whole_46 : decode cX12_whole 46 = .ok (.goto 78, 3) := by decide +kernel
theorem dX12_whole_49 : decode cX12_whole 49 = .ok (.iload_n 1, 1) := by decide +kernel
theorem dX12_whole_50 : decode cX12_whole 50 = .ok (.iconst 3, 1) := by decide +kernel
theorem dX12_whole_51 : decode cX12_whole 51 = .ok (.if_icmp .ne 28, 3) := by decide +kernel
theorem dX12_whole_54 : decode cX12_whole 54 = .ok (.iload_n 3, 1) := by decide +kernel
theorem dX12_whole_55 : decode cX12_whole 55 = .ok (.ifCond .eq 16, 3) := by decide +kernel
theorem dX12_whole_58 : decode cX12_whole 58 = .ok (.iload_n 2, 1) := by decide +kernel
theorem dX12_whole_59 : decode cX12_whole 59 = .ok (.iload_n 3, 1) := by decide +kernel
theorem dX12_whole_60 : decode cX12_whole 60 = .ok (.irem, 1) := by decide +kernel
theorem dX12_whole_61 : decode cX12_whole 61 = .ok (.ifCond .ne 10, 3) := by decide +kernel
theorem dX12_whole_64 : decode cX12_whole 64 = .ok (.iload_n 2, 1) := by decide +kernel
theorem dX12_whole_65 : decode cX12_whole 65 = .ok (.iload_n 3, 1) := by decide +kernel
theorem dX12_whole_66 : decode cX12_whole 66 = .ok (.idiv, 1) := by decide +kernel
theorem dX12_whole_67 : decode cX12_whole 67 = .ok (.i2l, 1) := by decide +kernel
theorem dX12_whole_68 : decode cX12_whole 68 = .ok (.goto 6, 3) := by decide +kernel
theorem dX12_whole_71 : decode cX12_whole 71 = .ok (.ldc2_w 508, 3) := by decide +kernel
theorem dX12_whole_74 : decode cX12_whole 74 = .ok (.lstore 4, 2) := by decide +kernel
theorem dX12_whole_76 : decode cX12_whole 76 = .ok (.goto 48, 3) := by decide +kernel
theorem dX12_whole_79 : decode cX12_whole 79 = .ok (.iload_n 1, 1) := by decide +kernel
theorem dX12_whole_80 : decode cX12_whole 80 = .ok (.iconst 5, 1) := by decide +kernel
theorem dX12_whole_81 : decode cX12_whole 81 = .ok (.if_icmp .ne 43, 3) := by decide +kernel
theorem dX12_whole_84 : decode cX12_whole 84 = .ok (.iload_n 3, 1) := by decide +kernel
theorem dX12_whole_85 : decode cX12_whole 85 = .ok (.bipush 64, 2) := by decide +kernel
theorem dX12_whole_87 : decode cX12_whole 87 = .ok (.if_icmp .gt 37, 3) := by decide +kernel
theorem dX12_whole_90 : decode cX12_whole 90 = .ok (.lconst 1, 1) := by decide +kernel
theorem dX12_whole_91 : decode cX12_whole 91 = .ok (.lstore 4, 2) := by decide +kernel
theorem dX12_whole_93 : decode cX12_whole 93 = .ok (.iconst 0, 1) := by decide +kernel
theorem dX12_whole_94 : decode cX12_whole 94 = .ok (.istore 6, 2) := by decide +kernel
theorem dX12_whole_96 : decode cX12_whole 96 = .ok (.iload 6, 2) := by decide +kernel
theorem dX12_whole_98 : decode cX12_whole 98 = .ok (.iload_n 3, 1) := by decide +kernel
theorem dX12_whole_99 : decode cX12_whole 99 = .ok (.if_icmp .ge 25, 3) := by decide +kernel
theorem dX12_whole_102 : decode cX12_whole 102 = .ok (.lload 4, 2) := by decide +kernel
theorem dX12_whole_104 : decode cX12_whole 104 = .ok (.ldc2_w 510, 3) := by decide +kernel
theorem dX12_whole_107 : decode cX12_whole 107 = .ok (.lcmp, 1) := by decide +kernel
theorem dX12_whole_108 : decode cX12_whole 108 = .ok (.ifCond .gt 16, 3) := by decide +kernel
theorem dX12_whole_111 : decode cX12_whole 111 = .ok (.lload 4, 2) := by decide +kernel
theorem dX12_whole_113 : decode cX12_whole 113 = .ok (.iload_n 2, 1) := by decide +kernel
theorem dX12_whole_114 : decode cX12_whole 114 = .ok (.i2l, 1) := by decide +kernel
theorem dX12_whole_115 : decode cX12_whole 115 = .ok (.lmul, 1) := by decide +kernel
theorem dX12_whole_116 : decode cX12_whole 116 = .ok (.lstore 4, 2) := by decide +kernel
theorem dX12_whole_118 : decode cX12_whole 118 = .ok (.iinc 6 1, 3) := by decide +kernel
theorem dX12_whole_121 : decode cX12_whole 121 = .ok (.goto (-25), 3) := by decide +kernel
theorem dX12_whole_124 : decode cX12_whole 124 = .ok (.lload 4, 2) := by decide +kernel
theorem dX12_whole_126 : decode cX12_whole 126 = .ok (.lconst 0, 1) := by decide +kernel
theorem dX12_whole_127 : decode cX12_whole 127 = .ok (.lcmp, 1) := by decide +kernel
theorem dX12_whole_128 : decode cX12_whole 128 = .ok (.ifCond .lt 18, 3) := by decide +kernel
theorem dX12_whole_131 : decode cX12_whole 131 = .ok (.lload 4, 2) := by decide +kernel
theorem dX12_whole_133 : decode cX12_whole 133 = .ok (.ldc2_w 510, 3) := by decide +kernel
theorem dX12_whole_136 : decode cX12_whole 136 = .ok (.lcmp, 1) := by decide +kernel
theorem dX12_whole_137 : decode cX12_whole 137 = .ok (.ifCond .gt 9, 3) := by decide +kernel
theorem dX12_whole_140 : decode cX12_whole 140 = .ok (.lload 4, 2) := by decide +kernel
theorem dX12_whole_142 : decode cX12_whole 142 = .ok (.l2i, 1) := by decide +kernel
theorem dX12_whole_143 : decode cX12_whole 143 = .ok (.goto 4, 3) := by decide +kernel
theorem dX12_whole_146 : decode cX12_whole 146 = .ok (.iconst (-1), 1) := by decide +kernel
theorem dX12_whole_147 : decode cX12_whole 147 = .ok (.ireturn, 1) := by decide +kernel
theorem dX12_becomes_0 : decode cX12_becomes 0 = .ok (.aload_n 0, 1) := by decide +kernel
theorem dX12_becomes_1 : decode cX12_becomes 1 = .ok (.getfield 147, 3) := by decide +kernel
theorem dX12_becomes_4 : decode cX12_becomes 4 = .ok (.iload_n 1, 1) := by decide +kernel
theorem dX12_becomes_5 : decode cX12_becomes 5 = .ok (.iaload, 1) := by decide +kernel
theorem dX12_becomes_6 : decode cX12_becomes 6 = .ok (.istore_n 3, 1) := by decide +kernel
theorem dX12_becomes_7 : decode cX12_becomes 7 = .ok (.aload_n 0, 1) := by decide +kernel
theorem dX12_becomes_8 : decode cX12_becomes 8 = .ok (.iload_n 1, 1) := by decide +kernel
theorem dX12_becomes_9 : decode cX12_becomes 9 = .ok (.iconst 0, 1) := by decide +kernel
theorem dX12_becomes_10 : decode cX12_becomes 10 = .ok (.iload_n 2, 1) := by decide +kernel
theorem dX12_becomes_11 : decode cX12_becomes 11 = .ok (.iconst (-1), 1) := by decide +kernel
theorem dX12_becomes_12 : decode cX12_becomes 12 = .ok (.iconst 0, 1) := by decide +kernel
theorem dX12_becomes_13 : decode cX12_becomes 13 = .ok (.invokevirtual 386, 3) := by decide +kernel
theorem dX12_becomes_16 : decode cX12_becomes 16 = .ok (.iload_n 1, 1) := by decide +kernel
theorem dX12_becomes_17 : decode cX12_becomes 17 = .ok (.iconst 1, 1) := by decide +kernel
theorem dX12_becomes_18 : decode cX12_becomes 18 = .ok (.iadd, 1) := by decide +kernel
theorem dX12_becomes_19 : decode cX12_becomes 19 = .ok (.istore 4, 2) := by decide +kernel
theorem dX12_becomes_21 : decode cX12_becomes 21 = .ok (.iload 4, 2) := by decide +kernel
theorem dX12_becomes_23 : decode cX12_becomes 23 = .ok (.iload_n 3, 1) := by decide +kernel
theorem dX12_becomes_24 : decode cX12_becomes 24 = .ok (.iadd, 1) := by decide +kernel
theorem dX12_becomes_25 : decode cX12_becomes 25 = .ok (.iconst 1, 1) := by decide +kernel
theorem dX12_becomes_26 : decode cX12_becomes 26 = .ok (.isub, 1) := by decide +kernel
theorem dX12_becomes_27 : decode cX12_becomes 27 = .ok (.sipush 13540, 3) := by decide +kernel
theorem dX12_becomes_30 : decode cX12_becomes 30 = .ok (.aload_n 0, 1) := by decide +kernel
theorem dX12_becomes_31 : decode cX12_becomes 31 = .ok (.getfield 512, 3) := by decide +kernel
theorem dX12_becomes_34 : decode cX12_becomes 34 = .ok (.iadd, 1) := by decide +kernel
theorem dX12_becomes_35 : decode cX12_becomes 35 = .ok (.if_icmp .ge 22, 3) := by decide +kernel
theorem dX12_becomes_38 : decode cX12_becomes 38 = .ok (.aload_n 0, 1) := by decide +kernel
theorem dX12_becomes_39 : decode cX12_becomes 39 = .ok (.iload 4, 2) := by decide +kernel
theorem dX12_becomes_41 : decode cX12_becomes 41 = .ok (.iload 4, 2) := by decide +kernel
theorem dX12_becomes_43 : decode cX12_becomes 43 = .ok (.iload_n 3, 1) := by decide +kernel
theorem dX12_becomes_44 : decode cX12_becomes 44 = .ok (.iadd, 1) := by decide +kernel
theorem dX12_becomes_45 : decode cX12_becomes 45 = .ok (.iconst 1, 1) := by decide +kernel
theorem dX12_becomes_46 : decode cX12_becomes 46 = .ok (.isub, 1) := by decide +kernel
theorem dX12_becomes_47 : decode cX12_becomes 47 = .ok (.iconst 1, 1) := by decide +kernel
theorem dX12_becomes_48 : decode cX12_becomes 48 = .ok (.invokevirtual 515, 3) := by decide +kernel
theorem dX12_becomes_51 : decode cX12_becomes 51 = .ok (.iinc 4 1, 3) := by decide +kernel
theorem dX12_becomes_54 : decode cX12_becomes 54 = .ok (.goto (-33), 3) := by decide +kernel
theorem dX12_becomes_57 : decode cX12_becomes 57 = .ok (.aload_n 0, 1) := by decide +kernel
theorem dX12_becomes_58 : decode cX12_becomes 58 = .ok (.dup, 1) := by decide +kernel
theorem dX12_becomes_59 : decode cX12_becomes 59 = .ok (.getfield 512, 3) := by decide +kernel
theorem dX12_becomes_62 : decode cX12_becomes 62 = .ok (.iload_n 3, 1) := by decide +kernel
theorem dX12_becomes_63 : decode cX12_becomes 63 = .ok (.iconst 1, 1) := by decide +kernel
theorem dX12_becomes_64 : decode cX12_becomes 64 = .ok (.isub, 1) := by decide +kernel
theorem dX12_becomes_65 : decode cX12_becomes 65 = .ok (.isub, 1) := by decide +kernel
theorem dX12_becomes_66 : decode cX12_becomes 66 = .ok (.putfield 512, 3) := by decide +kernel
theorem dX12_becomes_69 : decode cX12_becomes 69 = .ok (.aload_n 0, 1) := by decide +kernel
theorem dX12_becomes_70 : decode cX12_becomes 70 = .ok (.sipush 13540, 3) := by decide +kernel
theorem dX12_becomes_73 : decode cX12_becomes 73 = .ok (.aload_n 0, 1) := by decide +kernel
theorem dX12_becomes_74 : decode cX12_becomes 74 = .ok (.getfield 512, 3) := by decide +kernel
theorem dX12_becomes_77 : decode cX12_becomes 77 = .ok (.invokevirtual 389, 3) := by decide +kernel
theorem dX12_becomes_80 : decode cX12_becomes 80 = .ok (.return_, 1) := by decide +kernel
theorem dX12_becomesInner_0 : decode cX12_becomesInner 0 = .ok (.aload_n 0, 1) := by decide +kernel
theorem dX12_becomesInner_1 : decode cX12_becomesInner 1 = .ok (.getfield 147, 3) := by decide +kernel
theorem dX12_becomesInner_4 : decode cX12_becomesInner 4 = .ok (.iload_n 1, 1) := by decide +kernel
theorem dX12_becomesInner_5 : decode cX12_becomesInner 5 = .ok (.iaload, 1) := by decide +kernel
theorem dX12_becomesInner_6 : decode cX12_becomesInner 6 = .ok (.istore_n 3, 1) := by decide +kernel
theorem dX12_becomesInner_7 : decode cX12_becomesInner 7 = .ok (.aload_n 0, 1) := by decide +kernel
theorem dX12_becomesInner_8 : decode cX12_becomesInner 8 = .ok (.getfield 147, 3) := by decide +kernel
theorem dX12_becomesInner_11 : decode cX12_becomesInner 11 = .ok (.iload_n 2, 1) := by decide +kernel
theorem dX12_becomesInner_12 : decode cX12_becomesInner 12 = .ok (.iaload, 1) := by decide +kernel
theorem dX12_becomesInner_13 : decode cX12_becomesInner 13 = .ok (.istore 4, 2) := by decide +kernel
theorem dX12_becomesInner_15 : decode cX12_becomesInner 15 = .ok (.aload_n 0, 1) := by decide +kernel
theorem dX12_becomesInner_16 : decode cX12_becomesInner 16 = .ok (.iload_n 1, 1) := by decide +kernel
theorem dX12_becomesInner_17 : decode cX12_becomesInner 17 = .ok (.iload_n 2, 1) := by decide +kernel
theorem dX12_becomesInner_18 : decode cX12_becomesInner 18 = .ok (.iload 4, 2) := by decide +kernel
theorem dX12_becomesInner_20 : decode cX12_becomesInner 20 = .ok (.invokevirtual 515, 3) := by decide +kernel
theorem dX12_becomesInner_23 : decode cX12_becomesInner 23 = .ok (.iload_n 1, 1) := by decide +kernel
theorem dX12_becomesInner_24 : decode cX12_becomesInner 24 = .ok (.iload 4, 2) := by decide +kernel
theorem dX12_becomesInner_26 : decode cX12_becomesInner 26 = .ok (.iadd, 1) := by decide +kernel
theorem dX12_becomesInner_27 : decode cX12_becomesInner 27 = .ok (.istore 5, 2) := by decide +kernel
theorem dX12_becomesInner_29 : decode cX12_becomesInner 29 = .ok (.iload 5, 2) := by decide +kernel
theorem dX12_becomesInner_31 : decode cX12_becomesInner 31 = .ok (.iload_n 3, 1) := by decide +kernel
theorem dX12_becomesInner_32 : decode cX12_becomesInner 32 = .ok (.iadd, 1) := by decide +kernel
theorem dX12_becomesInner_33 : decode cX12_becomesInner 33 = .ok (.iload 4, 2) := by decide +kernel
theorem dX12_becomesInner_35 : decode cX12_becomesInner 35 = .ok (.isub, 1) := by decide +kernel
theorem dX12_becomesInner_36 : decode cX12_becomesInner 36 = .ok (.sipush 13540, 3) := by decide +kernel
theorem dX12_becomesInner_39 : decode cX12_becomesInner 39 = .ok (.aload_n 0, 1) := by decide +kernel
theorem dX12_becomesInner_40 : decode cX12_becomesInner 40 = .ok (.getfield 512, 3) := by decide +kernel
theorem dX12_becomesInner_43 : decode cX12_becomesInner 43 = .ok (.iadd, 1) := by decide +kernel
theorem dX12_becomesInner_44 : decode cX12_becomesInner 44 = .ok (.if_icmp .ge 23, 3) := by decide +kernel
theorem dX12_becomesInner_47 : decode cX12_becomesInner 47 = .ok (.aload_n 0, 1) := by decide +kernel
theorem dX12_becomesInner_48 : decode cX12_becomesInner 48 = .ok (.iload 5, 2) := by decide +kernel
theorem dX12_becomesInner_50 : decode cX12_becomesInner 50 = .ok (.iload 5, 2) := by decide +kernel
theorem dX12_becomesInner_52 : decode cX12_becomesInner 52 = .ok (.iload_n 3, 1) := by decide +kernel
theorem dX12_becomesInner_53 : decode cX12_becomesInner 53 = .ok (.iadd, 1) := by decide +kernel
theorem dX12_becomesInner_54 : decode cX12_becomesInner 54 = .ok (.iload 4, 2) := by decide +kernel
theorem dX12_becomesInner_56 : decode cX12_becomesInner 56 = .ok (.isub, 1) := by decide +kernel
theorem dX12_becomesInner_57 : decode cX12_becomesInner 57 = .ok (.iconst 1, 1) := by decide +kernel
theorem dX12_becomesInner_58 : decode cX12_becomesInner 58 = .ok (.invokevirtual 515, 3) := by decide +kernel
theorem dX12_becomesInner_61 : decode cX12_becomesInner 61 = .ok (.iinc 5 1, 3) := by decide +kernel
theorem dX12_becomesInner_64 : decode cX12_becomesInner 64 = .ok (.goto (-35), 3) := by decide +kernel
theorem dX12_becomesInner_67 : decode cX12_becomesInner 67 = .ok (.aload_n 0, 1) := by decide +kernel
theorem dX12_becomesInner_68 : decode cX12_becomesInner 68 = .ok (.dup, 1) := by decide +kernel
theorem dX12_becomesInner_69 : decode cX12_becomesInner 69 = .ok (.getfield 512, 3) := by decide +kernel
theorem dX12_becomesInner_72 : decode cX12_becomesInner 72 = .ok (.iload_n 3, 1) := by decide +kernel
theorem dX12_becomesInner_73 : decode cX12_becomesInner 73 = .ok (.iload 4, 2) := by decide +kernel
theorem dX12_becomesInner_75 : decode cX12_becomesInner 75 = .ok (.isub, 1) := by decide +kernel
theorem dX12_becomesInner_76 : decode cX12_becomesInner 76 = .ok (.isub, 1) := by decide +kernel
theorem dX12_becomesInner_77 : decode cX12_becomesInner 77 = .ok (.putfield 512, 3) := by decide +kernel
theorem dX12_becomesInner_80 : decode cX12_becomesInner 80 = .ok (.aload_n 0, 1) := by decide +kernel
theorem dX12_becomesInner_81 : decode cX12_becomesInner 81 = .ok (.sipush 13540, 3) := by decide +kernel
theorem dX12_becomesInner_84 : decode cX12_becomesInner 84 = .ok (.aload_n 0, 1) := by decide +kernel
theorem dX12_becomesInner_85 : decode cX12_becomesInner 85 = .ok (.getfield 512, 3) := by decide +kernel
theorem dX12_becomesInner_88 : decode cX12_becomesInner 88 = .ok (.invokevirtual 389, 3) := by decide +kernel
theorem dX12_becomesInner_91 : decode cX12_becomesInner 91 = .ok (.return_, 1) := by decide +kernel
theorem dX12_isProduct_0 : decode cX12_isProduct 0 = .ok (.aload_n 0, 1) := by decide +kernel
theorem dX12_isProduct_1 : decode cX12_isProduct 1 = .ok (.iload_n 1, 1) := by decide +kernel
theorem dX12_isProduct_2 : decode cX12_isProduct 2 = .ok (.invokevirtual 484, 3) := by decide +kernel
theorem dX12_isProduct_5 : decode cX12_isProduct 5 = .ok (.iconst 2, 1) := by decide +kernel
theorem dX12_isProduct_6 : decode cX12_isProduct 6 = .ok (.if_icmp .ne 18, 3) := by decide +kernel
theorem dX12_isProduct_9 : decode cX12_isProduct 9 = .ok (.aload_n 0, 1) := by decide +kernel
theorem dX12_isProduct_10 : decode cX12_isProduct 10 = .ok (.getfield 135, 3) := by decide +kernel
theorem dX12_isProduct_13 : decode cX12_isProduct 13 = .ok (.iload_n 1, 1) := by decide +kernel
theorem dX12_isProduct_14 : decode cX12_isProduct 14 = .ok (.iconst 1, 1) := by decide +kernel
theorem dX12_isProduct_15 : decode cX12_isProduct 15 = .ok (.iadd, 1) := by decide +kernel
theorem dX12_isProduct_16 : decode cX12_isProduct 16 = .ok (.iaload, 1) := by decide +kernel
theorem dX12_isProduct_17 : decode cX12_isProduct 17 = .ok (.ifCond .ne 7, 3) := by decide +kernel
theorem dX12_isProduct_20 : decode cX12_isProduct 20 = .ok (.iconst 1, 1) := by decide +kernel
theorem dX12_isProduct_21 : decode cX12_isProduct 21 = .ok (.goto 4, 3) := by decide +kernel
theorem dX12_isProduct_24 : decode cX12_isProduct 24 = .ok (.iconst 0, 1) := by decide +kernel
theorem dX12_isProduct_25 : decode cX12_isProduct 25 = .ok (.ireturn, 1) := by decide +kernel
theorem dX12_gathered_0 : decode cX12_gathered 0 = .ok (.aload_n 0, 1) := by decide +kernel
theorem dX12_gathered_1 : decode cX12_gathered 1 = .ok (.iload_n 1, 1) := by decide +kernel
theorem dX12_gathered_2 : decode cX12_gathered 2 = .ok (.invokevirtual 518, 3) := by decide +kernel
theorem dX12_gathered_5 : decode cX12_gathered 5 = .ok (.ifCond .eq 24, 3) := by decide +kernel
theorem dX12_gathered_8 : decode cX12_gathered 8 = .ok (.aload_n 0, 1) := by decide +kernel
theorem dX12_gathered_9 : decode cX12_gathered 9 = .ok (.iload_n 2, 1) := by decide +kernel
theorem dX12_gathered_10 : decode cX12_gathered 10 = .ok (.invokevirtual 518, 3) := by decide +kernel
theorem dX12_gathered_13 : decode cX12_gathered 13 = .ok (.ifCond .eq 16, 3) := by decide +kernel
theorem dX12_gathered_16 : decode cX12_gathered 16 = .ok (.aload_n 0, 1) := by decide +kernel
theorem dX12_gathered_17 : decode cX12_gathered 17 = .ok (.iload_n 1, 1) := by decide +kernel
theorem dX12_gathered_18 : decode cX12_gathered 18 = .ok (.iconst 2, 1) := by decide +kernel
theorem dX12_gathered_19 : decode cX12_gathered 19 = .ok (.iadd, 1) := by decide +kernel
theorem dX12_gathered_20 : decode cX12_gathered 20 = .ok (.iload_n 2, 1) := by decide +kernel
theorem dX12_gathered_21 : decode cX12_gathered 21 = .ok (.iconst 2, 1) := by decide +kernel
theorem dX12_gathered_22 : decode cX12_gathered 22 = .ok (.iadd, 1) := by decide +kernel
theorem dX12_gathered_23 : decode cX12_gathered 23 = .ok (.invokevirtual 417, 3) := by decide +kernel
theorem dX12_gathered_26 : decode cX12_gathered 26 = .ok (.ifCond .ne 5, 3) := by decide +kernel
theorem dX12_gathered_29 : decode cX12_gathered 29 = .ok (.iconst (-1), 1) := by decide +kernel
theorem dX12_gathered_30 : decode cX12_gathered 30 = .ok (.ireturn, 1) := by decide +kernel
theorem dX12_gathered_31 : decode cX12_gathered 31 = .ok (.aload_n 0, 1) := by decide +kernel
theorem dX12_gathered_32 : decode cX12_gathered 32 = .ok (.getfield 138, 3) := by decide +kernel
theorem dX12_gathered_35 : decode cX12_gathered 35 = .ok (.iload_n 1, 1) := by decide +kernel
theorem dX12_gathered_36 : decode cX12_gathered 36 = .ok (.iconst 1, 1) := by decide +kernel
theorem dX12_gathered_37 : decode cX12_gathered 37 = .ok (.iadd, 1) := by decide +kernel
theorem dX12_gathered_38 : decode cX12_gathered 38 = .ok (.iaload, 1) := by decide +kernel
theorem dX12_gathered_39 : decode cX12_gathered 39 = .ok (.aload_n 0, 1) := by decide +kernel
theorem dX12_gathered_40 : decode cX12_gathered 40 = .ok (.getfield 138, 3) := by decide +kernel
theorem dX12_gathered_43 : decode cX12_gathered 43 = .ok (.iload_n 2, 1) := by decide +kernel
theorem dX12_gathered_44 : decode cX12_gathered 44 = .ok (.iconst 1, 1) := by decide +kernel
theorem dX12_gathered_45 : decode cX12_gathered 45 = .ok (.iadd, 1) := by decide +kernel
theorem dX12_gathered_46 : decode cX12_gathered 46 = .ok (.iaload, 1) := by decide +kernel
theorem dX12_gathered_47 : decode cX12_gathered 47 = .ok (.iadd, 1) := by decide +kernel
theorem dX12_gathered_48 : decode cX12_gathered 48 = .ok (.istore_n 3, 1) := by decide +kernel
theorem dX12_gathered_49 : decode cX12_gathered 49 = .ok (.iload_n 3, 1) := by decide +kernel
theorem dX12_gathered_50 : decode cX12_gathered 50 = .ok (.ldc_w 521, 3) := by decide +kernel
theorem dX12_gathered_53 : decode cX12_gathered 53 = .ok (.if_icmp .gt 7, 3) := by decide +kernel
theorem dX12_gathered_56 : decode cX12_gathered 56 = .ok (.iload_n 3, 1) := by decide +kernel
theorem dX12_gathered_57 : decode cX12_gathered 57 = .ok (.goto 4, 3) := by decide +kernel
theorem dX12_gathered_60 : decode cX12_gathered 60 = .ok (.iconst (-1), 1) := by decide +kernel
theorem dX12_gathered_61 : decode cX12_gathered 61 = .ok (.ireturn, 1) := by decide +kernel
theorem dX12_ruleOfTwo_0 : decode cX12_ruleOfTwo 0 = .ok (.iload_n 1, 1) := by decide +kernel
theorem dX12_ruleOfTwo_1 : decode cX12_ruleOfTwo 1 = .ok (.iconst 1, 1) := by decide +kernel
theorem dX12_ruleOfTwo_2 : decode cX12_ruleOfTwo 2 = .ok (.iadd, 1) := by decide +kernel
theorem dX12_ruleOfTwo_3 : decode cX12_ruleOfTwo 3 = .ok (.istore_n 3, 1) := by decide +kernel
theorem dX12_ruleOfTwo_4 : decode cX12_ruleOfTwo 4 = .ok (.aload_n 0, 1) := by decide +kernel
theorem dX12_ruleOfTwo_5 : decode cX12_ruleOfTwo 5 = .ok (.iload_n 1, 1) := by decide +kernel
theorem dX12_ruleOfTwo_6 : decode cX12_ruleOfTwo 6 = .ok (.iconst 1, 1) := by decide +kernel
theorem dX12_ruleOfTwo_7 : decode cX12_ruleOfTwo 7 = .ok (.invokevirtual 405, 3) := by decide +kernel
theorem dX12_ruleOfTwo_10 : decode cX12_ruleOfTwo 10 = .ok (.istore 4, 2) := by decide +kernel
theorem dX12_ruleOfTwo_12 : decode cX12_ruleOfTwo 12 = .ok (.aload_n 0, 1) := by decide +kernel
theorem dX12_ruleOfTwo_13 : decode cX12_ruleOfTwo 13 = .ok (.getfield 135, 3) := by decide +kernel
theorem dX12_ruleOfTwo_16 : decode cX12_ruleOfTwo 16 = .ok (.iload_n 3, 1) := by decide +kernel
theorem dX12_ruleOfTwo_17 : decode cX12_ruleOfTwo 17 = .ok (.iaload, 1) := by decide +kernel
theorem dX12_ruleOfTwo_18 : decode cX12_ruleOfTwo 18 = .ok (.ifCond .ne 34, 3) := by decide +kernel
theorem dX12_ruleOfTwo_21 : decode cX12_ruleOfTwo 21 = .ok (.aload_n 0, 1) := by decide +kernel
theorem dX12_ruleOfTwo_22 : decode cX12_ruleOfTwo 22 = .ok (.getfield 135, 3) := by decide +kernel
theorem dX12_ruleOfTwo_25 : decode cX12_ruleOfTwo 25 = .ok (.iload 4, 2) := by decide +kernel
theorem dX12_ruleOfTwo_27 : decode cX12_ruleOfTwo 27 = .ok (.iaload, 1) := by decide +kernel
theorem dX12_ruleOfTwo_28 : decode cX12_ruleOfTwo 28 = .ok (.ifCond .ne 24, 3) := by decide +kernel
theorem dX12_ruleOfTwo_31 : decode cX12_ruleOfTwo 31 = .ok (.aload_n 0, 1) := by decide +kernel
theorem dX12_ruleOfTwo_32 : decode cX12_ruleOfTwo 32 = .ok (.iload_n 2, 1) := by decide +kernel
theorem dX12_ruleOfTwo_33 : decode cX12_ruleOfTwo 33 = .ok (.aload_n 0, 1) := by decide +kernel
theorem dX12_ruleOfTwo_34 : decode cX12_ruleOfTwo 34 = .ok (.getfield 138, 3) := by decide +kernel
theorem dX12_ruleOfTwo_37 : decode cX12_ruleOfTwo 37 = .ok (.iload_n 3, 1) := by decide +kernel
theorem dX12_ruleOfTwo_38 : decode cX12_ruleOfTwo 38 = .ok (.iaload, 1) := by decide +kernel
theorem dX12_ruleOfTwo_39 : decode cX12_ruleOfTwo 39 = .ok (.aload_n 0, 1) := by decide +kernel
theorem dX12_ruleOfTwo_40 : decode cX12_ruleOfTwo 40 = .ok (.getfield 138, 3) := by decide +kernel
theorem dX12_ruleOfTwo_43 : decode cX12_ruleOfTwo 43 = .ok (.iload 4, 2) := by decide +kernel
theorem dX12_ruleOfTwo_45 : decode cX12_ruleOfTwo 45 = .ok (.iaload, 1) := by decide +kernel
theorem dX12_ruleOfTwo_46 : decode cX12_ruleOfTwo 46 = .ok (.invokevirtual 522, 3) := by decide +kernel
theorem dX12_ruleOfTwo_49 : decode cX12_ruleOfTwo 49 = .ok (.goto 4, 3) := by decide +kernel
theorem dX12_ruleOfTwo_52 : decode cX12_ruleOfTwo 52 = .ok (.iconst (-1), 1) := by decide +kernel
theorem dX12_ruleOfTwo_53 : decode cX12_ruleOfTwo 53 = .ok (.istore 5, 2) := by decide +kernel
theorem dX12_ruleOfTwo_55 : decode cX12_ruleOfTwo 55 = .ok (.iload 5, 2) := by decide +kernel
theorem dX12_ruleOfTwo_57 : decode cX12_ruleOfTwo 57 = .ok (.ifCond .lt 12, 3) := by decide +kernel
theorem dX12_ruleOfTwo_60 : decode cX12_ruleOfTwo 60 = .ok (.aload_n 0, 1) := by decide +kernel
theorem dX12_ruleOfTwo_61 : decode cX12_ruleOfTwo 61 = .ok (.iload_n 1, 1) := by decide +kernel
theorem dX12_ruleOfTwo_62 : decode cX12_ruleOfTwo 62 = .ok (.iload 5, 2) := by decide +kernel
theorem dX12_ruleOfTwo_64 : decode cX12_ruleOfTwo 64 = .ok (.invokevirtual 525, 3) := by decide +kernel
theorem dX12_ruleOfTwo_67 : decode cX12_ruleOfTwo 67 = .ok (.iconst 1, 1) := by decide +kernel
theorem dX12_ruleOfTwo_68 : decode cX12_ruleOfTwo 68 = .ok (.ireturn, 1) := by decide +kernel
theorem dX12_ruleOfTwo_69 : decode cX12_ruleOfTwo 69 = .ok (.iload_n 2, 1) := by decide +kernel
theorem dX12_ruleOfTwo_70 : decode cX12_ruleOfTwo 70 = .ok (.ifCond .ne 21, 3) := by decide +kernel
theorem dX12_ruleOfTwo_73 : decode cX12_ruleOfTwo 73 = .ok (.aload_n 0, 1) := by decide +kernel
theorem dX12_ruleOfTwo_74 : decode cX12_ruleOfTwo 74 = .ok (.iload_n 3, 1) := by decide +kernel
theorem dX12_ruleOfTwo_75 : decode cX12_ruleOfTwo 75 = .ok (.iconst 0, 1) := by decide +kernel
theorem dX12_ruleOfTwo_76 : decode cX12_ruleOfTwo 76 = .ok (.invokevirtual 528, 3) := by decide +kernel
theorem dX12_ruleOfTwo_79 : decode cX12_ruleOfTwo 79 = .ok (.ifCond .eq 12, 3) := by decide +kernel
theorem dX12_ruleOfTwo_82 : decode cX12_ruleOfTwo 82 = .ok (.aload_n 0, 1) := by decide +kernel
theorem dX12_ruleOfTwo_83 : decode cX12_ruleOfTwo 83 = .ok (.iload_n 1, 1) := by decide +kernel
theorem dX12_ruleOfTwo_84 : decode cX12_ruleOfTwo 84 = .ok (.iload 4, 2) := by decide +kernel
theorem dX12_ruleOfTwo_86 : decode cX12_ruleOfTwo 86 = .ok (.invokevirtual 531, 3) := by decide +kernel
theorem dX12_ruleOfTwo_89 : decode cX12_ruleOfTwo 89 = .ok (.iconst 2, 1) := by decide +kernel
theorem dX12_ruleOfTwo_90 : decode cX12_ruleOfTwo 90 = .ok (.ireturn, 1) := by decide +kernel
theorem dX12_ruleOfTwo_91 : decode cX12_ruleOfTwo 91 = .ok (.iload_n 2, 1) := by decide +kernel
theorem dX12_ruleOfTwo_92 : decode cX12_ruleOfTwo 92 = .ok (.ifCond .eq 8, 3) := by decide +kernel
theorem dX12_ruleOfTwo_95 : decode cX12_ruleOfTwo 95 = .ok (.iload_n 2, 1) := by decide +kernel
theorem dX12_ruleOfTwo_96 : decode cX12_ruleOfTwo 96 = .ok (.iconst 1, 1) := by decide +kernel
theorem dX12_ruleOfTwo_97 : decode cX12_ruleOfTwo 97 = .ok (.if_icmp .ne 21, 3) := by decide +kernel
theorem dX12_ruleOfTwo_100 : decode cX12_ruleOfTwo 100 = .ok (.aload_n 0, 1) := by decide +kernel
theorem dX12_ruleOfTwo_101 : decode cX12_ruleOfTwo 101 = .ok (.iload 4, 2) := by decide +kernel
theorem dX12_ruleOfTwo_103 : decode cX12_ruleOfTwo 103 = .ok (.iconst 0, 1) := by decide +kernel
theorem dX12_ruleOfTwo_104 : decode cX12_ruleOfTwo 104 = .ok (.invokevirtual 528, 3) := by decide +kernel
theorem dX12_ruleOfTwo_107 : decode cX12_ruleOfTwo 107 = .ok (.ifCond .eq 11, 3) := by decide +kernel
theorem dX12_ruleOfTwo_110 : decode cX12_ruleOfTwo 110 = .ok (.aload_n 0, 1) := by decide +kernel
theorem dX12_ruleOfTwo_111 : decode cX12_ruleOfTwo 111 = .ok (.iload_n 1, 1) := by decide +kernel
theorem dX12_ruleOfTwo_112 : decode cX12_ruleOfTwo 112 = .ok (.iload_n 3, 1) := by decide +kernel
theorem dX12_ruleOfTwo_113 : decode cX12_ruleOfTwo 113 = .ok (.invokevirtual 531, 3) := by decide +kernel
theorem dX12_ruleOfTwo_116 : decode cX12_ruleOfTwo 116 = .ok (.iconst 2, 1) := by decide +kernel
theorem dX12_ruleOfTwo_117 : decode cX12_ruleOfTwo 117 = .ok (.ireturn, 1) := by decide +kernel
theorem dX12_ruleOfTwo_118 : decode cX12_ruleOfTwo 118 = .ok (.iload_n 2, 1) := by decide +kernel
theorem dX12_ruleOfTwo_119 : decode cX12_ruleOfTwo 119 = .ok (.iconst 2, 1) := by decide +kernel
theorem dX12_ruleOfTwo_120 : decode cX12_ruleOfTwo 120 = .ok (.if_icmp .ne 21, 3) := by decide +kernel
theorem dX12_ruleOfTwo_123 : decode cX12_ruleOfTwo 123 = .ok (.aload_n 0, 1) := by decide +kernel
theorem dX12_ruleOfTwo_124 : decode cX12_ruleOfTwo 124 = .ok (.iload_n 3, 1) := by decide +kernel
theorem dX12_ruleOfTwo_125 : decode cX12_ruleOfTwo 125 = .ok (.iconst 1, 1) := by decide +kernel
theorem dX12_ruleOfTwo_126 : decode cX12_ruleOfTwo 126 = .ok (.invokevirtual 528, 3) := by decide +kernel
theorem dX12_ruleOfTwo_129 : decode cX12_ruleOfTwo 129 = .ok (.ifCond .eq 12, 3) := by decide +kernel
theorem dX12_ruleOfTwo_132 : decode cX12_ruleOfTwo 132 = .ok (.aload_n 0, 1) := by decide +kernel
theorem dX12_ruleOfTwo_133 : decode cX12_ruleOfTwo 133 = .ok (.iload_n 1, 1) := by decide +kernel
theorem dX12_ruleOfTwo_134 : decode cX12_ruleOfTwo 134 = .ok (.iload 4, 2) := by decide +kernel
theorem dX12_ruleOfTwo_136 : decode cX12_ruleOfTwo 136 = .ok (.invokevirtual 531, 3) := by decide +kernel
theorem dX12_ruleOfTwo_139 : decode cX12_ruleOfTwo 139 = .ok (.iconst 3, 1) := by decide +kernel
theorem dX12_ruleOfTwo_140 : decode cX12_ruleOfTwo 140 = .ok (.ireturn, 1) := by decide +kernel
theorem dX12_ruleOfTwo_141 : decode cX12_ruleOfTwo 141 = .ok (.iload_n 2, 1) := by decide +kernel
theorem dX12_ruleOfTwo_142 : decode cX12_ruleOfTwo 142 = .ok (.iconst 2, 1) := by decide +kernel
theorem dX12_ruleOfTwo_143 : decode cX12_ruleOfTwo 143 = .ok (.if_icmp .eq 13, 3) := by decide +kernel
theorem dX12_ruleOfTwo_146 : decode cX12_ruleOfTwo 146 = .ok (.iload_n 2, 1) := by decide +kernel
theorem dX12_ruleOfTwo_147 : decode cX12_ruleOfTwo 147 = .ok (.iconst 3, 1) := by decide +kernel
theorem dX12_ruleOfTwo_148 : decode cX12_ruleOfTwo 148 = .ok (.if_icmp .eq 8, 3) := by decide +kernel
theorem dX12_ruleOfTwo_151 : decode cX12_ruleOfTwo 151 = .ok (.iload_n 2, 1) := by decide +kernel
theorem dX12_ruleOfTwo_152 : decode cX12_ruleOfTwo 152 = .ok (.iconst 5, 1) := by decide +kernel
theorem dX12_ruleOfTwo_153 : decode cX12_ruleOfTwo 153 = .ok (.if_icmp .ne 21, 3) := by decide +kernel
theorem dX12_ruleOfTwo_156 : decode cX12_ruleOfTwo 156 = .ok (.aload_n 0, 1) := by decide +kernel
theorem dX12_ruleOfTwo_157 : decode cX12_ruleOfTwo 157 = .ok (.iload 4, 2) := by decide +kernel
theorem dX12_ruleOfTwo_159 : decode cX12_ruleOfTwo 159 = .ok (.iconst 1, 1) := by decide +kernel
theorem dX12_ruleOfTwo_160 : decode cX12_ruleOfTwo 160 = .ok (.invokevirtual 528, 3) := by decide +kernel
theorem dX12_ruleOfTwo_163 : decode cX12_ruleOfTwo 163 = .ok (.ifCond .eq 11, 3) := by decide +kernel
theorem dX12_ruleOfTwo_166 : decode cX12_ruleOfTwo 166 = .ok (.aload_n 0, 1) := by decide +kernel
theorem dX12_ruleOfTwo_167 : decode cX12_ruleOfTwo 167 = .ok (.iload_n 1, 1) := by decide +kernel
theorem dX12_ruleOfTwo_168 : decode cX12_ruleOfTwo 168 = .ok (.iload_n 3, 1) := by decide +kernel
theorem dX12_ruleOfTwo_169 : decode cX12_ruleOfTwo 169 = .ok (.invokevirtual 531, 3) := by decide +kernel
theorem dX12_ruleOfTwo_172 : decode cX12_ruleOfTwo 172 = .ok (.iconst 3, 1) := by decide +kernel
theorem dX12_ruleOfTwo_173 : decode cX12_ruleOfTwo 173 = .ok (.ireturn, 1) := by decide +kernel
theorem dX12_ruleOfTwo_174 : decode cX12_ruleOfTwo 174 = .ok (.iload_n 2, 1) := by decide +kernel
theorem dX12_ruleOfTwo_175 : decode cX12_ruleOfTwo 175 = .ok (.iconst 2, 1) := by decide +kernel
theorem dX12_ruleOfTwo_176 : decode cX12_ruleOfTwo 176 = .ok (.if_icmp .ne 30, 3) := by decide +kernel
theorem dX12_ruleOfTwo_179 : decode cX12_ruleOfTwo 179 = .ok (.aload_n 0, 1) := by decide +kernel
theorem dX12_ruleOfTwo_180 : decode cX12_ruleOfTwo 180 = .ok (.iload_n 3, 1) := by decide +kernel
theorem dX12_ruleOfTwo_181 : decode cX12_ruleOfTwo 181 = .ok (.iconst 0, 1) := by decide +kernel
theorem dX12_ruleOfTwo_182 : decode cX12_ruleOfTwo 182 = .ok (.invokevirtual 528, 3) := by decide +kernel
theorem dX12_ruleOfTwo_185 : decode cX12_ruleOfTwo 185 = .ok (.ifCond .ne 13, 3) := by decide +kernel
theorem dX12_ruleOfTwo_188 : decode cX12_ruleOfTwo 188 = .ok (.aload_n 0, 1) := by decide +kernel
theorem dX12_ruleOfTwo_189 : decode cX12_ruleOfTwo 189 = .ok (.iload 4, 2) := by decide +kernel
theorem dX12_ruleOfTwo_191 : decode cX12_ruleOfTwo 191 = .ok (.iconst 0, 1) := by decide +kernel
theorem dX12_ruleOfTwo_192 : decode cX12_ruleOfTwo 192 = .ok (.invokevirtual 528, 3) := by decide +kernel
theorem dX12_ruleOfTwo_195 : decode cX12_ruleOfTwo 195 = .ok (.ifCond .eq 11, 3) := by decide +kernel
theorem dX12_ruleOfTwo_198 : decode cX12_ruleOfTwo 198 = .ok (.aload_n 0, 1) := by decide +kernel
theorem dX12_ruleOfTwo_199 : decode cX12_ruleOfTwo 199 = .ok (.iload_n 1, 1) := by decide +kernel
theorem dX12_ruleOfTwo_200 : decode cX12_ruleOfTwo 200 = .ok (.iconst 0, 1) := by decide +kernel
theorem dX12_ruleOfTwo_201 : decode cX12_ruleOfTwo 201 = .ok (.invokevirtual 525, 3) := by decide +kernel
theorem dX12_ruleOfTwo_204 : decode cX12_ruleOfTwo 204 = .ok (.iconst 4, 1) := by decide +kernel
theorem dX12_ruleOfTwo_205 : decode cX12_ruleOfTwo 205 = .ok (.ireturn, 1) := by decide +kernel
theorem dX12_ruleOfTwo_206 : decode cX12_ruleOfTwo 206 = .ok (.iload_n 2, 1) := by decide +kernel
theorem dX12_ruleOfTwo_207 : decode cX12_ruleOfTwo 207 = .ok (.iconst 1, 1) := by decide +kernel
theorem dX12_ruleOfTwo_208 : decode cX12_ruleOfTwo 208 = .ok (.if_icmp .eq 8, 3) := by decide +kernel
theorem dX12_ruleOfTwo_211 : decode cX12_ruleOfTwo 211 = .ok (.iload_n 2, 1) := by decide +kernel
theorem dX12_ruleOfTwo_212 : decode cX12_ruleOfTwo 212 = .ok (.iconst 3, 1) := by decide +kernel
theorem dX12_ruleOfTwo_213 : decode cX12_ruleOfTwo 213 = .ok (.if_icmp .ne 30, 3) := by decide +kernel
theorem dX12_ruleOfTwo_216 : decode cX12_ruleOfTwo 216 = .ok (.aload_n 0, 1) := by decide +kernel
theorem dX12_ruleOfTwo_217 : decode cX12_ruleOfTwo 217 = .ok (.iload_n 3, 1) := by decide +kernel
theorem dX12_ruleOfTwo_218 : decode cX12_ruleOfTwo 218 = .ok (.iload 4, 2) := by decide +kernel
theorem dX12_ruleOfTwo_220 : decode cX12_ruleOfTwo 220 = .ok (.invokevirtual 417, 3) := by decide +kernel
theorem dX12_ruleOfTwo_223 : decode cX12_ruleOfTwo 223 = .ok (.ifCond .eq 20, 3) := by decide +kernel
theorem dX12_ruleOfTwo_226 : decode cX12_ruleOfTwo 226 = .ok (.aload_n 0, 1) := by decide +kernel
theorem dX12_ruleOfTwo_227 : decode cX12_ruleOfTwo 227 = .ok (.iload_n 1, 1) := by decide +kernel
theorem dX12_ruleOfTwo_228 : decode cX12_ruleOfTwo 228 = .ok (.iload_n 2, 1) := by decide +kernel
theorem dX12_ruleOfTwo_229 : decode cX12_ruleOfTwo 229 = .ok (.iconst 3, 1) := by decide +kernel
theorem dX12_ruleOfTwo_230 : decode cX12_ruleOfTwo 230 = .ok (.if_icmp .ne 7, 3) := by decide +kernel
theorem dX12_ruleOfTwo_233 : decode cX12_ruleOfTwo 233 = .ok (.iconst 1, 1) := by decide +kernel
theorem dX12_ruleOfTwo_234 : decode cX12_ruleOfTwo 234 = .ok (.goto 4, 3) := by decide +kernel
theorem dX12_ruleOfTwo_237 : decode cX12_ruleOfTwo 237 = .ok (.iconst 0, 1) := by decide +kernel
theorem dX12_ruleOfTwo_238 : decode cX12_ruleOfTwo 238 = .ok (.invokevirtual 525, 3) := by decide +kernel
theorem dX12_ruleOfTwo_241 : decode cX12_ruleOfTwo 241 = .ok (.iconst 5, 1) := by decide +kernel
theorem dX12_ruleOfTwo_242 : decode cX12_ruleOfTwo 242 = .ok (.ireturn, 1) := by decide +kernel
theorem dX12_ruleOfTwo_243 : decode cX12_ruleOfTwo 243 = .ok (.iload_n 2, 1) := by decide +kernel
theorem dX12_ruleOfTwo_244 : decode cX12_ruleOfTwo 244 = .ok (.ifCond .ne 13, 3) := by decide +kernel
theorem dX12_ruleOfTwo_247 : decode cX12_ruleOfTwo 247 = .ok (.aload_n 0, 1) := by decide +kernel
theorem dX12_ruleOfTwo_248 : decode cX12_ruleOfTwo 248 = .ok (.iload_n 3, 1) := by decide +kernel
theorem dX12_ruleOfTwo_249 : decode cX12_ruleOfTwo 249 = .ok (.iload 4, 2) := by decide +kernel
theorem dX12_ruleOfTwo_251 : decode cX12_ruleOfTwo 251 = .ok (.invokevirtual 534, 3) := by decide +kernel
theorem dX12_ruleOfTwo_254 : decode cX12_ruleOfTwo 254 = .ok (.goto 4, 3) := by decide +kernel
theorem dX12_ruleOfTwo_257 : decode cX12_ruleOfTwo 257 = .ok (.iconst (-1), 1) := by decide +kernel
theorem dX12_ruleOfTwo_258 : decode cX12_ruleOfTwo 258 = .ok (.istore 6, 2) := by decide +kernel
theorem dX12_ruleOfTwo_260 : decode cX12_ruleOfTwo 260 = .ok (.iload 6, 2) := by decide +kernel
theorem dX12_ruleOfTwo_262 : decode cX12_ruleOfTwo 262 = .ok (.ifCond .lt 22, 3) := by decide +kernel
theorem dX12_ruleOfTwo_265 : decode cX12_ruleOfTwo 265 = .ok (.aload_n 0, 1) := by decide +kernel
theorem dX12_ruleOfTwo_266 : decode cX12_ruleOfTwo 266 = .ok (.getfield 138, 3) := by decide +kernel
theorem dX12_ruleOfTwo_269 : decode cX12_ruleOfTwo 269 = .ok (.iload_n 3, 1) := by decide +kernel
theorem dX12_ruleOfTwo_270 : decode cX12_ruleOfTwo 270 = .ok (.iconst 1, 1) := by decide +kernel
theorem dX12_ruleOfTwo_271 : decode cX12_ruleOfTwo 271 = .ok (.iadd, 1) := by decide +kernel
theorem dX12_ruleOfTwo_272 : decode cX12_ruleOfTwo 272 = .ok (.iload 6, 2) := by decide +kernel
theorem dX12_ruleOfTwo_274 : decode cX12_ruleOfTwo 274 = .ok (.iastore, 1) := by decide +kernel
theorem dX12_ruleOfTwo_275 : decode cX12_ruleOfTwo 275 = .ok (.aload_n 0, 1) := by decide +kernel
theorem dX12_ruleOfTwo_276 : decode cX12_ruleOfTwo 276 = .ok (.iload_n 1, 1) := by decide +kernel
theorem dX12_ruleOfTwo_277 : decode cX12_ruleOfTwo 277 = .ok (.iload_n 3, 1) := by decide +kernel
theorem dX12_ruleOfTwo_278 : decode cX12_ruleOfTwo 278 = .ok (.invokevirtual 531, 3) := by decide +kernel
theorem dX12_ruleOfTwo_281 : decode cX12_ruleOfTwo 281 = .ok (.bipush 7, 2) := by decide +kernel
theorem dX12_ruleOfTwo_283 : decode cX12_ruleOfTwo 283 = .ok (.ireturn, 1) := by decide +kernel
theorem dX12_ruleOfTwo_284 : decode cX12_ruleOfTwo 284 = .ok (.iconst 0, 1) := by decide +kernel
theorem dX12_ruleOfTwo_285 : decode cX12_ruleOfTwo 285 = .ok (.ireturn, 1) := by decide +kernel
theorem dX12_ruleAt_0 : decode cX12_ruleAt 0 = .ok (.aload_n 0, 1) := by decide +kernel
theorem dX12_ruleAt_1 : decode cX12_ruleAt 1 = .ok (.iload_n 1, 1) := by decide +kernel
theorem dX12_ruleAt_2 : decode cX12_ruleAt 2 = .ok (.invokevirtual 484, 3) := by decide +kernel
theorem dX12_ruleAt_5 : decode cX12_ruleAt 5 = .ok (.istore_n 2, 1) := by decide +kernel
theorem dX12_ruleAt_6 : decode cX12_ruleAt 6 = .ok (.iload_n 2, 1) := by decide +kernel
theorem dX12_ruleAt_7 : decode cX12_ruleAt 7 = .ok (.bipush 11, 2) := by decide +kernel
theorem dX12_ruleAt_9 : decode cX12_ruleAt 9 = .ok (.if_icmp .ne 26, 3) := by decide +kernel
theorem dX12_ruleAt_12 : decode cX12_ruleAt 12 = .ok (.aload_n 0, 1) := by decide +kernel
theorem dX12_ruleAt_13 : decode cX12_ruleAt 13 = .ok (.iload_n 1, 1) := by decide +kernel
theorem dX12_ruleAt_14 : decode cX12_ruleAt 14 = .ok (.iconst 1, 1) := by decide +kernel
theorem dX12_ruleAt_15 : decode cX12_ruleAt 15 = .ok (.iadd, 1) := by decide +kernel
theorem dX12_ruleAt_16 : decode cX12_ruleAt 16 = .ok (.invokevirtual 484, 3) := by decide +kernel
theorem dX12_ruleAt_19 : decode cX12_ruleAt 19 = .ok (.bipush 11, 2) := by decide +kernel
theorem dX12_ruleAt_21 : decode cX12_ruleAt 21 = .ok (.if_icmp .ne 14, 3) := by decide +kernel
theorem dX12_ruleAt_24 : decode cX12_ruleAt 24 = .ok (.aload_n 0, 1) := by decide +kernel
theorem dX12_ruleAt_25 : decode cX12_ruleAt 25 = .ok (.iload_n 1, 1) := by decide +kernel
theorem dX12_ruleAt_26 : decode cX12_ruleAt 26 = .ok (.iload_n 1, 1) := by decide +kernel
theorem dX12_ruleAt_27 : decode cX12_ruleAt 27 = .ok (.iconst 2, 1) := by decide +kernel
theorem dX12_ruleAt_28 : decode cX12_ruleAt 28 = .ok (.iadd, 1) := by decide +kernel
theorem dX12_ruleAt_29 : decode cX12_ruleAt 29 = .ok (.invokevirtual 531, 3) := by decide +kernel
theorem dX12_ruleAt_32 : decode cX12_ruleAt 32 = .ok (.bipush 6, 2) := by decide +kernel
theorem dX12_ruleAt_34 : decode cX12_ruleAt 34 = .ok (.ireturn, 1) := by decide +kernel
theorem dX12_ruleAt_35 : decode cX12_ruleAt 35 = .ok (.iload_n 2, 1) := by decide +kernel
theorem dX12_ruleAt_36 : decode cX12_ruleAt 36 = .ok (.iconst 0, 1) := by decide +kernel
theorem dX12_ruleAt_37 : decode cX12_ruleAt 37 = .ok (.iconst 5, 1) := by decide +kernel
theorem dX12_ruleAt_38 : decode cX12_ruleAt 38 = .ok (.invokestatic 106, 3) := by decide +kernel
theorem dX12_ruleAt_41 : decode cX12_ruleAt 41 = .ok (.ifCond .eq 22, 3) := by decide +kernel
theorem dX12_ruleAt_44 : decode cX12_ruleAt 44 = .ok (.aload_n 0, 1) := by decide +kernel
theorem dX12_ruleAt_45 : decode cX12_ruleAt 45 = .ok (.getfield 144, 3) := by decide +kernel
theorem dX12_ruleAt_48 : decode cX12_ruleAt 48 = .ok (.iload_n 1, 1) := by decide +kernel
theorem dX12_ruleAt_49 : decode cX12_ruleAt 49 = .ok (.iaload, 1) := by decide +kernel
theorem dX12_ruleAt_50 : decode cX12_ruleAt 50 = .ok (.iconst 2, 1) := by decide +kernel
theorem dX12_ruleAt_51 : decode cX12_ruleAt 51 = .ok (.if_icmp .ne 12, 3) := by decide +kernel
theorem dX12_ruleAt_54 : decode cX12_ruleAt 54 = .ok (.aload_n 0, 1) := by decide +kernel
theorem dX12_ruleAt_55 : decode cX12_ruleAt 55 = .ok (.iload_n 1, 1) := by decide +kernel
theorem dX12_ruleAt_56 : decode cX12_ruleAt 56 = .ok (.iload_n 2, 1) := by decide +kernel
theorem dX12_ruleAt_57 : decode cX12_ruleAt 57 = .ok (.invokevirtual 537, 3) := by decide +kernel
theorem dX12_ruleAt_60 : decode cX12_ruleAt 60 = .ok (.goto 4, 3) := by decide +kernel
theorem dX12_ruleAt_63 : decode cX12_ruleAt 63 = .ok (.iconst 0, 1) := by decide +kernel
theorem dX12_ruleAt_64 : decode cX12_ruleAt 64 = .ok (.ireturn, 1) := by decide +kernel
theorem dX12_stepWork_0 : decode cX12_stepWork 0 = .ok (.aload_n 0, 1) := by decide +kernel
theorem dX12_stepWork_1 : decode cX12_stepWork 1 = .ok (.sipush 13540, 3) := by decide +kernel
theorem dX12_stepWork_4 : decode cX12_stepWork 4 = .ok (.invokevirtual 439, 3) := by decide +kernel
theorem dX12_stepWork_7 : decode cX12_stepWork 7 = .ok (.istore_n 1, 1) := by decide +kernel
theorem dX12_stepWork_8 : decode cX12_stepWork 8 = .ok (.iconst 0, 1) := by decide +kernel
theorem dX12_stepWork_9 : decode cX12_stepWork 9 = .ok (.istore_n 2, 1) := by decide +kernel
theorem dX12_stepWork_10 : decode cX12_stepWork 10 = .ok (.iconst 0, 1) := by decide +kernel
theorem dX12_stepWork_11 : decode cX12_stepWork 11 = .ok (.istore_n 3, 1) := by decide +kernel
theorem dX12_stepWork_12 : decode cX12_stepWork 12 = .ok (.iload_n 3, 1) := by decide +kernel
theorem dX12_stepWork_13 : decode cX12_stepWork 13 = .ok (.iload_n 1, 1) := by decide +kernel
theorem dX12_stepWork_14 : decode cX12_stepWork 14 = .ok (.if_icmp .ge 67, 3) := by decide +kernel
theorem dX12_stepWork_17 : decode cX12_stepWork 17 = .ok (.iload_n 2, 1) := by decide +kernel
theorem dX12_stepWork_18 : decode cX12_stepWork 18 = .ok (.ifCond .ne 63, 3) := by decide +kernel
theorem dX12_stepWork_21 : decode cX12_stepWork 21 = .ok (.aload_n 0, 1) := by decide +kernel
theorem dX12_stepWork_22 : decode cX12_stepWork 22 = .ok (.getfield 150, 3) := by decide +kernel
theorem dX12_stepWork_25 : decode cX12_stepWork 25 = .ok (.iload_n 3, 1) := by decide +kernel
theorem dX12_stepWork_26 : decode cX12_stepWork 26 = .ok (.iaload, 1) := by decide +kernel
theorem dX12_stepWork_27 : decode cX12_stepWork 27 = .ok (.istore 4, 2) := by decide +kernel
theorem dX12_stepWork_29 : decode cX12_stepWork 29 = .ok (.aload_n 0, 1) := by decide +kernel
theorem dX12_stepWork_30 : decode cX12_stepWork 30 = .ok (.iload 4, 2) := by decide +kernel
theorem dX12_stepWork_32 : decode cX12_stepWork 32 = .ok (.invokevirtual 540, 3) := by decide +kernel
theorem dX12_stepWork_35 : decode cX12_stepWork 35 = .ok (.istore_n 2, 1) := by decide +kernel
theorem dX12_stepWork_36 : decode cX12_stepWork 36 = .ok (.iload_n 2, 1) := by decide +kernel
theorem dX12_stepWork_37 : decode cX12_stepWork 37 = .ok (.ifCond .le 38, 3) := by decide +kernel
theorem dX12_stepWork_40 : decode cX12_stepWork 40 = .ok (.aload_n 0, 1) := by decide +kernel
theorem dX12_stepWork_41 : decode cX12_stepWork 41 = .ok (.getfield 284, 3) := by decide +kernel
theorem dX12_stepWork_44 : decode cX12_stepWork 44 = .ok (.aload_n 0, 1) := by decide +kernel
theorem dX12_stepWork_45 : decode cX12_stepWork 45 = .ok (.getfield 543, 3) := by decide +kernel
theorem dX12_stepWork_48 : decode cX12_stepWork 48 = .ok (.iload_n 2, 1) := by decide +kernel
theorem dX12_stepWork_49 : decode cX12_stepWork 49 = .ok (.iastore, 1) := by decide +kernel
theorem dX12_stepWork_50 : decode cX12_stepWork 50 = .ok (.aload_n 0, 1) := by decide +kernel
theorem dX12_stepWork_51 : decode cX12_stepWork 51 = .ok (.getfield 287, 3) := by decide +kernel
theorem dX12_stepWork_54 : decode cX12_stepWork 54 = .ok (.aload_n 0, 1) := by decide +kernel
theorem dX12_stepWork_55 : decode cX12_stepWork 55 = .ok (.getfield 543, 3) := by decide +kernel
theorem dX12_stepWork_58 : decode cX12_stepWork 58 = .ok (.iload 4, 2) := by decide +kernel
theorem dX12_stepWork_60 : decode cX12_stepWork 60 = .ok (.sipush 13540, 3) := by decide +kernel
theorem dX12_stepWork_63 : decode cX12_stepWork 63 = .ok (.isub, 1) := by decide +kernel
theorem dX12_stepWork_64 : decode cX12_stepWork 64 = .ok (.iastore, 1) := by decide +kernel
theorem dX12_stepWork_65 : decode cX12_stepWork 65 = .ok (.aload_n 0, 1) := by decide +kernel
theorem dX12_stepWork_66 : decode cX12_stepWork 66 = .ok (.dup, 1) := by decide +kernel
theorem dX12_stepWork_67 : decode cX12_stepWork 67 = .ok (.getfield 543, 3) := by decide +kernel
theorem dX12_stepWork_70 : decode cX12_stepWork 70 = .ok (.iconst 1, 1) := by decide +kernel
theorem dX12_stepWork_71 : decode cX12_stepWork 71 = .ok (.iadd, 1) := by decide +kernel
theorem dX12_stepWork_72 : decode cX12_stepWork 72 = .ok (.putfield 543, 3) := by decide +kernel
theorem dX12_stepWork_75 : decode cX12_stepWork 75 = .ok (.iinc 3 1, 3) := by decide +kernel
theorem dX12_stepWork_78 : decode cX12_stepWork 78 = .ok (.goto (-66), 3) := by decide +kernel
theorem dX12_stepWork_81 : decode cX12_stepWork 81 = .ok (.iload_n 2, 1) := by decide +kernel
theorem dX12_stepWork_82 : decode cX12_stepWork 82 = .ok (.ifCond .le 7, 3) := by decide +kernel
theorem dX12_stepWork_85 : decode cX12_stepWork 85 = .ok (.iconst 1, 1) := by decide +kernel
theorem dX12_stepWork_86 : decode cX12_stepWork 86 = .ok (.goto 4, 3) := by decide +kernel
theorem dX12_stepWork_89 : decode cX12_stepWork 89 = .ok (.iconst 0, 1) := by decide +kernel
theorem dX12_stepWork_90 : decode cX12_stepWork 90 = .ok (.ireturn, 1) := by decide +kernel
theorem dX12_takeWork_0 : decode cX12_takeWork 0 = .ok (.aload_n 0, 1) := by decide +kernel
theorem dX12_takeWork_1 : decode cX12_takeWork 1 = .ok (.aload_n 0, 1) := by decide +kernel
theorem dX12_takeWork_2 : decode cX12_takeWork 2 = .ok (.getfield 147, 3) := by decide +kernel
theorem dX12_takeWork_5 : decode cX12_takeWork 5 = .ok (.iload_n 1, 1) := by decide +kernel
theorem dX12_takeWork_6 : decode cX12_takeWork 6 = .ok (.iaload, 1) := by decide +kernel
theorem dX12_takeWork_7 : decode cX12_takeWork 7 = .ok (.putfield 512, 3) := by decide +kernel
theorem dX12_takeWork_10 : decode cX12_takeWork 10 = .ok (.aload_n 0, 1) := by decide +kernel
theorem dX12_takeWork_11 : decode cX12_takeWork 11 = .ok (.sipush 13540, 3) := by decide +kernel
theorem dX12_takeWork_14 : decode cX12_takeWork 14 = .ok (.iload_n 1, 1) := by decide +kernel
theorem dX12_takeWork_15 : decode cX12_takeWork 15 = .ok (.aload_n 0, 1) := by decide +kernel
theorem dX12_takeWork_16 : decode cX12_takeWork 16 = .ok (.getfield 512, 3) := by decide +kernel
theorem dX12_takeWork_19 : decode cX12_takeWork 19 = .ok (.invokevirtual 515, 3) := by decide +kernel
theorem dX12_takeWork_22 : decode cX12_takeWork 22 = .ok (.return_, 1) := by decide +kernel
theorem dX12_coefficientAt_0 : decode cX12_coefficientAt 0 = .ok (.sipush 2700, 3) := by decide +kernel
theorem dX12_coefficientAt_3 : decode cX12_coefficientAt 3 = .ok (.bipush 9, 2) := by decide +kernel
theorem dX12_coefficientAt_5 : decode cX12_coefficientAt 5 = .ok (.iload_n 0, 1) := by decide +kernel
theorem dX12_coefficientAt_6 : decode cX12_coefficientAt 6 = .ok (.imul, 1) := by decide +kernel
theorem dX12_coefficientAt_7 : decode cX12_coefficientAt 7 = .ok (.iadd, 1) := by decide +kernel
theorem dX12_coefficientAt_8 : decode cX12_coefficientAt 8 = .ok (.iload_n 1, 1) := by decide +kernel
theorem dX12_coefficientAt_9 : decode cX12_coefficientAt 9 = .ok (.iadd, 1) := by decide +kernel
theorem dX12_coefficientAt_10 : decode cX12_coefficientAt 10 = .ok (.ireturn, 1) := by decide +kernel
theorem dX12_degreeOf_0 : decode cX12_degreeOf 0 = .ok (.bipush 8, 2) := by decide +kernel
theorem dX12_degreeOf_2 : decode cX12_degreeOf 2 = .ok (.istore_n 2, 1) := by decide +kernel
theorem dX12_degreeOf_3 : decode cX12_degreeOf 3 = .ok (.iload_n 2, 1) := by decide +kernel
theorem dX12_degreeOf_4 : decode cX12_degreeOf 4 = .ok (.ifCond .le 21, 3) := by decide +kernel
theorem dX12_degreeOf_7 : decode cX12_degreeOf 7 = .ok (.aload_n 0, 1) := by decide +kernel
theorem dX12_degreeOf_8 : decode cX12_degreeOf 8 = .ok (.iload_n 1, 1) := by decide +kernel
theorem dX12_degreeOf_9 : decode cX12_degreeOf 9 = .ok (.iload_n 2, 1) := by decide +kernel
theorem dX12_degreeOf_10 : decode cX12_degreeOf 10 = .ok (.invokestatic 546, 3) := by decide +kernel
theorem dX12_degreeOf_13 : decode cX12_degreeOf 13 = .ok (.invokevirtual 81, 3) := by decide +kernel
theorem dX12_degreeOf_16 : decode cX12_degreeOf 16 = .ok (.ifCond .ne 9, 3) := by decide +kernel
theorem dX12_degreeOf_19 : decode cX12_degreeOf 19 = .ok (.iinc 2 (-1), 3) := by decide +kernel
theorem dX12_degreeOf_22 : decode cX12_degreeOf 22 = .ok (.goto (-19), 3) := by decide +kernel
theorem dX12_degreeOf_25 : decode cX12_degreeOf 25 = .ok (.iload_n 2, 1) := by decide +kernel
theorem dX12_degreeOf_26 : decode cX12_degreeOf 26 = .ok (.ireturn, 1) := by decide +kernel
theorem dX12_clear_0 : decode cX12_clear 0 = .ok (.iconst 0, 1) := by decide +kernel
theorem dX12_clear_1 : decode cX12_clear 1 = .ok (.istore_n 2, 1) := by decide +kernel
theorem dX12_clear_2 : decode cX12_clear 2 = .ok (.iload_n 2, 1) := by decide +kernel
theorem dX12_clear_3 : decode cX12_clear 3 = .ok (.bipush 9, 2) := by decide +kernel
theorem dX12_clear_5 : decode cX12_clear 5 = .ok (.if_icmp .ge 19, 3) := by decide +kernel
theorem dX12_clear_8 : decode cX12_clear 8 = .ok (.aload_n 0, 1) := by decide +kernel
theorem dX12_clear_9 : decode cX12_clear 9 = .ok (.iload_n 1, 1) := by decide +kernel
theorem dX12_clear_10 : decode cX12_clear 10 = .ok (.iload_n 2, 1) := by decide +kernel
theorem dX12_clear_11 : decode cX12_clear 11 = .ok (.invokestatic 546, 3) := by decide +kernel
theorem dX12_clear_14 : decode cX12_clear 14 = .ok (.iconst 0, 1) := by decide +kernel
theorem dX12_clear_15 : decode cX12_clear 15 = .ok (.invokevirtual 96, 3) := by decide +kernel
theorem dX12_clear_18 : decode cX12_clear 18 = .ok (.iinc 2 1, 3) := by decide +kernel
theorem dX12_clear_21 : decode cX12_clear 21 = .ok (.goto (-19), 3) := by decide +kernel
theorem dX12_clear_24 : decode cX12_clear 24 = .ok (.return_, 1) := by decide +kernel
theorem dX12_clearWide_0 : decode cX12_clearWide 0 = .ok (.aload_n 0, 1) := by decide +kernel
theorem dX12_clearWide_1 : decode cX12_clearWide 1 = .ok (.iconst 0, 1) := by decide +kernel
theorem dX12_clearWide_2 : decode cX12_clearWide 2 = .ok (.putfield 549, 3) := by decide +kernel
theorem dX12_clearWide_5 : decode cX12_clearWide 5 = .ok (.aload_n 0, 1) := by decide +kernel
theorem dX12_clearWide_6 : decode cX12_clearWide 6 = .ok (.bipush 8, 2) := by decide +kernel
theorem dX12_clearWide_8 : decode cX12_clearWide 8 = .ok (.iconst 0, 1) := by decide +kernel
theorem dX12_clearWide_9 : decode cX12_clearWide 9 = .ok (.invokevirtual 53, 3) := by decide +kernel
theorem dX12_clearWide_12 : decode cX12_clearWide 12 = .ok (.aload_n 0, 1) := by decide +kernel
theorem dX12_clearWide_13 : decode cX12_clearWide 13 = .ok (.bipush 9, 2) := by decide +kernel
theorem dX12_clearWide_15 : decode cX12_clearWide 15 = .ok (.iconst 1, 1) := by decide +kernel
theorem dX12_clearWide_16 : decode cX12_clearWide 16 = .ok (.invokevirtual 53, 3) := by decide +kernel
theorem dX12_clearWide_19 : decode cX12_clearWide 19 = .ok (.return_, 1) := by decide +kernel
theorem dX12_addProduct_0 : decode cX12_addProduct 0 = .ok (.aload_n 0, 1) := by decide +kernel
theorem dX12_addProduct_1 : decode cX12_addProduct 1 = .ok (.iconst 2, 1) := by decide +kernel
theorem dX12_addProduct_2 : decode cX12_addProduct 2 = .ok (.iload_n 1, 1) := by decide +kernel
theorem dX12_addProduct_3 : decode cX12_addProduct 3 = .ok (.invokevirtual 72, 3) := by decide +kernel
theorem dX12_addProduct_6 : decode cX12_addProduct 6 = .ok (.aload_n 0, 1) := by decide +kernel
theorem dX12_addProduct_7 : decode cX12_addProduct 7 = .ok (.iconst 3, 1) := by decide +kernel
theorem dX12_addProduct_8 : decode cX12_addProduct 8 = .ok (.iload_n 2, 1) := by decide +kernel
theorem dX12_addProduct_9 : decode cX12_addProduct 9 = .ok (.invokevirtual 72, 3) := by decide +kernel
theorem dX12_addProduct_12 : decode cX12_addProduct 12 = .ok (.aload_n 0, 1) := by decide +kernel
theorem dX12_addProduct_13 : decode cX12_addProduct 13 = .ok (.iconst 4, 1) := by decide +kernel
theorem dX12_addProduct_14 : decode cX12_addProduct 14 = .ok (.iconst 2, 1) := by decide +kernel
theorem dX12_addProduct_15 : decode cX12_addProduct 15 = .ok (.iconst 3, 1) := by decide +kernel
theorem dX12_addProduct_16 : decode cX12_addProduct 16 = .ok (.invokevirtual 78, 3) := by decide +kernel
theorem dX12_addProduct_19 : decode cX12_addProduct 19 = .ok (.aload_n 0, 1) := by decide +kernel
theorem dX12_addProduct_20 : decode cX12_addProduct 20 = .ok (.iconst 2, 1) := by decide +kernel
theorem dX12_addProduct_21 : decode cX12_addProduct 21 = .ok (.iload_n 1, 1) := by decide +kernel
theorem dX12_addProduct_22 : decode cX12_addProduct 22 = .ok (.invokevirtual 75, 3) := by decide +kernel
theorem dX12_addProduct_25 : decode cX12_addProduct 25 = .ok (.aload_n 0, 1) := by decide +kernel
theorem dX12_addProduct_26 : decode cX12_addProduct 26 = .ok (.iconst 3, 1) := by decide +kernel
theorem dX12_addProduct_27 : decode cX12_addProduct 27 = .ok (.iload_n 2, 1) := by decide +kernel
theorem dX12_addProduct_28 : decode cX12_addProduct 28 = .ok (.invokevirtual 75, 3) := by decide +kernel
theorem dX12_addProduct_31 : decode cX12_addProduct 31 = .ok (.aload_n 0, 1) := by decide +kernel
theorem dX12_addProduct_32 : decode cX12_addProduct 32 = .ok (.iconst 5, 1) := by decide +kernel
theorem dX12_addProduct_33 : decode cX12_addProduct 33 = .ok (.iconst 2, 1) := by decide +kernel
theorem dX12_addProduct_34 : decode cX12_addProduct 34 = .ok (.iconst 3, 1) := by decide +kernel
theorem dX12_addProduct_35 : decode cX12_addProduct 35 = .ok (.invokevirtual 78, 3) := by decide +kernel
theorem dX12_addProduct_38 : decode cX12_addProduct 38 = .ok (.aload_n 0, 1) := by decide +kernel
theorem dX12_addProduct_39 : decode cX12_addProduct 39 = .ok (.bipush 6, 2) := by decide +kernel
theorem dX12_addProduct_41 : decode cX12_addProduct 41 = .ok (.bipush 8, 2) := by decide +kernel
theorem dX12_addProduct_43 : decode cX12_addProduct 43 = .ok (.iconst 5, 1) := by decide +kernel
theorem dX12_addProduct_44 : decode cX12_addProduct 44 = .ok (.invokevirtual 78, 3) := by decide +kernel
theorem dX12_addProduct_47 : decode cX12_addProduct 47 = .ok (.aload_n 0, 1) := by decide +kernel
theorem dX12_addProduct_48 : decode cX12_addProduct 48 = .ok (.bipush 7, 2) := by decide +kernel
theorem dX12_addProduct_50 : decode cX12_addProduct 50 = .ok (.iconst 4, 1) := by decide +kernel
theorem dX12_addProduct_51 : decode cX12_addProduct 51 = .ok (.bipush 9, 2) := by decide +kernel
theorem dX12_addProduct_53 : decode cX12_addProduct 53 = .ok (.invokevirtual 78, 3) := by decide +kernel
theorem dX12_addProduct_56 : decode cX12_addProduct 56 = .ok (.aload_n 0, 1) := by decide +kernel
theorem dX12_addProduct_57 : decode cX12_addProduct 57 = .ok (.bipush 10, 2) := by decide +kernel
theorem dX12_addProduct_59 : decode cX12_addProduct 59 = .ok (.bipush 9, 2) := by decide +kernel
theorem dX12_addProduct_61 : decode cX12_addProduct 61 = .ok (.iconst 5, 1) := by decide +kernel
theorem dX12_addProduct_62 : decode cX12_addProduct 62 = .ok (.invokevirtual 78, 3) := by decide +kernel
theorem dX12_addProduct_65 : decode cX12_addProduct 65 = .ok (.aload_n 0, 1) := by decide +kernel
theorem dX12_addProduct_66 : decode cX12_addProduct 66 = .ok (.bipush 9, 2) := by decide +kernel
theorem dX12_addProduct_68 : decode cX12_addProduct 68 = .ok (.bipush 10, 2) := by decide +kernel
theorem dX12_addProduct_70 : decode cX12_addProduct 70 = .ok (.invokevirtual 43, 3) := by decide +kernel
theorem dX12_addProduct_73 : decode cX12_addProduct 73 = .ok (.aload_n 0, 1) := by decide +kernel
theorem dX12_addProduct_74 : decode cX12_addProduct 74 = .ok (.aload_n 0, 1) := by decide +kernel
theorem dX12_addProduct_75 : decode cX12_addProduct 75 = .ok (.bipush 6, 2) := by decide +kernel
theorem dX12_addProduct_77 : decode cX12_addProduct 77 = .ok (.aload_n 0, 1) := by decide +kernel
theorem dX12_addProduct_78 : decode cX12_addProduct 78 = .ok (.getfield 549, 3) := by decide +kernel
theorem dX12_addProduct_81 : decode cX12_addProduct 81 = .ok (.bipush 7, 2) := by decide +kernel
theorem dX12_addProduct_83 : decode cX12_addProduct 83 = .ok (.iload_n 3, 1) := by decide +kernel
theorem dX12_addProduct_84 : decode cX12_addProduct 84 = .ok (.aload_n 0, 1) := by decide +kernel
theorem dX12_addProduct_85 : decode cX12_addProduct 85 = .ok (.iload_n 1, 1) := by decide +kernel
theorem dX12_addProduct_86 : decode cX12_addProduct 86 = .ok (.invokevirtual 81, 3) := by decide +kernel
theorem dX12_addProduct_89 : decode cX12_addProduct 89 = .ok (.imul, 1) := by decide +kernel
theorem dX12_addProduct_90 : decode cX12_addProduct 90 = .ok (.aload_n 0, 1) := by decide +kernel
theorem dX12_addProduct_91 : decode cX12_addProduct 91 = .ok (.iload_n 2, 1) := by decide +kernel
theorem dX12_addProduct_92 : decode cX12_addProduct 92 = .ok (.invokevirtual 81, 3) := by decide +kernel
theorem dX12_addProduct_95 : decode cX12_addProduct 95 = .ok (.imul, 1) := by decide +kernel
theorem dX12_addProduct_96 : decode cX12_addProduct 96 = .ok (.invokevirtual 84, 3) := by decide +kernel
theorem dX12_addProduct_99 : decode cX12_addProduct 99 = .ok (.putfield 549, 3) := by decide +kernel
theorem dX12_addProduct_102 : decode cX12_addProduct 102 = .ok (.aload_n 0, 1) := by decide +kernel
theorem dX12_addProduct_103 : decode cX12_addProduct 103 = .ok (.bipush 8, 2) := by decide +kernel
theorem dX12_addProduct_105 : decode cX12_addProduct 105 = .ok (.bipush 6, 2) := by decide +kernel
theorem dX12_addProduct_107 : decode cX12_addProduct 107 = .ok (.invokevirtual 43, 3) := by decide +kernel
theorem dX12_addProduct_110 : decode cX12_addProduct 110 = .ok (.aload_n 0, 1) := by decide +kernel
theorem dX12_addProduct_111 : decode cX12_addProduct 111 = .ok (.bipush 8, 2) := by decide +kernel
theorem dX12_addProduct_113 : decode cX12_addProduct 113 = .ok (.bipush 9, 2) := by decide +kernel
theorem dX12_addProduct_115 : decode cX12_addProduct 115 = .ok (.invokevirtual 66, 3) := by decide +kernel
theorem dX12_addProduct_118 : decode cX12_addProduct 118 = .ok (.return_, 1) := by decide +kernel
theorem dX12_storeWide_0 : decode cX12_storeWide 0 = .ok (.aload_n 0, 1) := by decide +kernel
theorem dX12_storeWide_1 : decode cX12_storeWide 1 = .ok (.iconst 0, 1) := by decide +kernel
theorem dX12_storeWide_2 : decode cX12_storeWide 2 = .ok (.bipush 8, 2) := by decide +kernel
theorem dX12_storeWide_4 : decode cX12_storeWide 4 = .ok (.invokevirtual 43, 3) := by decide +kernel
theorem dX12_storeWide_7 : decode cX12_storeWide 7 = .ok (.aload_n 0, 1) := by decide +kernel
theorem dX12_storeWide_8 : decode cX12_storeWide 8 = .ok (.iconst 1, 1) := by decide +kernel
theorem dX12_storeWide_9 : decode cX12_storeWide 9 = .ok (.bipush 9, 2) := by decide +kernel
theorem dX12_storeWide_11 : decode cX12_storeWide 11 = .ok (.invokevirtual 43, 3) := by decide +kernel
theorem dX12_storeWide_14 : decode cX12_storeWide 14 = .ok (.aload_n 0, 1) := by decide +kernel
theorem dX12_storeWide_15 : decode cX12_storeWide 15 = .ok (.iload_n 1, 1) := by decide +kernel
theorem dX12_storeWide_16 : decode cX12_storeWide 16 = .ok (.aload_n 0, 1) := by decide +kernel
theorem dX12_storeWide_17 : decode cX12_storeWide 17 = .ok (.getfield 549, 3) := by decide +kernel
theorem dX12_storeWide_20 : decode cX12_storeWide 20 = .ok (.invokevirtual 88, 3) := by decide +kernel
theorem dX12_storeWide_23 : decode cX12_storeWide 23 = .ok (.ireturn, 1) := by decide +kernel
theorem dX12_multiplyPolynomials_0 : decode cX12_multiplyPolynomials 0 = .ok (.aload_n 0, 1) := by decide +kernel
theorem dX12_multiplyPolynomials_1 : decode cX12_multiplyPolynomials 1 = .ok (.iload_n 2, 1) := by decide +kernel
theorem dX12_multiplyPolynomials_2 : decode cX12_multiplyPolynomials 2 = .ok (.invokevirtual 552, 3) := by decide +kernel
theorem dX12_multiplyPolynomials_5 : decode cX12_multiplyPolynomials 5 = .ok (.aload_n 0, 1) := by decide +kernel
theorem dX12_multiplyPolynomials_6 : decode cX12_multiplyPolynomials 6 = .ok (.iload_n 3, 1) := by decide +kernel
theorem dX12_multiplyPolynomials_7 : decode cX12_multiplyPolynomials 7 = .ok (.invokevirtual 552, 3) := by decide +kernel
theorem dX12_multiplyPolynomials_10 : decode cX12_multiplyPolynomials 10 = .ok (.iadd, 1) := by decide +kernel
theorem dX12_multiplyPolynomials_11 : decode cX12_multiplyPolynomials 11 = .ok (.bipush 8, 2) := by decide +kernel
theorem dX12_multiplyPolynomials_13 : decode cX12_multiplyPolynomials 13 = .ok (.if_icmp .gt 7, 3) := by decide +kernel
theorem dX12_multiplyPolynomials_16 : decode cX12_multiplyPolynomials 16 = .ok (.iconst 1, 1) := by decide +kernel
theorem dX12_multiplyPolynomials_17 : decode cX12_multiplyPolynomials 17 = .ok (.goto 4, 3) := by decide +kernel
theorem dX12_multiplyPolynomials_20 : decode cX12_multiplyPolynomials 20 = .ok (.iconst 0, 1) := by decide +kernel
theorem dX12_multiplyPolynomials_21 : decode cX12_multiplyPolynomials 21 = .ok (.istore 4, 2) := by decide +kernel
theorem dX12_multiplyPolynomials_23 : decode cX12_multiplyPolynomials 23 = .ok (.iconst 0, 1) := by decide +kernel
theorem dX12_multiplyPolynomials_24 : decode cX12_multiplyPolynomials 24 = .ok (.istore 5, 2) := by decide +kernel
theorem dX12_multiplyPolynomials_26 : decode cX12_multiplyPolynomials 26 = .ok (.iload 5, 2) := by decide +kernel
theorem dX12_multiplyPolynomials_28 : decode cX12_multiplyPolynomials 28 = .ok (.bipush 9, 2) := by decide +kernel
theorem dX12_multiplyPolynomials_30 : decode cX12_multiplyPolynomials 30 = .ok (.if_icmp .ge 95, 3) := by decide +kernel
theorem dX12_multiplyPolynomials_33 : decode cX12_multiplyPolynomials 33 = .ok (.iload 4, 2) := by decide +kernel
theorem dX12_multiplyPolynomials_35 : decode cX12_multiplyPolynomials 35 = .ok (.ifCond .eq 90, 3) := by decide +kernel
theorem dX12_multiplyPolynomials_38 : decode cX12_multiplyPolynomials 38 = .ok (.aload_n 0, 1) := by decide +kernel
theorem dX12_multiplyPolynomials_39 : decode cX12_multiplyPolynomials 39 = .ok (.invokevirtual 555, 3) := by decide +kernel
theorem dX12_multiplyPolynomials_42 : decode cX12_multiplyPolynomials 42 = .ok (.iconst 0, 1) := by decide +kernel
theorem dX12_multiplyPolynomials_43 : decode cX12_multiplyPolynomials 43 = .ok (.istore 6, 2) := by decide +kernel
theorem dX12_multiplyPolynomials_45 : decode cX12_multiplyPolynomials 45 = .ok (.iload 6, 2) := by decide +kernel
theorem dX12_multiplyPolynomials_47 : decode cX12_multiplyPolynomials 47 = .ok (.iload 5, 2) := by decide +kernel
theorem dX12_multiplyPolynomials_49 : decode cX12_multiplyPolynomials 49 = .ok (.if_icmp .gt 58, 3) := by decide +kernel
theorem dX12_multiplyPolynomials_52 : decode cX12_multiplyPolynomials 52 = .ok (.aload_n 0, 1) := by decide +kernel
theorem dX12_multiplyPolynomials_53 : decode cX12_multiplyPolynomials 53 = .ok (.iload_n 2, 1) := by decide +kernel
theorem dX12_multiplyPolynomials_54 : decode cX12_multiplyPolynomials 54 = .ok (.iload 6, 2) := by decide +kernel
theorem dX12_multiplyPolynomials_56 : decode cX12_multiplyPolynomials 56 = .ok (.invokestatic 546, 3) := by decide +kernel
theorem dX12_multiplyPolynomials_59 : decode cX12_multiplyPolynomials 59 = .ok (.invokevirtual 81, 3) := by decide +kernel
theorem dX12_multiplyPolynomials_62 : decode cX12_multiplyPolynomials 62 = .ok (.ifCond .eq 39, 3) := by decide +kernel
theorem dX12_multiplyPolynomials_65 : decode cX12_multiplyPolynomials 65 = .ok (.aload_n 0, 1) := by decide +kernel
theorem dX12_multiplyPolynomials_66 : decode cX12_multiplyPolynomials 66 = .ok (.iload_n 3, 1) := by decide +kernel
theorem dX12_multiplyPolynomials_67 : decode cX12_multiplyPolynomials 67 = .ok (.iload 5, 2) := by decide +kernel
theorem dX12_multiplyPolynomials_69 : decode cX12_multiplyPolynomials 69 = .ok (.iload 6, 2) := by decide +kernel
theorem dX12_multiplyPolynomials_71 : decode cX12_multiplyPolynomials 71 = .ok (.isub, 1) := by decide +kernel
theorem dX12_multiplyPolynomials_72 : decode cX12_multiplyPolynomials 72 = .ok (.invokestatic 546, 3) := by decide +kernel
theorem dX12_multiplyPolynomials_75 : decode cX12_multiplyPolynomials 75 = .ok (.invokevirtual 81, 3) := by decide +kernel
theorem dX12_multiplyPolynomials_78 : decode cX12_multiplyPolynomials 78 = .ok (.ifCond .eq 23, 3) := by decide +kernel
theorem dX12_multiplyPolynomials_81 : decode cX12_multiplyPolynomials 81 = .ok (.aload_n 0, 1) := by decide +kernel
theorem dX12_multiplyPolynomials_82 : decode cX12_multiplyPolynomials 82 = .ok (.iload_n 2, 1) := by decide +kernel
theorem dX12_multiplyPolynomials_83 : decode cX12_multiplyPolynomials 83 = .ok (.iload 6, 2) := by decide +kernel
theorem dX12_multiplyPolynomials_85 : decode cX12_multiplyPolynomials 85 = .ok (.invokestatic 546, 3) := by decide +kernel
theorem dX12_multiplyPolynomials_88 : decode cX12_multiplyPolynomials 88 = .ok (.iload_n 3, 1) := by decide +kernel
theorem dX12_multiplyPolynomials_89 : decode cX12_multiplyPolynomials 89 = .ok (.iload 5, 2) := by decide +kernel
theorem dX12_multiplyPolynomials_91 : decode cX12_multiplyPolynomials 91 = .ok (.iload 6, 2) := by decide +kernel
theorem dX12_multiplyPolynomials_93 : decode cX12_multiplyPolynomials 93 = .ok (.isub, 1) := by decide +kernel
theorem dX12_multiplyPolynomials_94 : decode cX12_multiplyPolynomials 94 = .ok (.invokestatic 546, 3) := by decide +kernel
theorem dX12_multiplyPolynomials_97 : decode cX12_multiplyPolynomials 97 = .ok (.iconst 1, 1) := by decide +kernel
theorem dX12_multiplyPolynomials_98 : decode cX12_multiplyPolynomials 98 = .ok (.invokevirtual 558, 3) := by decide +kernel
theorem dX12_multiplyPolynomials_101 : decode cX12_multiplyPolynomials 101 = .ok (.iinc 6 1, 3) := by decide +kernel
theorem dX12_multiplyPolynomials_104 : decode cX12_multiplyPolynomials 104 = .ok (.goto (-59), 3) := by decide +kernel
theorem dX12_multiplyPolynomials_107 : decode cX12_multiplyPolynomials 107 = .ok (.aload_n 0, 1) := by decide +kernel
theorem dX12_multiplyPolynomials_108 : decode cX12_multiplyPolynomials 108 = .ok (.iload_n 1, 1) := by decide +kernel
theorem dX12_multiplyPolynomials_109 : decode cX12_multiplyPolynomials 109 = .ok (.iload 5, 2) := by decide +kernel
theorem dX12_multiplyPolynomials_111 : decode cX12_multiplyPolynomials 111 = .ok (.invokestatic 546, 3) := by decide +kernel
theorem dX12_multiplyPolynomials_114 : decode cX12_multiplyPolynomials 114 = .ok (.invokevirtual 561, 3) := by decide +kernel
theorem dX12_multiplyPolynomials_117 : decode cX12_multiplyPolynomials 117 = .ok (.istore 4, 2) := by decide +kernel
theorem dX12_multiplyPolynomials_119 : decode cX12_multiplyPolynomials 119 = .ok (.iinc 5 1, 3) := by decide +kernel
theorem dX12_multiplyPolynomials_122 : decode cX12_multiplyPolynomials 122 = .ok (.goto (-96), 3) := by decide +kernel
theorem dX12_multiplyPolynomials_125 : decode cX12_multiplyPolynomials 125 = .ok (.iload 4, 2) := by decide +kernel
theorem dX12_multiplyPolynomials_127 : decode cX12_multiplyPolynomials 127 = .ok (.ireturn, 1) := by decide +kernel
theorem dX12_copyPolynomial_0 : decode cX12_copyPolynomial 0 = .ok (.iconst 0, 1) := by decide +kernel
theorem dX12_copyPolynomial_1 : decode cX12_copyPolynomial 1 = .ok (.istore_n 3, 1) := by decide +kernel
theorem dX12_copyPolynomial_2 : decode cX12_copyPolynomial 2 = .ok (.iload_n 3, 1) := by decide +kernel
theorem dX12_copyPolynomial_3 : decode cX12_copyPolynomial 3 = .ok (.bipush 9, 2) := by decide +kernel
theorem dX12_copyPolynomial_5 : decode cX12_copyPolynomial 5 = .ok (.if_icmp .ge 23, 3) := by decide +kernel
theorem dX12_copyPolynomial_8 : decode cX12_copyPolynomial 8 = .ok (.aload_n 0, 1) := by decide +kernel
theorem dX12_copyPolynomial_9 : decode cX12_copyPolynomial 9 = .ok (.iload_n 1, 1) := by decide +kernel
theorem dX12_copyPolynomial_10 : decode cX12_copyPolynomial 10 = .ok (.iload_n 3, 1) := by decide +kernel
theorem dX12_copyPolynomial_11 : decode cX12_copyPolynomial 11 = .ok (.invokestatic 546, 3) := by decide +kernel
theorem dX12_copyPolynomial_14 : decode cX12_copyPolynomial 14 = .ok (.iload_n 2, 1) := by decide +kernel
theorem dX12_copyPolynomial_15 : decode cX12_copyPolynomial 15 = .ok (.iload_n 3, 1) := by decide +kernel
theorem dX12_copyPolynomial_16 : decode cX12_copyPolynomial 16 = .ok (.invokestatic 546, 3) := by decide +kernel
theorem dX12_copyPolynomial_19 : decode cX12_copyPolynomial 19 = .ok (.invokevirtual 115, 3) := by decide +kernel
theorem dX12_copyPolynomial_22 : decode cX12_copyPolynomial 22 = .ok (.iinc 3 1, 3) := by decide +kernel
theorem dX12_copyPolynomial_25 : decode cX12_copyPolynomial 25 = .ok (.goto (-23), 3) := by decide +kernel
theorem dX12_copyPolynomial_28 : decode cX12_copyPolynomial 28 = .ok (.return_, 1) := by decide +kernel
theorem dX12_keepWhole_0 : decode cX12_keepWhole 0 = .ok (.iconst 0, 1) := by decide +kernel
theorem dX12_keepWhole_1 : decode cX12_keepWhole 1 = .ok (.istore 4, 2) := by decide +kernel
theorem dX12_keepWhole_3 : decode cX12_keepWhole 3 = .ok (.iload 4, 2) := by decide +kernel
theorem dX12_keepWhole_5 : decode cX12_keepWhole 5 = .ok (.aload_n 0, 1) := by decide +kernel
theorem dX12_keepWhole_6 : decode cX12_keepWhole 6 = .ok (.getfield 7, 3) := by decide +kernel
theorem dX12_keepWhole_9 : decode cX12_keepWhole 9 = .ok (.iload_n 2, 1) := by decide +kernel
theorem dX12_keepWhole_10 : decode cX12_keepWhole 10 = .ok (.iaload, 1) := by decide +kernel
theorem dX12_keepWhole_11 : decode cX12_keepWhole 11 = .ok (.if_icmp .ge 35, 3) := by decide +kernel
theorem dX12_keepWhole_14 : decode cX12_keepWhole 14 = .ok (.aload_n 0, 1) := by decide +kernel
theorem dX12_keepWhole_15 : decode cX12_keepWhole 15 = .ok (.getfield 290, 3) := by decide +kernel
theorem dX12_keepWhole_18 : decode cX12_keepWhole 18 = .ok (.sipush 216, 3) := by decide +kernel
theorem dX12_keepWhole_21 : decode cX12_keepWhole 21 = .ok (.iload_n 1, 1) := by decide +kernel
theorem dX12_keepWhole_22 : decode cX12_keepWhole 22 = .ok (.imul, 1) := by decide +kernel
theorem dX12_keepWhole_23 : decode cX12_keepWhole 23 = .ok (.iload 4, 2) := by decide +kernel
theorem dX12_keepWhole_25 : decode cX12_keepWhole 25 = .ok (.iadd, 1) := by decide +kernel
theorem dX12_keepWhole_26 : decode cX12_keepWhole 26 = .ok (.aload_n 0, 1) := by decide +kernel
theorem dX12_keepWhole_27 : decode cX12_keepWhole 27 = .ok (.getfield 11, 3) := by decide +kernel
theorem dX12_keepWhole_30 : decode cX12_keepWhole 30 = .ok (.sipush 440, 3) := by decide +kernel
theorem dX12_keepWhole_33 : decode cX12_keepWhole 33 = .ok (.iload_n 2, 1) := by decide +kernel
theorem dX12_keepWhole_34 : decode cX12_keepWhole 34 = .ok (.imul, 1) := by decide +kernel
theorem dX12_keepWhole_35 : decode cX12_keepWhole 35 = .ok (.iload 4, 2) := by decide +kernel
theorem dX12_keepWhole_37 : decode cX12_keepWhole 37 = .ok (.iadd, 1) := by decide +kernel
theorem dX12_keepWhole_38 : decode cX12_keepWhole 38 = .ok (.iaload, 1) := by decide +kernel
theorem dX12_keepWhole_39 : decode cX12_keepWhole 39 = .ok (.iastore, 1) := by decide +kernel
theorem dX12_keepWhole_40 : decode cX12_keepWhole 40 = .ok (.iinc 4 1, 3) := by decide +kernel
theorem dX12_keepWhole_43 : decode cX12_keepWhole 43 = .ok (.goto (-40), 3) := by decide +kernel
theorem dX12_keepWhole_46 : decode cX12_keepWhole 46 = .ok (.aload_n 0, 1) := by decide +kernel
theorem dX12_keepWhole_47 : decode cX12_keepWhole 47 = .ok (.getfield 293, 3) := by decide +kernel
theorem dX12_keepWhole_50 : decode cX12_keepWhole 50 = .ok (.iload_n 1, 1) := by decide +kernel
theorem dX12_keepWhole_51 : decode cX12_keepWhole 51 = .ok (.aload_n 0, 1) := by decide +kernel
theorem dX12_keepWhole_52 : decode cX12_keepWhole 52 = .ok (.getfield 7, 3) := by decide +kernel
theorem dX12_keepWhole_55 : decode cX12_keepWhole 55 = .ok (.iload_n 2, 1) := by decide +kernel
theorem dX12_keepWhole_56 : decode cX12_keepWhole 56 = .ok (.iaload, 1) := by decide +kernel
theorem dX12_keepWhole_57 : decode cX12_keepWhole 57 = .ok (.iastore, 1) := by decide +kernel
theorem dX12_keepWhole_58 : decode cX12_keepWhole 58 = .ok (.aload_n 0, 1) := by decide +kernel
theorem dX12_keepWhole_59 : decode cX12_keepWhole 59 = .ok (.getfield 296, 3) := by decide +kernel
theorem dX12_keepWhole_62 : decode cX12_keepWhole 62 = .ok (.iload_n 1, 1) := by decide +kernel
theorem dX12_keepWhole_63 : decode cX12_keepWhole 63 = .ok (.aload_n 0, 1) := by decide +kernel
theorem dX12_keepWhole_64 : decode cX12_keepWhole 64 = .ok (.getfield 7, 3) := by decide +kernel
theorem dX12_keepWhole_67 : decode cX12_keepWhole 67 = .ok (.iload_n 2, 1) := by decide +kernel
theorem dX12_keepWhole_68 : decode cX12_keepWhole 68 = .ok (.iaload, 1) := by decide +kernel
theorem dX12_keepWhole_69 : decode cX12_keepWhole 69 = .ok (.ifCond .ne 7, 3) := by decide +kernel
theorem dX12_keepWhole_72 : decode cX12_keepWhole 72 = .ok (.iconst 0, 1) := by decide +kernel
theorem dX12_keepWhole_73 : decode cX12_keepWhole 73 = .ok (.goto 4, 3) := by decide +kernel
theorem dX12_keepWhole_76 : decode cX12_keepWhole 76 = .ok (.iload_n 3, 1) := by decide +kernel
theorem dX12_keepWhole_77 : decode cX12_keepWhole 77 = .ok (.iastore, 1) := by decide +kernel
theorem dX12_keepWhole_78 : decode cX12_keepWhole 78 = .ok (.return_, 1) := by decide +kernel
theorem dX12_loadWhole_0 : decode cX12_loadWhole 0 = .ok (.iconst 0, 1) := by decide +kernel
theorem dX12_loadWhole_1 : decode cX12_loadWhole 1 = .ok (.istore_n 3, 1) := by decide +kernel
theorem dX12_loadWhole_2 : decode cX12_loadWhole 2 = .ok (.iload_n 3, 1) := by decide +kernel
theorem dX12_loadWhole_3 : decode cX12_loadWhole 3 = .ok (.aload_n 0, 1) := by decide +kernel
theorem dX12_loadWhole_4 : decode cX12_loadWhole 4 = .ok (.getfield 293, 3) := by decide +kernel
theorem dX12_loadWhole_7 : decode cX12_loadWhole 7 = .ok (.iload_n 2, 1) := by decide +kernel
theorem dX12_loadWhole_8 : decode cX12_loadWhole 8 = .ok (.iaload, 1) := by decide +kernel
theorem dX12_loadWhole_9 : decode cX12_loadWhole 9 = .ok (.if_icmp .ge 33, 3) := by decide +kernel
theorem dX12_loadWhole_12 : decode cX12_loadWhole 12 = .ok (.aload_n 0, 1) := by decide +kernel
theorem dX12_loadWhole_13 : decode cX12_loadWhole 13 = .ok (.getfield 11, 3) := by decide +kernel
theorem dX12_loadWhole_16 : decode cX12_loadWhole 16 = .ok (.sipush 440, 3) := by decide +kernel
theorem dX12_loadWhole_19 : decode cX12_loadWhole 19 = .ok (.iload_n 1, 1) := by decide +kernel
theorem dX12_loadWhole_20 : decode cX12_loadWhole 20 = .ok (.imul, 1) := by decide +kernel
theorem dX12_loadWhole_21 : decode cX12_loadWhole 21 = .ok (.iload_n 3, 1) := by decide +kernel
theorem dX12_loadWhole_22 : decode cX12_loadWhole 22 = .ok (.iadd, 1) := by decide +kernel
theorem dX12_loadWhole_23 : decode cX12_loadWhole 23 = .ok (.aload_n 0, 1) := by decide +kernel
theorem dX12_loadWhole_24 : decode cX12_loadWhole 24 = .ok (.getfield 290, 3) := by decide +kernel
theorem dX12_loadWhole_27 : decode cX12_loadWhole 27 = .ok (.sipush 216, 3) := by decide +kernel
theorem dX12_loadWhole_30 : decode cX12_loadWhole 30 = .ok (.iload_n 2, 1) := by decide +kernel
theorem dX12_loadWhole_31 : decode cX12_loadWhole 31 = .ok (.imul, 1) := by decide +kernel
theorem dX12_loadWhole_32 : decode cX12_loadWhole 32 = .ok (.iload_n 3, 1) := by decide +kernel
theorem dX12_loadWhole_33 : decode cX12_loadWhole 33 = .ok (.iadd, 1) := by decide +kernel
theorem dX12_loadWhole_34 : decode cX12_loadWhole 34 = .ok (.iaload, 1) := by decide +kernel
theorem dX12_loadWhole_35 : decode cX12_loadWhole 35 = .ok (.iastore, 1) := by decide +kernel
theorem dX12_loadWhole_36 : decode cX12_loadWhole 36 = .ok (.iinc 3 1, 3) := by decide +kernel
theorem dX12_loadWhole_39 : decode cX12_loadWhole 39 = .ok (.goto (-37), 3) := by decide +kernel
theorem dX12_loadWhole_42 : decode cX12_loadWhole 42 = .ok (.aload_n 0, 1) := by decide +kernel
theorem dX12_loadWhole_43 : decode cX12_loadWhole 43 = .ok (.getfield 7, 3) := by decide +kernel
theorem dX12_loadWhole_46 : decode cX12_loadWhole 46 = .ok (.iload_n 1, 1) := by decide +kernel
theorem dX12_loadWhole_47 : decode cX12_loadWhole 47 = .ok (.aload_n 0, 1) := by decide +kernel
theorem dX12_loadWhole_48 : decode cX12_loadWhole 48 = .ok (.getfield 293, 3) := by decide +kernel
theorem dX12_loadWhole_51 : decode cX12_loadWhole 51 = .ok (.iload_n 2, 1) := by decide +kernel
theorem dX12_loadWhole_52 : decode cX12_loadWhole 52 = .ok (.iaload, 1) := by decide +kernel
theorem dX12_loadWhole_53 : decode cX12_loadWhole 53 = .ok (.iastore, 1) := by decide +kernel
theorem dX12_loadWhole_54 : decode cX12_loadWhole 54 = .ok (.return_, 1) := by decide +kernel
theorem dX12_makeWhole_0 : decode cX12_makeWhole 0 = .ok (.aload_n 0, 1) := by decide +kernel
theorem dX12_makeWhole_1 : decode cX12_makeWhole 1 = .ok (.bipush 8, 2) := by decide +kernel
theorem dX12_makeWhole_3 : decode cX12_makeWhole 3 = .ok (.iconst 1, 1) := by decide +kernel
theorem dX12_makeWhole_4 : decode cX12_makeWhole 4 = .ok (.invokevirtual 53, 3) := by decide +kernel
theorem dX12_makeWhole_7 : decode cX12_makeWhole 7 = .ok (.iconst 0, 1) := by decide +kernel
theorem dX12_makeWhole_8 : decode cX12_makeWhole 8 = .ok (.istore_n 2, 1) := by decide +kernel
theorem dX12_makeWhole_9 : decode cX12_makeWhole 9 = .ok (.iload_n 2, 1) := by decide +kernel
theorem dX12_makeWhole_10 : decode cX12_makeWhole 10 = .ok (.bipush 9, 2) := by decide +kernel
theorem dX12_makeWhole_12 : decode cX12_makeWhole 12 = .ok (.if_icmp .ge 79, 3) := by decide +kernel
theorem dX12_makeWhole_15 : decode cX12_makeWhole 15 = .ok (.aload_n 0, 1) := by decide +kernel
theorem dX12_makeWhole_16 : decode cX12_makeWhole 16 = .ok (.iconst 2, 1) := by decide +kernel
theorem dX12_makeWhole_17 : decode cX12_makeWhole 17 = .ok (.iload_n 1, 1) := by decide +kernel
theorem dX12_makeWhole_18 : decode cX12_makeWhole 18 = .ok (.iload_n 2, 1) := by decide +kernel
theorem dX12_makeWhole_19 : decode cX12_makeWhole 19 = .ok (.invokestatic 546, 3) := by decide +kernel
theorem dX12_makeWhole_22 : decode cX12_makeWhole 22 = .ok (.invokevirtual 75, 3) := by decide +kernel
theorem dX12_makeWhole_25 : decode cX12_makeWhole 25 = .ok (.aload_n 0, 1) := by decide +kernel
theorem dX12_makeWhole_26 : decode cX12_makeWhole 26 = .ok (.bipush 12, 2) := by decide +kernel
theorem dX12_makeWhole_28 : decode cX12_makeWhole 28 = .ok (.bipush 8, 2) := by decide +kernel
theorem dX12_makeWhole_30 : decode cX12_makeWhole 30 = .ok (.invokevirtual 43, 3) := by decide +kernel
theorem dX12_makeWhole_33 : decode cX12_makeWhole 33 = .ok (.aload_n 0, 1) := by decide +kernel
theorem dX12_makeWhole_34 : decode cX12_makeWhole 34 = .ok (.bipush 13, 2) := by decide +kernel
theorem dX12_makeWhole_36 : decode cX12_makeWhole 36 = .ok (.iconst 2, 1) := by decide +kernel
theorem dX12_makeWhole_37 : decode cX12_makeWhole 37 = .ok (.invokevirtual 43, 3) := by decide +kernel
theorem dX12_makeWhole_40 : decode cX12_makeWhole 40 = .ok (.aload_n 0, 1) := by decide +kernel
theorem dX12_makeWhole_41 : decode cX12_makeWhole 41 = .ok (.bipush 12, 2) := by decide +kernel
theorem dX12_makeWhole_43 : decode cX12_makeWhole 43 = .ok (.bipush 13, 2) := by decide +kernel
theorem dX12_makeWhole_45 : decode cX12_makeWhole 45 = .ok (.invokevirtual 59, 3) := by decide +kernel
theorem dX12_makeWhole_48 : decode cX12_makeWhole 48 = .ok (.aload_n 0, 1) := by decide +kernel
theorem dX12_makeWhole_49 : decode cX12_makeWhole 49 = .ok (.bipush 13, 2) := by decide +kernel
theorem dX12_makeWhole_51 : decode cX12_makeWhole 51 = .ok (.bipush 12, 2) := by decide +kernel
theorem dX12_makeWhole_53 : decode cX12_makeWhole 53 = .ok (.invokevirtual 43, 3) := by decide +kernel
theorem dX12_makeWhole_56 : decode cX12_makeWhole 56 = .ok (.aload_n 0, 1) := by decide +kernel
theorem dX12_makeWhole_57 : decode cX12_makeWhole 57 = .ok (.bipush 14, 2) := by decide +kernel
theorem dX12_makeWhole_59 : decode cX12_makeWhole 59 = .ok (.bipush 15, 2) := by decide +kernel
theorem dX12_makeWhole_61 : decode cX12_makeWhole 61 = .ok (.bipush 8, 2) := by decide +kernel
theorem dX12_makeWhole_63 : decode cX12_makeWhole 63 = .ok (.bipush 13, 2) := by decide +kernel
theorem dX12_makeWhole_65 : decode cX12_makeWhole 65 = .ok (.invokevirtual 62, 3) := by decide +kernel
theorem dX12_makeWhole_68 : decode cX12_makeWhole 68 = .ok (.aload_n 0, 1) := by decide +kernel
theorem dX12_makeWhole_69 : decode cX12_makeWhole 69 = .ok (.bipush 10, 2) := by decide +kernel
theorem dX12_makeWhole_71 : decode cX12_makeWhole 71 = .ok (.bipush 14, 2) := by decide +kernel
theorem dX12_makeWhole_73 : decode cX12_makeWhole 73 = .ok (.iconst 2, 1) := by decide +kernel
theorem dX12_makeWhole_74 : decode cX12_makeWhole 74 = .ok (.invokevirtual 78, 3) := by decide +kernel
theorem dX12_makeWhole_77 : decode cX12_makeWhole 77 = .ok (.aload_n 0, 1) := by decide +kernel
theorem dX12_makeWhole_78 : decode cX12_makeWhole 78 = .ok (.bipush 8, 2) := by decide +kernel
theorem dX12_makeWhole_80 : decode cX12_makeWhole 80 = .ok (.bipush 10, 2) := by decide +kernel
theorem dX12_makeWhole_82 : decode cX12_makeWhole 82 = .ok (.invokevirtual 43, 3) := by decide +kernel
theorem dX12_makeWhole_85 : decode cX12_makeWhole 85 = .ok (.iinc 2 1, 3) := by decide +kernel
theorem dX12_makeWhole_88 : decode cX12_makeWhole 88 = .ok (.goto (-79), 3) := by decide +kernel
theorem dX12_makeWhole_91 : decode cX12_makeWhole 91 = .ok (.iconst 0, 1) := by decide +kernel
theorem dX12_makeWhole_92 : decode cX12_makeWhole 92 = .ok (.istore_n 2, 1) := by decide +kernel
theorem dX12_makeWhole_93 : decode cX12_makeWhole 93 = .ok (.iload_n 2, 1) := by decide +kernel
theorem dX12_makeWhole_94 : decode cX12_makeWhole 94 = .ok (.bipush 9, 2) := by decide +kernel
theorem dX12_makeWhole_96 : decode cX12_makeWhole 96 = .ok (.if_icmp .ge 67, 3) := by decide +kernel
theorem dX12_makeWhole_99 : decode cX12_makeWhole 99 = .ok (.aload_n 0, 1) := by decide +kernel
theorem dX12_makeWhole_100 : decode cX12_makeWhole 100 = .ok (.iconst 2, 1) := by decide +kernel
theorem dX12_makeWhole_101 : decode cX12_makeWhole 101 = .ok (.iload_n 1, 1) := by decide +kernel
theorem dX12_makeWhole_102 : decode cX12_makeWhole 102 = .ok (.iload_n 2, 1) := by decide +kernel
theorem dX12_makeWhole_103 : decode cX12_makeWhole 103 = .ok (.invokestatic 546, 3) := by decide +kernel
theorem dX12_makeWhole_106 : decode cX12_makeWhole 106 = .ok (.invokevirtual 72, 3) := by decide +kernel
theorem dX12_makeWhole_109 : decode cX12_makeWhole 109 = .ok (.aload_n 0, 1) := by decide +kernel
theorem dX12_makeWhole_110 : decode cX12_makeWhole 110 = .ok (.iconst 3, 1) := by decide +kernel
theorem dX12_makeWhole_111 : decode cX12_makeWhole 111 = .ok (.iload_n 1, 1) := by decide +kernel
theorem dX12_makeWhole_112 : decode cX12_makeWhole 112 = .ok (.iload_n 2, 1) := by decide +kernel
theorem dX12_makeWhole_113 : decode cX12_makeWhole 113 = .ok (.invokestatic 546, 3) := by decide +kernel
theorem dX12_makeWhole_116 : decode cX12_makeWhole 116 = .ok (.invokevirtual 75, 3) := by decide +kernel
theorem dX12_makeWhole_119 : decode cX12_makeWhole 119 = .ok (.aload_n 0, 1) := by decide +kernel
theorem dX12_makeWhole_120 : decode cX12_makeWhole 120 = .ok (.bipush 14, 2) := by decide +kernel
theorem dX12_makeWhole_122 : decode cX12_makeWhole 122 = .ok (.bipush 15, 2) := by decide +kernel
theorem dX12_makeWhole_124 : decode cX12_makeWhole 124 = .ok (.bipush 8, 2) := by decide +kernel
theorem dX12_makeWhole_126 : decode cX12_makeWhole 126 = .ok (.iconst 3, 1) := by decide +kernel
theorem dX12_makeWhole_127 : decode cX12_makeWhole 127 = .ok (.invokevirtual 62, 3) := by decide +kernel
theorem dX12_makeWhole_130 : decode cX12_makeWhole 130 = .ok (.aload_n 0, 1) := by decide +kernel
theorem dX12_makeWhole_131 : decode cX12_makeWhole 131 = .ok (.bipush 10, 2) := by decide +kernel
theorem dX12_makeWhole_133 : decode cX12_makeWhole 133 = .ok (.iconst 2, 1) := by decide +kernel
theorem dX12_makeWhole_134 : decode cX12_makeWhole 134 = .ok (.bipush 14, 2) := by decide +kernel
theorem dX12_makeWhole_136 : decode cX12_makeWhole 136 = .ok (.invokevirtual 78, 3) := by decide +kernel
theorem dX12_makeWhole_139 : decode cX12_makeWhole 139 = .ok (.aload_n 0, 1) := by decide +kernel
theorem dX12_makeWhole_140 : decode cX12_makeWhole 140 = .ok (.iconst 0, 1) := by decide +kernel
theorem dX12_makeWhole_141 : decode cX12_makeWhole 141 = .ok (.iload_n 2, 1) := by decide +kernel
theorem dX12_makeWhole_142 : decode cX12_makeWhole 142 = .ok (.iadd, 1) := by decide +kernel
theorem dX12_makeWhole_143 : decode cX12_makeWhole 143 = .ok (.bipush 10, 2) := by decide +kernel
theorem dX12_makeWhole_145 : decode cX12_makeWhole 145 = .ok (.aload_n 0, 1) := by decide +kernel
theorem dX12_makeWhole_146 : decode cX12_makeWhole 146 = .ok (.iload_n 1, 1) := by decide +kernel
theorem dX12_makeWhole_147 : decode cX12_makeWhole 147 = .ok (.iload_n 2, 1) := by decide +kernel
theorem dX12_makeWhole_148 : decode cX12_makeWhole 148 = .ok (.invokestatic 546, 3) := by decide +kernel
theorem dX12_makeWhole_151 : decode cX12_makeWhole 151 = .ok (.invokevirtual 81, 3) := by decide +kernel
theorem dX12_makeWhole_154 : decode cX12_makeWhole 154 = .ok (.invokevirtual 564, 3) := by decide +kernel
theorem dX12_makeWhole_157 : decode cX12_makeWhole 157 = .ok (.iinc 2 1, 3) := by decide +kernel
theorem dX12_makeWhole_160 : decode cX12_makeWhole 160 = .ok (.goto (-67), 3) := by decide +kernel
theorem dX12_makeWhole_163 : decode cX12_makeWhole 163 = .ok (.return_, 1) := by decide +kernel
theorem dX12_raiseWhole_0 : decode cX12_raiseWhole 0 = .ok (.iconst 0, 1) := by decide +kernel
theorem dX12_raiseWhole_1 : decode cX12_raiseWhole 1 = .ok (.istore_n 1, 1) := by decide +kernel
theorem dX12_raiseWhole_2 : decode cX12_raiseWhole 2 = .ok (.iload_n 1, 1) := by decide +kernel
theorem dX12_raiseWhole_3 : decode cX12_raiseWhole 3 = .ok (.bipush 9, 2) := by decide +kernel
theorem dX12_raiseWhole_5 : decode cX12_raiseWhole 5 = .ok (.if_icmp .ge 108, 3) := by decide +kernel
theorem dX12_raiseWhole_8 : decode cX12_raiseWhole 8 = .ok (.aload_n 0, 1) := by decide +kernel
theorem dX12_raiseWhole_9 : decode cX12_raiseWhole 9 = .ok (.bipush 6, 2) := by decide +kernel
theorem dX12_raiseWhole_11 : decode cX12_raiseWhole 11 = .ok (.iconst 0, 1) := by decide +kernel
theorem dX12_raiseWhole_12 : decode cX12_raiseWhole 12 = .ok (.invokevirtual 53, 3) := by decide +kernel
theorem dX12_raiseWhole_15 : decode cX12_raiseWhole 15 = .ok (.iconst 0, 1) := by decide +kernel
theorem dX12_raiseWhole_16 : decode cX12_raiseWhole 16 = .ok (.istore_n 2, 1) := by decide +kernel
theorem dX12_raiseWhole_17 : decode cX12_raiseWhole 17 = .ok (.iconst 0, 1) := by decide +kernel
theorem dX12_raiseWhole_18 : decode cX12_raiseWhole 18 = .ok (.istore_n 3, 1) := by decide +kernel
theorem dX12_raiseWhole_19 : decode cX12_raiseWhole 19 = .ok (.iload_n 3, 1) := by decide +kernel
theorem dX12_raiseWhole_20 : decode cX12_raiseWhole 20 = .ok (.iload_n 1, 1) := by decide +kernel
theorem dX12_raiseWhole_21 : decode cX12_raiseWhole 21 = .ok (.if_icmp .gt 75, 3) := by decide +kernel
theorem dX12_raiseWhole_24 : decode cX12_raiseWhole 24 = .ok (.aload_n 0, 1) := by decide +kernel
theorem dX12_raiseWhole_25 : decode cX12_raiseWhole 25 = .ok (.getfield 296, 3) := by decide +kernel
theorem dX12_raiseWhole_28 : decode cX12_raiseWhole 28 = .ok (.bipush 9, 2) := by decide +kernel
theorem dX12_raiseWhole_30 : decode cX12_raiseWhole 30 = .ok (.iload_n 3, 1) := by decide +kernel
theorem dX12_raiseWhole_31 : decode cX12_raiseWhole 31 = .ok (.iadd, 1) := by decide +kernel
theorem dX12_raiseWhole_32 : decode cX12_raiseWhole 32 = .ok (.iaload, 1) := by decide +kernel
theorem dX12_raiseWhole_33 : decode cX12_raiseWhole 33 = .ok (.aload_n 0, 1) := by decide +kernel
theorem dX12_raiseWhole_34 : decode cX12_raiseWhole 34 = .ok (.getfield 296, 3) := by decide +kernel
theorem dX12_raiseWhole_37 : decode cX12_raiseWhole 37 = .ok (.iconst 0, 1) := by decide +kernel
theorem dX12_raiseWhole_38 : decode cX12_raiseWhole 38 = .ok (.iload_n 1, 1) := by decide +kernel
theorem dX12_raiseWhole_39 : decode cX12_raiseWhole 39 = .ok (.iadd, 1) := by decide +kernel
theorem dX12_raiseWhole_40 : decode cX12_raiseWhole 40 = .ok (.iload_n 3, 1) := by decide +kernel
theorem dX12_raiseWhole_41 : decode cX12_raiseWhole 41 = .ok (.isub, 1) := by decide +kernel
theorem dX12_raiseWhole_42 : decode cX12_raiseWhole 42 = .ok (.iaload, 1) := by decide +kernel
theorem dX12_raiseWhole_43 : decode cX12_raiseWhole 43 = .ok (.imul, 1) := by decide +kernel
theorem dX12_raiseWhole_44 : decode cX12_raiseWhole 44 = .ok (.istore 4, 2) := by decide +kernel
theorem dX12_raiseWhole_46 : decode cX12_raiseWhole 46 = .ok (.iload 4, 2) := by decide +kernel
theorem dX12_raiseWhole_48 : decode cX12_raiseWhole 48 = .ok (.ifCond .eq 42, 3) := by decide +kernel
theorem dX12_raiseWhole_51 : decode cX12_raiseWhole 51 = .ok (.aload_n 0, 1) := by decide +kernel
theorem dX12_raiseWhole_52 : decode cX12_raiseWhole 52 = .ok (.iconst 2, 1) := by decide +kernel
theorem dX12_raiseWhole_53 : decode cX12_raiseWhole 53 = .ok (.bipush 9, 2) := by decide +kernel
theorem dX12_raiseWhole_55 : decode cX12_raiseWhole 55 = .ok (.iload_n 3, 1) := by decide +kernel
theorem dX12_raiseWhole_56 : decode cX12_raiseWhole 56 = .ok (.iadd, 1) := by decide +kernel
theorem dX12_raiseWhole_57 : decode cX12_raiseWhole 57 = .ok (.invokevirtual 567, 3) := by decide +kernel
theorem dX12_raiseWhole_60 : decode cX12_raiseWhole 60 = .ok (.aload_n 0, 1) := by decide +kernel
theorem dX12_raiseWhole_61 : decode cX12_raiseWhole 61 = .ok (.iconst 3, 1) := by decide +kernel
theorem dX12_raiseWhole_62 : decode cX12_raiseWhole 62 = .ok (.iconst 0, 1) := by decide +kernel
theorem dX12_raiseWhole_63 : decode cX12_raiseWhole 63 = .ok (.iload_n 1, 1) := by decide +kernel
theorem dX12_raiseWhole_64 : decode cX12_raiseWhole 64 = .ok (.iadd, 1) := by decide +kernel
theorem dX12_raiseWhole_65 : decode cX12_raiseWhole 65 = .ok (.iload_n 3, 1) := by decide +kernel
theorem dX12_raiseWhole_66 : decode cX12_raiseWhole 66 = .ok (.isub, 1) := by decide +kernel
theorem dX12_raiseWhole_67 : decode cX12_raiseWhole 67 = .ok (.invokevirtual 567, 3) := by decide +kernel
theorem dX12_raiseWhole_70 : decode cX12_raiseWhole 70 = .ok (.aload_n 0, 1) := by decide +kernel
theorem dX12_raiseWhole_71 : decode cX12_raiseWhole 71 = .ok (.bipush 7, 2) := by decide +kernel
theorem dX12_raiseWhole_73 : decode cX12_raiseWhole 73 = .ok (.iconst 2, 1) := by decide +kernel
theorem dX12_raiseWhole_74 : decode cX12_raiseWhole 74 = .ok (.iconst 3, 1) := by decide +kernel
theorem dX12_raiseWhole_75 : decode cX12_raiseWhole 75 = .ok (.invokevirtual 78, 3) := by decide +kernel
theorem dX12_raiseWhole_78 : decode cX12_raiseWhole 78 = .ok (.aload_n 0, 1) := by decide +kernel
theorem dX12_raiseWhole_79 : decode cX12_raiseWhole 79 = .ok (.bipush 6, 2) := by decide +kernel
theorem dX12_raiseWhole_81 : decode cX12_raiseWhole 81 = .ok (.iload_n 2, 1) := by decide +kernel
theorem dX12_raiseWhole_82 : decode cX12_raiseWhole 82 = .ok (.bipush 7, 2) := by decide +kernel
theorem dX12_raiseWhole_84 : decode cX12_raiseWhole 84 = .ok (.iload 4, 2) := by decide +kernel
theorem dX12_raiseWhole_86 : decode cX12_raiseWhole 86 = .ok (.invokevirtual 84, 3) := by decide +kernel
theorem dX12_raiseWhole_89 : decode cX12_raiseWhole 89 = .ok (.istore_n 2, 1) := by decide +kernel
theorem dX12_raiseWhole_90 : decode cX12_raiseWhole 90 = .ok (.iinc 3 1, 3) := by decide +kernel
theorem dX12_raiseWhole_93 : decode cX12_raiseWhole 93 = .ok (.goto (-74), 3) := by decide +kernel
theorem dX12_raiseWhole_96 : decode cX12_raiseWhole 96 = .ok (.aload_n 0, 1) := by decide +kernel
theorem dX12_raiseWhole_97 : decode cX12_raiseWhole 97 = .ok (.bipush 18, 2) := by decide +kernel
theorem dX12_raiseWhole_99 : decode cX12_raiseWhole 99 = .ok (.iload_n 1, 1) := by decide +kernel
theorem dX12_raiseWhole_100 : decode cX12_raiseWhole 100 = .ok (.iadd, 1) := by decide +kernel
theorem dX12_raiseWhole_101 : decode cX12_raiseWhole 101 = .ok (.bipush 6, 2) := by decide +kernel
theorem dX12_raiseWhole_103 : decode cX12_raiseWhole 103 = .ok (.iload_n 2, 1) := by decide +kernel
theorem dX12_raiseWhole_104 : decode cX12_raiseWhole 104 = .ok (.invokevirtual 564, 3) := by decide +kernel
theorem dX12_raiseWhole_107 : decode cX12_raiseWhole 107 = .ok (.iinc 1 1, 3) := by decide +kernel
theorem dX12_raiseWhole_110 : decode cX12_raiseWhole 110 = .ok (.goto (-108), 3) := by decide +kernel
theorem dX12_raiseWhole_113 : decode cX12_raiseWhole 113 = .ok (.iconst 0, 1) := by decide +kernel
theorem dX12_raiseWhole_114 : decode cX12_raiseWhole 114 = .ok (.istore_n 1, 1) := by decide +kernel
theorem dX12_raiseWhole_115 : decode cX12_raiseWhole 115 = .ok (.iload_n 1, 1) := by decide +kernel
theorem dX12_raiseWhole_116 : decode cX12_raiseWhole 116 = .ok (.bipush 9, 2) := by decide +kernel
theorem dX12_raiseWhole_118 : decode cX12_raiseWhole 118 = .ok (.if_icmp .ge 36, 3) := by decide +kernel
theorem dX12_raiseWhole_121 : decode cX12_raiseWhole 121 = .ok (.aload_n 0, 1) := by decide +kernel
theorem dX12_raiseWhole_122 : decode cX12_raiseWhole 122 = .ok (.iconst 2, 1) := by decide +kernel
theorem dX12_raiseWhole_123 : decode cX12_raiseWhole 123 = .ok (.bipush 18, 2) := by decide +kernel
theorem dX12_raiseWhole_125 : decode cX12_raiseWhole 125 = .ok (.iload_n 1, 1) := by decide +kernel
theorem dX12_raiseWhole_126 : decode cX12_raiseWhole 126 = .ok (.iadd, 1) := by decide +kernel
theorem dX12_raiseWhole_127 : decode cX12_raiseWhole 127 = .ok (.invokevirtual 567, 3) := by decide +kernel
theorem dX12_raiseWhole_130 : decode cX12_raiseWhole 130 = .ok (.aload_n 0, 1) := by decide +kernel
theorem dX12_raiseWhole_131 : decode cX12_raiseWhole 131 = .ok (.bipush 9, 2) := by decide +kernel
theorem dX12_raiseWhole_133 : decode cX12_raiseWhole 133 = .ok (.iload_n 1, 1) := by decide +kernel
theorem dX12_raiseWhole_134 : decode cX12_raiseWhole 134 = .ok (.iadd, 1) := by decide +kernel
theorem dX12_raiseWhole_135 : decode cX12_raiseWhole 135 = .ok (.iconst 2, 1) := by decide +kernel
theorem dX12_raiseWhole_136 : decode cX12_raiseWhole 136 = .ok (.aload_n 0, 1) := by decide +kernel
theorem dX12_raiseWhole_137 : decode cX12_raiseWhole 137 = .ok (.getfield 296, 3) := by decide +kernel
theorem dX12_raiseWhole_140 : decode cX12_raiseWhole 140 = .ok (.bipush 18, 2) := by decide +kernel
theorem dX12_raiseWhole_142 : decode cX12_raiseWhole 142 = .ok (.iload_n 1, 1) := by decide +kernel
theorem dX12_raiseWhole_143 : decode cX12_raiseWhole 143 = .ok (.iadd, 1) := by decide +kernel
theorem dX12_raiseWhole_144 : decode cX12_raiseWhole 144 = .ok (.iaload, 1) := by decide +kernel
theorem dX12_raiseWhole_145 : decode cX12_raiseWhole 145 = .ok (.invokevirtual 564, 3) := by decide +kernel
theorem dX12_raiseWhole_148 : decode cX12_raiseWhole 148 = .ok (.iinc 1 1, 3) := by decide +kernel
theorem dX12_raiseWhole_151 : decode cX12_raiseWhole 151 = .ok (.goto (-36), 3) := by decide +kernel
theorem dX12_raiseWhole_154 : decode cX12_raiseWhole 154 = .ok (.return_, 1) := by decide +kernel
theorem dX12_raisePolynomial_0 : decode cX12_raisePolynomial 0 = .ok (.aload_n 0, 1) := by decide +kernel
theorem dX12_raisePolynomial_1 : decode cX12_raisePolynomial 1 = .ok (.iload_n 1, 1) := by decide +kernel
theorem dX12_raisePolynomial_2 : decode cX12_raisePolynomial 2 = .ok (.invokevirtual 552, 3) := by decide +kernel
theorem dX12_raisePolynomial_5 : decode cX12_raisePolynomial 5 = .ok (.iload_n 2, 1) := by decide +kernel
theorem dX12_raisePolynomial_6 : decode cX12_raisePolynomial 6 = .ok (.imul, 1) := by decide +kernel
theorem dX12_raisePolynomial_7 : decode cX12_raisePolynomial 7 = .ok (.bipush 8, 2) := by decide +kernel
theorem dX12_raisePolynomial_9 : decode cX12_raisePolynomial 9 = .ok (.if_icmp .le 5, 3) := by decide +kernel
theorem dX12_raisePolynomial_12 : decode cX12_raisePolynomial 12 = .ok (.iconst 0, 1) := by decide +kernel
theorem dX12_raisePolynomial_13 : decode cX12_raisePolynomial 13 = .ok (.ireturn, 1) := by decide +kernel
theorem dX12_raisePolynomial_14 : decode cX12_raisePolynomial 14 = .ok (.aload_n 0, 1) := by decide +kernel
theorem dX12_raisePolynomial_15 : decode cX12_raisePolynomial 15 = .ok (.iload_n 1, 1) := by decide +kernel
theorem dX12_raisePolynomial_16 : decode cX12_raisePolynomial 16 = .ok (.invokevirtual 570, 3) := by decide +kernel
theorem dX12_raisePolynomial_19 : decode cX12_raisePolynomial 19 = .ok (.iconst 0, 1) := by decide +kernel
theorem dX12_raisePolynomial_20 : decode cX12_raisePolynomial 20 = .ok (.istore_n 3, 1) := by decide +kernel
theorem dX12_raisePolynomial_21 : decode cX12_raisePolynomial 21 = .ok (.iload_n 3, 1) := by decide +kernel
theorem dX12_raisePolynomial_22 : decode cX12_raisePolynomial 22 = .ok (.bipush 9, 2) := by decide +kernel
theorem dX12_raisePolynomial_24 : decode cX12_raisePolynomial 24 = .ok (.if_icmp .ge 33, 3) := by decide +kernel
theorem dX12_raisePolynomial_27 : decode cX12_raisePolynomial 27 = .ok (.aload_n 0, 1) := by decide +kernel
theorem dX12_raisePolynomial_28 : decode cX12_raisePolynomial 28 = .ok (.iconst 2, 1) := by decide +kernel
theorem dX12_raisePolynomial_29 : decode cX12_raisePolynomial 29 = .ok (.iload_n 3, 1) := by decide +kernel
theorem dX12_raisePolynomial_30 : decode cX12_raisePolynomial 30 = .ok (.ifCond .ne 7, 3) := by decide +kernel
theorem dX12_raisePolynomial_33 : decode cX12_raisePolynomial 33 = .ok (.iconst 1, 1) := by decide +kernel
theorem dX12_raisePolynomial_34 : decode cX12_raisePolynomial 34 = .ok (.goto 4, 3) := by decide +kernel
theorem dX12_raisePolynomial_37 : decode cX12_raisePolynomial 37 = .ok (.iconst 0, 1) := by decide +kernel
theorem dX12_raisePolynomial_38 : decode cX12_raisePolynomial 38 = .ok (.invokevirtual 53, 3) := by decide +kernel
theorem dX12_raisePolynomial_41 : decode cX12_raisePolynomial 41 = .ok (.aload_n 0, 1) := by decide +kernel
theorem dX12_raisePolynomial_42 : decode cX12_raisePolynomial 42 = .ok (.bipush 9, 2) := by decide +kernel
theorem dX12_raisePolynomial_44 : decode cX12_raisePolynomial 44 = .ok (.iload_n 3, 1) := by decide +kernel
theorem dX12_raisePolynomial_45 : decode cX12_raisePolynomial 45 = .ok (.iadd, 1) := by decide +kernel
theorem dX12_raisePolynomial_46 : decode cX12_raisePolynomial 46 = .ok (.iconst 2, 1) := by decide +kernel
theorem dX12_raisePolynomial_47 : decode cX12_raisePolynomial 47 = .ok (.iconst 1, 1) := by decide +kernel
theorem dX12_raisePolynomial_48 : decode cX12_raisePolynomial 48 = .ok (.invokevirtual 564, 3) := by decide +kernel
theorem dX12_raisePolynomial_51 : decode cX12_raisePolynomial 51 = .ok (.iinc 3 1, 3) := by decide +kernel
theorem dX12_raisePolynomial_54 : decode cX12_raisePolynomial 54 = .ok (.goto (-33), 3) := by decide +kernel
theorem dX12_raisePolynomial_57 : decode cX12_raisePolynomial 57 = .ok (.aload_n 0, 1) := by decide +kernel
theorem dX12_raisePolynomial_58 : decode cX12_raisePolynomial 58 = .ok (.bipush 9, 2) := by decide +kernel
theorem dX12_raisePolynomial_60 : decode cX12_raisePolynomial 60 = .ok (.iconst 1, 1) := by decide +kernel
theorem dX12_raisePolynomial_61 : decode cX12_raisePolynomial 61 = .ok (.invokevirtual 53, 3) := by decide +kernel
theorem dX12_raisePolynomial_64 : decode cX12_raisePolynomial 64 = .ok (.iconst 0, 1) := by decide +kernel
theorem dX12_raisePolynomial_65 : decode cX12_raisePolynomial 65 = .ok (.istore_n 3, 1) := by decide +kernel
theorem dX12_raisePolynomial_66 : decode cX12_raisePolynomial 66 = .ok (.iload_n 3, 1) := by decide +kernel
theorem dX12_raisePolynomial_67 : decode cX12_raisePolynomial 67 = .ok (.iload_n 2, 1) := by decide +kernel
theorem dX12_raisePolynomial_68 : decode cX12_raisePolynomial 68 = .ok (.if_icmp .ge 31, 3) := by decide +kernel
theorem dX12_raisePolynomial_71 : decode cX12_raisePolynomial 71 = .ok (.aload_n 0, 1) := by decide +kernel
theorem dX12_raisePolynomial_72 : decode cX12_raisePolynomial 72 = .ok (.invokevirtual 573, 3) := by decide +kernel
theorem dX12_raisePolynomial_75 : decode cX12_raisePolynomial 75 = .ok (.aload_n 0, 1) := by decide +kernel
theorem dX12_raisePolynomial_76 : decode cX12_raisePolynomial 76 = .ok (.bipush 10, 2) := by decide +kernel
theorem dX12_raisePolynomial_78 : decode cX12_raisePolynomial 78 = .ok (.bipush 9, 2) := by decide +kernel
theorem dX12_raisePolynomial_80 : decode cX12_raisePolynomial 80 = .ok (.bipush 8, 2) := by decide +kernel
theorem dX12_raisePolynomial_82 : decode cX12_raisePolynomial 82 = .ok (.invokevirtual 78, 3) := by decide +kernel
theorem dX12_raisePolynomial_85 : decode cX12_raisePolynomial 85 = .ok (.aload_n 0, 1) := by decide +kernel
theorem dX12_raisePolynomial_86 : decode cX12_raisePolynomial 86 = .ok (.bipush 9, 2) := by decide +kernel
theorem dX12_raisePolynomial_88 : decode cX12_raisePolynomial 88 = .ok (.bipush 10, 2) := by decide +kernel
theorem dX12_raisePolynomial_90 : decode cX12_raisePolynomial 90 = .ok (.invokevirtual 43, 3) := by decide +kernel
theorem dX12_raisePolynomial_93 : decode cX12_raisePolynomial 93 = .ok (.iinc 3 1, 3) := by decide +kernel
theorem dX12_raisePolynomial_96 : decode cX12_raisePolynomial 96 = .ok (.goto (-30), 3) := by decide +kernel
theorem dX12_raisePolynomial_99 : decode cX12_raisePolynomial 99 = .ok (.iconst 1, 1) := by decide +kernel
theorem dX12_raisePolynomial_100 : decode cX12_raisePolynomial 100 = .ok (.istore_n 3, 1) := by decide +kernel
theorem dX12_raisePolynomial_101 : decode cX12_raisePolynomial 101 = .ok (.iconst 0, 1) := by decide +kernel
theorem dX12_raisePolynomial_102 : decode cX12_raisePolynomial 102 = .ok (.istore 4, 2) := by decide +kernel
theorem dX12_raisePolynomial_104 : decode cX12_raisePolynomial 104 = .ok (.iload 4, 2) := by decide +kernel
theorem dX12_raisePolynomial_106 : decode cX12_raisePolynomial 106 = .ok (.bipush 9, 2) := by decide +kernel
theorem dX12_raisePolynomial_108 : decode cX12_raisePolynomial 108 = .ok (.if_icmp .ge 51, 3) := by decide +kernel
theorem dX12_raisePolynomial_111 : decode cX12_raisePolynomial 111 = .ok (.iload_n 3, 1) := by decide +kernel
theorem dX12_raisePolynomial_112 : decode cX12_raisePolynomial 112 = .ok (.ifCond .eq 47, 3) := by decide +kernel
theorem dX12_raisePolynomial_115 : decode cX12_raisePolynomial 115 = .ok (.aload_n 0, 1) := by decide +kernel
theorem dX12_raisePolynomial_116 : decode cX12_raisePolynomial 116 = .ok (.iconst 0, 1) := by decide +kernel
theorem dX12_raisePolynomial_117 : decode cX12_raisePolynomial 117 = .ok (.bipush 9, 2) := by decide +kernel
theorem dX12_raisePolynomial_119 : decode cX12_raisePolynomial 119 = .ok (.iload 4, 2) := by decide +kernel
theorem dX12_raisePolynomial_121 : decode cX12_raisePolynomial 121 = .ok (.iadd, 1) := by decide +kernel
theorem dX12_raisePolynomial_122 : decode cX12_raisePolynomial 122 = .ok (.invokevirtual 567, 3) := by decide +kernel
theorem dX12_raisePolynomial_125 : decode cX12_raisePolynomial 125 = .ok (.aload_n 0, 1) := by decide +kernel
theorem dX12_raisePolynomial_126 : decode cX12_raisePolynomial 126 = .ok (.iconst 1, 1) := by decide +kernel
theorem dX12_raisePolynomial_127 : decode cX12_raisePolynomial 127 = .ok (.bipush 9, 2) := by decide +kernel
theorem dX12_raisePolynomial_129 : decode cX12_raisePolynomial 129 = .ok (.invokevirtual 43, 3) := by decide +kernel
theorem dX12_raisePolynomial_132 : decode cX12_raisePolynomial 132 = .ok (.aload_n 0, 1) := by decide +kernel
theorem dX12_raisePolynomial_133 : decode cX12_raisePolynomial 133 = .ok (.iload_n 1, 1) := by decide +kernel
theorem dX12_raisePolynomial_134 : decode cX12_raisePolynomial 134 = .ok (.iload 4, 2) := by decide +kernel
theorem dX12_raisePolynomial_136 : decode cX12_raisePolynomial 136 = .ok (.invokestatic 546, 3) := by decide +kernel
theorem dX12_raisePolynomial_139 : decode cX12_raisePolynomial 139 = .ok (.aload_n 0, 1) := by decide +kernel
theorem dX12_raisePolynomial_140 : decode cX12_raisePolynomial 140 = .ok (.getfield 296, 3) := by decide +kernel
theorem dX12_raisePolynomial_143 : decode cX12_raisePolynomial 143 = .ok (.bipush 9, 2) := by decide +kernel
theorem dX12_raisePolynomial_145 : decode cX12_raisePolynomial 145 = .ok (.iload 4, 2) := by decide +kernel
theorem dX12_raisePolynomial_147 : decode cX12_raisePolynomial 147 = .ok (.iadd, 1) := by decide +kernel
theorem dX12_raisePolynomial_148 : decode cX12_raisePolynomial 148 = .ok (.iaload, 1) := by decide +kernel
theorem dX12_raisePolynomial_149 : decode cX12_raisePolynomial 149 = .ok (.invokevirtual 88, 3) := by decide +kernel
theorem dX12_raisePolynomial_152 : decode cX12_raisePolynomial 152 = .ok (.istore_n 3, 1) := by decide +kernel
theorem dX12_raisePolynomial_153 : decode cX12_raisePolynomial 153 = .ok (.iinc 4 1, 3) := by decide +kernel
theorem dX12_raisePolynomial_156 : decode cX12_raisePolynomial 156 = .ok (.goto (-52), 3) := by decide +kernel
theorem dX12_raisePolynomial_159 : decode cX12_raisePolynomial 159 = .ok (.iload_n 3, 1) := by decide +kernel
theorem dX12_raisePolynomial_160 : decode cX12_raisePolynomial 160 = .ok (.ireturn, 1) := by decide +kernel
theorem dX12_scalePolynomials_0 : decode cX12_scalePolynomials 0 = .ok (.aload_n 0, 1) := by decide +kernel
theorem dX12_scalePolynomials_1 : decode cX12_scalePolynomials 1 = .ok (.iload_n 2, 1) := by decide +kernel
theorem dX12_scalePolynomials_2 : decode cX12_scalePolynomials 2 = .ok (.invokevirtual 552, 3) := by decide +kernel
theorem dX12_scalePolynomials_5 : decode cX12_scalePolynomials 5 = .ok (.ifCond .ne 19, 3) := by decide +kernel
theorem dX12_scalePolynomials_8 : decode cX12_scalePolynomials 8 = .ok (.aload_n 0, 1) := by decide +kernel
theorem dX12_scalePolynomials_9 : decode cX12_scalePolynomials 9 = .ok (.iload_n 2, 1) := by decide +kernel
theorem dX12_scalePolynomials_10 : decode cX12_scalePolynomials 10 = .ok (.iconst 0, 1) := by decide +kernel
theorem dX12_scalePolynomials_11 : decode cX12_scalePolynomials 11 = .ok (.invokestatic 546, 3) := by decide +kernel
theorem dX12_scalePolynomials_14 : decode cX12_scalePolynomials 14 = .ok (.invokevirtual 81, 3) := by decide +kernel
theorem dX12_scalePolynomials_17 : decode cX12_scalePolynomials 17 = .ok (.ifCond .eq 7, 3) := by decide +kernel
theorem dX12_scalePolynomials_20 : decode cX12_scalePolynomials 20 = .ok (.iconst 1, 1) := by decide +kernel
theorem dX12_scalePolynomials_21 : decode cX12_scalePolynomials 21 = .ok (.goto 4, 3) := by decide +kernel
theorem dX12_scalePolynomials_24 : decode cX12_scalePolynomials 24 = .ok (.iconst 0, 1) := by decide +kernel
theorem dX12_scalePolynomials_25 : decode cX12_scalePolynomials 25 = .ok (.istore_n 3, 1) := by decide +kernel
theorem dX12_scalePolynomials_26 : decode cX12_scalePolynomials 26 = .ok (.iconst 0, 1) := by decide +kernel
theorem dX12_scalePolynomials_27 : decode cX12_scalePolynomials 27 = .ok (.istore 4, 2) := by decide +kernel
theorem dX12_scalePolynomials_29 : decode cX12_scalePolynomials 29 = .ok (.iload 4, 2) := by decide +kernel
theorem dX12_scalePolynomials_31 : decode cX12_scalePolynomials 31 = .ok (.bipush 9, 2) := by decide +kernel
theorem dX12_scalePolynomials_33 : decode cX12_scalePolynomials 33 = .ok (.if_icmp .ge 35, 3) := by decide +kernel
theorem dX12_scalePolynomials_36 : decode cX12_scalePolynomials 36 = .ok (.iload_n 3, 1) := by decide +kernel
theorem dX12_scalePolynomials_37 : decode cX12_scalePolynomials 37 = .ok (.ifCond .eq 31, 3) := by decide +kernel
theorem dX12_scalePolynomials_40 : decode cX12_scalePolynomials 40 = .ok (.aload_n 0, 1) := by decide +kernel
theorem dX12_scalePolynomials_41 : decode cX12_scalePolynomials 41 = .ok (.iload_n 1, 1) := by decide +kernel
theorem dX12_scalePolynomials_42 : decode cX12_scalePolynomials 42 = .ok (.iload 4, 2) := by decide +kernel
theorem dX12_scalePolynomials_44 : decode cX12_scalePolynomials 44 = .ok (.invokestatic 546, 3) := by decide +kernel
theorem dX12_scalePolynomials_47 : decode cX12_scalePolynomials 47 = .ok (.iload_n 1, 1) := by decide +kernel
theorem dX12_scalePolynomials_48 : decode cX12_scalePolynomials 48 = .ok (.iload 4, 2) := by decide +kernel
theorem dX12_scalePolynomials_50 : decode cX12_scalePolynomials 50 = .ok (.invokestatic 546, 3) := by decide +kernel
theorem dX12_scalePolynomials_53 : decode cX12_scalePolynomials 53 = .ok (.iload_n 2, 1) := by decide +kernel
theorem dX12_scalePolynomials_54 : decode cX12_scalePolynomials 54 = .ok (.iconst 0, 1) := by decide +kernel
theorem dX12_scalePolynomials_55 : decode cX12_scalePolynomials 55 = .ok (.invokestatic 546, 3) := by decide +kernel
theorem dX12_scalePolynomials_58 : decode cX12_scalePolynomials 58 = .ok (.invokevirtual 112, 3) := by decide +kernel
theorem dX12_scalePolynomials_61 : decode cX12_scalePolynomials 61 = .ok (.istore_n 3, 1) := by decide +kernel
theorem dX12_scalePolynomials_62 : decode cX12_scalePolynomials 62 = .ok (.iinc 4 1, 3) := by decide +kernel
theorem dX12_scalePolynomials_65 : decode cX12_scalePolynomials 65 = .ok (.goto (-36), 3) := by decide +kernel
theorem dX12_scalePolynomials_68 : decode cX12_scalePolynomials 68 = .ok (.iload_n 3, 1) := by decide +kernel
theorem dX12_scalePolynomials_69 : decode cX12_scalePolynomials 69 = .ok (.ireturn, 1) := by decide +kernel
theorem dX12_gatherTwo_0 : decode cX12_gatherTwo 0 = .ok (.aload_n 0, 1) := by decide +kernel
theorem dX12_gatherTwo_1 : decode cX12_gatherTwo 1 = .ok (.dup, 1) := by decide +kernel
theorem dX12_gatherTwo_2 : decode cX12_gatherTwo 2 = .ok (.getfield 576, 3) := by decide +kernel
theorem dX12_gatherTwo_5 : decode cX12_gatherTwo 5 = .ok (.iconst 1, 1) := by decide +kernel
theorem dX12_gatherTwo_6 : decode cX12_gatherTwo 6 = .ok (.isub, 1) := by decide +kernel
theorem dX12_gatherTwo_7 : decode cX12_gatherTwo 7 = .ok (.putfield 576, 3) := by decide +kernel
theorem dX12_gatherTwo_10 : decode cX12_gatherTwo 10 = .ok (.aload_n 0, 1) := by decide +kernel
theorem dX12_gatherTwo_11 : decode cX12_gatherTwo 11 = .ok (.getfield 576, 3) := by decide +kernel
theorem dX12_gatherTwo_14 : decode cX12_gatherTwo 14 = .ok (.iconst 1, 1) := by decide +kernel
theorem dX12_gatherTwo_15 : decode cX12_gatherTwo 15 = .ok (.isub, 1) := by decide +kernel
theorem dX12_gatherTwo_16 : decode cX12_gatherTwo 16 = .ok (.istore_n 3, 1) := by decide +kernel
theorem dX12_gatherTwo_17 : decode cX12_gatherTwo 17 = .ok (.aload_n 0, 1) := by decide +kernel
theorem dX12_gatherTwo_18 : decode cX12_gatherTwo 18 = .ok (.getfield 576, 3) := by decide +kernel
theorem dX12_gatherTwo_21 : decode cX12_gatherTwo 21 = .ok (.istore 4, 2) := by decide +kernel
theorem dX12_gatherTwo_23 : decode cX12_gatherTwo 23 = .ok (.iconst 1, 1) := by decide +kernel
theorem dX12_gatherTwo_24 : decode cX12_gatherTwo 24 = .ok (.istore 5, 2) := by decide +kernel
theorem dX12_gatherTwo_26 : decode cX12_gatherTwo 26 = .ok (.iload_n 2, 1) := by decide +kernel
theorem dX12_gatherTwo_27 : decode cX12_gatherTwo 27 = .ok (.tableswitch 179 0 5 #[37, 37, 95, 120, 179, 128], 37) := by decide +kernel
theorem dX12_gatherTwo_64 : decode cX12_gatherTwo 64 = .ok (.iconst 0, 1) := by decide +kernel
theorem dX12_gatherTwo_65 : decode cX12_gatherTwo 65 = .ok (.istore 6, 2) := by decide +kernel
theorem dX12_gatherTwo_67 : decode cX12_gatherTwo 67 = .ok (.iload 6, 2) := by decide +kernel
theorem dX12_gatherTwo_69 : decode cX12_gatherTwo 69 = .ok (.bipush 9, 2) := by decide +kernel
theorem dX12_gatherTwo_71 : decode cX12_gatherTwo 71 = .ok (.if_icmp .ge 48, 3) := by decide +kernel
theorem dX12_gatherTwo_74 : decode cX12_gatherTwo 74 = .ok (.iload 5, 2) := by decide +kernel
theorem dX12_gatherTwo_76 : decode cX12_gatherTwo 76 = .ok (.ifCond .eq 43, 3) := by decide +kernel
theorem dX12_gatherTwo_79 : decode cX12_gatherTwo 79 = .ok (.aload_n 0, 1) := by decide +kernel
theorem dX12_gatherTwo_80 : decode cX12_gatherTwo 80 = .ok (.iload_n 3, 1) := by decide +kernel
theorem dX12_gatherTwo_81 : decode cX12_gatherTwo 81 = .ok (.iload 6, 2) := by decide +kernel
theorem dX12_gatherTwo_83 : decode cX12_gatherTwo 83 = .ok (.invokestatic 546, 3) := by decide +kernel
theorem dX12_gatherTwo_86 : decode cX12_gatherTwo 86 = .ok (.iload_n 3, 1) := by decide +kernel
theorem dX12_gatherTwo_87 : decode cX12_gatherTwo 87 = .ok (.iload 6, 2) := by decide +kernel
theorem dX12_gatherTwo_89 : decode cX12_gatherTwo 89 = .ok (.invokestatic 546, 3) := by decide +kernel
theorem dX12_gatherTwo_92 : decode cX12_gatherTwo 92 = .ok (.iload 4, 2) := by decide +kernel
theorem dX12_gatherTwo_94 : decode cX12_gatherTwo 94 = .ok (.iload 6, 2) := by decide +kernel
theorem dX12_gatherTwo_96 : decode cX12_gatherTwo 96 = .ok (.invokestatic 546, 3) := by decide +kernel
theorem dX12_gatherTwo_99 : decode cX12_gatherTwo 99 = .ok (.iload_n 2, 1) := by decide +kernel
theorem dX12_gatherTwo_100 : decode cX12_gatherTwo 100 = .ok (.ifCond .ne 7, 3) := by decide +kernel
theorem dX12_gatherTwo_103 : decode cX12_gatherTwo 103 = .ok (.iconst 1, 1) := by decide +kernel
theorem dX12_gatherTwo_104 : decode cX12_gatherTwo 104 = .ok (.goto 4, 3) := by decide +kernel
theorem dX12_gatherTwo_107 : decode cX12_gatherTwo 107 = .ok (.iconst (-1), 1) := by decide +kernel
theorem dX12_gatherTwo_108 : decode cX12_gatherTwo 108 = .ok (.invokevirtual 121, 3) := by decide +kernel
theorem dX12_gatherTwo_111 : decode cX12_gatherTwo 111 = .ok (.istore 5, 2) := by decide +kernel
theorem dX12_gatherTwo_113 : decode cX12_gatherTwo 113 = .ok (.iinc 6 1, 3) := by decide +kernel
theorem dX12_gatherTwo_116 : decode cX12_gatherTwo 116 = .ok (.goto (-49), 3) := by decide +kernel
theorem dX12_gatherTwo_119 : decode cX12_gatherTwo 119 = .ok (.iload 5, 2) := by decide +kernel
theorem dX12_gatherTwo_121 : decode cX12_gatherTwo 121 = .ok (.ireturn, 1) := by decide +kernel
theorem dX12_gatherTwo_122 : decode cX12_gatherTwo 122 = .ok (.aload_n 0, 1) := by decide +kernel
theorem dX12_gatherTwo_123 : decode cX12_gatherTwo 123 = .ok (.iload 4, 2) := by decide +kernel
theorem dX12_gatherTwo_125 : decode cX12_gatherTwo 125 = .ok (.iconst 1, 1) := by decide +kernel
theorem dX12_gatherTwo_126 : decode cX12_gatherTwo 126 = .ok (.iadd, 1) := by decide +kernel
theorem dX12_gatherTwo_127 : decode cX12_gatherTwo 127 = .ok (.iload_n 3, 1) := by decide +kernel
theorem dX12_gatherTwo_128 : decode cX12_gatherTwo 128 = .ok (.iload 4, 2) := by decide +kernel
theorem dX12_gatherTwo_130 : decode cX12_gatherTwo 130 = .ok (.invokevirtual 579, 3) := by decide +kernel
theorem dX12_gatherTwo_133 : decode cX12_gatherTwo 133 = .ok (.istore 5, 2) := by decide +kernel
theorem dX12_gatherTwo_135 : decode cX12_gatherTwo 135 = .ok (.aload_n 0, 1) := by decide +kernel
theorem dX12_gatherTwo_136 : decode cX12_gatherTwo 136 = .ok (.iload_n 3, 1) := by decide +kernel
theorem dX12_gatherTwo_137 : decode cX12_gatherTwo 137 = .ok (.iload 4, 2) := by decide +kernel
theorem dX12_gatherTwo_139 : decode cX12_gatherTwo 139 = .ok (.iconst 1, 1) := by decide +kernel
theorem dX12_gatherTwo_140 : decode cX12_gatherTwo 140 = .ok (.iadd, 1) := by decide +kernel
theorem dX12_gatherTwo_141 : decode cX12_gatherTwo 141 = .ok (.invokevirtual 582, 3) := by decide +kernel
theorem dX12_gatherTwo_144 : decode cX12_gatherTwo 144 = .ok (.iload 5, 2) := by decide +kernel
theorem dX12_gatherTwo_146 : decode cX12_gatherTwo 146 = .ok (.ireturn, 1) := by decide +kernel
theorem dX12_gatherTwo_147 : decode cX12_gatherTwo 147 = .ok (.aload_n 0, 1) := by decide +kernel
theorem dX12_gatherTwo_148 : decode cX12_gatherTwo 148 = .ok (.iload_n 3, 1) := by decide +kernel
theorem dX12_gatherTwo_149 : decode cX12_gatherTwo 149 = .ok (.iload 4, 2) := by decide +kernel
theorem dX12_gatherTwo_151 : decode cX12_gatherTwo 151 = .ok (.invokevirtual 585, 3) := by decide +kernel
theorem dX12_gatherTwo_154 : decode cX12_gatherTwo 154 = .ok (.ireturn, 1) := by decide +kernel
theorem dX12_gatherTwo_155 : decode cX12_gatherTwo 155 = .ok (.aload_n 0, 1) := by decide +kernel
theorem dX12_gatherTwo_156 : decode cX12_gatherTwo 156 = .ok (.iload_n 1, 1) := by decide +kernel
theorem dX12_gatherTwo_157 : decode cX12_gatherTwo 157 = .ok (.iconst 1, 1) := by decide +kernel
theorem dX12_gatherTwo_158 : decode cX12_gatherTwo 158 = .ok (.invokevirtual 405, 3) := by decide +kernel
theorem dX12_gatherTwo_161 : decode cX12_gatherTwo 161 = .ok (.istore 6, 2) := by decide +kernel
theorem dX12_gatherTwo_163 : decode cX12_gatherTwo 163 = .ok (.aload_n 0, 1) := by decide +kernel
theorem dX12_gatherTwo_164 : decode cX12_gatherTwo 164 = .ok (.getfield 135, 3) := by decide +kernel
theorem dX12_gatherTwo_167 : decode cX12_gatherTwo 167 = .ok (.iload 6, 2) := by decide +kernel
theorem dX12_gatherTwo_169 : decode cX12_gatherTwo 169 = .ok (.iaload, 1) := by decide +kernel
theorem dX12_gatherTwo_170 : decode cX12_gatherTwo 170 = .ok (.ifCond .ne 34, 3) := by decide +kernel
theorem dX12_gatherTwo_173 : decode cX12_gatherTwo 173 = .ok (.aload_n 0, 1) := by decide +kernel
theorem dX12_gatherTwo_174 : decode cX12_gatherTwo 174 = .ok (.getfield 138, 3) := by decide +kernel
theorem dX12_gatherTwo_177 : decode cX12_gatherTwo 177 = .ok (.iload 6, 2) := by decide +kernel
theorem dX12_gatherTwo_179 : decode cX12_gatherTwo 179 = .ok (.iaload, 1) := by decide +kernel
theorem dX12_gatherTwo_180 : decode cX12_gatherTwo 180 = .ok (.bipush 8, 2) := by decide +kernel
theorem dX12_gatherTwo_182 : decode cX12_gatherTwo 182 = .ok (.if_icmp .gt 22, 3) := by decide +kernel
theorem dX12_gatherTwo_185 : decode cX12_gatherTwo 185 = .ok (.aload_n 0, 1) := by decide +kernel
theorem dX12_gatherTwo_186 : decode cX12_gatherTwo 186 = .ok (.iload_n 3, 1) := by decide +kernel
theorem dX12_gatherTwo_187 : decode cX12_gatherTwo 187 = .ok (.aload_n 0, 1) := by decide +kernel
theorem dX12_gatherTwo_188 : decode cX12_gatherTwo 188 = .ok (.getfield 138, 3) := by decide +kernel
theorem dX12_gatherTwo_191 : decode cX12_gatherTwo 191 = .ok (.iload 6, 2) := by decide +kernel
theorem dX12_gatherTwo_193 : decode cX12_gatherTwo 193 = .ok (.iaload, 1) := by decide +kernel
theorem dX12_gatherTwo_194 : decode cX12_gatherTwo 194 = .ok (.invokevirtual 588, 3) := by decide +kernel
theorem dX12_gatherTwo_197 : decode cX12_gatherTwo 197 = .ok (.ifCond .eq 7, 3) := by decide +kernel
theorem dX12_gatherTwo_200 : decode cX12_gatherTwo 200 = .ok (.iconst 1, 1) := by decide +kernel
theorem dX12_gatherTwo_201 : decode cX12_gatherTwo 201 = .ok (.goto 4, 3) := by decide +kernel
theorem dX12_gatherTwo_204 : decode cX12_gatherTwo 204 = .ok (.iconst 0, 1) := by decide +kernel
theorem dX12_gatherTwo_205 : decode cX12_gatherTwo 205 = .ok (.ireturn, 1) := by decide +kernel
theorem dX12_gatherTwo_206 : decode cX12_gatherTwo 206 = .ok (.iconst 0, 1) := by decide +kernel
theorem dX12_gatherTwo_207 : decode cX12_gatherTwo 207 = .ok (.ireturn, 1) := by decide +kernel
theorem dX12_gatherNode_0 : decode cX12_gatherNode 0 = .ok (.aload_n 0, 1) := by decide +kernel
theorem dX12_gatherNode_1 : decode cX12_gatherNode 1 = .ok (.getfield 135, 3) := by decide +kernel
theorem dX12_gatherNode_4 : decode cX12_gatherNode 4 = .ok (.iload_n 1, 1) := by decide +kernel
theorem dX12_gatherNode_5 : decode cX12_gatherNode 5 = .ok (.iaload, 1) := by decide +kernel
theorem dX12_gatherNode_6 : decode cX12_gatherNode 6 = .ok (.ifCond .eq 13, 3) := by decide +kernel
theorem dX12_gatherNode_9 : decode cX12_gatherNode 9 = .ok (.aload_n 0, 1) := by decide +kernel
theorem dX12_gatherNode_10 : decode cX12_gatherNode 10 = .ok (.getfield 135, 3) := by decide +kernel
theorem dX12_gatherNode_13 : decode cX12_gatherNode 13 = .ok (.iload_n 1, 1) := by decide +kernel
theorem dX12_gatherNode_14 : decode cX12_gatherNode 14 = .ok (.iaload, 1) := by decide +kernel
theorem dX12_gatherNode_15 : decode cX12_gatherNode 15 = .ok (.iconst 1, 1) := by decide +kernel
theorem dX12_gatherNode_16 : decode cX12_gatherNode 16 = .ok (.if_icmp .ne 133, 3) := by decide +kernel
theorem dX12_gatherNode_19 : decode cX12_gatherNode 19 = .ok (.aload_n 0, 1) := by decide +kernel
theorem dX12_gatherNode_20 : decode cX12_gatherNode 20 = .ok (.getfield 576, 3) := by decide +kernel
theorem dX12_gatherNode_23 : decode cX12_gatherNode 23 = .ok (.istore_n 3, 1) := by decide +kernel
theorem dX12_gatherNode_24 : decode cX12_gatherNode 24 = .ok (.aload_n 0, 1) := by decide +kernel
theorem dX12_gatherNode_25 : decode cX12_gatherNode 25 = .ok (.iload_n 3, 1) := by decide +kernel
theorem dX12_gatherNode_26 : decode cX12_gatherNode 26 = .ok (.invokevirtual 591, 3) := by decide +kernel
theorem dX12_gatherNode_29 : decode cX12_gatherNode 29 = .ok (.aload_n 0, 1) := by decide +kernel
theorem dX12_gatherNode_30 : decode cX12_gatherNode 30 = .ok (.dup, 1) := by decide +kernel
theorem dX12_gatherNode_31 : decode cX12_gatherNode 31 = .ok (.getfield 576, 3) := by decide +kernel
theorem dX12_gatherNode_34 : decode cX12_gatherNode 34 = .ok (.iconst 1, 1) := by decide +kernel
theorem dX12_gatherNode_35 : decode cX12_gatherNode 35 = .ok (.iadd, 1) := by decide +kernel
theorem dX12_gatherNode_36 : decode cX12_gatherNode 36 = .ok (.putfield 576, 3) := by decide +kernel
theorem dX12_gatherNode_39 : decode cX12_gatherNode 39 = .ok (.aload_n 0, 1) := by decide +kernel
theorem dX12_gatherNode_40 : decode cX12_gatherNode 40 = .ok (.getfield 135, 3) := by decide +kernel
theorem dX12_gatherNode_43 : decode cX12_gatherNode 43 = .ok (.iload_n 1, 1) := by decide +kernel
theorem dX12_gatherNode_44 : decode cX12_gatherNode 44 = .ok (.iaload, 1) := by decide +kernel
theorem dX12_gatherNode_45 : decode cX12_gatherNode 45 = .ok (.ifCond .ne 21, 3) := by decide +kernel
theorem dX12_gatherNode_48 : decode cX12_gatherNode 48 = .ok (.aload_n 0, 1) := by decide +kernel
theorem dX12_gatherNode_49 : decode cX12_gatherNode 49 = .ok (.iload_n 3, 1) := by decide +kernel
theorem dX12_gatherNode_50 : decode cX12_gatherNode 50 = .ok (.iconst 0, 1) := by decide +kernel
theorem dX12_gatherNode_51 : decode cX12_gatherNode 51 = .ok (.invokestatic 546, 3) := by decide +kernel
theorem dX12_gatherNode_54 : decode cX12_gatherNode 54 = .ok (.aload_n 0, 1) := by decide +kernel
theorem dX12_gatherNode_55 : decode cX12_gatherNode 55 = .ok (.getfield 138, 3) := by decide +kernel
theorem dX12_gatherNode_58 : decode cX12_gatherNode 58 = .ok (.iload_n 1, 1) := by decide +kernel
theorem dX12_gatherNode_59 : decode cX12_gatherNode 59 = .ok (.iaload, 1) := by decide +kernel
theorem dX12_gatherNode_60 : decode cX12_gatherNode 60 = .ok (.invokevirtual 96, 3) := by decide +kernel
theorem dX12_gatherNode_63 : decode cX12_gatherNode 63 = .ok (.goto 44, 3) := by decide +kernel
theorem dX12_gatherNode_66 : decode cX12_gatherNode 66 = .ok (.aload_n 0, 1) := by decide +kernel
theorem dX12_gatherNode_67 : decode cX12_gatherNode 67 = .ok (.getfield 138, 3) := by decide +kernel
theorem dX12_gatherNode_70 : decode cX12_gatherNode 70 = .ok (.iload_n 1, 1) := by decide +kernel
theorem dX12_gatherNode_71 : decode cX12_gatherNode 71 = .ok (.iaload, 1) := by decide +kernel
theorem dX12_gatherNode_72 : decode cX12_gatherNode 72 = .ok (.iload_n 2, 1) := by decide +kernel
theorem dX12_gatherNode_73 : decode cX12_gatherNode 73 = .ok (.if_icmp .ne 16, 3) := by decide +kernel
theorem dX12_gatherNode_76 : decode cX12_gatherNode 76 = .ok (.aload_n 0, 1) := by decide +kernel
theorem dX12_gatherNode_77 : decode cX12_gatherNode 77 = .ok (.iload_n 3, 1) := by decide +kernel
theorem dX12_gatherNode_78 : decode cX12_gatherNode 78 = .ok (.iconst 1, 1) := by decide +kernel
theorem dX12_gatherNode_79 : decode cX12_gatherNode 79 = .ok (.invokestatic 546, 3) := by decide +kernel
theorem dX12_gatherNode_82 : decode cX12_gatherNode 82 = .ok (.iconst 1, 1) := by decide +kernel
theorem dX12_gatherNode_83 : decode cX12_gatherNode 83 = .ok (.invokevirtual 96, 3) := by decide +kernel
theorem dX12_gatherNode_86 : decode cX12_gatherNode 86 = .ok (.goto 21, 3) := by decide +kernel
theorem dX12_gatherNode_89 : decode cX12_gatherNode 89 = .ok (.aload_n 0, 1) := by decide +kernel
theorem dX12_gatherNode_90 : decode cX12_gatherNode 90 = .ok (.iload_n 3, 1) := by decide +kernel
theorem dX12_gatherNode_91 : decode cX12_gatherNode 91 = .ok (.iconst 0, 1) := by decide +kernel
theorem dX12_gatherNode_92 : decode cX12_gatherNode 92 = .ok (.invokestatic 546, 3) := by decide +kernel
theorem dX12_gatherNode_95 : decode cX12_gatherNode 95 = .ok (.aload_n 0, 1) := by decide +kernel
theorem dX12_gatherNode_96 : decode cX12_gatherNode 96 = .ok (.getfield 138, 3) := by decide +kernel
theorem dX12_gatherNode_99 : decode cX12_gatherNode 99 = .ok (.iload_n 1, 1) := by decide +kernel
theorem dX12_gatherNode_100 : decode cX12_gatherNode 100 = .ok (.iaload, 1) := by decide +kernel
theorem dX12_gatherNode_101 : decode cX12_gatherNode 101 = .ok (.bipush 97, 2) := by decide +kernel
theorem dX12_gatherNode_103 : decode cX12_gatherNode 103 = .ok (.isub, 1) := by decide +kernel
theorem dX12_gatherNode_104 : decode cX12_gatherNode 104 = .ok (.invokevirtual 115, 3) := by decide +kernel
theorem dX12_gatherNode_107 : decode cX12_gatherNode 107 = .ok (.aload_n 0, 1) := by decide +kernel
theorem dX12_gatherNode_108 : decode cX12_gatherNode 108 = .ok (.getfield 138, 3) := by decide +kernel
theorem dX12_gatherNode_111 : decode cX12_gatherNode 111 = .ok (.iload_n 1, 1) := by decide +kernel
theorem dX12_gatherNode_112 : decode cX12_gatherNode 112 = .ok (.iaload, 1) := by decide +kernel
theorem dX12_gatherNode_113 : decode cX12_gatherNode 113 = .ok (.iload_n 2, 1) := by decide +kernel
theorem dX12_gatherNode_114 : decode cX12_gatherNode 114 = .ok (.if_icmp .eq 29, 3) := by decide +kernel
theorem dX12_gatherNode_117 : decode cX12_gatherNode 117 = .ok (.aload_n 0, 1) := by decide +kernel
theorem dX12_gatherNode_118 : decode cX12_gatherNode 118 = .ok (.getfield 135, 3) := by decide +kernel
theorem dX12_gatherNode_121 : decode cX12_gatherNode 121 = .ok (.iload_n 1, 1) := by decide +kernel
theorem dX12_gatherNode_122 : decode cX12_gatherNode 122 = .ok (.iaload, 1) := by decide +kernel
theorem dX12_gatherNode_123 : decode cX12_gatherNode 123 = .ok (.ifCond .eq 20, 3) := by decide +kernel
theorem dX12_gatherNode_126 : decode cX12_gatherNode 126 = .ok (.aload_n 0, 1) := by decide +kernel
theorem dX12_gatherNode_127 : decode cX12_gatherNode 127 = .ok (.getfield 248, 3) := by decide +kernel
theorem dX12_gatherNode_130 : decode cX12_gatherNode 130 = .ok (.aload_n 0, 1) := by decide +kernel
theorem dX12_gatherNode_131 : decode cX12_gatherNode 131 = .ok (.getfield 138, 3) := by decide +kernel
theorem dX12_gatherNode_134 : decode cX12_gatherNode 134 = .ok (.iload_n 1, 1) := by decide +kernel
theorem dX12_gatherNode_135 : decode cX12_gatherNode 135 = .ok (.iaload, 1) := by decide +kernel
theorem dX12_gatherNode_136 : decode cX12_gatherNode 136 = .ok (.bipush 97, 2) := by decide +kernel
theorem dX12_gatherNode_138 : decode cX12_gatherNode 138 = .ok (.isub, 1) := by decide +kernel
theorem dX12_gatherNode_139 : decode cX12_gatherNode 139 = .ok (.baload, 1) := by decide +kernel
theorem dX12_gatherNode_140 : decode cX12_gatherNode 140 = .ok (.ifCond .eq 7, 3) := by decide +kernel
theorem dX12_gatherNode_143 : decode cX12_gatherNode 143 = .ok (.iconst 1, 1) := by decide +kernel
theorem dX12_gatherNode_144 : decode cX12_gatherNode 144 = .ok (.goto 4, 3) := by decide +kernel
theorem dX12_gatherNode_147 : decode cX12_gatherNode 147 = .ok (.iconst 0, 1) := by decide +kernel
theorem dX12_gatherNode_148 : decode cX12_gatherNode 148 = .ok (.ireturn, 1) := by decide +kernel
theorem dX12_gatherNode_149 : decode cX12_gatherNode 149 = .ok (.aload_n 0, 1) := by decide +kernel
theorem dX12_gatherNode_150 : decode cX12_gatherNode 150 = .ok (.iload_n 1, 1) := by decide +kernel
theorem dX12_gatherNode_151 : decode cX12_gatherNode 151 = .ok (.invokevirtual 484, 3) := by decide +kernel
theorem dX12_gatherNode_154 : decode cX12_gatherNode 154 = .ok (.istore_n 3, 1) := by decide +kernel
theorem dX12_gatherNode_155 : decode cX12_gatherNode 155 = .ok (.aload_n 0, 1) := by decide +kernel
theorem dX12_gatherNode_156 : decode cX12_gatherNode 156 = .ok (.getfield 135, 3) := by decide +kernel
theorem dX12_gatherNode_159 : decode cX12_gatherNode 159 = .ok (.iload_n 1, 1) := by decide +kernel
theorem dX12_gatherNode_160 : decode cX12_gatherNode 160 = .ok (.iaload, 1) := by decide +kernel
theorem dX12_gatherNode_161 : decode cX12_gatherNode 161 = .ok (.iconst 2, 1) := by decide +kernel
theorem dX12_gatherNode_162 : decode cX12_gatherNode 162 = .ok (.if_icmp .eq 19, 3) := by decide +kernel
theorem dX12_gatherNode_165 : decode cX12_gatherNode 165 = .ok (.aload_n 0, 1) := by decide +kernel
theorem dX12_gatherNode_166 : decode cX12_gatherNode 166 = .ok (.getfield 144, 3) := by decide +kernel
theorem dX12_gatherNode_169 : decode cX12_gatherNode 169 = .ok (.iload_n 1, 1) := by decide +kernel
theorem dX12_gatherNode_170 : decode cX12_gatherNode 170 = .ok (.iaload, 1) := by decide +kernel
theorem dX12_gatherNode_171 : decode cX12_gatherNode 171 = .ok (.iconst 1, 1) := by decide +kernel
theorem dX12_gatherNode_172 : decode cX12_gatherNode 172 = .ok (.if_icmp .ne 11, 3) := by decide +kernel
theorem dX12_gatherNode_175 : decode cX12_gatherNode 175 = .ok (.iload_n 3, 1) := by decide +kernel
theorem dX12_gatherNode_176 : decode cX12_gatherNode 176 = .ok (.bipush 11, 2) := by decide +kernel
theorem dX12_gatherNode_178 : decode cX12_gatherNode 178 = .ok (.if_icmp .eq 5, 3) := by decide +kernel
theorem dX12_gatherNode_181 : decode cX12_gatherNode 181 = .ok (.iconst 0, 1) := by decide +kernel
theorem dX12_gatherNode_182 : decode cX12_gatherNode 182 = .ok (.ireturn, 1) := by decide +kernel
theorem dX12_gatherNode_183 : decode cX12_gatherNode 183 = .ok (.aload_n 0, 1) := by decide +kernel
theorem dX12_gatherNode_184 : decode cX12_gatherNode 184 = .ok (.getfield 144, 3) := by decide +kernel
theorem dX12_gatherNode_187 : decode cX12_gatherNode 187 = .ok (.iload_n 1, 1) := by decide +kernel
theorem dX12_gatherNode_188 : decode cX12_gatherNode 188 = .ok (.iaload, 1) := by decide +kernel
theorem dX12_gatherNode_189 : decode cX12_gatherNode 189 = .ok (.iconst 2, 1) := by decide +kernel
theorem dX12_gatherNode_190 : decode cX12_gatherNode 190 = .ok (.if_icmp .ne 10, 3) := by decide +kernel
theorem dX12_gatherNode_193 : decode cX12_gatherNode 193 = .ok (.aload_n 0, 1) := by decide +kernel
theorem dX12_gatherNode_194 : decode cX12_gatherNode 194 = .ok (.iload_n 1, 1) := by decide +kernel
theorem dX12_gatherNode_195 : decode cX12_gatherNode 195 = .ok (.iload_n 3, 1) := by decide +kernel
theorem dX12_gatherNode_196 : decode cX12_gatherNode 196 = .ok (.invokevirtual 594, 3) := by decide +kernel
