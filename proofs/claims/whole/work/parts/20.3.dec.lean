theorem dX12_becomesInner_1 : decode cX12_becomesInner 1 = .ok (.getfield 147, 3) := by decide +kernel
theorem dX12_becomesInner_4 : decode cX12_becomesInner 4 = .ok (.iload_n 1, 1) := by decide +kernel
theorem dX12_becomesInner_5 : decode cX12_becomesInner 5 = .ok (.iaload, 1) := by decide +kernel
theorem dX12_becomesInner_6 : decode cX12_becomesInner 6 = .ok (.istore_n 3, 1) := by decide +kernel
theorem dX12_becomesInner_7 : decode cX12_becomesInner 7 = .ok (.aload_n 0, 1) := by decide +kernel
theorem dX12_becomesInner_8 : decode cX12_becomesInner 8 = .ok (.getfield 147, 3) := by decide +kernel
theorem dX12_becomesInner_11 : decode cX12_becomesInner 11 = .ok (.iload_n 2, 1) := by decide +kernel
theorem dX12_becomesInner_12 : decode cX12_becomesInner 12 = .ok (.iaload, 1) := by decide +kernel
theorem dX12_becomesInner_13 : decode cX12_becomesInner 13 = .ok (.istore 4, 2) := by decide +kernel
theorem dX12_becomesInner_15 : decode cX12_becomesInner 15 = .ok (.aload_n 0, 1) := by decide +kernel
theorem dX12_becomesInner_16 : decode cX12_becomesInner 16 = .ok (.iload_n 1, 1) := by decide +kernel
theorem dX12_becomesInner_17 : decode cX12_becomesInner 17 = .ok (.iload_n 2, 1) := by decide +kernel
theorem dX12_becomesInner_18 : decode cX12_becomesInner 18 = .ok (.iload 4, 2) := by decide +kernel
theorem dX12_becomesInner_20 : decode cX12_becomesInner 20 = .ok (.invokevirtual 515, 3) := by decide +kernel
theorem dX12_becomesInner_23 : decode cX12_becomesInner 23 = .ok (.iload_n 1, 1) := by decide +kernel
theorem dX12_becomesInner_24 : decode cX12_becomesInner 24 = .ok (.iload 4, 2) := by decide +kernel
theorem dX12_becomesInner_26 : decode cX12_becomesInner 26 = .ok (.iadd, 1) := by decide +kernel
theorem dX12_becomesInner_27 : decode cX12_becomesInner 27 = .ok (.istore 5, 2) := by decide +kernel
theorem dX12_becomesInner_29 : decode cX12_becomesInner 29 = .ok (.iload 5, 2) := by decide +kernel
theorem dX12_becomesInner_31 : decode cX12_becomesInner 31 = .ok (.iload_n 3, 1) := by decide +kernel
theorem dX12_becomesInner_32 : decode cX12_becomesInner 32 = .ok (.iadd, 1) := by decide +kernel
theorem dX12_becomesInner_33 : decode cX12_becomesInner 33 = .ok (.iload 4, 2) := by decide +kernel
theorem dX12_becomesInner_35 : decode cX12_becomesInner 35 = .ok (.isub, 1) := by decide +kernel
theorem dX12_becomesInner_36 : decode cX12_becomesInner 36 = .ok (.sipush 13540, 3) := by decide +kernel
theorem dX12_becomesInner_39 : decode cX12_becomesInner 39 = .ok (.aload_n 0, 1) := by decide +kernel
theorem dX12_becomesInner_40 : decode cX12_becomesInner 40 = .ok (.getfield 512, 3) := by decide +kernel
theorem dX12_becomesInner_43 : decode cX12_becomesInner 43 = .ok (.iadd, 1) := by decide +kernel
theorem dX12_becomesInner_44 : decode cX12_becomesInner 44 = .ok (.if_icmp .ge 23, 3) := by decide +kernel
theorem dX12_becomesInner_47 : decode cX12_becomesInner 47 = .ok (.aload_n 0, 1) := by decide +kernel
theorem dX12_becomesInner_48 : decode cX12_becomesInner 48 = .ok (.iload 5, 2) := by decide +kernel
theorem dX12_becomesInner_50 : decode cX12_becomesInner 50 = .ok (.iload 5, 2) := by decide +kernel
theorem dX12_becomesInner_52 : decode cX12_becomesInner 52 = .ok (.iload_n 3, 1) := by decide +kernel
theorem dX12_becomesInner_53 : decode cX12_becomesInner 53 = .ok (.iadd, 1) := by decide +kernel
theorem dX12_becomesInner_54 : decode cX12_becomesInner 54 = .ok (.iload 4, 2) := by decide +kernel
theorem dX12_becomesInner_56 : decode cX12_becomesInner 56 = .ok (.isub, 1) := by decide +kernel
theorem dX12_becomesInner_57 : decode cX12_becomesInner 57 = .ok (.iconst 1, 1) := by decide +kernel
theorem dX12_becomesInner_58 : decode cX12_becomesInner 58 = .ok (.invokevirtual 515, 3) := by decide +kernel
theorem dX12_becomesInner_61 : decode cX12_becomesInner 61 = .ok (.iinc 5 1, 3) := by decide +kernel
theorem dX12_becomesInner_64 : decode cX12_becomesInner 64 = .ok (.goto (-35), 3) := by decide +kernel
theorem dX12_becomesInner_67 : decode cX12_becomesInner 67 = .ok (.aload_n 0, 1) := by decide +kernel
theorem dX12_becomesInner_68 : decode cX12_becomesInner 68 = .ok (.dup, 1) := by decide +kernel
theorem dX12_becomesInner_69 : decode cX12_becomesInner 69 = .ok (.getfield 512, 3) := by decide +kernel
theorem dX12_becomesInner_72 : decode cX12_becomesInner 72 = .ok (.iload_n 3, 1) := by decide +kernel
theorem dX12_becomesInner_73 : decode cX12_becomesInner 73 = .ok (.iload 4, 2) := by decide +kernel
theorem dX12_becomesInner_75 : decode cX12_becomesInner 75 = .ok (.isub, 1) := by decide +kernel
theorem dX12_becomesInner_76 : decode cX12_becomesInner 76 = .ok (.isub, 1) := by decide +kernel
theorem dX12_becomesInner_77 : decode cX12_becomesInner 77 = .ok (.putfield 512, 3) := by decide +kernel
theorem dX12_becomesInner_80 : decode cX12_becomesInner 80 = .ok (.aload_n 0, 1) := by decide +kernel
theorem dX12_becomesInner_81 : decode cX12_becomesInner 81 = .ok (.sipush 13540, 3) := by decide +kernel
theorem dX12_becomesInner_84 : decode cX12_becomesInner 84 = .ok (.aload_n 0, 1) := by decide +kernel
theorem dX12_becomesInner_85 : decode cX12_becomesInner 85 = .ok (.getfield 512, 3) := by decide +kernel
theorem dX12_becomesInner_88 : decode cX12_becomesInner 88 = .ok (.invokevirtual 389, 3) := by decide +kernel
theorem dX12_becomesInner_91 : decode cX12_becomesInner 91 = .ok (.return_, 1) := by decide +kernel
theorem dX12_isProduct_0 : decode cX12_isProduct 0 = .ok (.aload_n 0, 1) := by decide +kernel
theorem dX12_isProduct_1 : decode cX12_isProduct 1 = .ok (.iload_n 1, 1) := by decide +kernel
theorem dX12_isProduct_2 : decode cX12_isProduct 2 = .ok (.invokevirtual 484, 3) := by decide +kernel
theorem dX12_isProduct_5 : decode cX12_isProduct 5 = .ok (.iconst 2, 1) := by decide +kernel
theorem dX12_isProduct_6 : decode cX12_isProduct 6 = .ok (.if_icmp .ne 18, 3) := by decide +kernel
theorem dX12_isProduct_9 : decode cX12_isProduct 9 = .ok (.aload_n 0, 1) := by decide +kernel
theorem dX12_isProduct_10 : decode cX12_isProduct 10 = .ok (.getfield 135, 3) := by decide +kernel
theorem dX12_isProduct_13 : decode cX12_isProduct 13 = .ok (.iload_n 1, 1) := by decide +kernel
theorem dX12_isProduct_14 : decode cX12_isProduct 14 = .ok (.iconst 1, 1) := by decide +kernel
theorem dX12_isProduct_15 : decode cX12_isProduct 15 = .ok (.iadd, 1) := by decide +kernel
theorem dX12_isProduct_16 : decode cX12_isProduct 16 = .ok (.iaload, 1) := by decide +kernel
theorem dX12_isProduct_17 : decode cX12_isProduct 17 = .ok (.ifCond .ne 7, 3) := by decide +kernel
theorem dX12_isProduct_20 : decode cX12_isProduct 20 = .ok (.iconst 1, 1) := by decide +kernel
theorem dX12_isProduct_21 : decode cX12_isProduct 21 = .ok (.goto 4, 3) := by decide +kernel
theorem dX12_isProduct_24 : decode cX12_isProduct 24 = .ok (.iconst 0, 1) := by decide +kernel
theorem dX12_isProduct_25 : decode cX12_isProduct 25 = .ok (.ireturn, 1) := by decide +kernel
theorem dX12_gathered_0 : decode cX12_gathered 0 = .ok (.aload_n 0, 1) := by decide +kernel
theorem dX12_gathered_1 : decode cX12_gathered 1 = .ok (.iload_n 1, 1) := by decide +kernel
theorem dX12_gathered_2 : decode cX12_gathered 2 = .ok (.invokevirtual 518, 3) := by decide +kernel
theorem dX12_gathered_5 : decode cX12_gathered 5 = .ok (.ifCond .eq 24, 3) := by decide +kernel
theorem dX12_gathered_8 : decode cX12_gathered 8 = .ok (.aload_n 0, 1) := by decide +kernel
theorem dX12_gathered_9 : decode cX12_gathered 9 = .ok (.iload_n 2, 1) := by decide +kernel
theorem dX12_gathered_10 : decode cX12_gathered 10 = .ok (.invokevirtual 518, 3) := by decide +kernel
theorem dX12_gathered_13 : decode cX12_gathered 13 = .ok (.ifCond .eq 16, 3) := by decide +kernel
theorem dX12_gathered_16 : decode cX12_gathered 16 = .ok (.aload_n 0, 1) := by decide +kernel
theorem dX12_gathered_17 : decode cX12_gathered 17 = .ok (.iload_n 1, 1) := by decide +kernel
theorem dX12_gathered_18 : decode cX12_gathered 18 = .ok (.iconst 2, 1) := by decide +kernel
theorem dX12_gathered_19 : decode cX12_gathered 19 = .ok (.iadd, 1) := by decide +kernel
theorem dX12_gathered_20 : decode cX12_gathered 20 = .ok (.iload_n 2, 1) := by decide +kernel
theorem dX12_gathered_21 : decode cX12_gathered 21 = .ok (.iconst 2, 1) := by decide +kernel
theorem dX12_gathered_22 : decode cX12_gathered 22 = .ok (.iadd, 1) := by decide +kernel
theorem dX12_gathered_23 : decode cX12_gathered 23 = .ok (.invokevirtual 417, 3) := by decide +kernel
theorem dX12_gathered_26 : decode cX12_gathered 26 = .ok (.ifCond .ne 5, 3) := by decide +kernel
theorem dX12_gathered_29 : decode cX12_gathered 29 = .ok (.iconst (-1), 1) := by decide +kernel
theorem dX12_gathered_30 : decode cX12_gathered 30 = .ok (.ireturn, 1) := by decide +kernel
theorem dX12_gathered_31 : decode cX12_gathered 31 = .ok (.aload_n 0, 1) := by decide +kernel
theorem dX12_gathered_32 : decode cX12_gathered 32 = .ok (.getfield 138, 3) := by decide +kernel
theorem dX12_gathered_35 : decode cX12_gathered 35 = .ok (.iload_n 1, 1) := by decide +kernel
theorem dX12_gathered_36 : decode cX12_gathered 36 = .ok (.iconst 1, 1) := by decide +kernel
theorem dX12_gathered_37 : decode cX12_gathered 37 = .ok (.iadd, 1) := by decide +kernel
theorem dX12_gathered_38 : decode cX12_gathered 38 = .ok (.iaload, 1) := by decide +kernel
theorem dX12_gathered_39 : decode cX12_gathered 39 = .ok (.aload_n 0, 1) := by decide +kernel
theorem dX12_gathered_40 : decode cX12_gathered 40 = .ok (.getfield 138, 3) := by decide +kernel
theorem dX12_gathered_43 : decode cX12_gathered 43 = .ok (.iload_n 2, 1) := by decide +kernel
theorem dX12_gathered_44 : decode cX12_gathered 44 = .ok (.iconst 1, 1) := by decide +kernel
theorem dX12_gathered_45 : decode cX12_gathered 45 = .ok (.iadd, 1) := by decide +kernel
theorem dX12_gathered_46 : decode cX12_gathered 46 = .ok (.iaload, 1) := by decide +kernel
theorem dX12_gathered_47 : decode cX12_gathered 47 = .ok (.iadd, 1) := by decide +kernel
theorem dX12_gathered_48 : decode cX12_gathered 48 = .ok (.istore_n 3, 1) := by decide +kernel
theorem dX12_gathered_49 : decode cX12_gathered 49 = .ok (.iload_n 3, 1) := by decide +kernel
theorem dX12_gathered_50 : decode cX12_gathered 50 = .ok (.ldc_w 521, 3) := by decide +kernel
theorem dX12_gathered_53 : decode cX12_gathered 53 = .ok (.if_icmp .gt 7, 3) := by decide +kernel
theorem dX12_gathered_56 : decode cX12_gathered 56 = .ok (.iload_n 3, 1) := by decide +kernel
theorem dX12_gathered_57 : decode cX12_gathered 57 = .ok (.goto 4, 3) := by decide +kernel
theorem dX12_gathered_60 : decode cX12_gathered 60 = .ok (.iconst (-1), 1) := by decide +kernel
theorem dX12_gathered_61 : decode cX12_gathered 61 = .ok (.ireturn, 1) := by decide +kernel
theorem dX12_ruleOfTwo_0 : decode cX12_ruleOfTwo 0 = .ok (.iload_n 1, 1) := by decide +kernel
theorem dX12_ruleOfTwo_1 : decode cX12_ruleOfTwo 1 = .ok (.iconst 1, 1) := by decide +kernel
theorem dX12_ruleOfTwo_2 : decode cX12_ruleOfTwo 2 = .ok (.iadd, 1) := by decide +kernel
theorem dX12_ruleOfTwo_3 : decode cX12_ruleOfTwo 3 = .ok (.istore_n 3, 1) := by decide +kernel
theorem dX12_ruleOfTwo_4 : decode cX12_ruleOfTwo 4 = .ok (.aload_n 0, 1) := by decide +kernel
theorem dX12_ruleOfTwo_5 : decode cX12_ruleOfTwo 5 = .ok (.iload_n 1, 1) := by decide +kernel
theorem dX12_ruleOfTwo_6 : decode cX12_ruleOfTwo 6 = .ok (.iconst 1, 1) := by decide +kernel
theorem dX12_ruleOfTwo_7 : decode cX12_ruleOfTwo 7 = .ok (.invokevirtual 405, 3) := by decide +kernel
theorem dX12_ruleOfTwo_10 : decode cX12_ruleOfTwo 10 = .ok (.istore 4, 2) := by decide +kernel
theorem dX12_ruleOfTwo_12 : decode cX12_ruleOfTwo 12 = .ok (.aload_n 0, 1) := by decide +kernel
theorem dX12_ruleOfTwo_13 : decode cX12_ruleOfTwo 13 = .ok (.getfield 135, 3) := by decide +kernel
theorem dX12_ruleOfTwo_16 : decode cX12_ruleOfTwo 16 = .ok (.iload_n 3, 1) := by decide +kernel
theorem dX12_ruleOfTwo_17 : decode cX12_ruleOfTwo 17 = .ok (.iaload, 1) := by decide +kernel
theorem dX12_ruleOfTwo_18 : decode cX12_ruleOfTwo 18 = .ok (.ifCond .ne 34, 3) := by decide +kernel
theorem dX12_ruleOfTwo_21 : decode cX12_ruleOfTwo 21 = .ok (.aload_n 0, 1) := by decide +kernel
theorem dX12_ruleOfTwo_22 : decode cX12_ruleOfTwo 22 = .ok (.getfield 135, 3) := by decide +kernel
theorem dX12_ruleOfTwo_25 : decode cX12_ruleOfTwo 25 = .ok (.iload 4, 2) := by decide +kernel
theorem dX12_ruleOfTwo_27 : decode cX12_ruleOfTwo 27 = .ok (.iaload, 1) := by decide +kernel
theorem dX12_ruleOfTwo_28 : decode cX12_ruleOfTwo 28 = .ok (.ifCond .ne 24, 3) := by decide +kernel
theorem dX12_ruleOfTwo_31 : decode cX12_ruleOfTwo 31 = .ok (.aload_n 0, 1) := by decide +kernel
theorem dX12_ruleOfTwo_32 : decode cX12_ruleOfTwo 32 = .ok (.iload_n 2, 1) := by decide +kernel
theorem dX12_ruleOfTwo_33 : decode cX12_ruleOfTwo 33 = .ok (.aload_n 0, 1) := by decide +kernel
theorem dX12_ruleOfTwo_34 : decode cX12_ruleOfTwo 34 = .ok (.getfield 138, 3) := by decide +kernel
theorem dX12_ruleOfTwo_37 : decode cX12_ruleOfTwo 37 = .ok (.iload_n 3, 1) := by decide +kernel
theorem dX12_ruleOfTwo_38 : decode cX12_ruleOfTwo 38 = .ok (.iaload, 1) := by decide +kernel
theorem dX12_ruleOfTwo_39 : decode cX12_ruleOfTwo 39 = .ok (.aload_n 0, 1) := by decide +kernel
theorem dX12_ruleOfTwo_40 : decode cX12_ruleOfTwo 40 = .ok (.getfield 138, 3) := by decide +kernel
theorem dX12_ruleOfTwo_43 : decode cX12_ruleOfTwo 43 = .ok (.iload 4, 2) := by decide +kernel
theorem dX12_ruleOfTwo_45 : decode cX12_ruleOfTwo 45 = .ok (.iaload, 1) := by decide +kernel
theorem dX12_ruleOfTwo_46 : decode cX12_ruleOfTwo 46 = .ok (.invokevirtual 522, 3) := by decide +kernel
theorem dX12_ruleOfTwo_49 : decode cX12_ruleOfTwo 49 = .ok (.goto 4, 3) := by decide +kernel
theorem dX12_ruleOfTwo_52 : decode cX12_ruleOfTwo 52 = .ok (.iconst (-1), 1) := by decide +kernel
theorem dX12_ruleOfTwo_53 : decode cX12_ruleOfTwo 53 = .ok (.istore 5, 2) := by decide +kernel
theorem dX12_ruleOfTwo_55 : decode cX12_ruleOfTwo 55 = .ok (.iload 5, 2) := by decide +kernel
theorem dX12_ruleOfTwo_57 : decode cX12_ruleOfTwo 57 = .ok (.ifCond .lt 12, 3) := by decide +kernel
theorem dX12_ruleOfTwo_60 : decode cX12_ruleOfTwo 60 = .ok (.aload_n 0, 1) := by decide +kernel
theorem dX12_ruleOfTwo_61 : decode cX12_ruleOfTwo 61 = .ok (.iload_n 1, 1) := by decide +kernel
theorem dX12_ruleOfTwo_62 : decode cX12_ruleOfTwo 62 = .ok (.iload 5, 2) := by decide +kernel
theorem dX12_ruleOfTwo_64 : decode cX12_ruleOfTwo 64 = .ok (.invokevirtual 525, 3) := by decide +kernel
theorem dX12_ruleOfTwo_67 : decode cX12_ruleOfTwo 67 = .ok (.iconst 1, 1) := by decide +kernel
theorem dX12_ruleOfTwo_68 : decode cX12_ruleOfTwo 68 = .ok (.ireturn, 1) := by decide +kernel
theorem dX12_ruleOfTwo_69 : decode cX12_ruleOfTwo 69 = .ok (.iload_n 2, 1) := by decide +kernel
theorem dX12_ruleOfTwo_70 : decode cX12_ruleOfTwo 70 = .ok (.ifCond .ne 21, 3) := by decide +kernel
theorem dX12_ruleOfTwo_73 : decode cX12_ruleOfTwo 73 = .ok (.aload_n 0, 1) := by decide +kernel
theorem dX12_ruleOfTwo_74 : decode cX12_ruleOfTwo 74 = .ok (.iload_n 3, 1) := by decide +kernel
theorem dX12_ruleOfTwo_75 : decode cX12_ruleOfTwo 75 = .ok (.iconst 0, 1) := by decide +kernel
theorem dX12_ruleOfTwo_76 : decode cX12_ruleOfTwo 76 = .ok (.invokevirtual 528, 3) := by decide +kernel
theorem dX12_ruleOfTwo_79 : decode cX12_ruleOfTwo 79 = .ok (.ifCond .eq 12, 3) := by decide +kernel
theorem dX12_ruleOfTwo_82 : decode cX12_ruleOfTwo 82 = .ok (.aload_n 0, 1) := by decide +kernel
theorem dX12_ruleOfTwo_83 : decode cX12_ruleOfTwo 83 = .ok (.iload_n 1, 1) := by decide +kernel
theorem dX12_ruleOfTwo_84 : decode cX12_ruleOfTwo 84 = .ok (.iload 4, 2) := by decide +kernel
theorem dX12_ruleOfTwo_86 : decode cX12_ruleOfTwo 86 = .ok (.invokevirtual 531, 3) := by decide +kernel
theorem dX12_ruleOfTwo_89 : decode cX12_ruleOfTwo 89 = .ok (.iconst 2, 1) := by decide +kernel
theorem dX12_ruleOfTwo_90 : decode cX12_ruleOfTwo 90 = .ok (.ireturn, 1) := by decide +kernel
theorem dX12_ruleOfTwo_91 : decode cX12_ruleOfTwo 91 = .ok (.iload_n 2, 1) := by decide +kernel
theorem dX12_ruleOfTwo_92 : decode cX12_ruleOfTwo 92 = .ok (.ifCond .eq 8, 3) := by decide +kernel
theorem dX12_ruleOfTwo_95 : decode cX12_ruleOfTwo 95 = .ok (.iload_n 2, 1) := by decide +kernel
theorem dX12_ruleOfTwo_96 : decode cX12_ruleOfTwo 96 = .ok (.iconst 1, 1) := by decide +kernel
theorem dX12_ruleOfTwo_97 : decode cX12_ruleOfTwo 97 = .ok (.if_icmp .ne 21, 3) := by decide +kernel
theorem dX12_ruleOfTwo_100 : decode cX12_ruleOfTwo 100 = .ok (.aload_n 0, 1) := by decide +kernel
theorem dX12_ruleOfTwo_101 : decode cX12_ruleOfTwo 101 = .ok (.iload 4, 2) := by decide +kernel
theorem dX12_ruleOfTwo_103 : decode cX12_ruleOfTwo 103 = .ok (.iconst 0, 1) := by decide +kernel
theorem dX12_ruleOfTwo_104 : decode cX12_ruleOfTwo 104 = .ok (.invokevirtual 528, 3) := by decide +kernel
theorem dX12_ruleOfTwo_107 : decode cX12_ruleOfTwo 107 = .ok (.ifCond .eq 11, 3) := by decide +kernel
theorem dX12_ruleOfTwo_110 : decode cX12_ruleOfTwo 110 = .ok (.aload_n 0, 1) := by decide +kernel
theorem dX12_ruleOfTwo_111 : decode cX12_ruleOfTwo 111 = .ok (.iload_n 1, 1) := by decide +kernel
theorem dX12_ruleOfTwo_112 : decode cX12_ruleOfTwo 112 = .ok (.iload_n 3, 1) := by decide +kernel
theorem dX12_ruleOfTwo_113 : decode cX12_ruleOfTwo 113 = .ok (.invokevirtual 531, 3) := by decide +kernel
theorem dX12_ruleOfTwo_116 : decode cX12_ruleOfTwo 116 = .ok (.iconst 2, 1) := by decide +kernel
theorem dX12_ruleOfTwo_117 : decode cX12_ruleOfTwo 117 = .ok (.ireturn, 1) := by decide +kernel
theorem dX12_ruleOfTwo_118 : decode cX12_ruleOfTwo 118 = .ok (.iload_n 2, 1) := by decide +kernel
theorem dX12_ruleOfTwo_119 : decode cX12_ruleOfTwo 119 = .ok (.iconst 2, 1) := by decide +kernel
theorem dX12_ruleOfTwo_120 : decode cX12_ruleOfTwo 120 = .ok (.if_icmp .ne 21, 3) := by decide +kernel
theorem dX12_ruleOfTwo_123 : decode cX12_ruleOfTwo 123 = .ok (.aload_n 0, 1) := by decide +kernel
theorem dX12_ruleOfTwo_124 : decode cX12_ruleOfTwo 124 = .ok (.iload_n 3, 1) := by decide +kernel
theorem dX12_ruleOfTwo_125 : decode cX12_ruleOfTwo 125 = .ok (.iconst 1, 1) := by decide +kernel
theorem dX12_ruleOfTwo_126 : decode cX12_ruleOfTwo 126 = .ok (.invokevirtual 528, 3) := by decide +kernel
theorem dX12_ruleOfTwo_129 : decode cX12_ruleOfTwo 129 = .ok (.ifCond .eq 12, 3) := by decide +kernel
theorem dX12_ruleOfTwo_132 : decode cX12_ruleOfTwo 132 = .ok (.aload_n 0, 1) := by decide +kernel
theorem dX12_ruleOfTwo_133 : decode cX12_ruleOfTwo 133 = .ok (.iload_n 1, 1) := by decide +kernel
theorem dX12_ruleOfTwo_134 : decode cX12_ruleOfTwo 134 = .ok (.iload 4, 2) := by decide +kernel
theorem dX12_ruleOfTwo_136 : decode cX12_ruleOfTwo 136 = .ok (.invokevirtual 531, 3) := by decide +kernel
theorem dX12_ruleOfTwo_139 : decode cX12_ruleOfTwo 139 = .ok (.iconst 3, 1) := by decide +kernel
theorem dX12_ruleOfTwo_140 : decode cX12_ruleOfTwo 140 = .ok (.ireturn, 1) := by decide +kernel
theorem dX12_ruleOfTwo_141 : decode cX12_ruleOfTwo 141 = .ok (.iload_n 2, 1) := by decide +kernel
theorem dX12_ruleOfTwo_142 : decode cX12_ruleOfTwo 142 = .ok (.iconst 2, 1) := by decide +kernel
theorem dX12_ruleOfTwo_143 : decode cX12_ruleOfTwo 143 = .ok (.if_icmp .eq 13, 3) := by decide +kernel
theorem dX12_ruleOfTwo_146 : decode cX12_ruleOfTwo 146 = .ok (.iload_n 2, 1) := by decide +kernel
theorem dX12_ruleOfTwo_147 : decode cX12_ruleOfTwo 147 = .ok (.iconst 3, 1) := by decide +kernel
theorem dX12_ruleOfTwo_148 : decode cX12_ruleOfTwo 148 = .ok (.if_icmp .eq 8, 3) := by decide +kernel
theorem dX12_ruleOfTwo_151 : decode cX12_ruleOfTwo 151 = .ok (.iload_n 2, 1) := by decide +kernel
theorem dX12_ruleOfTwo_152 : decode cX12_ruleOfTwo 152 = .ok (.iconst 5, 1) := by decide +kernel
theorem dX12_ruleOfTwo_153 : decode cX12_ruleOfTwo 153 = .ok (.if_icmp .ne 21, 3) := by decide +kernel
theorem dX12_ruleOfTwo_156 : decode cX12_ruleOfTwo 156 = .ok (.aload_n 0, 1) := by decide +kernel
theorem dX12_ruleOfTwo_157 : decode cX12_ruleOfTwo 157 = .ok (.iload 4, 2) := by decide +kernel
theorem dX12_ruleOfTwo_159 : decode cX12_ruleOfTwo 159 = .ok (.iconst 1, 1) := by decide +kernel
theorem dX12_ruleOfTwo_160 : decode cX12_ruleOfTwo 160 = .ok (.invokevirtual 528, 3) := by decide +kernel
theorem dX12_ruleOfTwo_163 : decode cX12_ruleOfTwo 163 = .ok (.ifCond .eq 11, 3) := by decide +kernel
theorem dX12_ruleOfTwo_166 : decode cX12_ruleOfTwo 166 = .ok (.aload_n 0, 1) := by decide +kernel
theorem dX12_ruleOfTwo_167 : decode cX12_ruleOfTwo 167 = .ok (.iload_n 1, 1) := by decide +kernel
theorem dX12_ruleOfTwo_168 : decode cX12_ruleOfTwo 168 = .ok (.iload_n 3, 1) := by decide +kernel
theorem dX12_ruleOfTwo_169 : decode cX12_ruleOfTwo 169 = .ok (.invokevirtual 531, 3) := by decide +kernel
theorem dX12_ruleOfTwo_172 : decode cX12_ruleOfTwo 172 = .ok (.iconst 3, 1) := by decide +kernel
theorem dX12_ruleOfTwo_173 : decode cX12_ruleOfTwo 173 = .ok (.ireturn, 1) := by decide +kernel
theorem dX12_ruleOfTwo_174 : decode cX12_ruleOfTwo 174 = .ok (.iload_n 2, 1) := by decide +kernel
theorem dX12_ruleOfTwo_175 : decode cX12_ruleOfTwo 175 = .ok (.iconst 2, 1) := by decide +kernel
theorem dX12_ruleOfTwo_176 : decode cX12_ruleOfTwo 176 = .ok (.if_icmp .ne 30, 3) := by decide +kernel
theorem dX12_ruleOfTwo_179 : decode cX12_ruleOfTwo 179 = .ok (.aload_n 0, 1) := by decide +kernel
theorem dX12_ruleOfTwo_180 : decode cX12_ruleOfTwo 180 = .ok (.iload_n 3, 1) := by decide +kernel
theorem dX12_ruleOfTwo_181 : decode cX12_ruleOfTwo 181 = .ok (.iconst 0, 1) := by decide +kernel
theorem dX12_ruleOfTwo_182 : decode cX12_ruleOfTwo 182 = .ok (.invokevirtual 528, 3) := by decide +kernel
theorem dX12_ruleOfTwo_185 : decode cX12_ruleOfTwo 185 = .ok (.ifCond .ne 13, 3) := by decide +kernel
theorem dX12_ruleOfTwo_188 : decode cX12_ruleOfTwo 188 = .ok (.aload_n 0, 1) := by decide +kernel
theorem dX12_ruleOfTwo_189 : decode cX12_ruleOfTwo 189 = .ok (.iload 4, 2) := by decide +kernel
theorem dX12_ruleOfTwo_191 : decode cX12_ruleOfTwo 191 = .ok (.iconst 0, 1) := by decide +kernel
theorem dX12_ruleOfTwo_192 : decode cX12_ruleOfTwo 192 = .ok (.invokevirtual 528, 3) := by decide +kernel
theorem dX12_ruleOfTwo_195 : decode cX12_ruleOfTwo 195 = .ok (.ifCond .eq 11, 3) := by decide +kernel
theorem dX12_ruleOfTwo_198 : decode cX12_ruleOfTwo 198 = .ok (.aload_n 0, 1) := by decide +kernel
theorem dX12_ruleOfTwo_199 : decode cX12_ruleOfTwo 199 = .ok (.iload_n 1, 1) := by decide +kernel
theorem dX12_ruleOfTwo_200 : decode cX12_ruleOfTwo 200 = .ok (.iconst 0, 1) := by decide +kernel
theorem dX12_ruleOfTwo_201 : decode cX12_ruleOfTwo 201 = .ok (.invokevirtual 525, 3) := by decide +kernel
theorem dX12_ruleOfTwo_204 : decode cX12_ruleOfTwo 204 = .ok (.iconst 4, 1) := by decide +kernel
theorem dX12_ruleOfTwo_205 : decode cX12_ruleOfTwo 205 = .ok (.ireturn, 1) := by decide +kernel
theorem dX12_ruleOfTwo_206 : decode cX12_ruleOfTwo 206 = .ok (.iload_n 2, 1) := by decide +kernel
theorem dX12_ruleOfTwo_207 : decode cX12_ruleOfTwo 207 = .ok (.iconst 1, 1) := by decide +kernel
theorem dX12_ruleOfTwo_208 : decode cX12_ruleOfTwo 208 = .ok (.if_icmp .eq 8, 3) := by decide +kernel
theorem dX12_ruleOfTwo_211 : decode cX12_ruleOfTwo 211 = .ok (.iload_n 2, 1) := by decide +kernel
theorem dX12_ruleOfTwo_212 : decode cX12_ruleOfTwo 212 = .ok (.iconst 3, 1) := by decide +kernel
theorem dX12_ruleOfTwo_213 : decode cX12_ruleOfTwo 213 = .ok (.if_icmp .ne 30, 3) := by decide +kernel
theorem dX12_ruleOfTwo_216 : decode cX12_ruleOfTwo 216 = .ok (.aload_n 0, 1) := by decide +kernel
theorem dX12_ruleOfTwo_217 : decode cX12_ruleOfTwo 217 = .ok (.iload_n 3, 1) := by decide +kernel
theorem dX12_ruleOfTwo_218 : decode cX12_ruleOfTwo 218 = .ok (.iload 4, 2) := by decide +kernel
theorem dX12_ruleOfTwo_220 : decode cX12_ruleOfTwo 220 = .ok (.invokevirtual 417, 3) := by decide +kernel
theorem dX12_ruleOfTwo_223 : decode cX12_ruleOfTwo 223 = .ok (.ifCond .eq 20, 3) := by decide +kernel
theorem dX12_ruleOfTwo_226 : decode cX12_ruleOfTwo 226 = .ok (.aload_n 0, 1) := by decide +kernel
theorem dX12_ruleOfTwo_227 : decode cX12_ruleOfTwo 227 = .ok (.iload_n 1, 1) := by decide +kernel
theorem dX12_ruleOfTwo_228 : decode cX12_ruleOfTwo 228 = .ok (.iload_n 2, 1) := by decide +kernel
theorem dX12_ruleOfTwo_229 : decode cX12_ruleOfTwo 229 = .ok (.iconst 3, 1) := by decide +kernel
theorem dX12_ruleOfTwo_230 : decode cX12_ruleOfTwo 230 = .ok (.if_icmp .ne 7, 3) := by decide +kernel
theorem dX12_ruleOfTwo_233 : decode cX12_ruleOfTwo 233 = .ok (.iconst 1, 1) := by decide +kernel
theorem dX12_ruleOfTwo_234 : decode cX12_ruleOfTwo 234 = .ok (.goto 4, 3) := by decide +kernel
theorem dX12_ruleOfTwo_237 : decode cX12_ruleOfTwo 237 = .ok (.iconst 0, 1) := by decide +kernel
theorem dX12_ruleOfTwo_238 : decode cX12_ruleOfTwo 238 = .ok (.invokevirtual 525, 3) := by decide +kernel
theorem dX12_ruleOfTwo_241 : decode cX12_ruleOfTwo 241 = .ok (.iconst 5, 1) := by decide +kernel
theorem dX12_ruleOfTwo_242 : decode cX12_ruleOfTwo 242 = .ok (.ireturn, 1) := by decide +kernel
theorem dX12_ruleOfTwo_243 : decode cX12_ruleOfTwo 243 = .ok (.iload_n 2, 1) := by decide +kernel
theorem dX12_ruleOfTwo_244 : decode cX12_ruleOfTwo 244 = .ok (.ifCond .ne 13, 3) := by decide +kernel
theorem dX12_ruleOfTwo_247 : decode cX12_ruleOfTwo 247 = .ok (.aload_n 0, 1) := by decide +kernel
theorem dX12_ruleOfTwo_248 : decode cX12_ruleOfTwo 248 = .ok (.iload_n 3, 1) := by decide +kernel
theorem dX12_ruleOfTwo_249 : decode cX12_ruleOfTwo 249 = .ok (.iload 4, 2) := by decide +kernel
theorem dX12_ruleOfTwo_251 : decode cX12_ruleOfTwo 251 = .ok (.invokevirtual 534, 3) := by decide +kernel
theorem dX12_ruleOfTwo_254 : decode cX12_ruleOfTwo 254 = .ok (.goto 4, 3) := by decide +kernel
theorem dX12_ruleOfTwo_257 : decode cX12_ruleOfTwo 257 = .ok (.iconst (-1), 1) := by decide +kernel
theorem dX12_ruleOfTwo_258 : decode cX12_ruleOfTwo 258 = .ok (.istore 6, 2) := by decide +kernel
theorem dX12_ruleOfTwo_260 : decode cX12_ruleOfTwo 260 = .ok (.iload 6, 2) := by decide +kernel
theorem dX12_ruleOfTwo_262 : decode cX12_ruleOfTwo 262 = .ok (.ifCond .lt 22, 3) := by decide +kernel
theorem dX12_ruleOfTwo_265 : decode cX12_ruleOfTwo 265 = .ok (.aload_n 0, 1) := by decide +kernel
theorem dX12_ruleOfTwo_266 : decode cX12_ruleOfTwo 266 = .ok (.getfield 138, 3) := by decide +kernel
theorem dX12_ruleOfTwo_269 : decode cX12_ruleOfTwo 269 = .ok (.iload_n 3, 1) := by decide +kernel
theorem dX12_ruleOfTwo_270 : decode cX12_ruleOfTwo 270 = .ok (.iconst 1, 1) := by decide +kernel
theorem dX12_ruleOfTwo_271 : decode cX12_ruleOfTwo 271 = .ok (.iadd, 1) := by decide +kernel
theorem dX12_ruleOfTwo_272 : decode cX12_ruleOfTwo 272 = .ok (.iload 6, 2) := by decide +kernel
theorem dX12_ruleOfTwo_274 : decode cX12_ruleOfTwo 274 = .ok (.iastore, 1) := by decide +kernel
theorem dX12_ruleOfTwo_275 : decode cX12_ruleOfTwo 275 = .ok (.aload_n 0, 1) := by decide +kernel
theorem dX12_ruleOfTwo_276 : decode cX12_ruleOfTwo 276 = .ok (.iload_n 1, 1) := by decide +kernel
theorem dX12_ruleOfTwo_277 : decode cX12_ruleOfTwo 277 = .ok (.iload_n 3, 1) := by decide +kernel
theorem dX12_ruleOfTwo_278 : decode cX12_ruleOfTwo 278 = .ok (.invokevirtual 531, 3) := by decide +kernel
theorem dX12_ruleOfTwo_281 : decode cX12_ruleOfTwo 281 = .ok (.bipush 7, 2) := by decide +kernel
theorem dX12_ruleOfTwo_283 : decode cX12_ruleOfTwo 283 = .ok (.ireturn, 1) := by decide +kernel
theorem dX12_ruleOfTwo_284 : decode cX12_ruleOfTwo 284 = .ok (.iconst 0, 1) := by decide +kernel
theorem dX12_ruleOfTwo_285 : decode cX12_ruleOfTwo 285 = .ok (.ireturn, 1) := by decide +kernel
theorem dX12_ruleAt_0 : decode cX12_ruleAt 0 = .ok (.aload_n 0, 1) := by decide +kernel
theorem dX12_ruleAt_1 : decode cX12_ruleAt 1 = .ok (.iload_n 1, 1) := by decide +kernel
theorem dX12_ruleAt_2 : decode cX12_ruleAt 2 = .ok (.invokevirtual 484, 3) := by decide +kernel
theorem dX12_ruleAt_5 : decode cX12_ruleAt 5 = .ok (.istore_n 2, 1) := by decide +kernel
theorem dX12_ruleAt_6 : decode cX12_ruleAt 6 = .ok (.iload_n 2, 1) := by decide +kernel
theorem dX12_ruleAt_7 : decode cX12_ruleAt 7 = .ok (.bipush 11, 2) := by decide +kernel
theorem dX12_ruleAt_9 : decode cX12_ruleAt 9 = .ok (.if_icmp .ne 26, 3) := by decide +kernel
theorem dX12_ruleAt_12 : decode cX12_ruleAt 12 = .ok (.aload_n 0, 1) := by decide +kernel
theorem dX12_ruleAt_13 : decode cX12_ruleAt 13 = .ok (.iload_n 1, 1) := by decide +kernel
theorem dX12_ruleAt_14 : decode cX12_ruleAt 14 = .ok (.iconst 1, 1) := by decide +kernel
theorem dX12_ruleAt_15 : decode cX12_ruleAt 15 = .ok (.iadd, 1) := by decide +kernel
theorem dX12_ruleAt_16 : decode cX12_ruleAt 16 = .ok (.invokevirtual 484, 3) := by decide +kernel
theorem dX12_ruleAt_19 : decode cX12_ruleAt 19 = .ok (.bipush 11, 2) := by decide +kernel
theorem dX12_ruleAt_21 : decode cX12_ruleAt 21 = .ok (.if_icmp .ne 14, 3) := by decide +kernel
theorem dX12_ruleAt_24 : decode cX12_ruleAt 24 = .ok (.aload_n 0, 1) := by decide +kernel
theorem dX12_ruleAt_25 : decode cX12_ruleAt 25 = .ok (.iload_n 1, 1) := by decide +kernel
theorem dX12_ruleAt_26 : decode cX12_ruleAt 26 = .ok (.iload_n 1, 1) := by decide +kernel
theorem dX12_ruleAt_27 : decode cX12_ruleAt 27 = .ok (.iconst 2, 1) := by decide +kernel
theorem dX12_ruleAt_28 : decode cX12_ruleAt 28 = .ok (.iadd, 1) := by decide +kernel
theorem dX12_ruleAt_29 : decode cX12_ruleAt 29 = .ok (.invokevirtual 531, 3) := by decide +kernel
theorem dX12_ruleAt_32 : decode cX12_ruleAt 32 = .ok (.bipush 6, 2) := by decide +kernel
theorem dX12_ruleAt_34 : decode cX12_ruleAt 34 = .ok (.ireturn, 1) := by decide +kernel
theorem dX12_ruleAt_35 : decode cX12_ruleAt 35 = .ok (.iload_n 2, 1) := by decide +kernel
theorem dX12_ruleAt_36 : decode cX12_ruleAt 36 = .ok (.iconst 0, 1) := by decide +kernel
theorem dX12_ruleAt_37 : decode cX12_ruleAt 37 = .ok (.iconst 5, 1) := by decide +kernel
theorem dX12_ruleAt_38 : decode cX12_ruleAt 38 = .ok (.invokestatic 106, 3) := by decide +kernel
theorem dX12_ruleAt_41 : decode cX12_ruleAt 41 = .ok (.ifCond .eq 22, 3) := by decide +kernel
theorem dX12_ruleAt_44 : decode cX12_ruleAt 44 = .ok (.aload_n 0, 1) := by decide +kernel
theorem dX12_ruleAt_45 : decode cX12_ruleAt 45 = .ok (.getfield 144, 3) := by decide +kernel
theorem dX12_ruleAt_48 : decode cX12_ruleAt 48 = .ok (.iload_n 1, 1) := by decide +kernel
theorem dX12_ruleAt_49 : decode cX12_ruleAt 49 = .ok (.iaload, 1) := by decide +kernel
theorem dX12_ruleAt_50 : decode cX12_ruleAt 50 = .ok (.iconst 2, 1) := by decide +kernel
theorem dX12_ruleAt_51 : decode cX12_ruleAt 51 = .ok (.if_icmp .ne 12, 3) := by decide +kernel
theorem dX12_ruleAt_54 : decode cX12_ruleAt 54 = .ok (.aload_n 0, 1) := by decide +kernel
theorem dX12_ruleAt_55 : decode cX12_ruleAt 55 = .ok (.iload_n 1, 1) := by decide +kernel
theorem dX12_ruleAt_56 : decode cX12_ruleAt 56 = .ok (.iload_n 2, 1) := by decide +kernel
theorem dX12_ruleAt_57 : decode cX12_ruleAt 57 = .ok (.invokevirtual 537, 3) := by decide +kernel
theorem dX12_ruleAt_60 : decode cX12_ruleAt 60 = .ok (.goto 4, 3) := by decide +kernel
theorem dX12_ruleAt_63 : decode cX12_ruleAt 63 = .ok (.iconst 0, 1) := by decide +kernel
theorem dX12_ruleAt_64 : decode cX12_ruleAt 64 = .ok (.ireturn, 1) := by decide +kernel
theorem dX12_stepWork_0 : decode cX12_stepWork 0 = .ok (.aload_n 0, 1) := by decide +kernel
theorem dX12_stepWork_1 : decode cX12_stepWork 1 = .ok (.sipush 13540, 3) := by decide +kernel
theorem dX12_stepWork_4 : decode cX12_stepWork 4 = .ok (.invokevirtual 439, 3) := by decide +kernel
theorem dX12_stepWork_7 : decode cX12_stepWork 7 = .ok (.istore_n 1, 1) := by decide +kernel
theorem dX12_stepWork_8 : decode cX12_stepWork 8 = .ok (.iconst 0, 1) := by decide +kernel
theorem dX12_stepWork_9 : decode cX12_stepWork 9 = .ok (.istore_n 2, 1) := by decide +kernel
theorem dX12_stepWork_10 : decode cX12_stepWork 10 = .ok (.iconst 0, 1) := by decide +kernel
theorem dX12_stepWork_11 : decode cX12_stepWork 11 = .ok (.istore_n 3, 1) := by decide +kernel
theorem dX12_stepWork_12 : decode cX12_stepWork 12 = .ok (.iload_n 3, 1) := by decide +kernel
theorem dX12_stepWork_13 : decode cX12_stepWork 13 = .ok (.iload_n 1, 1) := by decide +kernel
theorem dX12_stepWork_14 : decode cX12_stepWork 14 = .ok (.if_icmp .ge 67, 3) := by decide +kernel
theorem dX12_stepWork_17 : decode cX12_stepWork 17 = .ok (.iload_n 2, 1) := by decide +kernel
theorem dX12_stepWork_18 : decode cX12_stepWork 18 = .ok (.ifCond .ne 63, 3) := by decide +kernel
theorem dX12_stepWork_21 : decode cX12_stepWork 21 = .ok (.aload_n 0, 1) := by decide +kernel
theorem dX12_stepWork_22 : decode cX12_stepWork 22 = .ok (.getfield 150, 3) := by decide +kernel
theorem dX12_stepWork_25 : decode cX12_stepWork 25 = .ok (.iload_n 3, 1) := by decide +kernel
theorem dX12_stepWork_26 : decode cX12_stepWork 26 = .ok (.iaload, 1) := by decide +kernel
theorem dX12_stepWork_27 : decode cX12_stepWork 27 = .ok (.istore 4, 2) := by decide +kernel
theorem dX12_stepWork_29 : decode cX12_stepWork 29 = .ok (.aload_n 0, 1) := by decide +kernel
theorem dX12_stepWork_30 : decode cX12_stepWork 30 = .ok (.iload 4, 2) := by decide +kernel
theorem dX12_stepWork_32 : decode cX12_stepWork 32 = .ok (.invokevirtual 540, 3) := by decide +kernel
theorem dX12_stepWork_35 : decode cX12_stepWork 35 = .ok (.istore_n 2, 1) := by decide +kernel
theorem dX12_stepWork_36 : decode cX12_stepWork 36 = .ok (.iload_n 2, 1) := by decide +kernel
theorem dX12_stepWork_37 : decode cX12_stepWork 37 = .ok (.ifCond .le 38, 3) := by decide +kernel
theorem dX12_stepWork_40 : decode cX12_stepWork 40 = .ok (.aload_n 0, 1) := by decide +kernel
theorem dX12_stepWork_41 : decode cX12_stepWork 41 = .ok (.getfield 284, 3) := by decide +kernel
theorem dX12_stepWork_44 : decode cX12_stepWork 44 = .ok (.aload_n 0, 1) := by decide +kernel
theorem dX12_stepWork_45 : decode cX12_stepWork 45 = .ok (.getfield 543, 3) := by decide +kernel
theorem dX12_stepWork_48 : decode cX12_stepWork 48 = .ok (.iload_n 2, 1) := by decide +kernel
theorem dX12_stepWork_49 : decode cX12_stepWork 49 = .ok (.iastore, 1) := by decide +kernel
theorem dX12_stepWork_50 : decode cX12_stepWork 50 = .ok (.aload_n 0, 1) := by decide +kernel
theorem dX12_stepWork_51 : decode cX12_stepWork 51 = .ok (.getfield 287, 3) := by decide +kernel
theorem dX12_stepWork_54 : decode cX12_stepWork 54 = .ok (.aload_n 0, 1) := by decide +kernel
theorem dX12_stepWork_55 : decode cX12_stepWork 55 = .ok (.getfield 543, 3) := by decide +kernel
theorem dX12_stepWork_58 : decode cX12_stepWork 58 = .ok (.iload 4, 2) := by decide +kernel
theorem dX12_stepWork_60 : decode cX12_stepWork 60 = .ok (.sipush 13540, 3) := by decide +kernel
theorem dX12_stepWork_63 : decode cX12_stepWork 63 = .ok (.isub, 1) := by decide +kernel
theorem dX12_stepWork_64 : decode cX12_stepWork 64 = .ok (.iastore, 1) := by decide +kernel
theorem dX12_stepWork_65 : decode cX12_stepWork 65 = .ok (.aload_n 0, 1) := by decide +kernel
theorem dX12_stepWork_66 : decode cX12_stepWork 66 = .ok (.dup, 1) := by decide +kernel
theorem dX12_stepWork_67 : decode cX12_stepWork 67 = .ok (.getfield 543, 3) := by decide +kernel
theorem dX12_stepWork_70 : decode cX12_stepWork 70 = .ok (.iconst 1, 1) := by decide +kernel
theorem dX12_stepWork_71 : decode cX12_stepWork 71 = .ok (.iadd, 1) := by decide +kernel
theorem dX12_stepWork_72 : decode cX12_stepWork 72 = .ok (.putfield 543, 3) := by decide +kernel
theorem dX12_stepWork_75 : decode cX12_stepWork 75 = .ok (.iinc 3 1, 3) := by decide +kernel
theorem dX12_stepWork_78 : decode cX12_stepWork 78 = .ok (.goto (-66), 3) := by decide +kernel
theorem dX12_stepWork_81 : decode cX12_stepWork 81 = .ok (.iload_n 2, 1) := by decide +kernel
theorem dX12_stepWork_82 : decode cX12_stepWork 82 = .ok (.ifCond .le 7, 3) := by decide +kernel
theorem dX12_stepWork_85 : decode cX12_stepWork 85 = .ok (.iconst 1, 1) := by decide +kernel
theorem dX12_stepWork_86 : decode cX12_stepWork 86 = .ok (.goto 4, 3) := by decide +kernel
theorem dX12_stepWork_89 : decode cX12_stepWork 89 = .ok (.iconst 0, 1) := by decide +kernel
theorem dX12_stepWork_90 : decode cX12_stepWork 90 = .ok (.ireturn, 1) := by decide +kernel
theorem dX12_takeWork_0 : decode cX12_takeWork 0 = .ok (.aload_n 0, 1) := by decide +kernel
theorem dX12_takeWork_1 : decode cX12_takeWork 1 = .ok (.aload_n 0, 1) := by decide +kernel
theorem dX12_takeWork_2 : decode cX12_takeWork 2 = .ok (.getfield 147, 3) := by decide +kernel
theorem dX12_takeWork_5 : decode cX12_takeWork 5 = .ok (.iload_n 1, 1) := by decide +kernel
theorem dX12_takeWork_6 : decode cX12_takeWork 6 = .ok (.iaload, 1) := by decide +kernel
theorem dX12_takeWork_7 : decode cX12_takeWork 7 = .ok (.putfield 512, 3) := by decide +kernel
theorem dX12_takeWork_10 : decode cX12_takeWork 10 = .ok (.aload_n 0, 1) := by decide +kernel
theorem dX12_takeWork_11 : decode cX12_takeWork 11 = .ok (.sipush 13540, 3) := by decide +kernel
theorem dX12_takeWork_14 : decode cX12_takeWork 14 = .ok (.iload_n 1, 1) := by decide +kernel
theorem dX12_takeWork_15 : decode cX12_takeWork 15 = .ok (.aload_n 0, 1) := by decide +kernel
theorem dX12_takeWork_16 : decode cX12_takeWork 16 = .ok (.getfield 512, 3) := by decide +kernel
theorem dX12_takeWork_19 : decode cX12_takeWork 19 = .ok (.invokevirtual 515, 3) := by decide +kernel
theorem dX12_takeWork_22 : decode cX12_takeWork 22 = .ok (.return_, 1) := by decide +kernel
theorem dX12_coefficientAt_0 : decode cX12_coefficientAt 0 = .ok (.sipush 2700, 3) := by decide +kernel
theorem dX12_coefficientAt_3 : decode cX12_coefficientAt 3 = .ok (.bipush 9, 2) := by decide +kernel
theorem dX12_coefficientAt_5 : decode cX12_coefficientAt 5 = .ok (.iload_n 0, 1) := by decide +kernel
theorem dX12_coefficientAt_6 : decode cX12_coefficientAt 6 = .ok (.imul, 1) := by decide +kernel
theorem dX12_coefficientAt_7 : decode cX12_coefficientAt 7 = .ok (.iadd, 1) := by decide +kernel
theorem dX12_coefficientAt_8 : decode cX12_coefficientAt 8 = .ok (.iload_n 1, 1) := by decide +kernel
theorem dX12_coefficientAt_9 : decode cX12_coefficientAt 9 = .ok (.iadd, 1) := by decide +kernel
theorem dX12_coefficientAt_10 : decode cX12_coefficientAt 10 = .ok (.ireturn, 1) := by decide +kernel
theorem dX12_degreeOf_0 : decode cX12_degreeOf 0 = .ok (.bipush 8, 2) := by decide +kernel
theorem dX12_degreeOf_2 : decode cX12_degreeOf 2 = .ok (.istore_n 2, 1) := by decide +kernel
theorem dX12_degreeOf_3 : decode cX12_degreeOf 3 = .ok (.iload_n 2, 1) := by decide +kernel
theorem dX12_degreeOf_4 : decode cX12_degreeOf 4 = .ok (.ifCond .le 21, 3) := by decide +kernel
theorem dX12_degreeOf_7 : decode cX12_degreeOf 7 = .ok (.aload_n 0, 1) := by decide +kernel
theorem dX12_degreeOf_8 : decode cX12_degreeOf 8 = .ok (.iload_n 1, 1) := by decide +kernel
theorem dX12_degreeOf_9 : decode cX12_degreeOf 9 = .ok (.iload_n 2, 1) := by decide +kernel
theorem dX12_degreeOf_10 : decode cX12_degreeOf 10 = .ok (.invokestatic 546, 3) := by decide +kernel
theorem dX12_degreeOf_13 : decode cX12_degreeOf 13 = .ok (.invokevirtual 81, 3) := by decide +kernel
theorem dX12_degreeOf_16 : decode cX12_degreeOf 16 = .ok (.ifCond .ne 9, 3) := by decide +kernel
theorem dX12_degreeOf_19 : decode cX12_degreeOf 19 = .ok (.iinc 2 (-1), 3) := by decide +kernel
theorem dX12_degreeOf_22 : decode cX12_degreeOf 22 = .ok (.goto (-19), 3) := by decide +kernel
theorem dX12_degreeOf_25 : decode cX12_degreeOf 25 = .ok (.iload_n 2, 1) := by decide +kernel
theorem dX12_degreeOf_26 : decode cX12_degreeOf 26 = .ok (.ireturn, 1) := by decide +kernel
theorem dX12_clear_0 : decode cX12_clear 0 = .ok (.iconst 0, 1) := by decide +kernel
theorem dX12_clear_1 : decode cX12_clear 1 = .ok (.istore_n 2, 1) := by decide +kernel
theorem dX12_clear_2 : decode cX12_clear 2 = .ok (.iload_n 2, 1) := by decide +kernel
theorem dX12_clear_3 : decode cX12_clear 3 = .ok (.bipush 9, 2) := by decide +kernel
theorem dX12_clear_5 : decode cX12_clear 5 = .ok (.if_icmp .ge 19, 3) := by decide +kernel
theorem dX12_clear_8 : decode cX12_clear 8 = .ok (.aload_n 0, 1) := by decide +kernel
theorem dX12_clear_9 : decode cX12_clear 9 = .ok (.iload_n 1, 1) := by decide +kernel
theorem dX12_clear_10 : decode cX12_clear 10 = .ok (.iload_n 2, 1) := by decide +kernel
theorem dX12_clear_11 : decode cX12_clear 11 = .ok (.invokestatic 546, 3) := by decide +kernel
theorem dX12_clear_14 : decode cX12_clear 14 = .ok (.iconst 0, 1) := by decide +kernel
theorem dX12_clear_15 : decode cX12_clear 15 = .ok (.invokevirtual 96, 3) := by decide +kernel
theorem dX12_clear_18 : decode cX12_clear 18 = .ok (.iinc 2 1, 3) := by decide +kernel
theorem dX12_clear_21 : decode cX12_clear 21 = .ok (.goto (-19), 3) := by decide +kernel
theorem dX12_clear_24 : decode cX12_clear 24 = .ok (.return_, 1) := by decide +kernel
theorem dX12_clearWide_0 : decode cX12_clearWide 0 = .ok (.aload_n 0, 1) := by decide +kernel
theorem dX12_clearWide_1 : decode cX12_clearWide 1 = .ok (.iconst 0, 1) := by decide +kernel
theorem dX12_clearWide_2 : decode cX12_clearWide 2 = .ok (.putfield 549, 3) := by decide +kernel
theorem dX12_clearWide_5 : decode cX12_clearWide 5 = .ok (.aload_n 0, 1) := by decide +kernel
theorem dX12_clearWide_6 : decode cX12_clearWide 6 = .ok (.bipush 8, 2) := by decide +kernel
theorem dX12_clearWide_8 : decode cX12_clearWide 8 = .ok (.iconst 0, 1) := by decide +kernel
theorem dX12_clearWide_9 : decode cX12_clearWide 9 = .ok (.invokevirtual 53, 3) := by decide +kernel
theorem dX12_clearWide_12 : decode cX12_clearWide 12 = .ok (.aload_n 0, 1) := by decide +kernel
theorem dX12_clearWide_13 : decode cX12_clearWide 13 = .ok (.bipush 9, 2) := by decide +kernel
theorem dX12_clearWide_15 : decode cX12_clearWide 15 = .ok (.iconst 1, 1) := by decide +kernel
theorem dX12_clearWide_16 : decode cX12_clearWide 16 = .ok (.invokevirtual 53, 3) := by decide +kernel
theorem dX12_clearWide_19 : decode cX12_clearWide 19 = .ok (.return_, 1) := by decide +kernel
theorem dX12_addProduct_0 : decode cX12_addProduct 0 = .ok (.aload_n 0, 1) := by decide +kernel
theorem dX12_addProduct_1 : decode cX12_addProduct 1 = .ok (.iconst 2, 1) := by decide +kernel
theorem dX12_addProduct_2 : decode cX12_addProduct 2 = .ok (.iload_n 1, 1) := by decide +kernel
theorem dX12_addProduct_3 : decode cX12_addProduct 3 = .ok (.invokevirtual 72, 3) := by decide +kernel
theorem dX12_addProduct_6 : decode cX12_addProduct 6 = .ok (.aload_n 0, 1) := by decide +kernel
theorem dX12_addProduct_7 : decode cX12_addProduct 7 = .ok (.iconst 3, 1) := by decide +kernel
theorem dX12_addProduct_8 : decode cX12_addProduct 8 = .ok (.iload_n 2, 1) := by decide +kernel
theorem dX12_addProduct_9 : decode cX12_addProduct 9 = .ok (.invokevirtual 72, 3) := by decide +kernel
theorem dX12_addProduct_12 : decode cX12_addProduct 12 = .ok (.aload_n 0, 1) := by decide +kernel
theorem dX12_addProduct_13 : decode cX12_addProduct 13 = .ok (.iconst 4, 1) := by decide +kernel
theorem dX12_addProduct_14 : decode cX12_addProduct 14 = .ok (.iconst 2, 1) := by decide +kernel
theorem dX12_addProduct_15 : decode cX12_addProduct 15 = .ok (.iconst 3, 1) := by decide +kernel
theorem dX12_addProduct_16 : decode cX12_addProduct 16 = .ok (.invokevirtual 78, 3) := by decide +kernel
theorem dX12_addProduct_19 : decode cX12_addProduct 19 = .ok (.aload_n 0, 1) := by decide +kernel
theorem dX12_addProduct_20 : decode cX12_addProduct 20 = .ok (.iconst 2, 1) := by decide +kernel
theorem dX12_addProduct_21 : decode cX12_addProduct 21 = .ok (.iload_n 1, 1) := by decide +kernel
theorem dX12_addProduct_22 : decode cX12_addProduct 22 = .ok (.invokevirtual 75, 3) := by decide +kernel
theorem dX12_addProduct_25 : decode cX12_addProduct 25 = .ok (.aload_n 0, 1) := by decide +kernel
theorem dX12_addProduct_26 : decode cX12_addProduct 26 = .ok (.iconst 3, 1) := by decide +kernel
theorem dX12_addProduct_27 : decode cX12_addProduct 27 = .ok (.iload_n 2, 1) := by decide +kernel
theorem dX12_addProduct_28 : decode cX12_addProduct 28 = .ok (.invokevirtual 75, 3) := by decide +kernel
theorem dX12_addProduct_31 : decode cX12_addProduct 31 = .ok (.aload_n 0, 1) := by decide +kernel
theorem dX12_addProduct_32 : decode cX12_addProduct 32 = .ok (.iconst 5, 1) := by decide +kernel
theorem dX12_addProduct_33 : decode cX12_addProduct 33 = .ok (.iconst 2, 1) := by decide +kernel
theorem dX12_addProduct_34 : decode cX12_addProduct 34 = .ok (.iconst 3, 1) := by decide +kernel
theorem dX12_addProduct_35 : decode cX12_addProduct 35 = .ok (.invokevirtual 78, 3) := by decide +kernel
theorem dX12_addProduct_38 : decode cX12_addProduct 38 = .ok (.aload_n 0, 1) := by decide +kernel
theorem dX12_addProduct_39 : decode cX12_addProduct 39 = .ok (.bipush 6, 2) := by decide +kernel
theorem dX12_addProduct_41 : decode cX12_addProduct 41 = .ok (.bipush 8, 2) := by decide +kernel
theorem dX12_addProduct_43 : decode cX12_addProduct 43 = .ok (.iconst 5, 1) := by decide +kernel
theorem dX12_addProduct_44 : decode cX12_addProduct 44 = .ok (.invokevirtual 78, 3) := by decide +kernel
theorem dX12_addProduct_47 : decode cX12_addProduct 47 = .ok (.aload_n 0, 1) := by decide +kernel
theorem dX12_addProduct_48 : decode cX12_addProduct 48 = .ok (.bipush 7, 2) := by decide +kernel
theorem dX12_addProduct_50 : decode cX12_addProduct 50 = .ok (.iconst 4, 1) := by decide +kernel
theorem dX12_addProduct_51 : decode cX12_addProduct 51 = .ok (.bipush 9, 2) := by decide +kernel
theorem dX12_addProduct_53 : decode cX12_addProduct 53 = .ok (.invokevirtual 78, 3) := by decide +kernel
theorem dX12_addProduct_56 : decode cX12_addProduct 56 = .ok (.aload_n 0, 1) := by decide +kernel
theorem dX12_addProduct_57 : decode cX12_addProduct 57 = .ok (.bipush 10, 2) := by decide +kernel
theorem dX12_addProduct_59 : decode cX12_addProduct 59 = .ok (.bipush 9, 2) := by decide +kernel
theorem dX12_addProduct_61 : decode cX12_addProduct 61 = .ok (.iconst 5, 1) := by decide +kernel
theorem dX12_addProduct_62 : decode cX12_addProduct 62 = .ok (.invokevirtual 78, 3) := by decide +kernel
theorem dX12_addProduct_65 : decode cX12_addProduct 65 = .ok (.aload_n 0, 1) := by decide +kernel
theorem dX12_addProduct_66 : decode cX12_addProduct 66 = .ok (.bipush 9, 2) := by decide +kernel
theorem dX12_addProduct_68 : decode cX12_addProduct 68 = .ok (.bipush 10, 2) := by decide +kernel
theorem dX12_addProduct_70 : decode cX12_addProduct 70 = .ok (.invokevirtual 43, 3) := by decide +kernel
theorem dX12_addProduct_73 : decode cX12_addProduct 73 = .ok (.aload_n 0, 1) := by decide +kernel
theorem dX12_addProduct_74 : decode cX12_addProduct 74 = .ok (.aload_n 0, 1) := by decide +kernel
theorem dX12_addProduct_75 : decode cX12_addProduct 75 = .ok (.bipush 6, 2) := by decide +kernel
theorem dX12_addProduct_77 : decode cX12_addProduct 77 = .ok (.aload_n 0, 1) := by decide +kernel
theorem dX12_addProduct_78 : decode cX12_addProduct 78 = .ok (.getfield 549, 3) := by decide +kernel
theorem dX12_addProduct_81 : decode cX12_addProduct 81 = .ok (.bipush 7, 2) := by decide +kernel
theorem dX12_addProduct_83 : decode cX12_addProduct 83 = .ok (.iload_n 3, 1) := by decide +kernel
theorem dX12_addProduct_84 : decode cX12_addProduct 84 = .ok (.aload_n 0, 1) := by decide +kernel
theorem dX12_addProduct_85 : decode cX12_addProduct 85 = .ok (.iload_n 1, 1) := by decide +kernel
theorem dX12_addProduct_86 : decode cX12_addProduct 86 = .ok (.invokevirtual 81, 3) := by decide +kernel
theorem dX12_addProduct_89 : decode cX12_addProduct 89 = .ok (.imul, 1) := by decide +kernel
theorem dX12_addProduct_90 : decode cX12_addProduct 90 = .ok (.aload_n 0, 1) := by decide +kernel
theorem dX12_addProduct_91 : decode cX12_addProduct 91 = .ok (.iload_n 2, 1) := by decide +kernel
theorem dX12_addProduct_92 : decode cX12_addProduct 92 = .ok (.invokevirtual 81, 3) := by decide +kernel
theorem dX12_addProduct_95 : decode cX12_addProduct 95 = .ok (.imul, 1) := by decide +kernel
theorem dX12_addProduct_96 : decode cX12_addProduct 96 = .ok (.invokevirtual 84, 3) := by decide +kernel
theorem dX12_addProduct_99 : decode cX12_addProduct 99 = .ok (.putfield 549, 3) := by decide +kernel
theorem dX12_addProduct_102 : decode cX12_addProduct 102 = .ok (.aload_n 0, 1) := by decide +kernel
theorem dX12_addProduct_103 : decode cX12_addProduct 103 = .ok (.bipush 8, 2) := by decide +kernel
theorem dX12_addProduct_105 : decode cX12_addProduct 105 = .ok (.bipush 6, 2) := by decide +kernel
theorem dX12_addProduct_107 : decode cX12_addProduct 107 = .ok (.invokevirtual 43, 3) := by decide +kernel
theorem dX12_addProduct_110 : decode cX12_addProduct 110 = .ok (.aload_n 0, 1) := by decide +kernel
theorem dX12_addProduct_111 : decode cX12_addProduct 111 = .ok (.bipush 8, 2) := by decide +kernel
theorem dX12_addProduct_113 : decode cX12_addProduct 113 = .ok (.bipush 9, 2) := by decide +kernel
theorem dX12_addProduct_115 : decode cX12_addProduct 115 = .ok (.invokevirtual 66, 3) := by decide +kernel
theorem dX12_addProduct_118 : decode cX12_addProduct 118 = .ok (.return_, 1) := by decide +kernel
theorem dX12_storeWide_0 : decode cX12_storeWide 0 = .ok (.aload_n 0, 1) := by decide +kernel
theorem dX12_storeWide_1 : decode cX12_storeWide 1 = .ok (.iconst 0, 1) := by decide +kernel
theorem dX12_storeWide_2 : decode cX12_storeWide 2 = .ok (.bipush 8, 2) := by decide +kernel
theorem dX12_storeWide_4 : decode cX12_storeWide 4 = .ok (.invokevirtual 43, 3) := by decide +kernel
theorem dX12_storeWide_7 : decode cX12_storeWide 7 = .ok (.aload_n 0, 1) := by decide +kernel
theorem dX12_storeWide_8 : decode cX12_storeWide 8 = .ok (.iconst 1, 1) := by decide +kernel
theorem dX12_storeWide_9 : decode cX12_storeWide 9 = .ok (.bipush 9, 2) := by decide +kernel
theorem dX12_storeWide_11 : decode cX12_storeWide 11 = .ok (.invokevirtual 43, 3) := by decide +kernel
theorem dX12_storeWide_14 : decode cX12_storeWide 14 = .ok (.aload_n 0, 1) := by decide +kernel
theorem dX12_storeWide_15 : decode cX12_storeWide 15 = .ok (.iload_n 1, 1) := by decide +kernel
theorem dX12_storeWide_16 : decode cX12_storeWide 16 = .ok (.aload_n 0, 1) := by decide +kernel
theorem dX12_storeWide_17 : decode cX12_storeWide 17 = .ok (.getfield 549, 3) := by decide +kernel
theorem dX12_storeWide_20 : decode cX12_storeWide 20 = .ok (.invokevirtual 88, 3) := by decide +kernel
theorem dX12_storeWide_23 : decode cX12_storeWide 23 = .ok (.ireturn, 1) := by decide +kernel
theorem dX12_multiplyPolynomials_0 : decode cX12_multiplyPolynomials 0 = .ok (.aload_n 0, 1) := by decide +kernel
theorem dX12_multiplyPolynomials_1 : decode cX12_multiplyPolynomials 1 = .ok (.iload_n 2, 1) := by decide +kernel
theorem dX12_multiplyPolynomials_2 : decode cX12_multiplyPolynomials 2 = .ok (.invokevirtual 552, 3) := by decide +kernel
theorem dX12_multiplyPolynomials_5 : decode cX12_multiplyPolynomials 5 = .ok (.aload_n 0, 1) := by decide +kernel
theorem dX12_multiplyPolynomials_6 : decode cX12_multiplyPolynomials 6 = .ok (.iload_n 3, 1) := by decide +kernel
theorem dX12_multiplyPolynomials_7 : decode cX12_multiplyPolynomials 7 = .ok (.invokevirtual 552, 3) := by decide +kernel
theorem dX12_multiplyPolynomials_10 : decode cX12_multiplyPolynomials 10 = .ok (.iadd, 1) := by decide +kernel
theorem dX12_multiplyPolynomials_11 : decode cX12_multiplyPolynomials 11 = .ok (.bipush 8, 2) := by decide +kernel
theorem dX12_multiplyPolynomials_13 : decode cX12_multiplyPolynomials 13 = .ok (.if_icmp .gt 7, 3) := by decide +kernel
theorem dX12_multiplyPolynomials_16 : decode cX12_multiplyPolynomials 16 = .ok (.iconst 1, 1) := by decide +kernel
theorem dX12_multiplyPolynomials_17 : decode cX12_multiplyPolynomials 17 = .ok (.goto 4, 3) := by decide +kernel
theorem dX12_multiplyPolynomials_20 : decode cX12_multiplyPolynomials 20 = .ok (.iconst 0, 1) := by decide +kernel
theorem dX12_multiplyPolynomials_21 : decode cX12_multiplyPolynomials 21 = .ok (.istore 4, 2) := by decide +kernel
theorem dX12_multiplyPolynomials_23 : decode cX12_multiplyPolynomials 23 = .ok (.iconst 0, 1) := by decide +kernel
theorem dX12_multiplyPolynomials_24 : decode cX12_multiplyPolynomials 24 = .ok (.istore 5, 2) := by decide +kernel
theorem dX12_multiplyPolynomials_26 : decode cX12_multiplyPolynomials 26 = .ok (.iload 5, 2) := by decide +kernel
theorem dX12_multiplyPolynomials_28 : decode cX12_multiplyPolynomials 28 = .ok (.bipush 9, 2) := by decide +kernel
theorem dX12_multiplyPolynomials_30 : decode cX12_multiplyPolynomials 30 = .ok (.if_icmp .ge 95, 3) := by decide +kernel
theorem dX12_multiplyPolynomials_33 : decode cX12_multiplyPolynomials 33 = .ok (.iload 4, 2) := by decide +kernel
theorem dX12_multiplyPolynomials_35 : decode cX12_multiplyPolynomials 35 = .ok (.ifCond .eq 90, 3) := by decide +kernel
theorem dX12_multiplyPolynomials_38 : decode cX12_multiplyPolynomials 38 = .ok (.aload_n 0, 1) := by decide +kernel
theorem dX12_multiplyPolynomials_39 : decode cX12_multiplyPolynomials 39 = .ok (.invokevirtual 555, 3) := by decide +kernel
theorem dX12_multiplyPolynomials_42 : decode cX12_multiplyPolynomials 42 = .ok (.iconst 0, 1) := by decide +kernel
theorem dX12_multiplyPolynomials_43 : decode cX12_multiplyPolynomials 43 = .ok (.istore 6, 2) := by decide +kernel
theorem dX12_multiplyPolynomials_45 : decode cX12_multiplyPolynomials 45 = .ok (.iload 6, 2) := by decide +kernel
theorem dX12_multiplyPolynomials_47 : decode cX12_multiplyPolynomials 47 = .ok (.iload 5, 2) := by decide +kernel
theorem dX12_multiplyPolynomials_49 : decode cX12_multiplyPolynomials 49 = .ok (.if_icmp .gt 58, 3) := by decide +kernel
theorem dX12_multiplyPolynomials_52 : decode cX12_multiplyPolynomials 52 = .ok (.aload_n 0, 1) := by decide +kernel
theorem dX12_multiplyPolynomials_53 : decode cX12_multiplyPolynomials 53 = .ok (.iload_n 2, 1) := by decide +kernel
theorem dX12_multiplyPolynomials_54 : decode cX12_multiplyPolynomials 54 = .ok (.iload 6, 2) := by decide +kernel
theorem dX12_multiplyPolynomials_56 : decode cX12_multiplyPolynomials 56 = .ok (.invokestatic 546, 3) := by decide +kernel
theorem dX12_multiplyPolynomials_59 : decode cX12_multiplyPolynomials 59 = .ok (.invokevirtual 81, 3) := by decide +kernel
theorem dX12_multiplyPolynomials_62 : decode cX12_multiplyPolynomials 62 = .ok (.ifCond .eq 39, 3) := by decide +kernel
theorem dX12_multiplyPolynomials_65 : decode cX12_multiplyPolynomials 65 = .ok (.aload_n 0, 1) := by decide +kernel
theorem dX12_multiplyPolynomials_66 : decode cX12_multiplyPolynomials 66 = .ok (.iload_n 3, 1) := by decide +kernel
theorem dX12_multiplyPolynomials_67 : decode cX12_multiplyPolynomials 67 = .ok (.iload 5, 2) := by decide +kernel
theorem dX12_multiplyPolynomials_69 : decode cX12_multiplyPolynomials 69 = .ok (.iload 6, 2) := by decide +kernel
theorem dX12_multiplyPolynomials_71 : decode cX12_multiplyPolynomials 71 = .ok (.isub, 1) := by decide +kernel
theorem dX12_multiplyPolynomials_72 : decode cX12_multiplyPolynomials 72 = .ok (.invokestatic 546, 3) := by decide +kernel
theorem dX12_multiplyPolynomials_75 : decode cX12_multiplyPolynomials 75 = .ok (.invokevirtual 81, 3) := by decide +kernel
theorem dX12_multiplyPolynomials_78 : decode cX12_multiplyPolynomials 78 = .ok (.ifCond .eq 23, 3) := by decide +kernel
theorem dX12_multiplyPolynomials_81 : decode cX12_multiplyPolynomials 81 = .ok (.aload_n 0, 1) := by decide +kernel
theorem dX12_multiplyPolynomials_82 : decode cX12_multiplyPolynomials 82 = .ok (.iload_n 2, 1) := by decide +kernel
theorem dX12_multiplyPolynomials_83 : decode cX12_multiplyPolynomials 83 = .ok (.iload 6, 2) := by decide +kernel
theorem dX12_multiplyPolynomials_85 : decode cX12_multiplyPolynomials 85 = .ok (.invokestatic 546, 3) := by decide +kernel
theorem dX12_multiplyPolynomials_88 : decode cX12_multiplyPolynomials 88 = .ok (.iload_n 3, 1) := by decide +kernel
theorem dX12_multiplyPolynomials_89 : decode cX12_multiplyPolynomials 89 = .ok (.iload 5, 2) := by decide +kernel
theorem dX12_multiplyPolynomials_91 : decode cX12_multiplyPolynomials 91 = .ok (.iload 6, 2) := by decide +kernel
theorem dX12_multiplyPolynomials_93 : decode cX12_multiplyPolynomials 93 = .ok (.isub, 1) := by decide +kernel
theorem dX12_multiplyPolynomials_94 : decode cX12_multiplyPolynomials 94 = .ok (.invokestatic 546, 3) := by decide +kernel
theorem dX12_multiplyPolynomials_97 : decode cX12_multiplyPolynomials 97 = .ok (.iconst 1, 1) := by decide +kernel
theorem dX12_multiplyPolynomials_98 : decode cX12_multiplyPolynomials 98 = .ok (.invokevirtual 558, 3) := by decide +kernel
theorem dX12_multiplyPolynomials_101 : decode cX12_multiplyPolynomials 101 = .ok (.iinc 6 1, 3) := by decide +kernel
theorem dX12_multiplyPolynomials_104 : decode cX12_multiplyPolynomials 104 = .ok (.goto (-59), 3) := by decide +kernel
theorem dX12_multiplyPolynomials_107 : decode cX12_multiplyPolynomials 107 = .ok (.aload_n 0, 1) := by decide +kernel
theorem dX12_multiplyPolynomials_108 : decode cX12_multiplyPolynomials 108 = .ok (.iload_n 1, 1) := by decide +kernel
theorem dX12_multiplyPolynomials_109 : decode cX12_multiplyPolynomials 109 = .ok (.iload 5, 2) := by decide +kernel
theorem dX12_multiplyPolynomials_111 : decode cX12_multiplyPolynomials 111 = .ok (.invokestatic 546, 3) := by decide +kernel
theorem dX12_multiplyPolynomials_114 : decode cX12_multiplyPolynomials 114 = .ok (.invokevirtual 561, 3) := by decide +kernel
theorem dX12_multiplyPolynomials_117 : decode cX12_multiplyPolynomials 117 = .ok (.istore 4, 2) := by decide +kernel
theorem dX12_multiplyPolynomials_119 : decode cX12_multiplyPolynomials 119 = .ok (.iinc 5 1, 3) := by decide +kernel
theorem dX12_multiplyPolynomials_122 : decode cX12_multiplyPolynomials 122 = .ok (.goto (-96), 3) := by decide +kernel
theorem dX12_multiplyPolynomials_125 : decode cX12_multiplyPolynomials 125 = .ok (.iload 4, 2) := by decide +kernel
theorem dX12_multiplyPolynomials_127 : decode cX12_multiplyPolynomials 127 = .ok (.ireturn, 1) := by decide +kernel
theorem dX12_copyPolynomial_0 : decode cX12_copyPolynomial 0 = .ok (.iconst 0, 1) := by decide +kernel
theorem dX12_copyPolynomial_1 : decode cX12_copyPolynomial 1 = .ok (.istore_n 3, 1) := by decide +kernel
theorem dX12_copyPolynomial_2 : decode cX12_copyPolynomial 2 = .ok (.iload_n 3, 1) := by decide +kernel
theorem dX12_copyPolynomial_3 : decode cX12_copyPolynomial 3 = .ok (.bipush 9, 2) := by decide +kernel
theorem dX12_copyPolynomial_5 : decode cX12_copyPolynomial 5 = .ok (.if_icmp .ge 23, 3) := by decide +kernel
theorem dX12_copyPolynomial_8 : decode cX12_copyPolynomial 8 = .ok (.aload_n 0, 1) := by decide +kernel
theorem dX12_copyPolynomial_9 : decode cX12_copyPolynomial 9 = .ok (.iload_n 1, 1) := by decide +kernel
theorem dX12_copyPolynomial_10 : decode cX12_copyPolynomial 10 = .ok (.iload_n 3, 1) := by decide +kernel
theorem dX12_copyPolynomial_11 : decode cX12_copyPolynomial 11 = .ok (.invokestatic 546, 3) := by decide +kernel
theorem dX12_copyPolynomial_14 : decode cX12_copyPolynomial 14 = .ok (.iload_n 2, 1) := by decide +kernel
theorem dX12_copyPolynomial_15 : decode cX12_copyPolynomial 15 = .ok (.iload_n 3, 1) := by decide +kernel
theorem dX12_copyPolynomial_16 : decode cX12_copyPolynomial 16 = .ok (.invokestatic 546, 3) := by decide +kernel
theorem dX12_copyPolynomial_19 : decode cX12_copyPolynomial 19 = .ok (.invokevirtual 115, 3) := by decide +kernel
theorem dX12_copyPolynomial_22 : decode cX12_copyPolynomial 22 = .ok (.iinc 3 1, 3) := by decide +kernel
theorem dX12_copyPolynomial_25 : decode cX12_copyPolynomial 25 = .ok (.goto (-23), 3) := by decide +kernel
theorem dX12_copyPolynomial_28 : decode cX12_copyPolynomial 28 = .ok (.return_, 1) := by decide +kernel
theorem dX12_keepWhole_0 : decode cX12_keepWhole 0 = .ok (.iconst 0, 1) := by decide +kernel
theorem dX12_keepWhole_1 : decode cX12_keepWhole 1 = .ok (.istore 4, 2) := by decide +kernel
theorem dX12_keepWhole_3 : decode cX12_keepWhole 3 = .ok (.iload 4, 2) := by decide +kernel
theorem dX12_keepWhole_5 : decode cX12_keepWhole 5 = .ok (.aload_n 0, 1) := by decide +kernel
theorem dX12_keepWhole_6 : decode cX12_keepWhole 6 = .ok (.getfield 7, 3) := by decide +kernel
theorem dX12_keepWhole_9 : decode cX12_keepWhole 9 = .ok (.iload_n 2, 1) := by decide +kernel
theorem dX12_keepWhole_10 : decode cX12_keepWhole 10 = .ok (.iaload, 1) := by decide +kernel
theorem dX12_keepWhole_11 : decode cX12_keepWhole 11 = .ok (.if_icmp .ge 35, 3) := by decide +kernel
theorem dX12_keepWhole_14 : decode cX12_keepWhole 14 = .ok (.aload_n 0, 1) := by decide +kernel
theorem dX12_keepWhole_15 : decode cX12_keepWhole 15 = .ok (.getfield 290, 3) := by decide +kernel
theorem dX12_keepWhole_18 : decode cX12_keepWhole 18 = .ok (.sipush 216, 3) := by decide +kernel
theorem dX12_keepWhole_21 : decode cX12_keepWhole 21 = .ok (.iload_n 1, 1) := by decide +kernel
theorem dX12_keepWhole_22 : decode cX12_keepWhole 22 = .ok (.imul, 1) := by decide +kernel
theorem dX12_keepWhole_23 : decode cX12_keepWhole 23 = .ok (.iload 4, 2) := by decide +kernel
theorem dX12_keepWhole_25 : decode cX12_keepWhole 25 = .ok (.iadd, 1) := by decide +kernel
theorem dX12_keepWhole_26 : decode cX12_keepWhole 26 = .ok (.aload_n 0, 1) := by decide +kernel
theorem dX12_keepWhole_27 : decode cX12_keepWhole 27 = .ok (.getfield 11, 3) := by decide +kernel
theorem dX12_keepWhole_30 : decode cX12_keepWhole 30 = .ok (.sipush 440, 3) := by decide +kernel
theorem dX12_keepWhole_33 : decode cX12_keepWhole 33 = .ok (.iload_n 2, 1) := by decide +kernel
theorem dX12_keepWhole_34 : decode cX12_keepWhole 34 = .ok (.imul, 1) := by decide +kernel
theorem dX12_keepWhole_35 : decode cX12_keepWhole 35 = .ok (.iload 4, 2) := by decide +kernel
theorem dX12_keepWhole_37 : decode cX12_keepWhole 37 = .ok (.iadd, 1) := by decide +kernel
theorem dX12_keepWhole_38 : decode cX12_keepWhole 38 = .ok (.iaload, 1) := by decide +kernel
theorem dX12_keepWhole_39 : decode cX12_keepWhole 39 = .ok (.iastore, 1) := by decide +kernel
theorem dX12_keepWhole_40 : decode cX12_keepWhole 40 = .ok (.iinc 4 1, 3) := by decide +kernel
theorem dX12_keepWhole_43 : decode cX12_keepWhole 43 = .ok (.goto (-40), 3) := by decide +kernel
theorem dX12_keepWhole_46 : decode cX12_keepWhole 46 = .ok (.aload_n 0, 1) := by decide +kernel
theorem dX12_keepWhole_47 : decode cX12_keepWhole 47 = .ok (.getfield 293, 3) := by decide +kernel
theorem dX12_keepWhole_50 : decode cX12_keepWhole 50 = .ok (.iload_n 1, 1) := by decide +kernel
theorem dX12_keepWhole_51 : decode cX12_keepWhole 51 = .ok (.aload_n 0, 1) := by decide +kernel
theorem dX12_keepWhole_52 : decode cX12_keepWhole 52 = .ok (.getfield 7, 3) := by decide +kernel
theorem dX12_keepWhole_55 : decode cX12_keepWhole 55 = .ok (.iload_n 2, 1) := by decide +kernel
theorem dX12_keepWhole_56 : decode cX12_keepWhole 56 = .ok (.iaload, 1) := by decide +kernel
theorem dX12_keepWhole_57 : decode cX12_keepWhole 57 = .ok (.iastore, 1) := by decide +kernel
theorem dX12_keepWhole_58 : decode cX12_keepWhole 58 = .ok (.aload_n 0, 1) := by decide +kernel
theorem dX12_keepWhole_59 : decode cX12_keepWhole 59 = .ok (.getfield 296, 3) := by decide +kernel
theorem dX12_keepWhole_62 : decode cX12_keepWhole 62 = .ok (.iload_n 1, 1) := by decide +kernel
theorem dX12_keepWhole_63 : decode cX12_keepWhole 63 = .ok (.aload_n 0, 1) := by decide +kernel
theorem dX12_keepWhole_64 : decode cX12_keepWhole 64 = .ok (.getfield 7, 3) := by decide +kernel
theorem dX12_keepWhole_67 : decode cX12_keepWhole 67 = .ok (.iload_n 2, 1) := by decide +kernel
theorem dX12_keepWhole_68 : decode cX12_keepWhole 68 = .ok (.iaload, 1) := by decide +kernel
theorem dX12_keepWhole_69 : decode cX12_keepWhole 69 = .ok (.ifCond .ne 7, 3) := by decide +kernel
theorem dX12_keepWhole_72 : decode cX12_keepWhole 72 = .ok (.iconst 0, 1) := by decide +kernel
theorem dX12_keepWhole_73 : decode cX12_keepWhole 73 = .ok (.goto 4, 3) := by decide +kernel
theorem dX12_keepWhole_76 : decode cX12_keepWhole 76 = .ok (.iload_n 3, 1) := by decide +kernel
theorem dX12_keepWhole_77 : decode cX12_keepWhole 77 = .ok (.iastore, 1) := by decide +kernel
theorem dX12_keepWhole_78 : decode cX12_keepWhole 78 = .ok (.return_, 1) := by decide +kernel
theorem dX12_loadWhole_0 : decode cX12_loadWhole 0 = .ok (.iconst 0, 1) := by decide +kernel
theorem dX12_loadWhole_1 : decode cX12_loadWhole 1 = .ok (.istore_n 3, 1) := by decide +kernel
theorem dX12_loadWhole_2 : decode cX12_loadWhole 2 = .ok (.iload_n 3, 1) := by decide +kernel
theorem dX12_loadWhole_3 : decode cX12_loadWhole 3 = .ok (.aload_n 0, 1) := by decide +kernel
theorem dX12_loadWhole_4 : decode cX12_loadWhole 4 = .ok (.getfield 293, 3) := by decide +kernel
theorem dX12_loadWhole_7 : decode cX12_loadWhole 7 = .ok (.iload_n 2, 1) := by decide +kernel
theorem dX12_loadWhole_8 : decode cX12_loadWhole 8 = .ok (.iaload, 1) := by decide +kernel
theorem dX12_loadWhole_9 : decode cX12_loadWhole 9 = .ok (.if_icmp .ge 33, 3) := by decide +kernel
theorem dX12_loadWhole_12 : decode cX12_loadWhole 12 = .ok (.aload_n 0, 1) := by decide +kernel
theorem dX12_loadWhole_13 : decode cX12_loadWhole 13 = .ok (.getfield 11, 3) := by decide +kernel
theorem dX12_loadWhole_16 : decode cX12_loadWhole 16 = .ok (.sipush 440, 3) := by decide +kernel
theorem dX12_loadWhole_19 : decode cX12_loadWhole 19 = .ok (.iload_n 1, 1) := by decide +kernel
theorem dX12_loadWhole_20 : decode cX12_loadWhole 20 = .ok (.imul, 1) := by decide +kernel
theorem dX12_loadWhole_21 : decode cX12_loadWhole 21 = .ok (.iload_n 3, 1) := by decide +kernel
theorem dX12_loadWhole_22 : decode cX12_loadWhole 22 = .ok (.iadd, 1) := by decide +kernel
theorem dX12_loadWhole_23 : decode cX12_loadWhole 23 = .ok (.aload_n 0, 1) := by decide +kernel
theorem dX12_loadWhole_24 : decode cX12_loadWhole 24 = .ok (.getfield 290, 3) := by decide +kernel
theorem dX12_loadWhole_27 : decode cX12_loadWhole 27 = .ok (.sipush 216, 3) := by decide +kernel
theorem dX12_loadWhole_30 : decode cX12_loadWhole 30 = .ok (.iload_n 2, 1) := by decide +kernel
theorem dX12_loadWhole_31 : decode cX12_loadWhole 31 = .ok (.imul, 1) := by decide +kernel
theorem dX12_loadWhole_32 : decode cX12_loadWhole 32 = .ok (.iload_n 3, 1) := by decide +kernel
theorem dX12_loadWhole_33 : decode cX12_loadWhole 33 = .ok (.iadd, 1) := by decide +kernel
theorem dX12_loadWhole_34 : decode cX12_loadWhole 34 = .ok (.iaload, 1) := by decide +kernel
theorem dX12_loadWhole_35 : decode cX12_loadWhole 35 = .ok (.iastore, 1) := by decide +kernel
theorem dX12_loadWhole_36 : decode cX12_loadWhole 36 = .ok (.iinc 3 1, 3) := by decide +kernel
theorem dX12_loadWhole_39 : decode cX12_loadWhole 39 = .ok (.goto (-37), 3) := by decide +kernel
theorem dX12_loadWhole_42 : decode cX12_loadWhole 42 = .ok (.aload_n 0, 1) := by decide +kernel
theorem dX12_loadWhole_43 : decode cX12_loadWhole 43 = .ok (.getfield 7, 3) := by decide +kernel
theorem dX12_loadWhole_46 : decode cX12_loadWhole 46 = .ok (.iload_n 1, 1) := by decide +kernel
theorem dX12_loadWhole_47 : decode cX12_loadWhole 47 = .ok (.aload_n 0, 1) := by decide +kernel
theorem dX12_loadWhole_48 : decode cX12_loadWhole 48 = .ok (.getfield 293, 3) := by decide +kernel
theorem dX12_loadWhole_51 : decode cX12_loadWhole 51 = .ok (.iload_n 2, 1) := by decide +kernel
theorem dX12_loadWhole_52 : decode cX12_loadWhole 52 = .ok (.iaload, 1) := by decide +kernel
theorem dX12_loadWhole_53 : decode cX12_loadWhole 53 = .ok (.iastore, 1) := by decide +kernel
theorem dX12_loadWhole_54 : decode cX12_loadWhole 54 = .ok (.return_, 1) := by decide +kernel
theorem dX12_makeWhole_0 : decode cX12_makeWhole 0 = .ok (.aload_n 0, 1) := by decide +kernel
theorem dX12_makeWhole_1 : decode cX12_makeWhole 1 = .ok (.bipush 8, 2) := by decide +kernel
theorem dX12_makeWhole_3 : decode cX12_makeWhole 3 = .ok (.iconst 1, 1) := by decide +kernel
theorem dX12_makeWhole_4 : decode cX12_makeWhole 4 = .ok (.invokevirtual 53, 3) := by decide +kernel
theorem dX12_makeWhole_7 : decode cX12_makeWhole 7 = .ok (.iconst 0, 1) := by decide +kernel
theorem dX12_makeWhole_8 : decode cX12_makeWhole 8 = .ok (.istore_n 2, 1) := by decide +kernel
theorem dX12_makeWhole_9 : decode cX12_makeWhole 9 = .ok (.iload_n 2, 1) := by decide +kernel
theorem dX12_makeWhole_10 : decode cX12_makeWhole 10 = .ok (.bipush 9, 2) := by decide +kernel
theorem dX12_makeWhole_12 : decode cX12_makeWhole 12 = .ok (.if_icmp .ge 79, 3) := by decide +kernel
theorem dX12_makeWhole_15 : decode cX12_makeWhole 15 = .ok (.aload_n 0, 1) := by decide +kernel
theorem dX12_makeWhole_16 : decode cX12_makeWhole 16 = .ok (.iconst 2, 1) := by decide +kernel
theorem dX12_makeWhole_17 : decode cX12_makeWhole 17 = .ok (.iload_n 1, 1) := by decide +kernel
theorem dX12_makeWhole_18 : decode cX12_makeWhole 18 = .ok (.iload_n 2, 1) := by decide +kernel
theorem dX12_makeWhole_19 : decode cX12_makeWhole 19 = .ok (.invokestatic 546, 3) := by decide +kernel
theorem dX12_makeWhole_22 : decode cX12_makeWhole 22 = .ok (.invokevirtual 75, 3) := by decide +kernel
theorem dX12_makeWhole_25 : decode cX12_makeWhole 25 = .ok (.aload_n 0, 1) := by decide +kernel
theorem dX12_makeWhole_26 : decode cX12_makeWhole 26 = .ok (.bipush 12, 2) := by decide +kernel
theorem dX12_makeWhole_28 : decode cX12_makeWhole 28 = .ok (.bipush 8, 2) := by decide +kernel
theorem dX12_makeWhole_30 : decode cX12_makeWhole 30 = .ok (.invokevirtual 43, 3) := by decide +kernel
theorem dX12_makeWhole_33 : decode cX12_makeWhole 33 = .ok (.aload_n 0, 1) := by decide +kernel
theorem dX12_makeWhole_34 : decode cX12_makeWhole 34 = .ok (.bipush 13, 2) := by decide +kernel
theorem dX12_makeWhole_36 : decode cX12_makeWhole 36 = .ok (.iconst 2, 1) := by decide +kernel
theorem dX12_makeWhole_37 : decode cX12_makeWhole 37 = .ok (.invokevirtual 43, 3) := by decide +kernel
theorem dX12_makeWhole_40 : decode cX12_makeWhole 40 = .ok (.aload_n 0, 1) := by decide +kernel
theorem dX12_makeWhole_41 : decode cX12_makeWhole 41 = .ok (.bipush 12, 2) := by decide +kernel
theorem dX12_makeWhole_43 : decode cX12_makeWhole 43 = .ok (.bipush 13, 2) := by decide +kernel
theorem dX12_makeWhole_45 : decode cX12_makeWhole 45 = .ok (.invokevirtual 59, 3) := by decide +kernel
theorem dX12_makeWhole_48 : decode cX12_makeWhole 48 = .ok (.aload_n 0, 1) := by decide +kernel
theorem dX12_makeWhole_49 : decode cX12_makeWhole 49 = .ok (.bipush 13, 2) := by decide +kernel
theorem dX12_makeWhole_51 : decode cX12_makeWhole 51 = .ok (.bipush 12, 2) := by decide +kernel
theorem dX12_makeWhole_53 : decode cX12_makeWhole 53 = .ok (.invokevirtual 43, 3) := by decide +kernel
theorem dX12_makeWhole_56 : decode cX12_makeWhole 56 = .ok (.aload_n 0, 1) := by decide +kernel
theorem dX12_makeWhole_57 : decode cX12_makeWhole 57 = .ok (.bipush 14, 2) := by decide +kernel
theorem dX12_makeWhole_59 : decode cX12_makeWhole 59 = .ok (.bipush 15, 2) := by decide +kernel
theorem dX12_makeWhole_61 : decode cX12_makeWhole 61 = .ok (.bipush 8, 2) := by decide +kernel
theorem dX12_makeWhole_63 : decode cX12_makeWhole 63 = .ok (.bipush 13, 2) := by decide +kernel
theorem dX12_makeWhole_65 : decode cX12_makeWhole 65 = .ok (.invokevirtual 62, 3) := by decide +kernel
theorem dX12_makeWhole_68 : decode cX12_makeWhole 68 = .ok (.aload_n 0, 1) := by decide +kernel
theorem dX12_makeWhole_69 : decode cX12_makeWhole 69 = .ok (.bipush 10, 2) := by decide +kernel
theorem dX12_makeWhole_71 : decode cX12_makeWhole 71 = .ok (.bipush 14, 2) := by decide +kernel
theorem dX12_makeWhole_73 : decode cX12_makeWhole 73 = .ok (.iconst 2, 1) := by decide +kernel
theorem dX12_makeWhole_74 : decode cX12_makeWhole 74 = .ok (.invokevirtual 78, 3) := by decide +kernel
theorem dX12_makeWhole_77 : decode cX12_makeWhole 77 = .ok (.aload_n 0, 1) := by decide +kernel
theorem dX12_makeWhole_78 : decode cX12_makeWhole 78 = .ok (.bipush 8, 2) := by decide +kernel
theorem dX12_makeWhole_80 : decode cX12_makeWhole 80 = .ok (.bipush 10, 2) := by decide +kernel
theorem dX12_makeWhole_82 : decode cX12_makeWhole 82 = .ok (.invokevirtual 43, 3) := by decide +kernel
theorem dX12_makeWhole_85 : decode cX12_makeWhole 85 = .ok (.iinc 2 1, 3) := by decide +kernel
theorem dX12_makeWhole_88 : decode cX12_makeWhole 88 = .ok (.goto (-79), 3) := by decide +kernel
theorem dX12_makeWhole_91 : decode cX12_makeWhole 91 = .ok (.iconst 0, 1) := by decide +kernel
theorem dX12_makeWhole_92 : decode cX12_makeWhole 92 = .ok (.istore_n 2, 1) := by decide +kernel
theorem dX12_makeWhole_93 : decode cX12_makeWhole 93 = .ok (.iload_n 2, 1) := by decide +kernel
theorem dX12_makeWhole_94 : decode cX12_makeWhole 94 = .ok (.bipush 9, 2) := by decide +kernel
theorem dX12_makeWhole_96 : decode cX12_makeWhole 96 = .ok (.if_icmp .ge 67, 3) := by decide +kernel
theorem dX12_makeWhole_99 : decode cX12_makeWhole 99 = .ok (.aload_n 0, 1) := by decide +kernel
theorem dX12_makeWhole_100 : decode cX12_makeWhole 100 = .ok (.iconst 2, 1) := by decide +kernel
theorem dX12_makeWhole_101 : decode cX12_makeWhole 101 = .ok (.iload_n 1, 1) := by decide +kernel
theorem dX12_makeWhole_102 : decode cX12_makeWhole 102 = .ok (.iload_n 2, 1) := by decide +kernel
theorem dX12_makeWhole_103 : decode cX12_makeWhole 103 = .ok (.invokestatic 546, 3) := by decide +kernel
theorem dX12_makeWhole_106 : decode cX12_makeWhole 106 = .ok (.invokevirtual 72, 3) := by decide +kernel
theorem dX12_makeWhole_109 : decode cX12_makeWhole 109 = .ok (.aload_n 0, 1) := by decide +kernel
theorem dX12_makeWhole_110 : decode cX12_makeWhole 110 = .ok (.iconst 3, 1) := by decide +kernel
theorem dX12_makeWhole_111 : decode cX12_makeWhole 111 = .ok (.iload_n 1, 1) := by decide +kernel
theorem dX12_makeWhole_112 : decode cX12_makeWhole 112 = .ok (.iload_n 2, 1) := by decide +kernel
theorem dX12_makeWhole_113 : decode cX12_makeWhole 113 = .ok (.invokestatic 546, 3) := by decide +kernel
theorem dX12_makeWhole_116 : decode cX12_makeWhole 116 = .ok (.invokevirtual 75, 3) := by decide +kernel
theorem dX12_makeWhole_119 : decode cX12_makeWhole 119 = .ok (.aload_n 0, 1) := by decide +kernel
theorem dX12_makeWhole_120 : decode cX12_makeWhole 120 = .ok (.bipush 14, 2) := by decide +kernel
theorem dX12_makeWhole_122 : decode cX12_makeWhole 122 = .ok (.bipush 15, 2) := by decide +kernel
theorem dX12_makeWhole_124 : decode cX12_makeWhole 124 = .ok (.bipush 8, 2) := by decide +kernel
theorem dX12_makeWhole_126 : decode cX12_makeWhole 126 = .ok (.iconst 3, 1) := by decide +kernel
theorem dX12_makeWhole_127 : decode cX12_makeWhole 127 = .ok (.invokevirtual 62, 3) := by decide +kernel
theorem dX12_makeWhole_130 : decode cX12_makeWhole 130 = .ok (.aload_n 0, 1) := by decide +kernel
theorem dX12_makeWhole_131 : decode cX12_makeWhole 131 = .ok (.bipush 10, 2) := by decide +kernel
theorem dX12_makeWhole_133 : decode cX12_makeWhole 133 = .ok (.iconst 2, 1) := by decide +kernel
theorem dX12_makeWhole_134 : decode cX12_makeWhole 134 = .ok (.bipush 14, 2) := by decide +kernel
theorem dX12_makeWhole_136 : decode cX12_makeWhole 136 = .ok (.invokevirtual 78, 3) := by decide +kernel
theorem dX12_makeWhole_139 : decode cX12_makeWhole 139 = .ok (.aload_n 0, 1) := by decide +kernel
theorem dX12_makeWhole_140 : decode cX12_makeWhole 140 = .ok (.iconst 0, 1) := by decide +kernel
theorem dX12_makeWhole_141 : decode cX12_makeWhole 141 = .ok (.iload_n 2, 1) := by decide +kernel
theorem dX12_makeWhole_142 : decode cX12_makeWhole 142 = .ok (.iadd, 1) := by decide +kernel
theorem dX12_makeWhole_143 : decode cX12_makeWhole 143 = .ok (.bipush 10, 2) := by decide +kernel
theorem dX12_makeWhole_145 : decode cX12_makeWhole 145 = .ok (.aload_n 0, 1) := by decide +kernel
theorem dX12_makeWhole_146 : decode cX12_makeWhole 146 = .ok (.iload_n 1, 1) := by decide +kernel
theorem dX12_makeWhole_147 : decode cX12_makeWhole 147 = .ok (.iload_n 2, 1) := by decide +kernel
theorem dX12_makeWhole_148 : decode cX12_makeWhole 148 = .ok (.invokestatic 546, 3) := by decide +kernel
theorem dX12_makeWhole_151 : decode cX12_makeWhole 151 = .ok (.invokevirtual 81, 3) := by decide +kernel
theorem dX12_makeWhole_154 : decode cX12_makeWhole 154 = .ok (.invokevirtual 564, 3) := by decide +kernel
theorem dX12_makeWhole_157 : decode cX12_makeWhole 157 = .ok (.iinc 2 1, 3) := by decide +kernel
theorem dX12_makeWhole_160 : decode cX12_makeWhole 160 = .ok (.goto (-67), 3) := by decide +kernel
theorem dX12_makeWhole_163 : decode cX12_makeWhole 163 = .ok (.return_, 1) := by decide +kernel
theorem dX12_raiseWhole_0 : decode cX12_raiseWhole 0 = .ok (.iconst 0, 1) := by decide +kernel
theorem dX12_raiseWhole_1 : decode cX12_raiseWhole 1 = .ok (.istore_n 1, 1) := by decide +kernel
theorem dX12_raiseWhole_2 : decode cX12_raiseWhole 2 = .ok (.iload_n 1, 1) := by decide +kernel
theorem dX12_raiseWhole_3 : decode cX12_raiseWhole 3 = .ok (.bipush 9, 2) := by decide +kernel
theorem dX12_raiseWhole_5 : decode cX12_raiseWhole 5 = .ok (.if_icmp .ge 108, 3) := by decide +kernel
theorem dX12_raiseWhole_8 : decode cX12_raiseWhole 8 = .ok (.aload_n 0, 1) := by decide +kernel
theorem dX12_raiseWhole_9 : decode cX12_raiseWhole 9 = .ok (.bipush 6, 2) := by decide +kernel
theorem dX12_raiseWhole_11 : decode cX12_raiseWhole 11 = .ok (.iconst 0, 1) := by decide +kernel
theorem dX12_raiseWhole_12 : decode cX12_raiseWhole 12 = .ok (.invokevirtual 53, 3) := by decide +kernel
theorem dX12_raiseWhole_15 : decode cX12_raiseWhole 15 = .ok (.iconst 0, 1) := by decide +kernel
theorem dX12_raiseWhole_16 : decode cX12_raiseWhole 16 = .ok (.istore_n 2, 1) := by decide +kernel
theorem dX12_raiseWhole_17 : decode cX12_raiseWhole 17 = .ok (.iconst 0, 1) := by decide +kernel
theorem dX12_raiseWhole_18 : decode cX12_raiseWhole 18 = .ok (.istore_n 3, 1) := by decide +kernel
theorem dX12_raiseWhole_19 : decode cX12_raiseWhole 19 = .ok (.iload_n 3, 1) := by decide +kernel
theorem dX12_raiseWhole_20 : decode cX12_raiseWhole 20 = .ok (.iload_n 1, 1) := by decide +kernel
theorem dX12_raiseWhole_21 : decode cX12_raiseWhole 21 = .ok (.if_icmp .gt 75, 3) := by decide +kernel
theorem dX12_raiseWhole_24 : decode cX12_raiseWhole 24 = .ok (.aload_n 0, 1) := by decide +kernel
theorem dX12_raiseWhole_25 : decode cX12_raiseWhole 25 = .ok (.getfield 296, 3) := by decide +kernel
theorem dX12_raiseWhole_28 : decode cX12_raiseWhole 28 = .ok (.bipush 9, 2) := by decide +kernel
theorem dX12_raiseWhole_30 : decode cX12_raiseWhole 30 = .ok (.iload_n 3, 1) := by decide +kernel
theorem dX12_raiseWhole_31 : decode cX12_raiseWhole 31 = .ok (.iadd, 1) := by decide +kernel
theorem dX12_raiseWhole_32 : decode cX12_raiseWhole 32 = .ok (.iaload, 1) := by decide +kernel
theorem dX12_raiseWhole_33 : decode cX12_raiseWhole 33 = .ok (.aload_n 0, 1) := by decide +kernel
theorem dX12_raiseWhole_34 : decode cX12_raiseWhole 34 = .ok (.getfield 296, 3) := by decide +kernel
theorem dX12_raiseWhole_37 : decode cX12_raiseWhole 37 = .ok (.iconst 0, 1) := by decide +kernel
theorem dX12_raiseWhole_38 : decode cX12_raiseWhole 38 = .ok (.iload_n 1, 1) := by decide +kernel
theorem dX12_raiseWhole_39 : decode cX12_raiseWhole 39 = .ok (.iadd, 1) := by decide +kernel
theorem dX12_raiseWhole_40 : decode cX12_raiseWhole 40 = .ok (.iload_n 3, 1) := by decide +kernel
theorem dX12_raiseWhole_41 : decode cX12_raiseWhole 41 = .ok (.isub, 1) := by decide +kernel
theorem dX12_raiseWhole_42 : decode cX12_raiseWhole 42 = .ok (.iaload, 1) := by decide +kernel
theorem dX12_raiseWhole_43 : decode cX12_raiseWhole 43 = .ok (.imul, 1) := by decide +kernel
theorem dX12_raiseWhole_44 : decode cX12_raiseWhole 44 = .ok (.istore 4, 2) := by decide +kernel
theorem dX12_raiseWhole_46 : decode cX12_raiseWhole 46 = .ok (.iload 4, 2) := by decide +kernel
theorem dX12_raiseWhole_48 : decode cX12_raiseWhole 48 = .ok (.ifCond .eq 42, 3) := by decide +kernel
theorem dX12_raiseWhole_51 : decode cX12_raiseWhole 51 = .ok (.aload_n 0, 1) := by decide +kernel
theorem dX12_raiseWhole_52 : decode cX12_raiseWhole 52 = .ok (.iconst 2, 1) := by decide +kernel
theorem dX12_raiseWhole_53 : decode cX12_raiseWhole 53 = .ok (.bipush 9, 2) := by decide +kernel
theorem dX12_raiseWhole_55 : decode cX12_raiseWhole 55 = .ok (.iload_n 3, 1) := by decide +kernel
theorem dX12_raiseWhole_56 : decode cX12_raiseWhole 56 = .ok (.iadd, 1) := by decide +kernel
theorem dX12_raiseWhole_57 : decode cX12_raiseWhole 57 = .ok (.invokevirtual 567, 3) := by decide +kernel
theorem dX12_raiseWhole_60 : decode cX12_raiseWhole 60 = .ok (.aload_n 0, 1) := by decide +kernel
theorem dX12_raiseWhole_61 : decode cX12_raiseWhole 61 = .ok (.iconst 3, 1) := by decide +kernel
theorem dX12_raiseWhole_62 : decode cX12_raiseWhole 62 = .ok (.iconst 0, 1) := by decide +kernel
theorem dX12_raiseWhole_63 : decode cX12_raiseWhole 63 = .ok (.iload_n 1, 1) := by decide +kernel
theorem dX12_raiseWhole_64 : decode cX12_raiseWhole 64 = .ok (.iadd, 1) := by decide +kernel
theorem dX12_raiseWhole_65 : decode cX12_raiseWhole 65 = .ok (.iload_n 3, 1) := by decide +kernel
theorem dX12_raiseWhole_66 : decode cX12_raiseWhole 66 = .ok (.isub, 1) := by decide +kernel
theorem dX12_raiseWhole_67 : decode cX12_raiseWhole 67 = .ok (.invokevirtual 567, 3) := by decide +kernel
theorem dX12_raiseWhole_70 : decode cX12_raiseWhole 70 = .ok (.aload_n 0, 1) := by decide +kernel
theorem dX12_raiseWhole_71 : decode cX12_raiseWhole 71 = .ok (.bipush 7, 2) := by decide +kernel
theorem dX12_raiseWhole_73 : decode cX12_raiseWhole 73 = .ok (.iconst 2, 1) := by decide +kernel
theorem dX12_raiseWhole_74 : decode cX12_raiseWhole 74 = .ok (.iconst 3, 1) := by decide +kernel
theorem dX12_raiseWhole_75 : decode cX12_raiseWhole 75 = .ok (.invokevirtual 78, 3) := by decide +kernel
theorem dX12_raiseWhole_78 : decode cX12_raiseWhole 78 = .ok (.aload_n 0, 1) := by decide +kernel
theorem dX12_raiseWhole_79 : decode cX12_raiseWhole 79 = .ok (.bipush 6, 2) := by decide +kernel
theorem dX12_raiseWhole_81 : decode cX12_raiseWhole 81 = .ok (.iload_n 2, 1) := by decide +kernel
theorem dX12_raiseWhole_82 : decode cX12_raiseWhole 82 = .ok (.bipush 7, 2) := by decide +kernel
theorem dX12_raiseWhole_84 : decode cX12_raiseWhole 84 = .ok (.iload 4, 2) := by decide +kernel
theorem dX12_raiseWhole_86 : decode cX12_raiseWhole 86 = .ok (.invokevirtual 84, 3) := by decide +kernel
theorem dX12_raiseWhole_89 : decode cX12_raiseWhole 89 = .ok (.istore_n 2, 1) := by decide +kernel
theorem dX12_raiseWhole_90 : decode cX12_raiseWhole 90 = .ok (.iinc 3 1, 3) := by decide +kernel
theorem dX12_raiseWhole_93 : decode cX12_raiseWhole 93 = .ok (.goto (-74), 3) := by decide +kernel
theorem dX12_raiseWhole_96 : decode cX12_raiseWhole 96 = .ok (.aload_n 0, 1) := by decide +kernel
theorem dX12_raiseWhole_97 : decode cX12_raiseWhole 97 = .ok (.bipush 18, 2) := by decide +kernel
theorem dX12_raiseWhole_99 : decode cX12_raiseWhole 99 = .ok (.iload_n 1, 1) := by decide +kernel
theorem dX12_raiseWhole_100 : decode cX12_raiseWhole 100 = .ok (.iadd, 1) := by decide +kernel
theorem dX12_raiseWhole_101 : decode cX12_raiseWhole 101 = .ok (.bipush 6, 2) := by decide +kernel
theorem dX12_raiseWhole_103 : decode cX12_raiseWhole 103 = .ok (.iload_n 2, 1) := by decide +kernel
theorem dX12_raiseWhole_104 : decode cX12_raiseWhole 104 = .ok (.invokevirtual 564, 3) := by decide +kernel
theorem dX12_raiseWhole_107 : decode cX12_raiseWhole 107 = .ok (.iinc 1 1, 3) := by decide +kernel
theorem dX12_raiseWhole_110 : decode cX12_raiseWhole 110 = .ok (.goto (-108), 3) := by decide +kernel
theorem dX12_raiseWhole_113 : decode cX12_raiseWhole 113 = .ok (.iconst 0, 1) := by decide +kernel
theorem dX12_raiseWhole_114 : decode cX12_raiseWhole 114 = .ok (.istore_n 1, 1) := by decide +kernel
theorem dX12_raiseWhole_115 : decode cX12_raiseWhole 115 = .ok (.iload_n 1, 1) := by decide +kernel
theorem dX12_raiseWhole_116 : decode cX12_raiseWhole 116 = .ok (.bipush 9, 2) := by decide +kernel
theorem dX12_raiseWhole_118 : decode cX12_raiseWhole 118 = .ok (.if_icmp .ge 36, 3) := by decide +kernel
theorem dX12_raiseWhole_121 : decode cX12_raiseWhole 121 = .ok (.aload_n 0, 1) := by decide +kernel
theorem dX12_raiseWhole_122 : decode cX12_raiseWhole 122 = .ok (.iconst 2, 1) := by decide +kernel
theorem dX12_raiseWhole_123 : decode cX12_raiseWhole 123 = .ok (.bipush 18, 2) := by decide +kernel
theorem dX12_raiseWhole_125 : decode cX12_raiseWhole 125 = .ok (.iload_n 1, 1) := by decide +kernel
theorem dX12_raiseWhole_126 : decode cX12_raiseWhole 126 = .ok (.iadd, 1) := by decide +kernel
theorem dX12_raiseWhole_127 : decode cX12_raiseWhole 127 = .ok (.invokevirtual 567, 3) := by decide +kernel
theorem dX12_raiseWhole_130 : decode cX12_raiseWhole 130 = .ok (.aload_n 0, 1) := by decide +kernel
theorem dX12_raiseWhole_131 : decode cX12_raiseWhole 131 = .ok (.bipush 9, 2) := by decide +kernel
theorem dX12_raiseWhole_133 : decode cX12_raiseWhole 133 = .ok (.iload_n 1, 1) := by decide +kernel
theorem dX12_raiseWhole_134 : decode cX12_raiseWhole 134 = .ok (.iadd, 1) := by decide +kernel
theorem dX12_raiseWhole_135 : decode cX12_raiseWhole 135 = .ok (.iconst 2, 1) := by decide +kernel
theorem dX12_raiseWhole_136 : decode cX12_raiseWhole 136 = .ok (.aload_n 0, 1) := by decide +kernel
theorem dX12_raiseWhole_137 : decode cX12_raiseWhole 137 = .ok (.getfield 296, 3) := by decide +kernel
theorem dX12_raiseWhole_140 : decode cX12_raiseWhole 140 = .ok (.bipush 18, 2) := by decide +kernel
theorem dX12_raiseWhole_142 : decode cX12_raiseWhole 142 = .ok (.iload_n 1, 1) := by decide +kernel
theorem dX12_raiseWhole_143 : decode cX12_raiseWhole 143 = .ok (.iadd, 1) := by decide +kernel
theorem dX12_raiseWhole_144 : decode cX12_raiseWhole 144 = .ok (.iaload, 1) := by decide +kernel
theorem dX12_raiseWhole_145 : decode cX12_raiseWhole 145 = .ok (.invokevirtual 564, 3) := by decide +kernel
theorem dX12_raiseWhole_148 : decode cX12_raiseWhole 148 = .ok (.iinc 1 1, 3) := by decide +kernel
theorem dX12_raiseWhole_151 : decode cX12_raiseWhole 151 = .ok (.goto (-36), 3) := by decide +kernel
theorem dX12_raiseWhole_154 : decode cX12_raiseWhole 154 = .ok (.return_, 1) := by decide +kernel
theorem dX12_raisePolynomial_0 : decode cX12_raisePolynomial 0 = .ok (.aload_n 0, 1) := by decide +kernel
theorem dX12_raisePolynomial_1 : decode cX12_raisePolynomial 1 = .ok (.iload_n 1, 1) := by decide +kernel
theorem dX12_raisePolynomial_2 : decode cX12_raisePolynomial 2 = .ok (.invokevirtual 552, 3) := by decide +kernel
theorem dX12_raisePolynomial_5 : decode cX12_raisePolynomial 5 = .ok (.iload_n 2, 1) := by decide +kernel
theorem dX12_raisePolynomial_6 : decode cX12_raisePolynomial 6 = .ok (.imul, 1) := by decide +kernel
theorem dX12_raisePolynomial_7 : decode cX12_raisePolynomial 7 = .ok (.bipush 8, 2) := by decide +kernel
theorem dX12_raisePolynomial_9 : decode cX12_raisePolynomial 9 = .ok (.if_icmp .le 5, 3) := by decide +kernel
theorem dX12_raisePolynomial_12 : decode cX12_raisePolynomial 12 = .ok (.iconst 0, 1) := by decide +kernel
theorem dX12_raisePolynomial_13 : decode cX12_raisePolynomial 13 = .ok (.ireturn, 1) := by decide +kernel
theorem dX12_raisePolynomial_14 : decode cX12_raisePolynomial 14 = .ok (.aload_n 0, 1) := by decide +kernel
theorem dX12_raisePolynomial_15 : decode cX12_raisePolynomial 15 = .ok (.iload_n 1, 1) := by decide +kernel
theorem dX12_raisePolynomial_16 : decode cX12_raisePolynomial 16 = .ok (.invokevirtual 570, 3) := by decide +kernel
theorem dX12_raisePolynomial_19 : decode cX12_raisePolynomial 19 = .ok (.iconst 0, 1) := by decide +kernel
theorem dX12_raisePolynomial_20 : decode cX12_raisePolynomial 20 = .ok (.istore_n 3, 1) := by decide +kernel
theorem dX12_raisePolynomial_21 : decode cX12_raisePolynomial 21 = .ok (.iload_n 3, 1) := by decide +kernel
theorem dX12_raisePolynomial_22 : decode cX12_raisePolynomial 22 = .ok (.bipush 9, 2) := by decide +kernel
theorem dX12_raisePolynomial_24 : decode cX12_raisePolynomial 24 = .ok (.if_icmp .ge 33, 3) := by decide +kernel
theorem dX12_raisePolynomial_27 : decode cX12_raisePolynomial 27 = .ok (.aload_n 0, 1) := by decide +kernel
theorem dX12_raisePolynomial_28 : decode cX12_raisePolynomial 28 = .ok (.iconst 2, 1) := by decide +kernel
theorem dX12_raisePolynomial_29 : decode cX12_raisePolynomial 29 = .ok (.iload_n 3, 1) := by decide +kernel
theorem dX12_raisePolynomial_30 : decode cX12_raisePolynomial 30 = .ok (.ifCond .ne 7, 3) := by decide +kernel
theorem dX12_raisePolynomial_33 : decode cX12_raisePolynomial 33 = .ok (.iconst 1, 1) := by decide +kernel
theorem dX12_raisePolynomial_34 : decode cX12_raisePolynomial 34 = .ok (.goto 4, 3) := by decide +kernel
theorem dX12_raisePolynomial_37 : decode cX12_raisePolynomial 37 = .ok (.iconst 0, 1) := by decide +kernel
theorem dX12_raisePolynomial_38 : decode cX12_raisePolynomial 38 = .ok (.invokevirtual 53, 3) := by decide +kernel
theorem dX12_raisePolynomial_41 : decode cX12_raisePolynomial 41 = .ok (.aload_n 0, 1) := by decide +kernel
theorem dX12_raisePolynomial_42 : decode cX12_raisePolynomial 42 = .ok (.bipush 9, 2) := by decide +kernel
theorem dX12_raisePolynomial_44 : decode cX12_raisePolynomial 44 = .ok (.iload_n 3, 1) := by decide +kernel
theorem dX12_raisePolynomial_45 : decode cX12_raisePolynomial 45 = .ok (.iadd, 1) := by decide +kernel
theorem dX12_raisePolynomial_46 : decode cX12_raisePolynomial 46 = .ok (.iconst 2, 1) := by decide +kernel
theorem dX12_raisePolynomial_47 : decode cX12_raisePolynomial 47 = .ok (.iconst 1, 1) := by decide +kernel
theorem dX12_raisePolynomial_48 : decode cX12_raisePolynomial 48 = .ok (.invokevirtual 564, 3) := by decide +kernel
theorem dX12_raisePolynomial_51 : decode cX12_raisePolynomial 51 = .ok (.iinc 3 1, 3) := by decide +kernel
theorem dX12_raisePolynomial_54 : decode cX12_raisePolynomial 54 = .ok (.goto (-33), 3) := by decide +kernel
theorem dX12_raisePolynomial_57 : decode cX12_raisePolynomial 57 = .ok (.aload_n 0, 1) := by decide +kernel
theorem dX12_raisePolynomial_58 : decode cX12_raisePolynomial 58 = .ok (.bipush 9, 2) := by decide +kernel
theorem dX12_raisePolynomial_60 : decode cX12_raisePolynomial 60 = .ok (.iconst 1, 1) := by decide +kernel
theorem dX12_raisePolynomial_61 : decode cX12_raisePolynomial 61 = .ok (.invokevirtual 53, 3) := by decide +kernel
theorem dX12_raisePolynomial_64 : decode cX12_raisePolynomial 64 = .ok (.iconst 0, 1) := by decide +kernel
theorem dX12_raisePolynomial_65 : decode cX12_raisePolynomial 65 = .ok (.istore_n 3, 1) := by decide +kernel
theorem dX12_raisePolynomial_66 : decode cX12_raisePolynomial 66 = .ok (.iload_n 3, 1) := by decide +kernel
theorem dX12_raisePolynomial_67 : decode cX12_raisePolynomial 67 = .ok (.iload_n 2, 1) := by decide +kernel
theorem dX12_raisePolynomial_68 : decode cX12_raisePolynomial 68 = .ok (.if_icmp .ge 31, 3) := by decide +kernel
theorem dX12_raisePolynomial_71 : decode cX12_raisePolynomial 71 = .ok (.aload_n 0, 1) := by decide +kernel
theorem dX12_raisePolynomial_72 : decode cX12_raisePolynomial 72 = .ok (.invokevirtual 573, 3) := by decide +kernel
theorem dX12_raisePolynomial_75 : decode cX12_raisePolynomial 75 = .ok (.aload_n 0, 1) := by decide +kernel
theorem dX12_raisePolynomial_76 : decode cX12_raisePolynomial 76 = .ok (.bipush 10, 2) := by decide +kernel
theorem dX12_raisePolynomial_78 : decode cX12_raisePolynomial 78 = .ok (.bipush 9, 2) := by decide +kernel
theorem dX12_raisePolynomial_80 : decode cX12_raisePolynomial 80 = .ok (.bipush 8, 2) := by decide +kernel
theorem dX12_raisePolynomial_82 : decode cX12_raisePolynomial 82 = .ok (.invokevirtual 78, 3) := by decide +kernel
theorem dX12_raisePolynomial_85 : decode cX12_raisePolynomial 85 = .ok (.aload_n 0, 1) := by decide +kernel
theorem dX12_raisePolynomial_86 : decode cX12_raisePolynomial 86 = .ok (.bipush 9, 2) := by decide +kernel
theorem dX12_raisePolynomial_88 : decode cX12_raisePolynomial 88 = .ok (.bipush 10, 2) := by decide +kernel
theorem dX12_raisePolynomial_90 : decode cX12_raisePolynomial 90 = .ok (.invokevirtual 43, 3) := by decide +kernel
theorem dX12_raisePolynomial_93 : decode cX12_raisePolynomial 93 = .ok (.iinc 3 1, 3) := by decide +kernel
theorem dX12_raisePolynomial_96 : decode cX12_raisePolynomial 96 = .ok (.goto (-30), 3) := by decide +kernel
theorem dX12_raisePolynomial_99 : decode cX12_raisePolynomial 99 = .ok (.iconst 1, 1) := by decide +kernel
theorem dX12_raisePolynomial_100 : decode cX12_raisePolynomial 100 = .ok (.istore_n 3, 1) := by decide +kernel
theorem dX12_raisePolynomial_101 : decode cX12_raisePolynomial 101 = .ok (.iconst 0, 1) := by decide +kernel
theorem dX12_raisePolynomial_102 : decode cX12_raisePolynomial 102 = .ok (.istore 4, 2) := by decide +kernel
theorem dX12_raisePolynomial_104 : decode cX12_raisePolynomial 104 = .ok (.iload 4, 2) := by decide +kernel
theorem dX12_raisePolynomial_106 : decode cX12_raisePolynomial 106 = .ok (.bipush 9, 2) := by decide +kernel
theorem dX12_raisePolynomial_108 : decode cX12_raisePolynomial 108 = .ok (.if_icmp .ge 51, 3) := by decide +kernel
theorem dX12_raisePolynomial_111 : decode cX12_raisePolynomial 111 = .ok (.iload_n 3, 1) := by decide +kernel
theorem dX12_raisePolynomial_112 : decode cX12_raisePolynomial 112 = .ok (.ifCond .eq 47, 3) := by decide +kernel
theorem dX12_raisePolynomial_115 : decode cX12_raisePolynomial 115 = .ok (.aload_n 0, 1) := by decide +kernel
theorem dX12_raisePolynomial_116 : decode cX12_raisePolynomial 116 = .ok (.iconst 0, 1) := by decide +kernel
theorem dX12_raisePolynomial_117 : decode cX12_raisePolynomial 117 = .ok (.bipush 9, 2) := by decide +kernel
theorem dX12_raisePolynomial_119 : decode cX12_raisePolynomial 119 = .ok (.iload 4, 2) := by decide +kernel
theorem dX12_raisePolynomial_121 : decode cX12_raisePolynomial 121 = .ok (.iadd, 1) := by decide +kernel
theorem dX12_raisePolynomial_122 : decode cX12_raisePolynomial 122 = .ok (.invokevirtual 567, 3) := by decide +kernel
theorem dX12_raisePolynomial_125 : decode cX12_raisePolynomial 125 = .ok (.aload_n 0, 1) := by decide +kernel
theorem dX12_raisePolynomial_126 : decode cX12_raisePolynomial 126 = .ok (.iconst 1, 1) := by decide +kernel
theorem dX12_raisePolynomial_127 : decode cX12_raisePolynomial 127 = .ok (.bipush 9, 2) := by decide +kernel
theorem dX12_raisePolynomial_129 : decode cX12_raisePolynomial 129 = .ok (.invokevirtual 43, 3) := by decide +kernel
theorem dX12_raisePolynomial_132 : decode cX12_raisePolynomial 132 = .ok (.aload_n 0, 1) := by decide +kernel
theorem dX12_raisePolynomial_133 : decode cX12_raisePolynomial 133 = .ok (.iload_n 1, 1) := by decide +kernel
theorem dX12_raisePolynomial_134 : decode cX12_raisePolynomial 134 = .ok (.iload 4, 2) := by decide +kernel
theorem dX12_raisePolynomial_136 : decode cX12_raisePolynomial 136 = .ok (.invokestatic 546, 3) := by decide +kernel
theorem dX12_raisePolynomial_139 : decode cX12_raisePolynomial 139 = .ok (.aload_n 0, 1) := by decide +kernel
theorem dX12_raisePolynomial_140 : decode cX12_raisePolynomial 140 = .ok (.getfield 296, 3) := by decide +kernel
theorem dX12_raisePolynomial_143 : decode cX12_raisePolynomial 143 = .ok (.bipush 9, 2) := by decide +kernel
theorem dX12_raisePolynomial_145 : decode cX12_raisePolynomial 145 = .ok (.iload 4, 2) := by decide +kernel
theorem dX12_raisePolynomial_147 : decode cX12_raisePolynomial 147 = .ok (.iadd, 1) := by decide +kernel
theorem dX12_raisePolynomial_148 : decode cX12_raisePolynomial 148 = .ok (.iaload, 1) := by decide +kernel
theorem dX12_raisePolynomial_149 : decode cX12_raisePolynomial 149 = .ok (.invokevirtual 88, 3) := by decide +kernel
theorem dX12_raisePolynomial_152 : decode cX12_raisePolynomial 152 = .ok (.istore_n 3, 1) := by decide +kernel
theorem dX12_raisePolynomial_153 : decode cX12_raisePolynomial 153 = .ok (.iinc 4 1, 3) := by decide +kernel
theorem dX12_raisePolynomial_156 : decode cX12_raisePolynomial 156 = .ok (.goto (-52), 3) := by decide +kernel
theorem dX12_raisePolynomial_159 : decode cX12_raisePolynomial 159 = .ok (.iload_n 3, 1) := by decide +kernel
theorem dX12_raisePolynomial_160 : decode cX12_raisePolynomial 160 = .ok (.ireturn, 1) := by decide +kernel
theorem dX12_scalePolynomials_0 : decode cX12_scalePolynomials 0 = .ok (.aload_n 0, 1) := by decide +kernel
theorem dX12_scalePolynomials_1 : decode cX12_scalePolynomials 1 = .ok (.iload_n 2, 1) := by decide +kernel
theorem dX12_scalePolynomials_2 : decode cX12_scalePolynomials 2 = .ok (.invokevirtual 552, 3) := by decide +kernel
theorem dX12_scalePolynomials_5 : decode cX12_scalePolynomials 5 = .ok (.ifCond .ne 19, 3) := by decide +kernel
theorem dX12_scalePolynomials_8 : decode cX12_scalePolynomials 8 = .ok (.aload_n 0, 1) := by decide +kernel
theorem dX12_scalePolynomials_9 : decode cX12_scalePolynomials 9 = .ok (.iload_n 2, 1) := by decide +kernel
theorem dX12_scalePolynomials_10 : decode cX12_scalePolynomials 10 = .ok (.iconst 0, 1) := by decide +kernel
theorem dX12_scalePolynomials_11 : decode cX12_scalePolynomials 11 = .ok (.invokestatic 546, 3) := by decide +kernel
theorem dX12_scalePolynomials_14 : decode cX12_scalePolynomials 14 = .ok (.invokevirtual 81, 3) := by decide +kernel
theorem dX12_scalePolynomials_17 : decode cX12_scalePolynomials 17 = .ok (.ifCond .eq 7, 3) := by decide +kernel
theorem dX12_scalePolynomials_20 : decode cX12_scalePolynomials 20 = .ok (.iconst 1, 1) := by decide +kernel
theorem dX12_scalePolynomials_21 : decode cX12_scalePolynomials 21 = .ok (.goto 4, 3) := by decide +kernel
theorem dX12_scalePolynomials_24 : decode cX12_scalePolynomials 24 = .ok (.iconst 0, 1) := by decide +kernel
theorem dX12_scalePolynomials_25 : decode cX12_scalePolynomials 25 = .ok (.istore_n 3, 1) := by decide +kernel
theorem dX12_scalePolynomials_26 : decode cX12_scalePolynomials 26 = .ok (.iconst 0, 1) := by decide +kernel
theorem dX12_scalePolynomials_27 : decode cX12_scalePolynomials 27 = .ok (.istore 4, 2) := by decide +kernel
theorem dX12_scalePolynomials_29 : decode cX12_scalePolynomials 29 = .ok (.iload 4, 2) := by decide +kernel
theorem dX12_scalePolynomials_31 : decode cX12_scalePolynomials 31 = .ok (.bipush 9, 2) := by decide +kernel
theorem dX12_scalePolynomials_33 : decode cX12_scalePolynomials 33 = .ok (.if_icmp .ge 35, 3) := by decide +kernel
theorem dX12_scalePolynomials_36 : decode cX12_scalePolynomials 36 = .ok (.iload_n 3, 1) := by decide +kernel
theorem dX12_scalePolynomials_37 : decode cX12_scalePolynomials 37 = .ok (.ifCond .eq 31, 3) := by decide +kernel
theorem dX12_scalePolynomials_40 : decode cX12_scalePolynomials 40 = .ok (.aload_n 0, 1) := by decide +kernel
theorem dX12_scalePolynomials_41 : decode cX12_scalePolynomials 41 = .ok (.iload_n 1, 1) := by decide +kernel
theorem dX12_scalePolynomials_42 : decode cX12_scalePolynomials 42 = .ok (.iload 4, 2) := by decide +kernel
theorem dX12_scalePolynomials_44 : decode cX12_scalePolynomials 44 = .ok (.invokestatic 546, 3) := by decide +kernel
theorem dX12_scalePolynomials_47 : decode cX12_scalePolynomials 47 = .ok (.iload_n 1, 1) := by decide +kernel
theorem dX12_scalePolynomials_48 : decode cX12_scalePolynomials 48 = .ok (.iload 4, 2) := by decide +kernel
theorem dX12_scalePolynomials_50 : decode cX12_scalePolynomials 50 = .ok (.invokestatic 546, 3) := by decide +kernel
theorem dX12_scalePolynomials_53 : decode cX12_scalePolynomials 53 = .ok (.iload_n 2, 1) := by decide +kernel
theorem dX12_scalePolynomials_54 : decode cX12_scalePolynomials 54 = .ok (.iconst 0, 1) := by decide +kernel
theorem dX12_scalePolynomials_55 : decode cX12_scalePolynomials 55 = .ok (.invokestatic 546, 3) := by decide +kernel
theorem dX12_scalePolynomials_58 : decode cX12_scalePolynomials 58 = .ok (.invokevirtual 112, 3) := by decide +kernel
theorem dX12_scalePolynomials_61 : decode cX12_scalePolynomials 61 = .ok (.istore_n 3, 1) := by decide +kernel
theorem dX12_scalePolynomials_62 : decode cX12_scalePolynomials 62 = .ok (.iinc 4 1, 3) := by decide +kernel
theorem dX12_scalePolynomials_65 : decode cX12_scalePolynomials 65 = .ok (.goto (-36), 3) := by decide +kernel
theorem dX12_scalePolynomials_68 : decode cX12_scalePolynomials 68 = .ok (.iload_n 3, 1) := by decide +kernel
theorem dX12_scalePolynomials_69 : decode cX12_scalePolynomials 69 = .ok (.ireturn, 1) := by decide +kernel
theorem dX12_gatherTwo_0 : decode cX12_gatherTwo 0 = .ok (.aload_n 0, 1) := by decide +kernel
theorem dX12_gatherTwo_1 : decode cX12_gatherTwo 1 = .ok (.dup, 1) := by decide +kernel
theorem dX12_gatherTwo_2 : decode cX12_gatherTwo 2 = .ok (.getfield 576, 3) := by decide +kernel
theorem dX12_gatherTwo_5 : decode cX12_gatherTwo 5 = .ok (.iconst 1, 1) := by decide +kernel
theorem dX12_gatherTwo_6 : decode cX12_gatherTwo 6 = .ok (.isub, 1) := by decide +kernel
theorem dX12_gatherTwo_7 : decode cX12_gatherTwo 7 = .ok (.putfield 576, 3) := by decide +kernel
theorem dX12_gatherTwo_10 : decode cX12_gatherTwo 10 = .ok (.aload_n 0, 1) := by decide +kernel
theorem dX12_gatherTwo_11 : decode cX12_gatherTwo 11 = .ok (.getfield 576, 3) := by decide +kernel
theorem dX12_gatherTwo_14 : decode cX12_gatherTwo 14 = .ok (.iconst 1, 1) := by decide +kernel
theorem dX12_gatherTwo_15 : decode cX12_gatherTwo 15 = .ok (.isub, 1) := by decide +kernel
theorem dX12_gatherTwo_16 : decode cX12_gatherTwo 16 = .ok (.istore_n 3, 1) := by decide +kernel
theorem dX12_gatherTwo_17 : decode cX12_gatherTwo 17 = .ok (.aload_n 0, 1) := by decide +kernel
theorem dX12_gatherTwo_18 : decode cX12_gatherTwo 18 = .ok (.getfield 576, 3) := by decide +kernel
theorem dX12_gatherTwo_21 : decode cX12_gatherTwo 21 = .ok (.istore 4, 2) := by decide +kernel
theorem dX12_gatherTwo_23 : decode cX12_gatherTwo 23 = .ok (.iconst 1, 1) := by decide +kernel
theorem dX12_gatherTwo_24 : decode cX12_gatherTwo 24 = .ok (.istore 5, 2) := by decide +kernel
theorem dX12_gatherTwo_26 : decode cX12_gatherTwo 26 = .ok (.iload_n 2, 1) := by decide +kernel
theorem dX12_gatherTwo_27 : decode cX12_gatherTwo 27 = .ok (.tableswitch 179 0 5 #[37, 37, 95, 120, 179, 128], 37) := by decide +kernel
theorem dX12_gatherTwo_64 : decode cX12_gatherTwo 64 = .ok (.iconst 0, 1) := by decide +kernel
theorem dX12_gatherTwo_65 : decode cX12_gatherTwo 65 = .ok (.istore 6, 2) := by decide +kernel
theorem dX12_gatherTwo_67 : decode cX12_gatherTwo 67 = .ok (.iload 6, 2) := by decide +kernel
theorem dX12_gatherTwo_69 : decode cX12_gatherTwo 69 = .ok (.bipush 9, 2) := by decide +kernel
theorem dX12_gatherTwo_71 : decode cX12_gatherTwo 71 = .ok (.if_icmp .ge 48, 3) := by decide +kernel
theorem dX12_gatherTwo_74 : decode cX12_gatherTwo 74 = .ok (.iload 5, 2) := by decide +kernel
theorem dX12_gatherTwo_76 : decode cX12_gatherTwo 76 = .ok (.ifCond .eq 43, 3) := by decide +kernel
theorem dX12_gatherTwo_79 : decode cX12_gatherTwo 79 = .ok (.aload_n 0, 1) := by decide +kernel
theorem dX12_gatherTwo_80 : decode cX12_gatherTwo 80 = .ok (.iload_n 3, 1) := by decide +kernel
theorem dX12_gatherTwo_81 : decode cX12_gatherTwo 81 = .ok (.iload 6, 2) := by decide +kernel
theorem dX12_gatherTwo_83 : decode cX12_gatherTwo 83 = .ok (.invokestatic 546, 3) := by decide +kernel
theorem dX12_gatherTwo_86 : decode cX12_gatherTwo 86 = .ok (.iload_n 3, 1) := by decide +kernel
theorem dX12_gatherTwo_87 : decode cX12_gatherTwo 87 = .ok (.iload 6, 2) := by decide +kernel
theorem dX12_gatherTwo_89 : decode cX12_gatherTwo 89 = .ok (.invokestatic 546, 3) := by decide +kernel
theorem dX12_gatherTwo_92 : decode cX12_gatherTwo 92 = .ok (.iload 4, 2) := by decide +kernel
theorem dX12_gatherTwo_94 : decode cX12_gatherTwo 94 = .ok (.iload 6, 2) := by decide +kernel
theorem dX12_gatherTwo_96 : decode cX12_gatherTwo 96 = .ok (.invokestatic 546, 3) := by decide +kernel
theorem dX12_gatherTwo_99 : decode cX12_gatherTwo 99 = .ok (.iload_n 2, 1) := by decide +kernel
theorem dX12_gatherTwo_100 : decode cX12_gatherTwo 100 = .ok (.ifCond .ne 7, 3) := by decide +kernel
theorem dX12_gatherTwo_103 : decode cX12_gatherTwo 103 = .ok (.iconst 1, 1) := by decide +kernel
theorem dX12_gatherTwo_104 : decode cX12_gatherTwo 104 = .ok (.goto 4, 3) := by decide +kernel
theorem dX12_gatherTwo_107 : decode cX12_gatherTwo 107 = .ok (.iconst (-1), 1) := by decide +kernel
theorem dX12_gatherTwo_108 : decode cX12_gatherTwo 108 = .ok (.invokevirtual 121, 3) := by decide +kernel
theorem dX12_gatherTwo_111 : decode cX12_gatherTwo 111 = .ok (.istore 5, 2) := by decide +kernel
theorem dX12_gatherTwo_113 : decode cX12_gatherTwo 113 = .ok (.iinc 6 1, 3) := by decide +kernel
theorem dX12_gatherTwo_116 : decode cX12_gatherTwo 116 = .ok (.goto (-49), 3) := by decide +kernel
theorem dX12_gatherTwo_119 : decode cX12_gatherTwo 119 = .ok (.iload 5, 2) := by decide +kernel
theorem dX12_gatherTwo_121 : decode cX12_gatherTwo 121 = .ok (.ireturn, 1) := by decide +kernel
theorem dX12_gatherTwo_122 : decode cX12_gatherTwo 122 = .ok (.aload_n 0, 1) := by decide +kernel
theorem dX12_gatherTwo_123 : decode cX12_gatherTwo 123 = .ok (.iload 4, 2) := by decide +kernel
theorem dX12_gatherTwo_125 : decode cX12_gatherTwo 125 = .ok (.iconst 1, 1) := by decide +kernel
theorem dX12_gatherTwo_126 : decode cX12_gatherTwo 126 = .ok (.iadd, 1) := by decide +kernel
theorem dX12_gatherTwo_127 : decode cX12_gatherTwo 127 = .ok (.iload_n 3, 1) := by decide +kernel
theorem dX12_gatherTwo_128 : decode cX12_gatherTwo 128 = .ok (.iload 4, 2) := by decide +kernel
theorem dX12_gatherTwo_130 : decode cX12_gatherTwo 130 = .ok (.invokevirtual 579, 3) := by decide +kernel
theorem dX12_gatherTwo_133 : decode cX12_gatherTwo 133 = .ok (.istore 5, 2) := by decide +kernel
theorem dX12_gatherTwo_135 : decode cX12_gatherTwo 135 = .ok (.aload_n 0, 1) := by decide +kernel
theorem dX12_gatherTwo_136 : decode cX12_gatherTwo 136 = .ok (.iload_n 3, 1) := by decide +kernel
theorem dX12_gatherTwo_137 : decode cX12_gatherTwo 137 = .ok (.iload 4, 2) := by decide +kernel
theorem dX12_gatherTwo_139 : decode cX12_gatherTwo 139 = .ok (.iconst 1, 1) := by decide +kernel
theorem dX12_gatherTwo_140 : decode cX12_gatherTwo 140 = .ok (.iadd, 1) := by decide +kernel
theorem dX12_gatherTwo_141 : decode cX12_gatherTwo 141 = .ok (.invokevirtual 582, 3) := by decide +kernel
theorem dX12_gatherTwo_144 : decode cX12_gatherTwo 144 = .ok (.iload 5, 2) := by decide +kernel
theorem dX12_gatherTwo_146 : decode cX12_gatherTwo 146 = .ok (.ireturn, 1) := by decide +kernel
theorem dX12_gatherTwo_147 : decode cX12_gatherTwo 147 = .ok (.aload_n 0, 1) := by decide +kernel
theorem dX12_gatherTwo_148 : decode cX12_gatherTwo 148 = .ok (.iload_n 3, 1) := by decide +kernel
theorem dX12_gatherTwo_149 : decode cX12_gatherTwo 149 = .ok (.iload 4, 2) := by decide +kernel
theorem dX12_gatherTwo_151 : decode cX12_gatherTwo 151 = .ok (.invokevirtual 585, 3) := by decide +kernel
theorem dX12_gatherTwo_154 : decode cX12_gatherTwo 154 = .ok (.ireturn, 1) := by decide +kernel
theorem dX12_gatherTwo_155 : decode cX12_gatherTwo 155 = .ok (.aload_n 0, 1) := by decide +kernel
theorem dX12_gatherTwo_156 : decode cX12_gatherTwo 156 = .ok (.iload_n 1, 1) := by decide +kernel
theorem dX12_gatherTwo_157 : decode cX12_gatherTwo 157 = .ok (.iconst 1, 1) := by decide +kernel
theorem dX12_gatherTwo_158 : decode cX12_gatherTwo 158 = .ok (.invokevirtual 405, 3) := by decide +kernel
theorem dX12_gatherTwo_161 : decode cX12_gatherTwo 161 = .ok (.istore 6, 2) := by decide +kernel
theorem dX12_gatherTwo_163 : decode cX12_gatherTwo 163 = .ok (.aload_n 0, 1) := by decide +kernel
theorem dX12_gatherTwo_164 : decode cX12_gatherTwo 164 = .ok (.getfield 135, 3) := by decide +kernel
theorem dX12_gatherTwo_167 : decode cX12_gatherTwo 167 = .ok (.iload 6, 2) := by decide +kernel
theorem dX12_gatherTwo_169 : decode cX12_gatherTwo 169 = .ok (.iaload, 1) := by decide +kernel
theorem dX12_gatherTwo_170 : decode cX12_gatherTwo 170 = .ok (.ifCond .ne 34, 3) := by decide +kernel
theorem dX12_gatherTwo_173 : decode cX12_gatherTwo 173 = .ok (.aload_n 0, 1) := by decide +kernel
theorem dX12_gatherTwo_174 : decode cX12_gatherTwo 174 = .ok (.getfield 138, 3) := by decide +kernel
theorem dX12_gatherTwo_177 : decode cX12_gatherTwo 177 = .ok (.iload 6, 2) := by decide +kernel
theorem dX12_gatherTwo_179 : decode cX12_gatherTwo 179 = .ok (.iaload, 1) := by decide +kernel
theorem dX12_gatherTwo_180 : decode cX12_gatherTwo 180 = .ok (.bipush 8, 2) := by decide +kernel
theorem dX12_gatherTwo_182 : decode cX12_gatherTwo 182 = .ok (.if_icmp .gt 22, 3) := by decide +kernel
theorem dX12_gatherTwo_185 : decode cX12_gatherTwo 185 = .ok (.aload_n 0, 1) := by decide +kernel
theorem dX12_gatherTwo_186 : decode cX12_gatherTwo 186 = .ok (.iload_n 3, 1) := by decide +kernel
theorem dX12_gatherTwo_187 : decode cX12_gatherTwo 187 = .ok (.aload_n 0, 1) := by decide +kernel
theorem dX12_gatherTwo_188 : decode cX12_gatherTwo 188 = .ok (.getfield 138, 3) := by decide +kernel
theorem dX12_gatherTwo_191 : decode cX12_gatherTwo 191 = .ok (.iload 6, 2) := by decide +kernel
theorem dX12_gatherTwo_193 : decode cX12_gatherTwo 193 = .ok (.iaload, 1) := by decide +kernel
theorem dX12_gatherTwo_194 : decode cX12_gatherTwo 194 = .ok (.invokevirtual 588, 3) := by decide +kernel
theorem dX12_gatherTwo_197 : decode cX12_gatherTwo 197 = .ok (.ifCond .eq 7, 3) := by decide +kernel
theorem dX12_gatherTwo_200 : decode cX12_gatherTwo 200 = .ok (.iconst 1, 1) := by decide +kernel
theorem dX12_gatherTwo_201 : decode cX12_gatherTwo 201 = .ok (.goto 4, 3) := by decide +kernel
theorem dX12_gatherTwo_204 : decode cX12_gatherTwo 204 = .ok (.iconst 0, 1) := by decide +kernel
theorem dX12_gatherTwo_205 : decode cX12_gatherTwo 205 = .ok (.ireturn, 1) := by decide +kernel
theorem dX12_gatherTwo_206 : decode cX12_gatherTwo 206 = .ok (.iconst 0, 1) := by decide +kernel
theorem dX12_gatherTwo_207 : decode cX12_gatherTwo 207 = .ok (.ireturn, 1) := by decide +kernel
theorem dX12_gatherNode_0 : decode cX12_gatherNode 0 = .ok (.aload_n 0, 1) := by decide +kernel
theorem dX12_gatherNode_1 : decode cX12_gatherNode 1 = .ok (.getfield 135, 3) := by decide +kernel
theorem dX12_gatherNode_4 : decode cX12_gatherNode 4 = .ok (.iload_n 1, 1) := by decide +kernel
theorem dX12_gatherNode_5 : decode cX12_gatherNode 5 = .ok (.iaload, 1) := by decide +kernel
theorem dX12_gatherNode_6 : decode cX12_gatherNode 6 = .ok (.ifCond .eq 13, 3) := by decide +kernel
theorem dX12_gatherNode_9 : decode cX12_gatherNode 9 = .ok (.aload_n 0, 1) := by decide +kernel
theorem dX12_gatherNode_10 : decode cX12_gatherNode 10 = .ok (.getfield 135, 3) := by decide +kernel
theorem dX12_gatherNode_13 : decode cX12_gatherNode 13 = .ok (.iload_n 1, 1) := by decide +kernel
theorem dX12_gatherNode_14 : decode cX12_gatherNode 14 = .ok (.iaload, 1) := by decide +kernel
theorem dX12_gatherNode_15 : decode cX12_gatherNode 15 = .ok (.iconst 1, 1) := by decide +kernel
theorem dX12_gatherNode_16 : decode cX12_gatherNode 16 = .ok (.if_icmp .ne 133, 3) := by decide +kernel
theorem dX12_gatherNode_19 : decode cX12_gatherNode 19 = .ok (.aload_n 0, 1) := by decide +kernel
theorem dX12_gatherNode_20 : decode cX12_gatherNode 20 = .ok (.getfield 576, 3) := by decide +kernel
theorem dX12_gatherNode_23 : decode cX12_gatherNode 23 = .ok (.istore_n 3, 1) := by decide +kernel
theorem dX12_gatherNode_24 : decode cX12_gatherNode 24 = .ok (.aload_n 0, 1) := by decide +kernel
theorem dX12_gatherNode_25 : decode cX12_gatherNode 25 = .ok (.iload_n 3, 1) := by decide +kernel
theorem dX12_gatherNode_26 : decode cX12_gatherNode 26 = .ok (.invokevirtual 591, 3) := by decide +kernel
theorem dX12_gatherNode_29 : decode cX12_gatherNode 29 = .ok (.aload_n 0, 1) := by decide +kernel
theorem dX12_gatherNode_30 : decode cX12_gatherNode 30 = .ok (.dup, 1) := by decide +kernel
theorem dX12_gatherNode_31 : decode cX12_gatherNode 31 = .ok (.getfield 576, 3) := by decide +kernel
theorem dX12_gatherNode_34 : decode cX12_gatherNode 34 = .ok (.iconst 1, 1) := by decide +kernel
theorem dX12_gatherNode_35 : decode cX12_gatherNode 35 = .ok (.iadd, 1) := by decide +kernel
theorem dX12_gatherNode_36 : decode cX12_gatherNode 36 = .ok (.putfield 576, 3) := by decide +kernel
theorem dX12_gatherNode_39 : decode cX12_gatherNode 39 = .ok (.aload_n 0, 1) := by decide +kernel
theorem dX12_gatherNode_40 : decode cX12_gatherNode 40 = .ok (.getfield 135, 3) := by decide +kernel
theorem dX12_gatherNode_43 : decode cX12_gatherNode 43 = .ok (.iload_n 1, 1) := by decide +kernel
theorem dX12_gatherNode_44 : decode cX12_gatherNode 44 = .ok (.iaload, 1) := by decide +kernel
theorem dX12_gatherNode_45 : decode cX12_gatherNode 45 = .ok (.ifCond .ne 21, 3) := by decide +kernel
theorem dX12_gatherNode_48 : decode cX12_gatherNode 48 = .ok (.aload_n 0, 1) := by decide +kernel
theorem dX12_gatherNode_49 : decode cX12_gatherNode 49 = .ok (.iload_n 3, 1) := by decide +kernel
theorem dX12_gatherNode_50 : decode cX12_gatherNode 50 = .ok (.iconst 0, 1) := by decide +kernel
theorem dX12_gatherNode_51 : decode cX12_gatherNode 51 = .ok (.invokestatic 546, 3) := by decide +kernel
theorem dX12_gatherNode_54 : decode cX12_gatherNode 54 = .ok (.aload_n 0, 1) := by decide +kernel
theorem dX12_gatherNode_55 : decode cX12_gatherNode 55 = .ok (.getfield 138, 3) := by decide +kernel
theorem dX12_gatherNode_58 : decode cX12_gatherNode 58 = .ok (.iload_n 1, 1) := by decide +kernel
theorem dX12_gatherNode_59 : decode cX12_gatherNode 59 = .ok (.iaload, 1) := by decide +kernel
theorem dX12_gatherNode_60 : decode cX12_gatherNode 60 = .ok (.invokevirtual 96, 3) := by decide +kernel
theorem dX12_gatherNode_63 : decode cX12_gatherNode 63 = .ok (.goto 44, 3) := by decide +kernel
theorem dX12_gatherNode_66 : decode cX12_gatherNode 66 = .ok (.aload_n 0, 1) := by decide +kernel
theorem dX12_gatherNode_67 : decode cX12_gatherNode 67 = .ok (.getfield 138, 3) := by decide +kernel
theorem dX12_gatherNode_70 : decode cX12_gatherNode 70 = .ok (.iload_n 1, 1) := by decide +kernel
theorem dX12_gatherNode_71 : decode cX12_gatherNode 71 = .ok (.iaload, 1) := by decide +kernel
theorem dX12_gatherNode_72 : decode cX12_gatherNode 72 = .ok (.iload_n 2, 1) := by decide +kernel
theorem dX12_gatherNode_73 : decode cX12_gatherNode 73 = .ok (.if_icmp .ne 16, 3) := by decide +kernel
theorem dX12_gatherNode_76 : decode cX12_gatherNode 76 = .ok (.aload_n 0, 1) := by decide +kernel
theorem dX12_gatherNode_77 : decode cX12_gatherNode 77 = .ok (.iload_n 3, 1) := by decide +kernel
theorem dX12_gatherNode_78 : decode cX12_gatherNode 78 = .ok (.iconst 1, 1) := by decide +kernel
theorem dX12_gatherNode_79 : decode cX12_gatherNode 79 = .ok (.invokestatic 546, 3) := by decide +kernel
theorem dX12_gatherNode_82 : decode cX12_gatherNode 82 = .ok (.iconst 1, 1) := by decide +kernel
theorem dX12_gatherNode_83 : decode cX12_gatherNode 83 = .ok (.invokevirtual 96, 3) := by decide +kernel
theorem dX12_gatherNode_86 : decode cX12_gatherNode 86 = .ok (.goto 21, 3) := by decide +kernel
theorem dX12_gatherNode_89 : decode cX12_gatherNode 89 = .ok (.aload_n 0, 1) := by decide +kernel
theorem dX12_gatherNode_90 : decode cX12_gatherNode 90 = .ok (.iload_n 3, 1) := by decide +kernel
theorem dX12_gatherNode_91 : decode cX12_gatherNode 91 = .ok (.iconst 0, 1) := by decide +kernel
theorem dX12_gatherNode_92 : decode cX12_gatherNode 92 = .ok (.invokestatic 546, 3) := by decide +kernel
theorem dX12_gatherNode_95 : decode cX12_gatherNode 95 = .ok (.aload_n 0, 1) := by decide +kernel
theorem dX12_gatherNode_96 : decode cX12_gatherNode 96 = .ok (.getfield 138, 3) := by decide +kernel
theorem dX12_gatherNode_99 : decode cX12_gatherNode 99 = .ok (.iload_n 1, 1) := by decide +kernel
theorem dX12_gatherNode_100 : decode cX12_gatherNode 100 = .ok (.iaload, 1) := by decide +kernel
theorem dX12_gatherNode_101 : decode cX12_gatherNode 101 = .ok (.bipush 97, 2) := by decide +kernel
theorem dX12_gatherNode_103 : decode cX12_gatherNode 103 = .ok (.isub, 1) := by decide +kernel
theorem dX12_gatherNode_104 : decode cX12_gatherNode 104 = .ok (.invokevirtual 115, 3) := by decide +kernel
theorem dX12_gatherNode_107 : decode cX12_gatherNode 107 = .ok (.aload_n 0, 1) := by decide +kernel
theorem dX12_gatherNode_108 : decode cX12_gatherNode 108 = .ok (.getfield 138, 3) := by decide +kernel
theorem dX12_gatherNode_111 : decode cX12_gatherNode 111 = .ok (.iload_n 1, 1) := by decide +kernel
theorem dX12_gatherNode_112 : decode cX12_gatherNode 112 = .ok (.iaload, 1) := by decide +kernel
theorem dX12_gatherNode_113 : decode cX12_gatherNode 113 = .ok (.iload_n 2, 1) := by decide +kernel
theorem dX12_gatherNode_114 : decode cX12_gatherNode 114 = .ok (.if_icmp .eq 29, 3) := by decide +kernel
theorem dX12_gatherNode_117 : decode cX12_gatherNode 117 = .ok (.aload_n 0, 1) := by decide +kernel
theorem dX12_gatherNode_118 : decode cX12_gatherNode 118 = .ok (.getfield 135, 3) := by decide +kernel
theorem dX12_gatherNode_121 : decode cX12_gatherNode 121 = .ok (.iload_n 1, 1) := by decide +kernel
theorem dX12_gatherNode_122 : decode cX12_gatherNode 122 = .ok (.iaload, 1) := by decide +kernel
theorem dX12_gatherNode_123 : decode cX12_gatherNode 123 = .ok (.ifCond .eq 20, 3) := by decide +kernel
theorem dX12_gatherNode_126 : decode cX12_gatherNode 126 = .ok (.aload_n 0, 1) := by decide +kernel
theorem dX12_gatherNode_127 : decode cX12_gatherNode 127 = .ok (.getfield 248, 3) := by decide +kernel
theorem dX12_gatherNode_130 : decode cX12_gatherNode 130 = .ok (.aload_n 0, 1) := by decide +kernel
theorem dX12_gatherNode_131 : decode cX12_gatherNode 131 = .ok (.getfield 138, 3) := by decide +kernel
theorem dX12_gatherNode_134 : decode cX12_gatherNode 134 = .ok (.iload_n 1, 1) := by decide +kernel
theorem dX12_gatherNode_135 : decode cX12_gatherNode 135 = .ok (.iaload, 1) := by decide +kernel
theorem dX12_gatherNode_136 : decode cX12_gatherNode 136 = .ok (.bipush 97, 2) := by decide +kernel
theorem dX12_gatherNode_138 : decode cX12_gatherNode 138 = .ok (.isub, 1) := by decide +kernel
theorem dX12_gatherNode_139 : decode cX12_gatherNode 139 = .ok (.baload, 1) := by decide +kernel
theorem dX12_gatherNode_140 : decode cX12_gatherNode 140 = .ok (.ifCond .eq 7, 3) := by decide +kernel
theorem dX12_gatherNode_143 : decode cX12_gatherNode 143 = .ok (.iconst 1, 1) := by decide +kernel
theorem dX12_gatherNode_144 : decode cX12_gatherNode 144 = .ok (.goto 4, 3) := by decide +kernel
theorem dX12_gatherNode_147 : decode cX12_gatherNode 147 = .ok (.iconst 0, 1) := by decide +kernel
theorem dX12_gatherNode_148 : decode cX12_gatherNode 148 = .ok (.ireturn, 1) := by decide +kernel
theorem dX12_gatherNode_149 : decode cX12_gatherNode 149 = .ok (.aload_n 0, 1) := by decide +kernel
theorem dX12_gatherNode_150 : decode cX12_gatherNode 150 = .ok (.iload_n 1, 1) := by decide +kernel
theorem dX12_gatherNode_151 : decode cX12_gatherNode 151 = .ok (.invokevirtual 484, 3) := by decide +kernel
theorem dX12_gatherNode_154 : decode cX12_gatherNode 154 = .ok (.istore_n 3, 1) := by decide +kernel
theorem dX12_gatherNode_155 : decode cX12_gatherNode 155 = .ok (.aload_n 0, 1) := by decide +kernel
theorem dX12_gatherNode_156 : decode cX12_gatherNode 156 = .ok (.getfield 135, 3) := by decide +kernel
theorem dX12_gatherNode_159 : decode cX12_gatherNode 159 = .ok (.iload_n 1, 1) := by decide +kernel
theorem dX12_gatherNode_160 : decode cX12_gatherNode 160 = .ok (.iaload, 1) := by decide +kernel
theorem dX12_gatherNode_161 : decode cX12_gatherNode 161 = .ok (.iconst 2, 1) := by decide +kernel
theorem dX12_gatherNode_162 : decode cX12_gatherNode 162 = .ok (.if_icmp .eq 19, 3) := by decide +kernel
theorem dX12_gatherNode_165 : decode cX12_gatherNode 165 = .ok (.aload_n 0, 1) := by decide +kernel
theorem dX12_gatherNode_166 : decode cX12_gatherNode 166 = .ok (.getfield 144, 3) := by decide +kernel
theorem dX12_gatherNode_169 : decode cX12_gatherNode 169 = .ok (.iload_n 1, 1) := by decide +kernel
theorem dX12_gatherNode_170 : decode cX12_gatherNode 170 = .ok (.iaload, 1) := by decide +kernel
theorem dX12_gatherNode_171 : decode cX12_gatherNode 171 = .ok (.iconst 1, 1) := by decide +kernel
theorem dX12_gatherNode_172 : decode cX12_gatherNode 172 = .ok (.if_icmp .ne 11, 3) := by decide +kernel
theorem dX12_gatherNode_175 : decode cX12_gatherNode 175 = .ok (.iload_n 3, 1) := by decide +kernel
theorem dX12_gatherNode_176 : decode cX12_gatherNode 176 = .ok (.bipush 11, 2) := by decide +kernel
theorem dX12_gatherNode_178 : decode cX12_gatherNode 178 = .ok (.if_icmp .eq 5, 3) := by decide +kernel
theorem dX12_gatherNode_181 : decode cX12_gatherNode 181 = .ok (.iconst 0, 1) := by decide +kernel
theorem dX12_gatherNode_182 : decode cX12_gatherNode 182 = .ok (.ireturn, 1) := by decide +kernel
theorem dX12_gatherNode_183 : decode cX12_gatherNode 183 = .ok (.aload_n 0, 1) := by decide +kernel
theorem dX12_gatherNode_184 : decode cX12_gatherNode 184 = .ok (.getfield 144, 3) := by decide +kernel
theorem dX12_gatherNode_187 : decode cX12_gatherNode 187 = .ok (.iload_n 1, 1) := by decide +kernel
theorem dX12_gatherNode_188 : decode cX12_gatherNode 188 = .ok (.iaload, 1) := by decide +kernel
theorem dX12_gatherNode_189 : decode cX12_gatherNode 189 = .ok (.iconst 2, 1) := by decide +kernel
theorem dX12_gatherNode_190 : decode cX12_gatherNode 190 = .ok (.if_icmp .ne 10, 3) := by decide +kernel
theorem dX12_gatherNode_193 : decode cX12_gatherNode 193 = .ok (.aload_n 0, 1) := by decide +kernel
theorem dX12_gatherNode_194 : decode cX12_gatherNode 194 = .ok (.iload_n 1, 1) := by decide +kernel
theorem dX12_gatherNode_195 : decode cX12_gatherNode 195 = .ok (.iload_n 3, 1) := by decide +kernel
theorem dX12_gatherNode_196 : decode cX12_gatherNode 196 = .ok (.invokevirtual 594, 3) := by decide +kernel
theorem dX12_gatherNode_199 : decode cX12_gatherNode 199 = .ok (.ireturn, 1) := by decide +kernel
theorem dX12_gatherNode_200 : decode cX12_gatherNode 200 = .ok (.iconst 0, 1) := by decide +kernel
theorem dX12_gatherNode_201 : decode cX12_gatherNode 201 = .ok (.istore 4, 2) := by decide +kernel
theorem dX12_gatherNode_203 : decode cX12_gatherNode 203 = .ok (.iload 4, 2) := by decide +kernel
theorem dX12_gatherNode_205 : decode cX12_gatherNode 205 = .ok (.bipush 9, 2) := by decide +kernel
theorem dX12_gatherNode_207 : decode cX12_gatherNode 207 = .ok (.if_icmp .ge 39, 3) := by decide +kernel
theorem dX12_gatherNode_210 : decode cX12_gatherNode 210 = .ok (.aload_n 0, 1) := by decide +kernel
theorem dX12_gatherNode_211 : decode cX12_gatherNode 211 = .ok (.getfield 576, 3) := by decide +kernel
theorem dX12_gatherNode_214 : decode cX12_gatherNode 214 = .ok (.iconst 1, 1) := by decide +kernel
theorem dX12_gatherNode_215 : decode cX12_gatherNode 215 = .ok (.isub, 1) := by decide +kernel
theorem dX12_gatherNode_216 : decode cX12_gatherNode 216 = .ok (.iload 4, 2) := by decide +kernel
theorem dX12_gatherNode_218 : decode cX12_gatherNode 218 = .ok (.invokestatic 546, 3) := by decide +kernel
theorem dX12_gatherNode_221 : decode cX12_gatherNode 221 = .ok (.istore 5, 2) := by decide +kernel
theorem dX12_gatherNode_223 : decode cX12_gatherNode 223 = .ok (.aload_n 0, 1) := by decide +kernel
theorem dX12_gatherNode_224 : decode cX12_gatherNode 224 = .ok (.getfield 46, 3) := by decide +kernel
theorem dX12_gatherNode_227 : decode cX12_gatherNode 227 = .ok (.bipush 28, 2) := by decide +kernel
theorem dX12_gatherNode_229 : decode cX12_gatherNode 229 = .ok (.iload 5, 2) := by decide +kernel
theorem dX12_gatherNode_231 : decode cX12_gatherNode 231 = .ok (.imul, 1) := by decide +kernel
theorem dX12_gatherNode_232 : decode cX12_gatherNode 232 = .ok (.aload_n 0, 1) := by decide +kernel
theorem dX12_gatherNode_233 : decode cX12_gatherNode 233 = .ok (.iload 5, 2) := by decide +kernel
theorem dX12_gatherNode_235 : decode cX12_gatherNode 235 = .ok (.invokevirtual 81, 3) := by decide +kernel
theorem dX12_gatherNode_238 : decode cX12_gatherNode 238 = .ok (.ineg, 1) := by decide +kernel
theorem dX12_gatherNode_239 : decode cX12_gatherNode 239 = .ok (.iastore, 1) := by decide +kernel
theorem dX12_gatherNode_240 : decode cX12_gatherNode 240 = .ok (.iinc 4 1, 3) := by decide +kernel
theorem dX12_gatherNode_243 : decode cX12_gatherNode 243 = .ok (.goto (-40), 3) := by decide +kernel
theorem dX12_gatherNode_246 : decode cX12_gatherNode 246 = .ok (.iconst 1, 1) := by decide +kernel
theorem dX12_gatherNode_247 : decode cX12_gatherNode 247 = .ok (.ireturn, 1) := by decide +kernel
theorem dX12_gathers_0 : decode cX12_gathers 0 = .ok (.aload_n 0, 1) := by decide +kernel
theorem dX12_gathers_1 : decode cX12_gathers 1 = .ok (.iload_n 1, 1) := by decide +kernel
theorem dX12_gathers_2 : decode cX12_gathers 2 = .ok (.invokevirtual 439, 3) := by decide +kernel
theorem dX12_gathers_5 : decode cX12_gathers 5 = .ok (.istore_n 3, 1) := by decide +kernel
theorem dX12_gathers_6 : decode cX12_gathers 6 = .ok (.iconst 1, 1) := by decide +kernel
theorem dX12_gathers_7 : decode cX12_gathers 7 = .ok (.istore 4, 2) := by decide +kernel
theorem dX12_gathers_9 : decode cX12_gathers 9 = .ok (.iconst 0, 1) := by decide +kernel
theorem dX12_gathers_10 : decode cX12_gathers 10 = .ok (.istore 5, 2) := by decide +kernel
theorem dX12_gathers_12 : decode cX12_gathers 12 = .ok (.iload 5, 2) := by decide +kernel
theorem dX12_gathers_14 : decode cX12_gathers 14 = .ok (.iload_n 3, 1) := by decide +kernel
theorem dX12_gathers_15 : decode cX12_gathers 15 = .ok (.if_icmp .ge 28, 3) := by decide +kernel
theorem dX12_gathers_18 : decode cX12_gathers 18 = .ok (.iload 4, 2) := by decide +kernel
theorem dX12_gathers_20 : decode cX12_gathers 20 = .ok (.ifCond .eq 23, 3) := by decide +kernel
theorem dX12_gathers_23 : decode cX12_gathers 23 = .ok (.aload_n 0, 1) := by decide +kernel
theorem dX12_gathers_24 : decode cX12_gathers 24 = .ok (.aload_n 0, 1) := by decide +kernel
theorem dX12_gathers_25 : decode cX12_gathers 25 = .ok (.getfield 150, 3) := by decide +kernel
theorem dX12_gathers_28 : decode cX12_gathers 28 = .ok (.iload 5, 2) := by decide +kernel
theorem dX12_gathers_30 : decode cX12_gathers 30 = .ok (.iaload, 1) := by decide +kernel
theorem dX12_gathers_31 : decode cX12_gathers 31 = .ok (.iload_n 2, 1) := by decide +kernel
theorem dX12_gathers_32 : decode cX12_gathers 32 = .ok (.invokevirtual 597, 3) := by decide +kernel
theorem dX12_gathers_35 : decode cX12_gathers 35 = .ok (.istore 4, 2) := by decide +kernel
theorem dX12_gathers_37 : decode cX12_gathers 37 = .ok (.iinc 5 1, 3) := by decide +kernel
theorem dX12_gathers_40 : decode cX12_gathers 40 = .ok (.goto (-28), 3) := by decide +kernel
theorem dX12_gathers_43 : decode cX12_gathers 43 = .ok (.iload 4, 2) := by decide +kernel
theorem dX12_gathers_45 : decode cX12_gathers 45 = .ok (.ireturn, 1) := by decide +kernel
theorem dX12_isTold_0 : decode cX12_isTold 0 = .ok (.aload_n 0, 1) := by decide +kernel
theorem dX12_isTold_1 : decode cX12_isTold 1 = .ok (.iload_n 1, 1) := by decide +kernel
theorem dX12_isTold_2 : decode cX12_isTold 2 = .ok (.invokevirtual 484, 3) := by decide +kernel
theorem dX12_isTold_5 : decode cX12_isTold 5 = .ok (.istore_n 2, 1) := by decide +kernel
theorem dX12_isTold_6 : decode cX12_isTold 6 = .ok (.aload_n 0, 1) := by decide +kernel
theorem dX12_isTold_7 : decode cX12_isTold 7 = .ok (.getfield 135, 3) := by decide +kernel
theorem dX12_isTold_10 : decode cX12_isTold 10 = .ok (.iload_n 1, 1) := by decide +kernel
theorem dX12_isTold_11 : decode cX12_isTold 11 = .ok (.iaload, 1) := by decide +kernel
theorem dX12_isTold_12 : decode cX12_isTold 12 = .ok (.ifCond .eq 57, 3) := by decide +kernel
theorem dX12_isTold_15 : decode cX12_isTold 15 = .ok (.aload_n 0, 1) := by decide +kernel
theorem dX12_isTold_16 : decode cX12_isTold 16 = .ok (.getfield 135, 3) := by decide +kernel
theorem dX12_isTold_19 : decode cX12_isTold 19 = .ok (.iload_n 1, 1) := by decide +kernel
theorem dX12_isTold_20 : decode cX12_isTold 20 = .ok (.iaload, 1) := by decide +kernel
theorem dX12_isTold_21 : decode cX12_isTold 21 = .ok (.iconst 1, 1) := by decide +kernel
theorem dX12_isTold_22 : decode cX12_isTold 22 = .ok (.if_icmp .eq 47, 3) := by decide +kernel
theorem dX12_isTold_25 : decode cX12_isTold 25 = .ok (.aload_n 0, 1) := by decide +kernel
theorem dX12_isTold_26 : decode cX12_isTold 26 = .ok (.getfield 135, 3) := by decide +kernel
theorem dX12_isTold_29 : decode cX12_isTold 29 = .ok (.iload_n 1, 1) := by decide +kernel
theorem dX12_isTold_30 : decode cX12_isTold 30 = .ok (.iaload, 1) := by decide +kernel
theorem dX12_isTold_31 : decode cX12_isTold 31 = .ok (.iconst 3, 1) := by decide +kernel
theorem dX12_isTold_32 : decode cX12_isTold 32 = .ok (.if_icmp .ne 41, 3) := by decide +kernel
theorem dX12_isTold_35 : decode cX12_isTold 35 = .ok (.iload_n 2, 1) := by decide +kernel
theorem dX12_isTold_36 : decode cX12_isTold 36 = .ok (.iconst 0, 1) := by decide +kernel
theorem dX12_isTold_37 : decode cX12_isTold 37 = .ok (.iconst 3, 1) := by decide +kernel
theorem dX12_isTold_38 : decode cX12_isTold 38 = .ok (.invokestatic 106, 3) := by decide +kernel
theorem dX12_isTold_41 : decode cX12_isTold 41 = .ok (.ifCond .ne 28, 3) := by decide +kernel
theorem dX12_isTold_44 : decode cX12_isTold 44 = .ok (.iload_n 2, 1) := by decide +kernel
theorem dX12_isTold_45 : decode cX12_isTold 45 = .ok (.bipush 11, 2) := by decide +kernel
theorem dX12_isTold_47 : decode cX12_isTold 47 = .ok (.if_icmp .eq 22, 3) := by decide +kernel
theorem dX12_isTold_50 : decode cX12_isTold 50 = .ok (.iload_n 2, 1) := by decide +kernel
theorem dX12_isTold_51 : decode cX12_isTold 51 = .ok (.iconst 5, 1) := by decide +kernel
theorem dX12_isTold_52 : decode cX12_isTold 52 = .ok (.if_icmp .ne 21, 3) := by decide +kernel
theorem dX12_isTold_55 : decode cX12_isTold 55 = .ok (.aload_n 0, 1) := by decide +kernel
theorem dX12_isTold_56 : decode cX12_isTold 56 = .ok (.getfield 135, 3) := by decide +kernel
theorem dX12_isTold_59 : decode cX12_isTold 59 = .ok (.aload_n 0, 1) := by decide +kernel
theorem dX12_isTold_60 : decode cX12_isTold 60 = .ok (.iload_n 1, 1) := by decide +kernel
theorem dX12_isTold_61 : decode cX12_isTold 61 = .ok (.iconst 1, 1) := by decide +kernel
theorem dX12_isTold_62 : decode cX12_isTold 62 = .ok (.invokevirtual 405, 3) := by decide +kernel
theorem dX12_isTold_65 : decode cX12_isTold 65 = .ok (.iaload, 1) := by decide +kernel
theorem dX12_isTold_66 : decode cX12_isTold 66 = .ok (.ifCond .ne 7, 3) := by decide +kernel
theorem dX12_isTold_69 : decode cX12_isTold 69 = .ok (.iconst 1, 1) := by decide +kernel
theorem dX12_isTold_70 : decode cX12_isTold 70 = .ok (.goto 4, 3) := by decide +kernel
theorem dX12_isTold_73 : decode cX12_isTold 73 = .ok (.iconst 0, 1) := by decide +kernel
theorem dX12_isTold_74 : decode cX12_isTold 74 = .ok (.ireturn, 1) := by decide +kernel
theorem dX12_areTold_0 : decode cX12_areTold 0 = .ok (.iconst 1, 1) := by decide +kernel
theorem dX12_areTold_1 : decode cX12_areTold 1 = .ok (.istore_n 2, 1) := by decide +kernel
theorem dX12_areTold_2 : decode cX12_areTold 2 = .ok (.iload_n 1, 1) := by decide +kernel
theorem dX12_areTold_3 : decode cX12_areTold 3 = .ok (.istore_n 3, 1) := by decide +kernel
theorem dX12_areTold_4 : decode cX12_areTold 4 = .ok (.iload_n 3, 1) := by decide +kernel
theorem dX12_areTold_5 : decode cX12_areTold 5 = .ok (.iload_n 1, 1) := by decide +kernel
theorem dX12_areTold_6 : decode cX12_areTold 6 = .ok (.aload_n 0, 1) := by decide +kernel
theorem dX12_areTold_7 : decode cX12_areTold 7 = .ok (.getfield 147, 3) := by decide +kernel
theorem dX12_areTold_10 : decode cX12_areTold 10 = .ok (.iload_n 1, 1) := by decide +kernel
theorem dX12_areTold_11 : decode cX12_areTold 11 = .ok (.iaload, 1) := by decide +kernel
theorem dX12_areTold_12 : decode cX12_areTold 12 = .ok (.iadd, 1) := by decide +kernel
theorem dX12_areTold_13 : decode cX12_areTold 13 = .ok (.if_icmp .ge 27, 3) := by decide +kernel
theorem dX12_areTold_16 : decode cX12_areTold 16 = .ok (.iload_n 2, 1) := by decide +kernel
theorem dX12_areTold_17 : decode cX12_areTold 17 = .ok (.ifCond .eq 15, 3) := by decide +kernel
theorem dX12_areTold_20 : decode cX12_areTold 20 = .ok (.aload_n 0, 1) := by decide +kernel
theorem dX12_areTold_21 : decode cX12_areTold 21 = .ok (.iload_n 3, 1) := by decide +kernel
theorem dX12_areTold_22 : decode cX12_areTold 22 = .ok (.invokevirtual 600, 3) := by decide +kernel
theorem dX12_areTold_25 : decode cX12_areTold 25 = .ok (.ifCond .eq 7, 3) := by decide +kernel
theorem dX12_areTold_28 : decode cX12_areTold 28 = .ok (.iconst 1, 1) := by decide +kernel
theorem dX12_areTold_29 : decode cX12_areTold 29 = .ok (.goto 4, 3) := by decide +kernel
theorem dX12_areTold_32 : decode cX12_areTold 32 = .ok (.iconst 0, 1) := by decide +kernel
theorem dX12_areTold_33 : decode cX12_areTold 33 = .ok (.istore_n 2, 1) := by decide +kernel
theorem dX12_areTold_34 : decode cX12_areTold 34 = .ok (.iinc 3 1, 3) := by decide +kernel
theorem dX12_areTold_37 : decode cX12_areTold 37 = .ok (.goto (-33), 3) := by decide +kernel
theorem dX12_areTold_40 : decode cX12_areTold 40 = .ok (.iload_n 2, 1) := by decide +kernel
theorem dX12_areTold_41 : decode cX12_areTold 41 = .ok (.ireturn, 1) := by decide +kernel
theorem dX12_signBetween_0 : decode cX12_signBetween 0 = .ok (.iconst (-1), 1) := by decide +kernel
theorem dX12_signBetween_1 : decode cX12_signBetween 1 = .ok (.istore_n 2, 1) := by decide +kernel
theorem dX12_signBetween_2 : decode cX12_signBetween 2 = .ok (.bipush 126, 2) := by decide +kernel
theorem dX12_signBetween_4 : decode cX12_signBetween 4 = .ok (.istore_n 3, 1) := by decide +kernel
theorem dX12_signBetween_5 : decode cX12_signBetween 5 = .ok (.iload_n 3, 1) := by decide +kernel
theorem dX12_signBetween_6 : decode cX12_signBetween 6 = .ok (.bipush 32, 2) := by decide +kernel
theorem dX12_signBetween_8 : decode cX12_signBetween 8 = .ok (.if_icmp .le 56, 3) := by decide +kernel
theorem dX12_signBetween_11 : decode cX12_signBetween 11 = .ok (.iload_n 3, 1) := by decide +kernel
theorem dX12_signBetween_12 : decode cX12_signBetween 12 = .ok (.invokestatic 156, 3) := by decide +kernel
theorem dX12_signBetween_15 : decode cX12_signBetween 15 = .ok (.istore 4, 2) := by decide +kernel
theorem dX12_signBetween_17 : decode cX12_signBetween 17 = .ok (.iload 4, 2) := by decide +kernel
theorem dX12_signBetween_19 : decode cX12_signBetween 19 = .ok (.iconst (-1), 1) := by decide +kernel
theorem dX12_signBetween_20 : decode cX12_signBetween 20 = .ok (.if_icmp .eq 36, 3) := by decide +kernel
theorem dX12_signBetween_23 : decode cX12_signBetween 23 = .ok (.aload_n 0, 1) := by decide +kernel
theorem dX12_signBetween_24 : decode cX12_signBetween 24 = .ok (.getfield 153, 3) := by decide +kernel
theorem dX12_signBetween_27 : decode cX12_signBetween 27 = .ok (.iconst 3, 1) := by decide +kernel
theorem dX12_signBetween_28 : decode cX12_signBetween 28 = .ok (.iload 4, 2) := by decide +kernel
theorem dX12_signBetween_30 : decode cX12_signBetween 30 = .ok (.imul, 1) := by decide +kernel
theorem dX12_signBetween_31 : decode cX12_signBetween 31 = .ok (.iconst 2, 1) := by decide +kernel
theorem dX12_signBetween_32 : decode cX12_signBetween 32 = .ok (.iadd, 1) := by decide +kernel
theorem dX12_signBetween_33 : decode cX12_signBetween 33 = .ok (.iaload, 1) := by decide +kernel
theorem dX12_signBetween_34 : decode cX12_signBetween 34 = .ok (.ifCond .le 22, 3) := by decide +kernel
theorem dX12_signBetween_37 : decode cX12_signBetween 37 = .ok (.aload_n 0, 1) := by decide +kernel
theorem dX12_signBetween_38 : decode cX12_signBetween 38 = .ok (.getfield 162, 3) := by decide +kernel
theorem dX12_signBetween_41 : decode cX12_signBetween 41 = .ok (.iconst 3, 1) := by decide +kernel
theorem dX12_signBetween_42 : decode cX12_signBetween 42 = .ok (.iload 4, 2) := by decide +kernel
theorem dX12_signBetween_44 : decode cX12_signBetween 44 = .ok (.imul, 1) := by decide +kernel
theorem dX12_signBetween_45 : decode cX12_signBetween 45 = .ok (.iconst 2, 1) := by decide +kernel
theorem dX12_signBetween_46 : decode cX12_signBetween 46 = .ok (.iadd, 1) := by decide +kernel
theorem dX12_signBetween_47 : decode cX12_signBetween 47 = .ok (.iaload, 1) := by decide +kernel
theorem dX12_signBetween_48 : decode cX12_signBetween 48 = .ok (.iload_n 1, 1) := by decide +kernel
theorem dX12_signBetween_49 : decode cX12_signBetween 49 = .ok (.if_icmp .ne 7, 3) := by decide +kernel
theorem dX12_signBetween_52 : decode cX12_signBetween 52 = .ok (.iload_n 3, 1) := by decide +kernel
theorem dX12_signBetween_53 : decode cX12_signBetween 53 = .ok (.goto 4, 3) := by decide +kernel
theorem dX12_signBetween_56 : decode cX12_signBetween 56 = .ok (.iload_n 2, 1) := by decide +kernel
theorem dX12_signBetween_57 : decode cX12_signBetween 57 = .ok (.istore_n 2, 1) := by decide +kernel
theorem dX12_signBetween_58 : decode cX12_signBetween 58 = .ok (.iinc 3 (-1), 3) := by decide +kernel
theorem dX12_signBetween_61 : decode cX12_signBetween 61 = .ok (.goto (-56), 3) := by decide +kernel
theorem dX12_signBetween_64 : decode cX12_signBetween 64 = .ok (.iload_n 2, 1) := by decide +kernel
theorem dX12_signBetween_65 : decode cX12_signBetween 65 = .ok (.ireturn, 1) := by decide +kernel
theorem dX12_add_0 : decode cX12_add 0 = .ok (.aload_n 0, 1) := by decide +kernel
theorem dX12_add_1 : decode cX12_add 1 = .ok (.getfield 603, 3) := by decide +kernel
theorem dX12_add_4 : decode cX12_add 4 = .ok (.bipush 80, 2) := by decide +kernel
theorem dX12_add_6 : decode cX12_add 6 = .ok (.if_icmp .eq 13, 3) := by decide +kernel
theorem dX12_add_9 : decode cX12_add 9 = .ok (.iload_n 1, 1) := by decide +kernel
theorem dX12_add_10 : decode cX12_add 10 = .ok (.iconst 3, 1) := by decide +kernel
theorem dX12_add_11 : decode cX12_add 11 = .ok (.if_icmp .ne 13, 3) := by decide +kernel
theorem dX12_add_14 : decode cX12_add 14 = .ok (.iload_n 2, 1) := by decide +kernel
theorem dX12_add_15 : decode cX12_add 15 = .ok (.iconst (-1), 1) := by decide +kernel
theorem dX12_add_16 : decode cX12_add 16 = .ok (.if_icmp .ne 8, 3) := by decide +kernel
theorem dX12_add_19 : decode cX12_add 19 = .ok (.aload_n 0, 1) := by decide +kernel
theorem dX12_add_20 : decode cX12_add 20 = .ok (.iconst (-1), 1) := by decide +kernel
theorem dX12_add_21 : decode cX12_add 21 = .ok (.putfield 603, 3) := by decide +kernel
theorem dX12_add_24 : decode cX12_add 24 = .ok (.aload_n 0, 1) := by decide +kernel
theorem dX12_add_25 : decode cX12_add 25 = .ok (.getfield 603, 3) := by decide +kernel
theorem dX12_add_28 : decode cX12_add 28 = .ok (.ifCond .lt 31, 3) := by decide +kernel
theorem dX12_add_31 : decode cX12_add 31 = .ok (.aload_n 0, 1) := by decide +kernel
theorem dX12_add_32 : decode cX12_add 32 = .ok (.aload_n 0, 1) := by decide +kernel
theorem dX12_add_33 : decode cX12_add 33 = .ok (.getfield 606, 3) := by decide +kernel
theorem dX12_add_36 : decode cX12_add 36 = .ok (.aload_n 0, 1) := by decide +kernel
theorem dX12_add_37 : decode cX12_add 37 = .ok (.getfield 603, 3) := by decide +kernel
theorem dX12_add_40 : decode cX12_add 40 = .ok (.iadd, 1) := by decide +kernel
theorem dX12_add_41 : decode cX12_add 41 = .ok (.iload_n 1, 1) := by decide +kernel
theorem dX12_add_42 : decode cX12_add 42 = .ok (.iload_n 2, 1) := by decide +kernel
theorem dX12_add_43 : decode cX12_add 43 = .ok (.iload_n 3, 1) := by decide +kernel
theorem dX12_add_44 : decode cX12_add 44 = .ok (.iload 4, 2) := by decide +kernel
theorem dX12_add_46 : decode cX12_add 46 = .ok (.invokevirtual 386, 3) := by decide +kernel
theorem dX12_add_49 : decode cX12_add 49 = .ok (.aload_n 0, 1) := by decide +kernel
theorem dX12_add_50 : decode cX12_add 50 = .ok (.dup, 1) := by decide +kernel
theorem dX12_add_51 : decode cX12_add 51 = .ok (.getfield 603, 3) := by decide +kernel
theorem dX12_add_54 : decode cX12_add 54 = .ok (.iconst 1, 1) := by decide +kernel
theorem dX12_add_55 : decode cX12_add 55 = .ok (.iadd, 1) := by decide +kernel
theorem dX12_add_56 : decode cX12_add 56 = .ok (.putfield 603, 3) := by decide +kernel
theorem dX12_add_59 : decode cX12_add 59 = .ok (.return_, 1) := by decide +kernel
theorem dX12_addNodes_0 : decode cX12_addNodes 0 = .ok (.iload_n 2, 1) := by decide +kernel
theorem dX12_addNodes_1 : decode cX12_addNodes 1 = .ok (.ifCond .lt 14, 3) := by decide +kernel
theorem dX12_addNodes_4 : decode cX12_addNodes 4 = .ok (.aload_n 0, 1) := by decide +kernel
theorem dX12_addNodes_5 : decode cX12_addNodes 5 = .ok (.getfield 603, 3) := by decide +kernel
theorem dX12_addNodes_8 : decode cX12_addNodes 8 = .ok (.iload_n 2, 1) := by decide +kernel
theorem dX12_addNodes_9 : decode cX12_addNodes 9 = .ok (.iadd, 1) := by decide +kernel
theorem dX12_addNodes_10 : decode cX12_addNodes 10 = .ok (.bipush 80, 2) := by decide +kernel
theorem dX12_addNodes_12 : decode cX12_addNodes 12 = .ok (.if_icmp .le 8, 3) := by decide +kernel
theorem dX12_addNodes_15 : decode cX12_addNodes 15 = .ok (.aload_n 0, 1) := by decide +kernel
theorem dX12_addNodes_16 : decode cX12_addNodes 16 = .ok (.iconst (-1), 1) := by decide +kernel
theorem dX12_addNodes_17 : decode cX12_addNodes 17 = .ok (.putfield 603, 3) := by decide +kernel
theorem dX12_addNodes_20 : decode cX12_addNodes 20 = .ok (.aload_n 0, 1) := by decide +kernel
theorem dX12_addNodes_21 : decode cX12_addNodes 21 = .ok (.getfield 603, 3) := by decide +kernel
theorem dX12_addNodes_24 : decode cX12_addNodes 24 = .ok (.ifCond .lt 28, 3) := by decide +kernel
theorem dX12_addNodes_27 : decode cX12_addNodes 27 = .ok (.aload_n 0, 1) := by decide +kernel
theorem dX12_addNodes_28 : decode cX12_addNodes 28 = .ok (.aload_n 0, 1) := by decide +kernel
theorem dX12_addNodes_29 : decode cX12_addNodes 29 = .ok (.getfield 606, 3) := by decide +kernel
theorem dX12_addNodes_32 : decode cX12_addNodes 32 = .ok (.aload_n 0, 1) := by decide +kernel
theorem dX12_addNodes_33 : decode cX12_addNodes 33 = .ok (.getfield 603, 3) := by decide +kernel
theorem dX12_addNodes_36 : decode cX12_addNodes 36 = .ok (.iadd, 1) := by decide +kernel
theorem dX12_addNodes_37 : decode cX12_addNodes 37 = .ok (.iload_n 1, 1) := by decide +kernel
theorem dX12_addNodes_38 : decode cX12_addNodes 38 = .ok (.iload_n 2, 1) := by decide +kernel
theorem dX12_addNodes_39 : decode cX12_addNodes 39 = .ok (.invokevirtual 515, 3) := by decide +kernel
theorem dX12_addNodes_42 : decode cX12_addNodes 42 = .ok (.aload_n 0, 1) := by decide +kernel
theorem dX12_addNodes_43 : decode cX12_addNodes 43 = .ok (.dup, 1) := by decide +kernel
theorem dX12_addNodes_44 : decode cX12_addNodes 44 = .ok (.getfield 603, 3) := by decide +kernel
theorem dX12_addNodes_47 : decode cX12_addNodes 47 = .ok (.iload_n 2, 1) := by decide +kernel
theorem dX12_addNodes_48 : decode cX12_addNodes 48 = .ok (.iadd, 1) := by decide +kernel
theorem dX12_addNodes_49 : decode cX12_addNodes 49 = .ok (.putfield 603, 3) := by decide +kernel
theorem dX12_addNodes_52 : decode cX12_addNodes 52 = .ok (.return_, 1) := by decide +kernel
theorem dX12_addTree_0 : decode cX12_addTree 0 = .ok (.aload_n 0, 1) := by decide +kernel
theorem dX12_addTree_1 : decode cX12_addTree 1 = .ok (.iload_n 1, 1) := by decide +kernel
theorem dX12_addTree_2 : decode cX12_addTree 2 = .ok (.aload_n 0, 1) := by decide +kernel
theorem dX12_addTree_3 : decode cX12_addTree 3 = .ok (.getfield 147, 3) := by decide +kernel
theorem dX12_addTree_6 : decode cX12_addTree 6 = .ok (.iload_n 1, 1) := by decide +kernel
theorem dX12_addTree_7 : decode cX12_addTree 7 = .ok (.iaload, 1) := by decide +kernel
theorem dX12_addTree_8 : decode cX12_addTree 8 = .ok (.invokevirtual 609, 3) := by decide +kernel
theorem dX12_addTree_11 : decode cX12_addTree 11 = .ok (.return_, 1) := by decide +kernel
theorem dX12_addDerived_0 : decode cX12_addDerived 0 = .ok (.aload_n 0, 1) := by decide +kernel
theorem dX12_addDerived_1 : decode cX12_addDerived 1 = .ok (.sipush 13740, 3) := by decide +kernel
theorem dX12_addDerived_4 : decode cX12_addDerived 4 = .ok (.bipush 80, 2) := by decide +kernel
theorem dX12_addDerived_6 : decode cX12_addDerived 6 = .ok (.iload_n 1, 1) := by decide +kernel
theorem dX12_addDerived_7 : decode cX12_addDerived 7 = .ok (.iload_n 2, 1) := by decide +kernel
theorem dX12_addDerived_8 : decode cX12_addDerived 8 = .ok (.isub, 1) := by decide +kernel
theorem dX12_addDerived_9 : decode cX12_addDerived 9 = .ok (.imul, 1) := by decide +kernel
theorem dX12_addDerived_10 : decode cX12_addDerived 10 = .ok (.iadd, 1) := by decide +kernel
theorem dX12_addDerived_11 : decode cX12_addDerived 11 = .ok (.aload_n 0, 1) := by decide +kernel
theorem dX12_addDerived_12 : decode cX12_addDerived 12 = .ok (.getfield 299, 3) := by decide +kernel
theorem dX12_addDerived_15 : decode cX12_addDerived 15 = .ok (.iload_n 1, 1) := by decide +kernel
theorem dX12_addDerived_16 : decode cX12_addDerived 16 = .ok (.iload_n 2, 1) := by decide +kernel
theorem dX12_addDerived_17 : decode cX12_addDerived 17 = .ok (.isub, 1) := by decide +kernel
theorem dX12_addDerived_18 : decode cX12_addDerived 18 = .ok (.iaload, 1) := by decide +kernel
theorem dX12_addDerived_19 : decode cX12_addDerived 19 = .ok (.invokevirtual 609, 3) := by decide +kernel
theorem dX12_addDerived_22 : decode cX12_addDerived 22 = .ok (.return_, 1) := by decide +kernel
theorem dX12_deriveTwo_0 : decode cX12_deriveTwo 0 = .ok (.iload_n 1, 1) := by decide +kernel
theorem dX12_deriveTwo_1 : decode cX12_deriveTwo 1 = .ok (.iconst 1, 1) := by decide +kernel
theorem dX12_deriveTwo_2 : decode cX12_deriveTwo 2 = .ok (.iadd, 1) := by decide +kernel
theorem dX12_deriveTwo_3 : decode cX12_deriveTwo 3 = .ok (.istore 4, 2) := by decide +kernel
theorem dX12_deriveTwo_5 : decode cX12_deriveTwo 5 = .ok (.aload_n 0, 1) := by decide +kernel
theorem dX12_deriveTwo_6 : decode cX12_deriveTwo 6 = .ok (.iload_n 1, 1) := by decide +kernel
theorem dX12_deriveTwo_7 : decode cX12_deriveTwo 7 = .ok (.iconst 1, 1) := by decide +kernel
theorem dX12_deriveTwo_8 : decode cX12_deriveTwo 8 = .ok (.invokevirtual 405, 3) := by decide +kernel
theorem dX12_deriveTwo_11 : decode cX12_deriveTwo 11 = .ok (.istore 5, 2) := by decide +kernel
theorem dX12_deriveTwo_13 : decode cX12_deriveTwo 13 = .ok (.aload_n 0, 1) := by decide +kernel
theorem dX12_deriveTwo_14 : decode cX12_deriveTwo 14 = .ok (.getfield 138, 3) := by decide +kernel
theorem dX12_deriveTwo_17 : decode cX12_deriveTwo 17 = .ok (.iload_n 1, 1) := by decide +kernel
theorem dX12_deriveTwo_18 : decode cX12_deriveTwo 18 = .ok (.iaload, 1) := by decide +kernel
theorem dX12_deriveTwo_19 : decode cX12_deriveTwo 19 = .ok (.istore 6, 2) := by decide +kernel
theorem dX12_deriveTwo_21 : decode cX12_deriveTwo 21 = .ok (.iload_n 3, 1) := by decide +kernel
theorem dX12_deriveTwo_22 : decode cX12_deriveTwo 22 = .ok (.tableswitch 289 2 5 #[30, 89, 289, 189], 30) := by decide +kernel
theorem dX12_deriveTwo_52 : decode cX12_deriveTwo 52 = .ok (.aload_n 0, 1) := by decide +kernel
theorem dX12_deriveTwo_53 : decode cX12_deriveTwo 53 = .ok (.iconst 3, 1) := by decide +kernel
theorem dX12_deriveTwo_54 : decode cX12_deriveTwo 54 = .ok (.aload_n 0, 1) := by decide +kernel
theorem dX12_deriveTwo_55 : decode cX12_deriveTwo 55 = .ok (.iconst 0, 1) := by decide +kernel
theorem dX12_deriveTwo_56 : decode cX12_deriveTwo 56 = .ok (.invokevirtual 612, 3) := by decide +kernel
theorem dX12_deriveTwo_59 : decode cX12_deriveTwo 59 = .ok (.iconst 2, 1) := by decide +kernel
theorem dX12_deriveTwo_60 : decode cX12_deriveTwo 60 = .ok (.iconst 2, 1) := by decide +kernel
theorem dX12_deriveTwo_61 : decode cX12_deriveTwo 61 = .ok (.invokevirtual 615, 3) := by decide +kernel
theorem dX12_deriveTwo_64 : decode cX12_deriveTwo 64 = .ok (.aload_n 0, 1) := by decide +kernel
theorem dX12_deriveTwo_65 : decode cX12_deriveTwo 65 = .ok (.iconst 3, 1) := by decide +kernel
theorem dX12_deriveTwo_66 : decode cX12_deriveTwo 66 = .ok (.iload 6, 2) := by decide +kernel
theorem dX12_deriveTwo_68 : decode cX12_deriveTwo 68 = .ok (.iconst 2, 1) := by decide +kernel
theorem dX12_deriveTwo_69 : decode cX12_deriveTwo 69 = .ok (.iconst 2, 1) := by decide +kernel
theorem dX12_deriveTwo_70 : decode cX12_deriveTwo 70 = .ok (.invokevirtual 615, 3) := by decide +kernel
theorem dX12_deriveTwo_73 : decode cX12_deriveTwo 73 = .ok (.aload_n 0, 1) := by decide +kernel
theorem dX12_deriveTwo_74 : decode cX12_deriveTwo 74 = .ok (.iload 4, 2) := by decide +kernel
theorem dX12_deriveTwo_76 : decode cX12_deriveTwo 76 = .ok (.iload_n 2, 1) := by decide +kernel
theorem dX12_deriveTwo_77 : decode cX12_deriveTwo 77 = .ok (.invokevirtual 618, 3) := by decide +kernel
theorem dX12_deriveTwo_80 : decode cX12_deriveTwo 80 = .ok (.aload_n 0, 1) := by decide +kernel
theorem dX12_deriveTwo_81 : decode cX12_deriveTwo 81 = .ok (.iload 5, 2) := by decide +kernel
theorem dX12_deriveTwo_83 : decode cX12_deriveTwo 83 = .ok (.invokevirtual 621, 3) := by decide +kernel
theorem dX12_deriveTwo_86 : decode cX12_deriveTwo 86 = .ok (.aload_n 0, 1) := by decide +kernel
theorem dX12_deriveTwo_87 : decode cX12_deriveTwo 87 = .ok (.iconst 3, 1) := by decide +kernel
theorem dX12_deriveTwo_88 : decode cX12_deriveTwo 88 = .ok (.iload 6, 2) := by decide +kernel
theorem dX12_deriveTwo_90 : decode cX12_deriveTwo 90 = .ok (.iconst 2, 1) := by decide +kernel
theorem dX12_deriveTwo_91 : decode cX12_deriveTwo 91 = .ok (.iconst 2, 1) := by decide +kernel
theorem dX12_deriveTwo_92 : decode cX12_deriveTwo 92 = .ok (.invokevirtual 615, 3) := by decide +kernel
theorem dX12_deriveTwo_95 : decode cX12_deriveTwo 95 = .ok (.aload_n 0, 1) := by decide +kernel
theorem dX12_deriveTwo_96 : decode cX12_deriveTwo 96 = .ok (.iload 4, 2) := by decide +kernel
theorem dX12_deriveTwo_98 : decode cX12_deriveTwo 98 = .ok (.invokevirtual 621, 3) := by decide +kernel
theorem dX12_deriveTwo_101 : decode cX12_deriveTwo 101 = .ok (.aload_n 0, 1) := by decide +kernel
theorem dX12_deriveTwo_102 : decode cX12_deriveTwo 102 = .ok (.iload 5, 2) := by decide +kernel
theorem dX12_deriveTwo_104 : decode cX12_deriveTwo 104 = .ok (.iload_n 2, 1) := by decide +kernel
theorem dX12_deriveTwo_105 : decode cX12_deriveTwo 105 = .ok (.invokevirtual 618, 3) := by decide +kernel
theorem dX12_deriveTwo_108 : decode cX12_deriveTwo 108 = .ok (.goto 226, 3) := by decide +kernel
theorem dX12_deriveTwo_111 : decode cX12_deriveTwo 111 = .ok (.aload_n 0, 1) := by decide +kernel
theorem dX12_deriveTwo_112 : decode cX12_deriveTwo 112 = .ok (.iconst 3, 1) := by decide +kernel
theorem dX12_deriveTwo_113 : decode cX12_deriveTwo 113 = .ok (.iload 6, 2) := by decide +kernel
theorem dX12_deriveTwo_115 : decode cX12_deriveTwo 115 = .ok (.iconst 2, 1) := by decide +kernel
theorem dX12_deriveTwo_116 : decode cX12_deriveTwo 116 = .ok (.iconst 2, 1) := by decide +kernel
theorem dX12_deriveTwo_117 : decode cX12_deriveTwo 117 = .ok (.invokevirtual 615, 3) := by decide +kernel
theorem dX12_deriveTwo_120 : decode cX12_deriveTwo 120 = .ok (.aload_n 0, 1) := by decide +kernel
theorem dX12_deriveTwo_121 : decode cX12_deriveTwo 121 = .ok (.iconst 3, 1) := by decide +kernel
theorem dX12_deriveTwo_122 : decode cX12_deriveTwo 122 = .ok (.aload_n 0, 1) := by decide +kernel
theorem dX12_deriveTwo_123 : decode cX12_deriveTwo 123 = .ok (.iconst 1, 1) := by decide +kernel
theorem dX12_deriveTwo_124 : decode cX12_deriveTwo 124 = .ok (.invokevirtual 612, 3) := by decide +kernel
theorem dX12_deriveTwo_127 : decode cX12_deriveTwo 127 = .ok (.iconst 2, 1) := by decide +kernel
theorem dX12_deriveTwo_128 : decode cX12_deriveTwo 128 = .ok (.iconst 2, 1) := by decide +kernel
theorem dX12_deriveTwo_129 : decode cX12_deriveTwo 129 = .ok (.invokevirtual 615, 3) := by decide +kernel
theorem dX12_deriveTwo_132 : decode cX12_deriveTwo 132 = .ok (.aload_n 0, 1) := by decide +kernel
theorem dX12_deriveTwo_133 : decode cX12_deriveTwo 133 = .ok (.iconst 3, 1) := by decide +kernel
theorem dX12_deriveTwo_134 : decode cX12_deriveTwo 134 = .ok (.aload_n 0, 1) := by decide +kernel
theorem dX12_deriveTwo_135 : decode cX12_deriveTwo 135 = .ok (.iconst 2, 1) := by decide +kernel
theorem dX12_deriveTwo_136 : decode cX12_deriveTwo 136 = .ok (.invokevirtual 612, 3) := by decide +kernel
theorem dX12_deriveTwo_139 : decode cX12_deriveTwo 139 = .ok (.iconst 2, 1) := by decide +kernel
theorem dX12_deriveTwo_140 : decode cX12_deriveTwo 140 = .ok (.iconst 2, 1) := by decide +kernel
theorem dX12_deriveTwo_141 : decode cX12_deriveTwo 141 = .ok (.invokevirtual 615, 3) := by decide +kernel
theorem dX12_deriveTwo_144 : decode cX12_deriveTwo 144 = .ok (.aload_n 0, 1) := by decide +kernel
theorem dX12_deriveTwo_145 : decode cX12_deriveTwo 145 = .ok (.iload 4, 2) := by decide +kernel
theorem dX12_deriveTwo_147 : decode cX12_deriveTwo 147 = .ok (.iload_n 2, 1) := by decide +kernel
theorem dX12_deriveTwo_148 : decode cX12_deriveTwo 148 = .ok (.invokevirtual 618, 3) := by decide +kernel
theorem dX12_deriveTwo_151 : decode cX12_deriveTwo 151 = .ok (.aload_n 0, 1) := by decide +kernel
theorem dX12_deriveTwo_152 : decode cX12_deriveTwo 152 = .ok (.iload 5, 2) := by decide +kernel
theorem dX12_deriveTwo_154 : decode cX12_deriveTwo 154 = .ok (.invokevirtual 621, 3) := by decide +kernel
theorem dX12_deriveTwo_157 : decode cX12_deriveTwo 157 = .ok (.aload_n 0, 1) := by decide +kernel
theorem dX12_deriveTwo_158 : decode cX12_deriveTwo 158 = .ok (.iconst 3, 1) := by decide +kernel
theorem dX12_deriveTwo_159 : decode cX12_deriveTwo 159 = .ok (.aload_n 0, 1) := by decide +kernel
theorem dX12_deriveTwo_160 : decode cX12_deriveTwo 160 = .ok (.iconst 2, 1) := by decide +kernel
theorem dX12_deriveTwo_161 : decode cX12_deriveTwo 161 = .ok (.invokevirtual 612, 3) := by decide +kernel
theorem dX12_deriveTwo_164 : decode cX12_deriveTwo 164 = .ok (.iconst 2, 1) := by decide +kernel
theorem dX12_deriveTwo_165 : decode cX12_deriveTwo 165 = .ok (.iconst 2, 1) := by decide +kernel
theorem dX12_deriveTwo_166 : decode cX12_deriveTwo 166 = .ok (.invokevirtual 615, 3) := by decide +kernel
theorem dX12_deriveTwo_169 : decode cX12_deriveTwo 169 = .ok (.aload_n 0, 1) := by decide +kernel
theorem dX12_deriveTwo_170 : decode cX12_deriveTwo 170 = .ok (.iload 4, 2) := by decide +kernel
theorem dX12_deriveTwo_172 : decode cX12_deriveTwo 172 = .ok (.invokevirtual 621, 3) := by decide +kernel
theorem dX12_deriveTwo_175 : decode cX12_deriveTwo 175 = .ok (.aload_n 0, 1) := by decide +kernel
theorem dX12_deriveTwo_176 : decode cX12_deriveTwo 176 = .ok (.iload 5, 2) := by decide +kernel
theorem dX12_deriveTwo_178 : decode cX12_deriveTwo 178 = .ok (.iload_n 2, 1) := by decide +kernel
theorem dX12_deriveTwo_179 : decode cX12_deriveTwo 179 = .ok (.invokevirtual 618, 3) := by decide +kernel
theorem dX12_deriveTwo_182 : decode cX12_deriveTwo 182 = .ok (.aload_n 0, 1) := by decide +kernel
theorem dX12_deriveTwo_183 : decode cX12_deriveTwo 183 = .ok (.iconst 3, 1) := by decide +kernel
theorem dX12_deriveTwo_184 : decode cX12_deriveTwo 184 = .ok (.aload_n 0, 1) := by decide +kernel
theorem dX12_deriveTwo_185 : decode cX12_deriveTwo 185 = .ok (.iconst 5, 1) := by decide +kernel
theorem dX12_deriveTwo_186 : decode cX12_deriveTwo 186 = .ok (.invokevirtual 612, 3) := by decide +kernel
theorem dX12_deriveTwo_189 : decode cX12_deriveTwo 189 = .ok (.iconst 2, 1) := by decide +kernel
theorem dX12_deriveTwo_190 : decode cX12_deriveTwo 190 = .ok (.iconst 2, 1) := by decide +kernel
theorem dX12_deriveTwo_191 : decode cX12_deriveTwo 191 = .ok (.invokevirtual 615, 3) := by decide +kernel
theorem dX12_deriveTwo_194 : decode cX12_deriveTwo 194 = .ok (.aload_n 0, 1) := by decide +kernel
theorem dX12_deriveTwo_195 : decode cX12_deriveTwo 195 = .ok (.iload 5, 2) := by decide +kernel
theorem dX12_deriveTwo_197 : decode cX12_deriveTwo 197 = .ok (.invokevirtual 621, 3) := by decide +kernel
theorem dX12_deriveTwo_200 : decode cX12_deriveTwo 200 = .ok (.aload_n 0, 1) := by decide +kernel
theorem dX12_deriveTwo_201 : decode cX12_deriveTwo 201 = .ok (.iconst 0, 1) := by decide +kernel
theorem dX12_deriveTwo_202 : decode cX12_deriveTwo 202 = .ok (.iconst 2, 1) := by decide +kernel
theorem dX12_deriveTwo_203 : decode cX12_deriveTwo 203 = .ok (.iconst (-1), 1) := by decide +kernel
theorem dX12_deriveTwo_204 : decode cX12_deriveTwo 204 = .ok (.iconst 0, 1) := by decide +kernel
theorem dX12_deriveTwo_205 : decode cX12_deriveTwo 205 = .ok (.invokevirtual 615, 3) := by decide +kernel
theorem dX12_deriveTwo_208 : decode cX12_deriveTwo 208 = .ok (.goto 126, 3) := by decide +kernel
theorem dX12_deriveTwo_211 : decode cX12_deriveTwo 211 = .ok (.aload_n 0, 1) := by decide +kernel
theorem dX12_deriveTwo_212 : decode cX12_deriveTwo 212 = .ok (.getfield 138, 3) := by decide +kernel
theorem dX12_deriveTwo_215 : decode cX12_deriveTwo 215 = .ok (.iload 5, 2) := by decide +kernel
theorem dX12_deriveTwo_217 : decode cX12_deriveTwo 217 = .ok (.iaload, 1) := by decide +kernel
theorem dX12_deriveTwo_218 : decode cX12_deriveTwo 218 = .ok (.ifCond .ne 14, 3) := by decide +kernel
theorem dX12_deriveTwo_221 : decode cX12_deriveTwo 221 = .ok (.aload_n 0, 1) := by decide +kernel
theorem dX12_deriveTwo_222 : decode cX12_deriveTwo 222 = .ok (.iconst 0, 1) := by decide +kernel
theorem dX12_deriveTwo_223 : decode cX12_deriveTwo 223 = .ok (.iconst 0, 1) := by decide +kernel
theorem dX12_deriveTwo_224 : decode cX12_deriveTwo 224 = .ok (.iconst (-1), 1) := by decide +kernel
theorem dX12_deriveTwo_225 : decode cX12_deriveTwo 225 = .ok (.iconst 0, 1) := by decide +kernel
theorem dX12_deriveTwo_226 : decode cX12_deriveTwo 226 = .ok (.invokevirtual 615, 3) := by decide +kernel
theorem dX12_deriveTwo_229 : decode cX12_deriveTwo 229 = .ok (.goto 105, 3) := by decide +kernel
theorem dX12_deriveTwo_232 : decode cX12_deriveTwo 232 = .ok (.aload_n 0, 1) := by decide +kernel
theorem dX12_deriveTwo_233 : decode cX12_deriveTwo 233 = .ok (.iconst 3, 1) := by decide +kernel
theorem dX12_deriveTwo_234 : decode cX12_deriveTwo 234 = .ok (.aload_n 0, 1) := by decide +kernel
theorem dX12_deriveTwo_235 : decode cX12_deriveTwo 235 = .ok (.iconst 2, 1) := by decide +kernel
theorem dX12_deriveTwo_236 : decode cX12_deriveTwo 236 = .ok (.invokevirtual 612, 3) := by decide +kernel
theorem dX12_deriveTwo_239 : decode cX12_deriveTwo 239 = .ok (.iconst 2, 1) := by decide +kernel
theorem dX12_deriveTwo_240 : decode cX12_deriveTwo 240 = .ok (.iconst 2, 1) := by decide +kernel
theorem dX12_deriveTwo_241 : decode cX12_deriveTwo 241 = .ok (.invokevirtual 615, 3) := by decide +kernel
theorem dX12_deriveTwo_244 : decode cX12_deriveTwo 244 = .ok (.aload_n 0, 1) := by decide +kernel
theorem dX12_deriveTwo_245 : decode cX12_deriveTwo 245 = .ok (.iconst 3, 1) := by decide +kernel
theorem dX12_deriveTwo_246 : decode cX12_deriveTwo 246 = .ok (.aload_n 0, 1) := by decide +kernel
theorem dX12_deriveTwo_247 : decode cX12_deriveTwo 247 = .ok (.iconst 2, 1) := by decide +kernel
theorem dX12_deriveTwo_248 : decode cX12_deriveTwo 248 = .ok (.invokevirtual 612, 3) := by decide +kernel
theorem dX12_deriveTwo_251 : decode cX12_deriveTwo 251 = .ok (.iconst 2, 1) := by decide +kernel
theorem dX12_deriveTwo_252 : decode cX12_deriveTwo 252 = .ok (.iconst 2, 1) := by decide +kernel
theorem dX12_deriveTwo_253 : decode cX12_deriveTwo 253 = .ok (.invokevirtual 615, 3) := by decide +kernel
theorem dX12_deriveTwo_256 : decode cX12_deriveTwo 256 = .ok (.aload_n 0, 1) := by decide +kernel
theorem dX12_deriveTwo_257 : decode cX12_deriveTwo 257 = .ok (.iconst 0, 1) := by decide +kernel
theorem dX12_deriveTwo_258 : decode cX12_deriveTwo 258 = .ok (.aload_n 0, 1) := by decide +kernel
theorem dX12_deriveTwo_259 : decode cX12_deriveTwo 259 = .ok (.getfield 138, 3) := by decide +kernel
theorem dX12_deriveTwo_262 : decode cX12_deriveTwo 262 = .ok (.iload 5, 2) := by decide +kernel
theorem dX12_deriveTwo_264 : decode cX12_deriveTwo 264 = .ok (.iaload, 1) := by decide +kernel
theorem dX12_deriveTwo_265 : decode cX12_deriveTwo 265 = .ok (.iconst (-1), 1) := by decide +kernel
theorem dX12_deriveTwo_266 : decode cX12_deriveTwo 266 = .ok (.iconst 0, 1) := by decide +kernel
theorem dX12_deriveTwo_267 : decode cX12_deriveTwo 267 = .ok (.invokevirtual 615, 3) := by decide +kernel
theorem dX12_deriveTwo_270 : decode cX12_deriveTwo 270 = .ok (.aload_n 0, 1) := by decide +kernel
theorem dX12_deriveTwo_271 : decode cX12_deriveTwo 271 = .ok (.iconst 3, 1) := by decide +kernel
theorem dX12_deriveTwo_272 : decode cX12_deriveTwo 272 = .ok (.iload 6, 2) := by decide +kernel
theorem dX12_deriveTwo_274 : decode cX12_deriveTwo 274 = .ok (.iconst 2, 1) := by decide +kernel
theorem dX12_deriveTwo_275 : decode cX12_deriveTwo 275 = .ok (.iconst 2, 1) := by decide +kernel
theorem dX12_deriveTwo_276 : decode cX12_deriveTwo 276 = .ok (.invokevirtual 615, 3) := by decide +kernel
theorem dX12_deriveTwo_279 : decode cX12_deriveTwo 279 = .ok (.aload_n 0, 1) := by decide +kernel
theorem dX12_deriveTwo_280 : decode cX12_deriveTwo 280 = .ok (.iload 4, 2) := by decide +kernel
theorem dX12_deriveTwo_282 : decode cX12_deriveTwo 282 = .ok (.invokevirtual 621, 3) := by decide +kernel
theorem dX12_deriveTwo_285 : decode cX12_deriveTwo 285 = .ok (.aload_n 0, 1) := by decide +kernel
theorem dX12_deriveTwo_286 : decode cX12_deriveTwo 286 = .ok (.iconst 0, 1) := by decide +kernel
theorem dX12_deriveTwo_287 : decode cX12_deriveTwo 287 = .ok (.aload_n 0, 1) := by decide +kernel
theorem dX12_deriveTwo_288 : decode cX12_deriveTwo 288 = .ok (.getfield 138, 3) := by decide +kernel
theorem dX12_deriveTwo_291 : decode cX12_deriveTwo 291 = .ok (.iload 5, 2) := by decide +kernel
theorem dX12_deriveTwo_293 : decode cX12_deriveTwo 293 = .ok (.iaload, 1) := by decide +kernel
theorem dX12_deriveTwo_294 : decode cX12_deriveTwo 294 = .ok (.iconst 1, 1) := by decide +kernel
theorem dX12_deriveTwo_295 : decode cX12_deriveTwo 295 = .ok (.isub, 1) := by decide +kernel
theorem dX12_deriveTwo_296 : decode cX12_deriveTwo 296 = .ok (.iconst (-1), 1) := by decide +kernel
theorem dX12_deriveTwo_297 : decode cX12_deriveTwo 297 = .ok (.iconst 0, 1) := by decide +kernel
theorem dX12_deriveTwo_298 : decode cX12_deriveTwo 298 = .ok (.invokevirtual 615, 3) := by decide +kernel
theorem dX12_deriveTwo_301 : decode cX12_deriveTwo 301 = .ok (.aload_n 0, 1) := by decide +kernel
theorem dX12_deriveTwo_302 : decode cX12_deriveTwo 302 = .ok (.iload 4, 2) := by decide +kernel
theorem dX12_deriveTwo_304 : decode cX12_deriveTwo 304 = .ok (.iload_n 2, 1) := by decide +kernel
theorem dX12_deriveTwo_305 : decode cX12_deriveTwo 305 = .ok (.invokevirtual 618, 3) := by decide +kernel
theorem dX12_deriveTwo_308 : decode cX12_deriveTwo 308 = .ok (.goto 26, 3) := by decide +kernel
theorem dX12_deriveTwo_311 : decode cX12_deriveTwo 311 = .ok (.aload_n 0, 1) := by decide +kernel
theorem dX12_deriveTwo_312 : decode cX12_deriveTwo 312 = .ok (.iconst 3, 1) := by decide +kernel
theorem dX12_deriveTwo_313 : decode cX12_deriveTwo 313 = .ok (.iload 6, 2) := by decide +kernel
theorem dX12_deriveTwo_315 : decode cX12_deriveTwo 315 = .ok (.iconst 2, 1) := by decide +kernel
theorem dX12_deriveTwo_316 : decode cX12_deriveTwo 316 = .ok (.iconst 2, 1) := by decide +kernel
theorem dX12_deriveTwo_317 : decode cX12_deriveTwo 317 = .ok (.invokevirtual 615, 3) := by decide +kernel
theorem dX12_deriveTwo_320 : decode cX12_deriveTwo 320 = .ok (.aload_n 0, 1) := by decide +kernel
theorem dX12_deriveTwo_321 : decode cX12_deriveTwo 321 = .ok (.iload 4, 2) := by decide +kernel
theorem dX12_deriveTwo_323 : decode cX12_deriveTwo 323 = .ok (.iload_n 2, 1) := by decide +kernel
theorem dX12_deriveTwo_324 : decode cX12_deriveTwo 324 = .ok (.invokevirtual 618, 3) := by decide +kernel
theorem dX12_deriveTwo_327 : decode cX12_deriveTwo 327 = .ok (.aload_n 0, 1) := by decide +kernel
theorem dX12_deriveTwo_328 : decode cX12_deriveTwo 328 = .ok (.iload 5, 2) := by decide +kernel
theorem dX12_deriveTwo_330 : decode cX12_deriveTwo 330 = .ok (.iload_n 2, 1) := by decide +kernel
theorem dX12_deriveTwo_331 : decode cX12_deriveTwo 331 = .ok (.invokevirtual 618, 3) := by decide +kernel
theorem dX12_deriveTwo_334 : decode cX12_deriveTwo 334 = .ok (.return_, 1) := by decide +kernel
theorem dX12_derives_0 : decode cX12_derives 0 = .ok (.aload_n 0, 1) := by decide +kernel
theorem dX12_derives_1 : decode cX12_derives 1 = .ok (.iload_n 1, 1) := by decide +kernel
theorem dX12_derives_2 : decode cX12_derives 2 = .ok (.invokevirtual 624, 3) := by decide +kernel
theorem dX12_derives_5 : decode cX12_derives 5 = .ok (.ifCond .ne 5, 3) := by decide +kernel
theorem dX12_derives_8 : decode cX12_derives 8 = .ok (.iconst (-1), 1) := by decide +kernel
theorem dX12_derives_9 : decode cX12_derives 9 = .ok (.ireturn, 1) := by decide +kernel
theorem dX12_derives_10 : decode cX12_derives 10 = .ok (.aload_n 0, 1) := by decide +kernel
theorem dX12_derives_11 : decode cX12_derives 11 = .ok (.iload_n 1, 1) := by decide +kernel
theorem dX12_derives_12 : decode cX12_derives 12 = .ok (.invokevirtual 439, 3) := by decide +kernel
theorem dX12_derives_15 : decode cX12_derives 15 = .ok (.istore_n 3, 1) := by decide +kernel
theorem dX12_derives_16 : decode cX12_derives 16 = .ok (.iconst 0, 1) := by decide +kernel
theorem dX12_derives_17 : decode cX12_derives 17 = .ok (.istore 4, 2) := by decide +kernel
theorem dX12_derives_19 : decode cX12_derives 19 = .ok (.iload 4, 2) := by decide +kernel
theorem dX12_derives_21 : decode cX12_derives 21 = .ok (.iload_n 3, 1) := by decide +kernel
theorem dX12_derives_22 : decode cX12_derives 22 = .ok (.if_icmp .ge 174, 3) := by decide +kernel
theorem dX12_derives_25 : decode cX12_derives 25 = .ok (.aload_n 0, 1) := by decide +kernel
theorem dX12_derives_26 : decode cX12_derives 26 = .ok (.getfield 150, 3) := by decide +kernel
theorem dX12_derives_29 : decode cX12_derives 29 = .ok (.iload 4, 2) := by decide +kernel
theorem dX12_derives_31 : decode cX12_derives 31 = .ok (.iaload, 1) := by decide +kernel
theorem dX12_derives_32 : decode cX12_derives 32 = .ok (.istore 5, 2) := by decide +kernel
theorem dX12_derives_34 : decode cX12_derives 34 = .ok (.aload_n 0, 1) := by decide +kernel
theorem dX12_derives_35 : decode cX12_derives 35 = .ok (.sipush 13740, 3) := by decide +kernel
theorem dX12_derives_38 : decode cX12_derives 38 = .ok (.bipush 80, 2) := by decide +kernel
theorem dX12_derives_40 : decode cX12_derives 40 = .ok (.iload 5, 2) := by decide +kernel
theorem dX12_derives_42 : decode cX12_derives 42 = .ok (.iload_n 1, 1) := by decide +kernel
theorem dX12_derives_43 : decode cX12_derives 43 = .ok (.isub, 1) := by decide +kernel
theorem dX12_derives_44 : decode cX12_derives 44 = .ok (.imul, 1) := by decide +kernel
theorem dX12_derives_45 : decode cX12_derives 45 = .ok (.iadd, 1) := by decide +kernel
theorem dX12_derives_46 : decode cX12_derives 46 = .ok (.putfield 606, 3) := by decide +kernel
theorem dX12_derives_49 : decode cX12_derives 49 = .ok (.aload_n 0, 1) := by decide +kernel
theorem dX12_derives_50 : decode cX12_derives 50 = .ok (.iconst 0, 1) := by decide +kernel
theorem dX12_derives_51 : decode cX12_derives 51 = .ok (.putfield 603, 3) := by decide +kernel
theorem dX12_derives_54 : decode cX12_derives 54 = .ok (.aload_n 0, 1) := by decide +kernel
theorem dX12_derives_55 : decode cX12_derives 55 = .ok (.getfield 135, 3) := by decide +kernel
theorem dX12_derives_58 : decode cX12_derives 58 = .ok (.iload 5, 2) := by decide +kernel
theorem dX12_derives_60 : decode cX12_derives 60 = .ok (.iaload, 1) := by decide +kernel
theorem dX12_derives_61 : decode cX12_derives 61 = .ok (.iconst 3, 1) := by decide +kernel
theorem dX12_derives_62 : decode cX12_derives 62 = .ok (.if_icmp .eq 40, 3) := by decide +kernel
theorem dX12_derives_65 : decode cX12_derives 65 = .ok (.aload_n 0, 1) := by decide +kernel
theorem dX12_derives_66 : decode cX12_derives 66 = .ok (.iconst 0, 1) := by decide +kernel
theorem dX12_derives_67 : decode cX12_derives 67 = .ok (.aload_n 0, 1) := by decide +kernel
theorem dX12_derives_68 : decode cX12_derives 68 = .ok (.getfield 135, 3) := by decide +kernel
theorem dX12_derives_71 : decode cX12_derives 71 = .ok (.iload 5, 2) := by decide +kernel
theorem dX12_derives_73 : decode cX12_derives 73 = .ok (.iaload, 1) := by decide +kernel
theorem dX12_derives_74 : decode cX12_derives 74 = .ok (.iconst 1, 1) := by decide +kernel
theorem dX12_derives_75 : decode cX12_derives 75 = .ok (.if_icmp .ne 18, 3) := by decide +kernel
theorem dX12_derives_78 : decode cX12_derives 78 = .ok (.aload_n 0, 1) := by decide +kernel
theorem dX12_derives_79 : decode cX12_derives 79 = .ok (.getfield 138, 3) := by decide +kernel
theorem dX12_derives_82 : decode cX12_derives 82 = .ok (.iload 5, 2) := by decide +kernel
theorem dX12_derives_84 : decode cX12_derives 84 = .ok (.iaload, 1) := by decide +kernel
theorem dX12_derives_85 : decode cX12_derives 85 = .ok (.iload_n 2, 1) := by decide +kernel
theorem dX12_derives_86 : decode cX12_derives 86 = .ok (.if_icmp .ne 7, 3) := by decide +kernel
theorem dX12_derives_89 : decode cX12_derives 89 = .ok (.iconst 1, 1) := by decide +kernel
theorem dX12_derives_90 : decode cX12_derives 90 = .ok (.goto 4, 3) := by decide +kernel
theorem dX12_derives_93 : decode cX12_derives 93 = .ok (.iconst 0, 1) := by decide +kernel
theorem dX12_derives_94 : decode cX12_derives 94 = .ok (.iconst (-1), 1) := by decide +kernel
theorem dX12_derives_95 : decode cX12_derives 95 = .ok (.iconst 0, 1) := by decide +kernel
theorem dX12_derives_96 : decode cX12_derives 96 = .ok (.invokevirtual 615, 3) := by decide +kernel
theorem dX12_derives_99 : decode cX12_derives 99 = .ok (.goto 59, 3) := by decide +kernel
theorem dX12_derives_102 : decode cX12_derives 102 = .ok (.aload_n 0, 1) := by decide +kernel
theorem dX12_derives_103 : decode cX12_derives 103 = .ok (.getfield 144, 3) := by decide +kernel
theorem dX12_derives_106 : decode cX12_derives 106 = .ok (.iload 5, 2) := by decide +kernel
theorem dX12_derives_108 : decode cX12_derives 108 = .ok (.iaload, 1) := by decide +kernel
theorem dX12_derives_109 : decode cX12_derives 109 = .ok (.iconst 1, 1) := by decide +kernel
theorem dX12_derives_110 : decode cX12_derives 110 = .ok (.if_icmp .ne 35, 3) := by decide +kernel
theorem dX12_derives_113 : decode cX12_derives 113 = .ok (.aload_n 0, 1) := by decide +kernel
theorem dX12_derives_114 : decode cX12_derives 114 = .ok (.iconst 3, 1) := by decide +kernel
theorem dX12_derives_115 : decode cX12_derives 115 = .ok (.aload_n 0, 1) := by decide +kernel
theorem dX12_derives_116 : decode cX12_derives 116 = .ok (.getfield 138, 3) := by decide +kernel
theorem dX12_derives_119 : decode cX12_derives 119 = .ok (.iload 5, 2) := by decide +kernel
theorem dX12_derives_121 : decode cX12_derives 121 = .ok (.iaload, 1) := by decide +kernel
theorem dX12_derives_122 : decode cX12_derives 122 = .ok (.aload_n 0, 1) := by decide +kernel
theorem dX12_derives_123 : decode cX12_derives 123 = .ok (.getfield 141, 3) := by decide +kernel
theorem dX12_derives_126 : decode cX12_derives 126 = .ok (.iload 5, 2) := by decide +kernel
theorem dX12_derives_128 : decode cX12_derives 128 = .ok (.iaload, 1) := by decide +kernel
theorem dX12_derives_129 : decode cX12_derives 129 = .ok (.iconst 1, 1) := by decide +kernel
theorem dX12_derives_130 : decode cX12_derives 130 = .ok (.invokevirtual 615, 3) := by decide +kernel
theorem dX12_derives_133 : decode cX12_derives 133 = .ok (.aload_n 0, 1) := by decide +kernel
theorem dX12_derives_134 : decode cX12_derives 134 = .ok (.iload 5, 2) := by decide +kernel
theorem dX12_derives_136 : decode cX12_derives 136 = .ok (.iconst 1, 1) := by decide +kernel
theorem dX12_derives_137 : decode cX12_derives 137 = .ok (.iadd, 1) := by decide +kernel
theorem dX12_derives_138 : decode cX12_derives 138 = .ok (.iload_n 1, 1) := by decide +kernel
theorem dX12_derives_139 : decode cX12_derives 139 = .ok (.invokevirtual 618, 3) := by decide +kernel
theorem dX12_derives_142 : decode cX12_derives 142 = .ok (.goto 16, 3) := by decide +kernel
theorem dX12_derives_145 : decode cX12_derives 145 = .ok (.aload_n 0, 1) := by decide +kernel
theorem dX12_derives_146 : decode cX12_derives 146 = .ok (.iload 5, 2) := by decide +kernel
theorem dX12_derives_148 : decode cX12_derives 148 = .ok (.iload_n 1, 1) := by decide +kernel
theorem dX12_derives_149 : decode cX12_derives 149 = .ok (.aload_n 0, 1) := by decide +kernel
theorem dX12_derives_150 : decode cX12_derives 150 = .ok (.iload 5, 2) := by decide +kernel
theorem dX12_derives_152 : decode cX12_derives 152 = .ok (.invokevirtual 484, 3) := by decide +kernel
theorem dX12_derives_155 : decode cX12_derives 155 = .ok (.invokevirtual 627, 3) := by decide +kernel
theorem dX12_derives_158 : decode cX12_derives 158 = .ok (.aload_n 0, 1) := by decide +kernel
theorem dX12_derives_159 : decode cX12_derives 159 = .ok (.getfield 299, 3) := by decide +kernel
theorem dX12_derives_162 : decode cX12_derives 162 = .ok (.iload 5, 2) := by decide +kernel
theorem dX12_derives_164 : decode cX12_derives 164 = .ok (.iload_n 1, 1) := by decide +kernel
theorem dX12_derives_165 : decode cX12_derives 165 = .ok (.isub, 1) := by decide +kernel
theorem dX12_derives_166 : decode cX12_derives 166 = .ok (.aload_n 0, 1) := by decide +kernel
theorem dX12_derives_167 : decode cX12_derives 167 = .ok (.getfield 603, 3) := by decide +kernel
theorem dX12_derives_170 : decode cX12_derives 170 = .ok (.iastore, 1) := by decide +kernel
theorem dX12_derives_171 : decode cX12_derives 171 = .ok (.aload_n 0, 1) := by decide +kernel
theorem dX12_derives_172 : decode cX12_derives 172 = .ok (.getfield 603, 3) := by decide +kernel
theorem dX12_derives_175 : decode cX12_derives 175 = .ok (.ifCond .le 15, 3) := by decide +kernel
theorem dX12_derives_178 : decode cX12_derives 178 = .ok (.aload_n 0, 1) := by decide +kernel
theorem dX12_derives_179 : decode cX12_derives 179 = .ok (.aload_n 0, 1) := by decide +kernel
theorem dX12_derives_180 : decode cX12_derives 180 = .ok (.getfield 606, 3) := by decide +kernel
theorem dX12_derives_183 : decode cX12_derives 183 = .ok (.aload_n 0, 1) := by decide +kernel
theorem dX12_derives_184 : decode cX12_derives 184 = .ok (.getfield 603, 3) := by decide +kernel
theorem dX12_derives_187 : decode cX12_derives 187 = .ok (.invokevirtual 389, 3) := by decide +kernel
theorem dX12_derives_190 : decode cX12_derives 190 = .ok (.iinc 4 1, 3) := by decide +kernel
theorem dX12_derives_193 : decode cX12_derives 193 = .ok (.goto (-174), 3) := by decide +kernel
theorem dX12_derives_196 : decode cX12_derives 196 = .ok (.aload_n 0, 1) := by decide +kernel
theorem dX12_derives_197 : decode cX12_derives 197 = .ok (.getfield 299, 3) := by decide +kernel
theorem dX12_derives_200 : decode cX12_derives 200 = .ok (.iconst 0, 1) := by decide +kernel
theorem dX12_derives_201 : decode cX12_derives 201 = .ok (.iaload, 1) := by decide +kernel
theorem dX12_derives_202 : decode cX12_derives 202 = .ok (.ireturn, 1) := by decide +kernel
theorem dX12_valueAt_0 : decode cX12_valueAt 0 = .ok (.sipush 2500, 3) := by decide +kernel
theorem dX12_valueAt_3 : decode cX12_valueAt 3 = .ok (.iconst 2, 1) := by decide +kernel
theorem dX12_valueAt_4 : decode cX12_valueAt 4 = .ok (.iload_n 0, 1) := by decide +kernel
theorem dX12_valueAt_5 : decode cX12_valueAt 5 = .ok (.imul, 1) := by decide +kernel
theorem dX12_valueAt_6 : decode cX12_valueAt 6 = .ok (.iadd, 1) := by decide +kernel
theorem dX12_valueAt_7 : decode cX12_valueAt 7 = .ok (.ireturn, 1) := by decide +kernel
theorem dX12_partAt_0 : decode cX12_partAt 0 = .ok (.sipush 2500, 3) := by decide +kernel
theorem dX12_partAt_3 : decode cX12_partAt 3 = .ok (.iconst 2, 1) := by decide +kernel
theorem dX12_partAt_4 : decode cX12_partAt 4 = .ok (.iload_n 0, 1) := by decide +kernel
theorem dX12_partAt_5 : decode cX12_partAt 5 = .ok (.imul, 1) := by decide +kernel
theorem dX12_partAt_6 : decode cX12_partAt 6 = .ok (.iadd, 1) := by decide +kernel
theorem dX12_partAt_7 : decode cX12_partAt 7 = .ok (.iconst 1, 1) := by decide +kernel
theorem dX12_partAt_8 : decode cX12_partAt 8 = .ok (.iadd, 1) := by decide +kernel
theorem dX12_partAt_9 : decode cX12_partAt 9 = .ok (.ireturn, 1) := by decide +kernel
theorem dX12_partOfPower_0 : decode cX12_partOfPower 0 = .ok (.sipush 3602, 3) := by decide +kernel
theorem dX12_partOfPower_3 : decode cX12_partOfPower 3 = .ok (.istore_n 3, 1) := by decide +kernel
theorem dX12_partOfPower_4 : decode cX12_partOfPower 4 = .ok (.aload_n 0, 1) := by decide +kernel
theorem dX12_partOfPower_5 : decode cX12_partOfPower 5 = .ok (.iload_n 3, 1) := by decide +kernel
theorem dX12_partOfPower_6 : decode cX12_partOfPower 6 = .ok (.iload_n 1, 1) := by decide +kernel
theorem dX12_partOfPower_7 : decode cX12_partOfPower 7 = .ok (.iload_n 2, 1) := by decide +kernel
theorem dX12_partOfPower_8 : decode cX12_partOfPower 8 = .ok (.iconst 1, 1) := by decide +kernel
theorem dX12_partOfPower_9 : decode cX12_partOfPower 9 = .ok (.isub, 1) := by decide +kernel
theorem dX12_partOfPower_10 : decode cX12_partOfPower 10 = .ok (.invokevirtual 109, 3) := by decide +kernel
theorem dX12_partOfPower_13 : decode cX12_partOfPower 13 = .ok (.pop, 1) := by decide +kernel
theorem dX12_partOfPower_14 : decode cX12_partOfPower 14 = .ok (.aload_n 0, 1) := by decide +kernel
theorem dX12_partOfPower_15 : decode cX12_partOfPower 15 = .ok (.sipush 3603, 3) := by decide +kernel
theorem dX12_partOfPower_18 : decode cX12_partOfPower 18 = .ok (.iload_n 2, 1) := by decide +kernel
theorem dX12_partOfPower_19 : decode cX12_partOfPower 19 = .ok (.invokevirtual 96, 3) := by decide +kernel
theorem dX12_partOfPower_22 : decode cX12_partOfPower 22 = .ok (.aload_n 0, 1) := by decide +kernel
theorem dX12_partOfPower_23 : decode cX12_partOfPower 23 = .ok (.iconst 2, 1) := by decide +kernel
theorem dX12_partOfPower_24 : decode cX12_partOfPower 24 = .ok (.iload_n 3, 1) := by decide +kernel
theorem dX12_partOfPower_25 : decode cX12_partOfPower 25 = .ok (.invokevirtual 72, 3) := by decide +kernel
theorem dX12_partOfPower_28 : decode cX12_partOfPower 28 = .ok (.aload_n 0, 1) := by decide +kernel
theorem dX12_partOfPower_29 : decode cX12_partOfPower 29 = .ok (.iconst 3, 1) := by decide +kernel
theorem dX12_partOfPower_30 : decode cX12_partOfPower 30 = .ok (.sipush 3603, 3) := by decide +kernel
theorem dX12_partOfPower_33 : decode cX12_partOfPower 33 = .ok (.invokevirtual 72, 3) := by decide +kernel
theorem dX12_partOfPower_36 : decode cX12_partOfPower 36 = .ok (.aload_n 0, 1) := by decide +kernel
theorem dX12_partOfPower_37 : decode cX12_partOfPower 37 = .ok (.iconst 4, 1) := by decide +kernel
theorem dX12_partOfPower_38 : decode cX12_partOfPower 38 = .ok (.iconst 2, 1) := by decide +kernel
theorem dX12_partOfPower_39 : decode cX12_partOfPower 39 = .ok (.iconst 3, 1) := by decide +kernel
theorem dX12_partOfPower_40 : decode cX12_partOfPower 40 = .ok (.invokevirtual 78, 3) := by decide +kernel
theorem dX12_partOfPower_43 : decode cX12_partOfPower 43 = .ok (.aload_n 0, 1) := by decide +kernel
theorem dX12_partOfPower_44 : decode cX12_partOfPower 44 = .ok (.iconst 2, 1) := by decide +kernel
theorem dX12_partOfPower_45 : decode cX12_partOfPower 45 = .ok (.iload_n 1, 1) := by decide +kernel
theorem dX12_partOfPower_46 : decode cX12_partOfPower 46 = .ok (.iconst 1, 1) := by decide +kernel
theorem dX12_partOfPower_47 : decode cX12_partOfPower 47 = .ok (.iadd, 1) := by decide +kernel
theorem dX12_partOfPower_48 : decode cX12_partOfPower 48 = .ok (.invokevirtual 72, 3) := by decide +kernel
theorem dX12_partOfPower_51 : decode cX12_partOfPower 51 = .ok (.aload_n 0, 1) := by decide +kernel
theorem dX12_partOfPower_52 : decode cX12_partOfPower 52 = .ok (.iconst 0, 1) := by decide +kernel
theorem dX12_partOfPower_53 : decode cX12_partOfPower 53 = .ok (.iconst 4, 1) := by decide +kernel
theorem dX12_partOfPower_54 : decode cX12_partOfPower 54 = .ok (.iconst 2, 1) := by decide +kernel
theorem dX12_partOfPower_55 : decode cX12_partOfPower 55 = .ok (.invokevirtual 78, 3) := by decide +kernel
theorem dX12_partOfPower_58 : decode cX12_partOfPower 58 = .ok (.aload_n 0, 1) := by decide +kernel
theorem dX12_partOfPower_59 : decode cX12_partOfPower 59 = .ok (.iconst 2, 1) := by decide +kernel
theorem dX12_partOfPower_60 : decode cX12_partOfPower 60 = .ok (.iload_n 3, 1) := by decide +kernel
theorem dX12_partOfPower_61 : decode cX12_partOfPower 61 = .ok (.invokevirtual 75, 3) := by decide +kernel
theorem dX12_partOfPower_64 : decode cX12_partOfPower 64 = .ok (.aload_n 0, 1) := by decide +kernel
theorem dX12_partOfPower_65 : decode cX12_partOfPower 65 = .ok (.iconst 3, 1) := by decide +kernel
theorem dX12_partOfPower_66 : decode cX12_partOfPower 66 = .ok (.iload_n 1, 1) := by decide +kernel
theorem dX12_partOfPower_67 : decode cX12_partOfPower 67 = .ok (.iconst 1, 1) := by decide +kernel
theorem dX12_partOfPower_68 : decode cX12_partOfPower 68 = .ok (.iadd, 1) := by decide +kernel
theorem dX12_partOfPower_69 : decode cX12_partOfPower 69 = .ok (.invokevirtual 75, 3) := by decide +kernel
theorem dX12_partOfPower_72 : decode cX12_partOfPower 72 = .ok (.aload_n 0, 1) := by decide +kernel
theorem dX12_partOfPower_73 : decode cX12_partOfPower 73 = .ok (.iconst 1, 1) := by decide +kernel
theorem dX12_partOfPower_74 : decode cX12_partOfPower 74 = .ok (.iconst 2, 1) := by decide +kernel
theorem dX12_partOfPower_75 : decode cX12_partOfPower 75 = .ok (.iconst 3, 1) := by decide +kernel
theorem dX12_partOfPower_76 : decode cX12_partOfPower 76 = .ok (.invokevirtual 78, 3) := by decide +kernel
theorem dX12_partOfPower_79 : decode cX12_partOfPower 79 = .ok (.aload_n 0, 1) := by decide +kernel
theorem dX12_partOfPower_80 : decode cX12_partOfPower 80 = .ok (.iload_n 1, 1) := by decide +kernel
theorem dX12_partOfPower_81 : decode cX12_partOfPower 81 = .ok (.iconst 1, 1) := by decide +kernel
theorem dX12_partOfPower_82 : decode cX12_partOfPower 82 = .ok (.iadd, 1) := by decide +kernel
theorem dX12_partOfPower_83 : decode cX12_partOfPower 83 = .ok (.aload_n 0, 1) := by decide +kernel
theorem dX12_partOfPower_84 : decode cX12_partOfPower 84 = .ok (.iload_n 3, 1) := by decide +kernel
theorem dX12_partOfPower_85 : decode cX12_partOfPower 85 = .ok (.invokevirtual 81, 3) := by decide +kernel
theorem dX12_partOfPower_88 : decode cX12_partOfPower 88 = .ok (.aload_n 0, 1) := by decide +kernel
theorem dX12_partOfPower_89 : decode cX12_partOfPower 89 = .ok (.iload_n 1, 1) := by decide +kernel
theorem dX12_partOfPower_90 : decode cX12_partOfPower 90 = .ok (.iconst 1, 1) := by decide +kernel
theorem dX12_partOfPower_91 : decode cX12_partOfPower 91 = .ok (.iadd, 1) := by decide +kernel
theorem dX12_partOfPower_92 : decode cX12_partOfPower 92 = .ok (.invokevirtual 81, 3) := by decide +kernel
theorem dX12_partOfPower_95 : decode cX12_partOfPower 95 = .ok (.imul, 1) := by decide +kernel
theorem dX12_partOfPower_96 : decode cX12_partOfPower 96 = .ok (.invokevirtual 88, 3) := by decide +kernel
theorem dX12_partOfPower_99 : decode cX12_partOfPower 99 = .ok (.ireturn, 1) := by decide +kernel
theorem dX12_partOfQuotient_0 : decode cX12_partOfQuotient 0 = .ok (.aload_n 0, 1) := by decide +kernel
theorem dX12_partOfQuotient_1 : decode cX12_partOfQuotient 1 = .ok (.invokevirtual 555, 3) := by decide +kernel
theorem dX12_partOfQuotient_4 : decode cX12_partOfQuotient 4 = .ok (.aload_n 0, 1) := by decide +kernel
theorem dX12_partOfQuotient_5 : decode cX12_partOfQuotient 5 = .ok (.iload_n 1, 1) := by decide +kernel
theorem dX12_partOfQuotient_6 : decode cX12_partOfQuotient 6 = .ok (.iconst 1, 1) := by decide +kernel
theorem dX12_partOfQuotient_7 : decode cX12_partOfQuotient 7 = .ok (.iadd, 1) := by decide +kernel
theorem dX12_partOfQuotient_8 : decode cX12_partOfQuotient 8 = .ok (.iload_n 2, 1) := by decide +kernel
theorem dX12_partOfQuotient_9 : decode cX12_partOfQuotient 9 = .ok (.iconst 1, 1) := by decide +kernel
theorem dX12_partOfQuotient_10 : decode cX12_partOfQuotient 10 = .ok (.invokevirtual 558, 3) := by decide +kernel
theorem dX12_partOfQuotient_13 : decode cX12_partOfQuotient 13 = .ok (.aload_n 0, 1) := by decide +kernel
theorem dX12_partOfQuotient_14 : decode cX12_partOfQuotient 14 = .ok (.iload_n 1, 1) := by decide +kernel
theorem dX12_partOfQuotient_15 : decode cX12_partOfQuotient 15 = .ok (.iload_n 2, 1) := by decide +kernel
theorem dX12_partOfQuotient_16 : decode cX12_partOfQuotient 16 = .ok (.iconst 1, 1) := by decide +kernel
theorem dX12_partOfQuotient_17 : decode cX12_partOfQuotient 17 = .ok (.iadd, 1) := by decide +kernel
theorem dX12_partOfQuotient_18 : decode cX12_partOfQuotient 18 = .ok (.iconst (-1), 1) := by decide +kernel
theorem dX12_partOfQuotient_19 : decode cX12_partOfQuotient 19 = .ok (.invokevirtual 558, 3) := by decide +kernel
theorem dX12_partOfQuotient_22 : decode cX12_partOfQuotient 22 = .ok (.aload_n 0, 1) := by decide +kernel
theorem dX12_partOfQuotient_23 : decode cX12_partOfQuotient 23 = .ok (.iconst 2, 1) := by decide +kernel
theorem dX12_partOfQuotient_24 : decode cX12_partOfQuotient 24 = .ok (.iload_n 2, 1) := by decide +kernel
theorem dX12_partOfQuotient_25 : decode cX12_partOfQuotient 25 = .ok (.invokevirtual 72, 3) := by decide +kernel
theorem dX12_partOfQuotient_28 : decode cX12_partOfQuotient 28 = .ok (.aload_n 0, 1) := by decide +kernel
theorem dX12_partOfQuotient_29 : decode cX12_partOfQuotient 29 = .ok (.iconst 3, 1) := by decide +kernel
theorem dX12_partOfQuotient_30 : decode cX12_partOfQuotient 30 = .ok (.iconst 2, 1) := by decide +kernel
theorem dX12_partOfQuotient_31 : decode cX12_partOfQuotient 31 = .ok (.iconst 2, 1) := by decide +kernel
theorem dX12_partOfQuotient_32 : decode cX12_partOfQuotient 32 = .ok (.invokevirtual 78, 3) := by decide +kernel
theorem dX12_partOfQuotient_35 : decode cX12_partOfQuotient 35 = .ok (.aload_n 0, 1) := by decide +kernel
theorem dX12_partOfQuotient_36 : decode cX12_partOfQuotient 36 = .ok (.iconst 1, 1) := by decide +kernel
theorem dX12_partOfQuotient_37 : decode cX12_partOfQuotient 37 = .ok (.bipush 9, 2) := by decide +kernel
theorem dX12_partOfQuotient_39 : decode cX12_partOfQuotient 39 = .ok (.iconst 3, 1) := by decide +kernel
theorem dX12_partOfQuotient_40 : decode cX12_partOfQuotient 40 = .ok (.invokevirtual 78, 3) := by decide +kernel
theorem dX12_partOfQuotient_43 : decode cX12_partOfQuotient 43 = .ok (.aload_n 0, 1) := by decide +kernel
theorem dX12_partOfQuotient_44 : decode cX12_partOfQuotient 44 = .ok (.iconst 2, 1) := by decide +kernel
theorem dX12_partOfQuotient_45 : decode cX12_partOfQuotient 45 = .ok (.iload_n 2, 1) := by decide +kernel
theorem dX12_partOfQuotient_46 : decode cX12_partOfQuotient 46 = .ok (.invokevirtual 75, 3) := by decide +kernel
theorem dX12_partOfQuotient_49 : decode cX12_partOfQuotient 49 = .ok (.aload_n 0, 1) := by decide +kernel
theorem dX12_partOfQuotient_50 : decode cX12_partOfQuotient 50 = .ok (.iconst 3, 1) := by decide +kernel
theorem dX12_partOfQuotient_51 : decode cX12_partOfQuotient 51 = .ok (.iconst 2, 1) := by decide +kernel
theorem dX12_partOfQuotient_52 : decode cX12_partOfQuotient 52 = .ok (.iconst 2, 1) := by decide +kernel
theorem dX12_partOfQuotient_53 : decode cX12_partOfQuotient 53 = .ok (.invokevirtual 78, 3) := by decide +kernel
theorem dX12_partOfQuotient_56 : decode cX12_partOfQuotient 56 = .ok (.aload_n 0, 1) := by decide +kernel
theorem dX12_partOfQuotient_57 : decode cX12_partOfQuotient 57 = .ok (.iconst 0, 1) := by decide +kernel
theorem dX12_partOfQuotient_58 : decode cX12_partOfQuotient 58 = .ok (.bipush 8, 2) := by decide +kernel
theorem dX12_partOfQuotient_60 : decode cX12_partOfQuotient 60 = .ok (.iconst 3, 1) := by decide +kernel
theorem dX12_partOfQuotient_61 : decode cX12_partOfQuotient 61 = .ok (.invokevirtual 78, 3) := by decide +kernel
theorem dX12_partOfQuotient_64 : decode cX12_partOfQuotient 64 = .ok (.aload_n 0, 1) := by decide +kernel
theorem dX12_partOfQuotient_65 : decode cX12_partOfQuotient 65 = .ok (.sipush 3604, 3) := by decide +kernel
theorem dX12_partOfQuotient_68 : decode cX12_partOfQuotient 68 = .ok (.aload_n 0, 1) := by decide +kernel
theorem dX12_partOfQuotient_69 : decode cX12_partOfQuotient 69 = .ok (.getfield 549, 3) := by decide +kernel
theorem dX12_partOfQuotient_72 : decode cX12_partOfQuotient 72 = .ok (.invokevirtual 88, 3) := by decide +kernel
theorem dX12_partOfQuotient_75 : decode cX12_partOfQuotient 75 = .ok (.ireturn, 1) := by decide +kernel
theorem dX12_pairTwo_0 : decode cX12_pairTwo 0 = .ok (.aload_n 0, 1) := by decide +kernel
theorem dX12_pairTwo_1 : decode cX12_pairTwo 1 = .ok (.dup, 1) := by decide +kernel
theorem dX12_pairTwo_2 : decode cX12_pairTwo 2 = .ok (.getfield 630, 3) := by decide +kernel
theorem dX12_pairTwo_5 : decode cX12_pairTwo 5 = .ok (.iconst 1, 1) := by decide +kernel
theorem dX12_pairTwo_6 : decode cX12_pairTwo 6 = .ok (.isub, 1) := by decide +kernel
theorem dX12_pairTwo_7 : decode cX12_pairTwo 7 = .ok (.putfield 630, 3) := by decide +kernel
theorem dX12_pairTwo_10 : decode cX12_pairTwo 10 = .ok (.aload_n 0, 1) := by decide +kernel
theorem dX12_pairTwo_11 : decode cX12_pairTwo 11 = .ok (.getfield 630, 3) := by decide +kernel
theorem dX12_pairTwo_14 : decode cX12_pairTwo 14 = .ok (.iconst 1, 1) := by decide +kernel
theorem dX12_pairTwo_15 : decode cX12_pairTwo 15 = .ok (.isub, 1) := by decide +kernel
theorem dX12_pairTwo_16 : decode cX12_pairTwo 16 = .ok (.invokestatic 633, 3) := by decide +kernel
theorem dX12_pairTwo_19 : decode cX12_pairTwo 19 = .ok (.istore_n 3, 1) := by decide +kernel
theorem dX12_pairTwo_20 : decode cX12_pairTwo 20 = .ok (.aload_n 0, 1) := by decide +kernel
theorem dX12_pairTwo_21 : decode cX12_pairTwo 21 = .ok (.getfield 630, 3) := by decide +kernel
theorem dX12_pairTwo_24 : decode cX12_pairTwo 24 = .ok (.invokestatic 633, 3) := by decide +kernel
theorem dX12_pairTwo_27 : decode cX12_pairTwo 27 = .ok (.istore 4, 2) := by decide +kernel
theorem dX12_pairTwo_29 : decode cX12_pairTwo 29 = .ok (.iconst 1, 1) := by decide +kernel
theorem dX12_pairTwo_30 : decode cX12_pairTwo 30 = .ok (.istore 5, 2) := by decide +kernel
theorem dX12_pairTwo_32 : decode cX12_pairTwo 32 = .ok (.aload_n 0, 1) := by decide +kernel
theorem dX12_pairTwo_33 : decode cX12_pairTwo 33 = .ok (.iload_n 1, 1) := by decide +kernel
theorem dX12_pairTwo_34 : decode cX12_pairTwo 34 = .ok (.iconst 1, 1) := by decide +kernel
theorem dX12_pairTwo_35 : decode cX12_pairTwo 35 = .ok (.invokevirtual 405, 3) := by decide +kernel
theorem dX12_pairTwo_38 : decode cX12_pairTwo 38 = .ok (.istore 6, 2) := by decide +kernel
theorem dX12_pairTwo_40 : decode cX12_pairTwo 40 = .ok (.iload_n 2, 1) := by decide +kernel
theorem dX12_pairTwo_41 : decode cX12_pairTwo 41 = .ok (.iconst 5, 1) := by decide +kernel
theorem dX12_pairTwo_42 : decode cX12_pairTwo 42 = .ok (.if_icmp .ne 77, 3) := by decide +kernel
theorem dX12_pairTwo_45 : decode cX12_pairTwo 45 = .ok (.aload_n 0, 1) := by decide +kernel
theorem dX12_pairTwo_46 : decode cX12_pairTwo 46 = .ok (.sipush 3605, 3) := by decide +kernel
theorem dX12_pairTwo_49 : decode cX12_pairTwo 49 = .ok (.iload_n 3, 1) := by decide +kernel
theorem dX12_pairTwo_50 : decode cX12_pairTwo 50 = .ok (.iload 4, 2) := by decide +kernel
theorem dX12_pairTwo_52 : decode cX12_pairTwo 52 = .ok (.invokevirtual 129, 3) := by decide +kernel
theorem dX12_pairTwo_55 : decode cX12_pairTwo 55 = .ok (.istore 7, 2) := by decide +kernel
theorem dX12_pairTwo_57 : decode cX12_pairTwo 57 = .ok (.iload 7, 2) := by decide +kernel
theorem dX12_pairTwo_59 : decode cX12_pairTwo 59 = .ok (.ifCond .le 6, 3) := by decide +kernel
theorem dX12_pairTwo_62 : decode cX12_pairTwo 62 = .ok (.iload 7, 2) := by decide +kernel
theorem dX12_pairTwo_64 : decode cX12_pairTwo 64 = .ok (.ireturn, 1) := by decide +kernel
theorem dX12_pairTwo_65 : decode cX12_pairTwo 65 = .ok (.aload_n 0, 1) := by decide +kernel
theorem dX12_pairTwo_66 : decode cX12_pairTwo 66 = .ok (.getfield 138, 3) := by decide +kernel
theorem dX12_pairTwo_69 : decode cX12_pairTwo 69 = .ok (.iload 6, 2) := by decide +kernel
theorem dX12_pairTwo_71 : decode cX12_pairTwo 71 = .ok (.iaload, 1) := by decide +kernel
theorem dX12_pairTwo_72 : decode cX12_pairTwo 72 = .ok (.ifCond .ne 14, 3) := by decide +kernel
theorem dX12_pairTwo_75 : decode cX12_pairTwo 75 = .ok (.aload_n 0, 1) := by decide +kernel
theorem dX12_pairTwo_76 : decode cX12_pairTwo 76 = .ok (.iload_n 3, 1) := by decide +kernel
theorem dX12_pairTwo_77 : decode cX12_pairTwo 77 = .ok (.iconst 1, 1) := by decide +kernel
theorem dX12_pairTwo_78 : decode cX12_pairTwo 78 = .ok (.iadd, 1) := by decide +kernel
theorem dX12_pairTwo_79 : decode cX12_pairTwo 79 = .ok (.iconst 0, 1) := by decide +kernel
theorem dX12_pairTwo_80 : decode cX12_pairTwo 80 = .ok (.invokevirtual 96, 3) := by decide +kernel
theorem dX12_pairTwo_83 : decode cX12_pairTwo 83 = .ok (.goto 17, 3) := by decide +kernel
theorem dX12_pairTwo_86 : decode cX12_pairTwo 86 = .ok (.aload_n 0, 1) := by decide +kernel
theorem dX12_pairTwo_87 : decode cX12_pairTwo 87 = .ok (.iload_n 3, 1) := by decide +kernel
theorem dX12_pairTwo_88 : decode cX12_pairTwo 88 = .ok (.aload_n 0, 1) := by decide +kernel
theorem dX12_pairTwo_89 : decode cX12_pairTwo 89 = .ok (.getfield 138, 3) := by decide +kernel
theorem dX12_pairTwo_92 : decode cX12_pairTwo 92 = .ok (.iload 6, 2) := by decide +kernel
theorem dX12_pairTwo_94 : decode cX12_pairTwo 94 = .ok (.iaload, 1) := by decide +kernel
theorem dX12_pairTwo_95 : decode cX12_pairTwo 95 = .ok (.invokevirtual 636, 3) := by decide +kernel
theorem dX12_pairTwo_98 : decode cX12_pairTwo 98 = .ok (.istore 5, 2) := by decide +kernel
theorem dX12_pairTwo_100 : decode cX12_pairTwo 100 = .ok (.aload_n 0, 1) := by decide +kernel
theorem dX12_pairTwo_101 : decode cX12_pairTwo 101 = .ok (.iload_n 3, 1) := by decide +kernel
theorem dX12_pairTwo_102 : decode cX12_pairTwo 102 = .ok (.sipush 3605, 3) := by decide +kernel
theorem dX12_pairTwo_105 : decode cX12_pairTwo 105 = .ok (.invokevirtual 115, 3) := by decide +kernel
theorem dX12_pairTwo_108 : decode cX12_pairTwo 108 = .ok (.iload 5, 2) := by decide +kernel
theorem dX12_pairTwo_110 : decode cX12_pairTwo 110 = .ok (.ifCond .eq 7, 3) := by decide +kernel
theorem dX12_pairTwo_113 : decode cX12_pairTwo 113 = .ok (.iconst 0, 1) := by decide +kernel
theorem dX12_pairTwo_114 : decode cX12_pairTwo 114 = .ok (.goto 4, 3) := by decide +kernel
theorem dX12_pairTwo_117 : decode cX12_pairTwo 117 = .ok (.iconst 3, 1) := by decide +kernel
theorem dX12_pairTwo_118 : decode cX12_pairTwo 118 = .ok (.ireturn, 1) := by decide +kernel
theorem dX12_pairTwo_119 : decode cX12_pairTwo 119 = .ok (.aload_n 0, 1) := by decide +kernel
theorem dX12_pairTwo_120 : decode cX12_pairTwo 120 = .ok (.sipush 3605, 3) := by decide +kernel
theorem dX12_pairTwo_123 : decode cX12_pairTwo 123 = .ok (.iload_n 3, 1) := by decide +kernel
theorem dX12_pairTwo_124 : decode cX12_pairTwo 124 = .ok (.invokevirtual 115, 3) := by decide +kernel
theorem dX12_pairTwo_127 : decode cX12_pairTwo 127 = .ok (.aload_n 0, 1) := by decide +kernel
theorem dX12_pairTwo_128 : decode cX12_pairTwo 128 = .ok (.iload_n 2, 1) := by decide +kernel
theorem dX12_pairTwo_129 : decode cX12_pairTwo 129 = .ok (.sipush 3605, 3) := by decide +kernel
theorem dX12_pairTwo_132 : decode cX12_pairTwo 132 = .ok (.iload 4, 2) := by decide +kernel
theorem dX12_pairTwo_134 : decode cX12_pairTwo 134 = .ok (.invokevirtual 493, 3) := by decide +kernel
theorem dX12_pairTwo_137 : decode cX12_pairTwo 137 = .ok (.istore 7, 2) := by decide +kernel
theorem dX12_pairTwo_139 : decode cX12_pairTwo 139 = .ok (.iload 7, 2) := by decide +kernel
theorem dX12_pairTwo_141 : decode cX12_pairTwo 141 = .ok (.ifCond .le 6, 3) := by decide +kernel
theorem dX12_pairTwo_144 : decode cX12_pairTwo 144 = .ok (.iload 7, 2) := by decide +kernel
theorem dX12_pairTwo_146 : decode cX12_pairTwo 146 = .ok (.ireturn, 1) := by decide +kernel
theorem dX12_pairTwo_147 : decode cX12_pairTwo 147 = .ok (.iload_n 2, 1) := by decide +kernel
theorem dX12_pairTwo_148 : decode cX12_pairTwo 148 = .ok (.iconst 3, 1) := by decide +kernel
theorem dX12_pairTwo_149 : decode cX12_pairTwo 149 = .ok (.if_icmp .ne 25, 3) := by decide +kernel
theorem dX12_pairTwo_152 : decode cX12_pairTwo 152 = .ok (.aload_n 0, 1) := by decide +kernel
theorem dX12_pairTwo_153 : decode cX12_pairTwo 153 = .ok (.iload_n 3, 1) := by decide +kernel
theorem dX12_pairTwo_154 : decode cX12_pairTwo 154 = .ok (.iload 4, 2) := by decide +kernel
theorem dX12_pairTwo_156 : decode cX12_pairTwo 156 = .ok (.invokevirtual 639, 3) := by decide +kernel
theorem dX12_pairTwo_159 : decode cX12_pairTwo 159 = .ok (.istore 5, 2) := by decide +kernel
theorem dX12_pairTwo_161 : decode cX12_pairTwo 161 = .ok (.aload_n 0, 1) := by decide +kernel
theorem dX12_pairTwo_162 : decode cX12_pairTwo 162 = .ok (.iload_n 3, 1) := by decide +kernel
theorem dX12_pairTwo_163 : decode cX12_pairTwo 163 = .ok (.iconst 1, 1) := by decide +kernel
theorem dX12_pairTwo_164 : decode cX12_pairTwo 164 = .ok (.iadd, 1) := by decide +kernel
theorem dX12_pairTwo_165 : decode cX12_pairTwo 165 = .ok (.sipush 3604, 3) := by decide +kernel
theorem dX12_pairTwo_168 : decode cX12_pairTwo 168 = .ok (.invokevirtual 115, 3) := by decide +kernel
theorem dX12_pairTwo_171 : decode cX12_pairTwo 171 = .ok (.goto 69, 3) := by decide +kernel
theorem dX12_pairTwo_174 : decode cX12_pairTwo 174 = .ok (.iload_n 2, 1) := by decide +kernel
theorem dX12_pairTwo_175 : decode cX12_pairTwo 175 = .ok (.iconst 2, 1) := by decide +kernel
theorem dX12_pairTwo_176 : decode cX12_pairTwo 176 = .ok (.if_icmp .ne 39, 3) := by decide +kernel
theorem dX12_pairTwo_179 : decode cX12_pairTwo 179 = .ok (.aload_n 0, 1) := by decide +kernel
theorem dX12_pairTwo_180 : decode cX12_pairTwo 180 = .ok (.invokevirtual 555, 3) := by decide +kernel
theorem dX12_pairTwo_183 : decode cX12_pairTwo 183 = .ok (.aload_n 0, 1) := by decide +kernel
theorem dX12_pairTwo_184 : decode cX12_pairTwo 184 = .ok (.iload_n 3, 1) := by decide +kernel
theorem dX12_pairTwo_185 : decode cX12_pairTwo 185 = .ok (.iconst 1, 1) := by decide +kernel
theorem dX12_pairTwo_186 : decode cX12_pairTwo 186 = .ok (.iadd, 1) := by decide +kernel
theorem dX12_pairTwo_187 : decode cX12_pairTwo 187 = .ok (.iload 4, 2) := by decide +kernel
theorem dX12_pairTwo_189 : decode cX12_pairTwo 189 = .ok (.iconst 1, 1) := by decide +kernel
theorem dX12_pairTwo_190 : decode cX12_pairTwo 190 = .ok (.invokevirtual 558, 3) := by decide +kernel
theorem dX12_pairTwo_193 : decode cX12_pairTwo 193 = .ok (.aload_n 0, 1) := by decide +kernel
theorem dX12_pairTwo_194 : decode cX12_pairTwo 194 = .ok (.iload_n 3, 1) := by decide +kernel
theorem dX12_pairTwo_195 : decode cX12_pairTwo 195 = .ok (.iload 4, 2) := by decide +kernel
theorem dX12_pairTwo_197 : decode cX12_pairTwo 197 = .ok (.iconst 1, 1) := by decide +kernel
theorem dX12_pairTwo_198 : decode cX12_pairTwo 198 = .ok (.iadd, 1) := by decide +kernel
theorem dX12_pairTwo_199 : decode cX12_pairTwo 199 = .ok (.iconst 1, 1) := by decide +kernel
theorem dX12_pairTwo_200 : decode cX12_pairTwo 200 = .ok (.invokevirtual 558, 3) := by decide +kernel
theorem dX12_pairTwo_203 : decode cX12_pairTwo 203 = .ok (.aload_n 0, 1) := by decide +kernel
theorem dX12_pairTwo_204 : decode cX12_pairTwo 204 = .ok (.iload_n 3, 1) := by decide +kernel
theorem dX12_pairTwo_205 : decode cX12_pairTwo 205 = .ok (.iconst 1, 1) := by decide +kernel
theorem dX12_pairTwo_206 : decode cX12_pairTwo 206 = .ok (.iadd, 1) := by decide +kernel
theorem dX12_pairTwo_207 : decode cX12_pairTwo 207 = .ok (.invokevirtual 561, 3) := by decide +kernel
theorem dX12_pairTwo_210 : decode cX12_pairTwo 210 = .ok (.istore 5, 2) := by decide +kernel
theorem dX12_pairTwo_212 : decode cX12_pairTwo 212 = .ok (.goto 28, 3) := by decide +kernel
theorem dX12_pairTwo_215 : decode cX12_pairTwo 215 = .ok (.aload_n 0, 1) := by decide +kernel
theorem dX12_pairTwo_216 : decode cX12_pairTwo 216 = .ok (.iload_n 3, 1) := by decide +kernel
theorem dX12_pairTwo_217 : decode cX12_pairTwo 217 = .ok (.iconst 1, 1) := by decide +kernel
theorem dX12_pairTwo_218 : decode cX12_pairTwo 218 = .ok (.iadd, 1) := by decide +kernel
theorem dX12_pairTwo_219 : decode cX12_pairTwo 219 = .ok (.iload_n 3, 1) := by decide +kernel
theorem dX12_pairTwo_220 : decode cX12_pairTwo 220 = .ok (.iconst 1, 1) := by decide +kernel
theorem dX12_pairTwo_221 : decode cX12_pairTwo 221 = .ok (.iadd, 1) := by decide +kernel
theorem dX12_pairTwo_222 : decode cX12_pairTwo 222 = .ok (.iload 4, 2) := by decide +kernel
theorem dX12_pairTwo_224 : decode cX12_pairTwo 224 = .ok (.iconst 1, 1) := by decide +kernel
theorem dX12_pairTwo_225 : decode cX12_pairTwo 225 = .ok (.iadd, 1) := by decide +kernel
theorem dX12_pairTwo_226 : decode cX12_pairTwo 226 = .ok (.iload_n 2, 1) := by decide +kernel
theorem dX12_pairTwo_227 : decode cX12_pairTwo 227 = .ok (.ifCond .ne 7, 3) := by decide +kernel
theorem dX12_pairTwo_230 : decode cX12_pairTwo 230 = .ok (.iconst 1, 1) := by decide +kernel
theorem dX12_pairTwo_231 : decode cX12_pairTwo 231 = .ok (.goto 4, 3) := by decide +kernel
theorem dX12_pairTwo_234 : decode cX12_pairTwo 234 = .ok (.iconst (-1), 1) := by decide +kernel
theorem dX12_pairTwo_235 : decode cX12_pairTwo 235 = .ok (.invokevirtual 121, 3) := by decide +kernel
theorem dX12_pairTwo_238 : decode cX12_pairTwo 238 = .ok (.istore 5, 2) := by decide +kernel
theorem dX12_pairTwo_240 : decode cX12_pairTwo 240 = .ok (.aload_n 0, 1) := by decide +kernel
theorem dX12_pairTwo_241 : decode cX12_pairTwo 241 = .ok (.iload_n 3, 1) := by decide +kernel
theorem dX12_pairTwo_242 : decode cX12_pairTwo 242 = .ok (.sipush 3605, 3) := by decide +kernel
theorem dX12_pairTwo_245 : decode cX12_pairTwo 245 = .ok (.invokevirtual 115, 3) := by decide +kernel
theorem dX12_pairTwo_248 : decode cX12_pairTwo 248 = .ok (.iload 5, 2) := by decide +kernel
theorem dX12_pairTwo_250 : decode cX12_pairTwo 250 = .ok (.ifCond .eq 7, 3) := by decide +kernel
theorem dX12_pairTwo_253 : decode cX12_pairTwo 253 = .ok (.iconst 0, 1) := by decide +kernel
theorem dX12_pairTwo_254 : decode cX12_pairTwo 254 = .ok (.goto 4, 3) := by decide +kernel
theorem dX12_pairTwo_257 : decode cX12_pairTwo 257 = .ok (.iconst 3, 1) := by decide +kernel
theorem dX12_pairTwo_258 : decode cX12_pairTwo 258 = .ok (.ireturn, 1) := by decide +kernel
theorem dX12_pairNode_0 : decode cX12_pairNode 0 = .ok (.aload_n 0, 1) := by decide +kernel
theorem dX12_pairNode_1 : decode cX12_pairNode 1 = .ok (.getfield 135, 3) := by decide +kernel
theorem dX12_pairNode_4 : decode cX12_pairNode 4 = .ok (.iload_n 1, 1) := by decide +kernel
theorem dX12_pairNode_5 : decode cX12_pairNode 5 = .ok (.iaload, 1) := by decide +kernel
theorem dX12_pairNode_6 : decode cX12_pairNode 6 = .ok (.iconst 3, 1) := by decide +kernel
theorem dX12_pairNode_7 : decode cX12_pairNode 7 = .ok (.if_icmp .ne 24, 3) := by decide +kernel
theorem dX12_pairNode_10 : decode cX12_pairNode 10 = .ok (.aload_n 0, 1) := by decide +kernel
theorem dX12_pairNode_11 : decode cX12_pairNode 11 = .ok (.getfield 144, 3) := by decide +kernel
theorem dX12_pairNode_14 : decode cX12_pairNode 14 = .ok (.iload_n 1, 1) := by decide +kernel
theorem dX12_pairNode_15 : decode cX12_pairNode 15 = .ok (.iaload, 1) := by decide +kernel
theorem dX12_pairNode_16 : decode cX12_pairNode 16 = .ok (.iconst 2, 1) := by decide +kernel
theorem dX12_pairNode_17 : decode cX12_pairNode 17 = .ok (.if_icmp .ne 14, 3) := by decide +kernel
theorem dX12_pairNode_20 : decode cX12_pairNode 20 = .ok (.aload_n 0, 1) := by decide +kernel
theorem dX12_pairNode_21 : decode cX12_pairNode 21 = .ok (.iload_n 1, 1) := by decide +kernel
theorem dX12_pairNode_22 : decode cX12_pairNode 22 = .ok (.aload_n 0, 1) := by decide +kernel
theorem dX12_pairNode_23 : decode cX12_pairNode 23 = .ok (.iload_n 1, 1) := by decide +kernel
theorem dX12_pairNode_24 : decode cX12_pairNode 24 = .ok (.invokevirtual 484, 3) := by decide +kernel
theorem dX12_pairNode_27 : decode cX12_pairNode 27 = .ok (.invokevirtual 642, 3) := by decide +kernel
theorem dX12_pairNode_30 : decode cX12_pairNode 30 = .ok (.ireturn, 1) := by decide +kernel
theorem dX12_pairNode_31 : decode cX12_pairNode 31 = .ok (.aload_n 0, 1) := by decide +kernel
theorem dX12_pairNode_32 : decode cX12_pairNode 32 = .ok (.getfield 135, 3) := by decide +kernel
theorem dX12_pairNode_35 : decode cX12_pairNode 35 = .ok (.iload_n 1, 1) := by decide +kernel
theorem dX12_pairNode_36 : decode cX12_pairNode 36 = .ok (.iaload, 1) := by decide +kernel
theorem dX12_pairNode_37 : decode cX12_pairNode 37 = .ok (.iconst 3, 1) := by decide +kernel
theorem dX12_pairNode_38 : decode cX12_pairNode 38 = .ok (.if_icmp .ne 67, 3) := by decide +kernel
theorem dX12_pairNode_41 : decode cX12_pairNode 41 = .ok (.aload_n 0, 1) := by decide +kernel
theorem dX12_pairNode_42 : decode cX12_pairNode 42 = .ok (.getfield 46, 3) := by decide +kernel
theorem dX12_pairNode_45 : decode cX12_pairNode 45 = .ok (.bipush 28, 2) := by decide +kernel
theorem dX12_pairNode_47 : decode cX12_pairNode 47 = .ok (.aload_n 0, 1) := by decide +kernel
theorem dX12_pairNode_48 : decode cX12_pairNode 48 = .ok (.getfield 630, 3) := by decide +kernel
theorem dX12_pairNode_51 : decode cX12_pairNode 51 = .ok (.iconst 1, 1) := by decide +kernel
theorem dX12_pairNode_52 : decode cX12_pairNode 52 = .ok (.isub, 1) := by decide +kernel
theorem dX12_pairNode_53 : decode cX12_pairNode 53 = .ok (.invokestatic 633, 3) := by decide +kernel
theorem dX12_pairNode_56 : decode cX12_pairNode 56 = .ok (.imul, 1) := by decide +kernel
theorem dX12_pairNode_57 : decode cX12_pairNode 57 = .ok (.aload_n 0, 1) := by decide +kernel
theorem dX12_pairNode_58 : decode cX12_pairNode 58 = .ok (.aload_n 0, 1) := by decide +kernel
theorem dX12_pairNode_59 : decode cX12_pairNode 59 = .ok (.getfield 630, 3) := by decide +kernel
theorem dX12_pairNode_62 : decode cX12_pairNode 62 = .ok (.iconst 1, 1) := by decide +kernel
theorem dX12_pairNode_63 : decode cX12_pairNode 63 = .ok (.isub, 1) := by decide +kernel
theorem dX12_pairNode_64 : decode cX12_pairNode 64 = .ok (.invokestatic 633, 3) := by decide +kernel
theorem dX12_pairNode_67 : decode cX12_pairNode 67 = .ok (.invokevirtual 81, 3) := by decide +kernel
theorem dX12_pairNode_70 : decode cX12_pairNode 70 = .ok (.ineg, 1) := by decide +kernel
theorem dX12_pairNode_71 : decode cX12_pairNode 71 = .ok (.iastore, 1) := by decide +kernel
theorem dX12_pairNode_72 : decode cX12_pairNode 72 = .ok (.aload_n 0, 1) := by decide +kernel
theorem dX12_pairNode_73 : decode cX12_pairNode 73 = .ok (.getfield 46, 3) := by decide +kernel
theorem dX12_pairNode_76 : decode cX12_pairNode 76 = .ok (.bipush 28, 2) := by decide +kernel
theorem dX12_pairNode_78 : decode cX12_pairNode 78 = .ok (.aload_n 0, 1) := by decide +kernel
theorem dX12_pairNode_79 : decode cX12_pairNode 79 = .ok (.getfield 630, 3) := by decide +kernel
theorem dX12_pairNode_82 : decode cX12_pairNode 82 = .ok (.iconst 1, 1) := by decide +kernel
theorem dX12_pairNode_83 : decode cX12_pairNode 83 = .ok (.isub, 1) := by decide +kernel
theorem dX12_pairNode_84 : decode cX12_pairNode 84 = .ok (.invokestatic 645, 3) := by decide +kernel
theorem dX12_pairNode_87 : decode cX12_pairNode 87 = .ok (.imul, 1) := by decide +kernel
theorem dX12_pairNode_88 : decode cX12_pairNode 88 = .ok (.aload_n 0, 1) := by decide +kernel
theorem dX12_pairNode_89 : decode cX12_pairNode 89 = .ok (.aload_n 0, 1) := by decide +kernel
theorem dX12_pairNode_90 : decode cX12_pairNode 90 = .ok (.getfield 630, 3) := by decide +kernel
theorem dX12_pairNode_93 : decode cX12_pairNode 93 = .ok (.iconst 1, 1) := by decide +kernel
theorem dX12_pairNode_94 : decode cX12_pairNode 94 = .ok (.isub, 1) := by decide +kernel
theorem dX12_pairNode_95 : decode cX12_pairNode 95 = .ok (.invokestatic 645, 3) := by decide +kernel
theorem dX12_pairNode_98 : decode cX12_pairNode 98 = .ok (.invokevirtual 81, 3) := by decide +kernel
theorem dX12_pairNode_101 : decode cX12_pairNode 101 = .ok (.ineg, 1) := by decide +kernel
theorem dX12_pairNode_102 : decode cX12_pairNode 102 = .ok (.iastore, 1) := by decide +kernel
theorem dX12_pairNode_103 : decode cX12_pairNode 103 = .ok (.iconst 0, 1) := by decide +kernel
theorem dX12_pairNode_104 : decode cX12_pairNode 104 = .ok (.ireturn, 1) := by decide +kernel
theorem dX12_pairNode_105 : decode cX12_pairNode 105 = .ok (.aload_n 0, 1) := by decide +kernel
theorem dX12_pairNode_106 : decode cX12_pairNode 106 = .ok (.getfield 135, 3) := by decide +kernel
theorem dX12_pairNode_109 : decode cX12_pairNode 109 = .ok (.iload_n 1, 1) := by decide +kernel
theorem dX12_pairNode_110 : decode cX12_pairNode 110 = .ok (.iaload, 1) := by decide +kernel
theorem dX12_pairNode_111 : decode cX12_pairNode 111 = .ok (.iconst 1, 1) := by decide +kernel
theorem dX12_pairNode_112 : decode cX12_pairNode 112 = .ok (.if_icmp .ne 7, 3) := by decide +kernel
theorem dX12_pairNode_115 : decode cX12_pairNode 115 = .ok (.iconst 1, 1) := by decide +kernel
theorem dX12_pairNode_116 : decode cX12_pairNode 116 = .ok (.goto 4, 3) := by decide +kernel
theorem dX12_pairNode_119 : decode cX12_pairNode 119 = .ok (.iconst 0, 1) := by decide +kernel
theorem dX12_pairNode_120 : decode cX12_pairNode 120 = .ok (.istore_n 3, 1) := by decide +kernel
theorem dX12_pairNode_121 : decode cX12_pairNode 121 = .ok (.iload_n 3, 1) := by decide +kernel
theorem dX12_pairNode_122 : decode cX12_pairNode 122 = .ok (.ifCond .eq 22, 3) := by decide +kernel
theorem dX12_pairNode_125 : decode cX12_pairNode 125 = .ok (.aload_n 0, 1) := by decide +kernel
theorem dX12_pairNode_126 : decode cX12_pairNode 126 = .ok (.getfield 248, 3) := by decide +kernel
theorem dX12_pairNode_129 : decode cX12_pairNode 129 = .ok (.aload_n 0, 1) := by decide +kernel
theorem dX12_pairNode_130 : decode cX12_pairNode 130 = .ok (.getfield 138, 3) := by decide +kernel
theorem dX12_pairNode_133 : decode cX12_pairNode 133 = .ok (.iload_n 1, 1) := by decide +kernel
theorem dX12_pairNode_134 : decode cX12_pairNode 134 = .ok (.iaload, 1) := by decide +kernel
theorem dX12_pairNode_135 : decode cX12_pairNode 135 = .ok (.bipush 97, 2) := by decide +kernel
theorem dX12_pairNode_137 : decode cX12_pairNode 137 = .ok (.isub, 1) := by decide +kernel
theorem dX12_pairNode_138 : decode cX12_pairNode 138 = .ok (.baload, 1) := by decide +kernel
theorem dX12_pairNode_139 : decode cX12_pairNode 139 = .ok (.ifCond .ne 5, 3) := by decide +kernel
theorem dX12_pairNode_142 : decode cX12_pairNode 142 = .ok (.iconst 4, 1) := by decide +kernel
theorem dX12_pairNode_143 : decode cX12_pairNode 143 = .ok (.ireturn, 1) := by decide +kernel
theorem dX12_pairNode_144 : decode cX12_pairNode 144 = .ok (.iload_n 3, 1) := by decide +kernel
theorem dX12_pairNode_145 : decode cX12_pairNode 145 = .ok (.ifCond .eq 26, 3) := by decide +kernel
theorem dX12_pairNode_148 : decode cX12_pairNode 148 = .ok (.aload_n 0, 1) := by decide +kernel
theorem dX12_pairNode_149 : decode cX12_pairNode 149 = .ok (.aload_n 0, 1) := by decide +kernel
theorem dX12_pairNode_150 : decode cX12_pairNode 150 = .ok (.getfield 630, 3) := by decide +kernel
theorem dX12_pairNode_153 : decode cX12_pairNode 153 = .ok (.invokestatic 633, 3) := by decide +kernel
theorem dX12_pairNode_156 : decode cX12_pairNode 156 = .ok (.aload_n 0, 1) := by decide +kernel
theorem dX12_pairNode_157 : decode cX12_pairNode 157 = .ok (.getfield 138, 3) := by decide +kernel
theorem dX12_pairNode_160 : decode cX12_pairNode 160 = .ok (.iload_n 1, 1) := by decide +kernel
theorem dX12_pairNode_161 : decode cX12_pairNode 161 = .ok (.iaload, 1) := by decide +kernel
theorem dX12_pairNode_162 : decode cX12_pairNode 162 = .ok (.bipush 97, 2) := by decide +kernel
theorem dX12_pairNode_164 : decode cX12_pairNode 164 = .ok (.isub, 1) := by decide +kernel
theorem dX12_pairNode_165 : decode cX12_pairNode 165 = .ok (.invokevirtual 115, 3) := by decide +kernel
theorem dX12_pairNode_168 : decode cX12_pairNode 168 = .ok (.goto 20, 3) := by decide +kernel
theorem dX12_pairNode_171 : decode cX12_pairNode 171 = .ok (.aload_n 0, 1) := by decide +kernel
theorem dX12_pairNode_172 : decode cX12_pairNode 172 = .ok (.aload_n 0, 1) := by decide +kernel
theorem dX12_pairNode_173 : decode cX12_pairNode 173 = .ok (.getfield 630, 3) := by decide +kernel
theorem dX12_pairNode_176 : decode cX12_pairNode 176 = .ok (.invokestatic 633, 3) := by decide +kernel
theorem dX12_pairNode_179 : decode cX12_pairNode 179 = .ok (.aload_n 0, 1) := by decide +kernel
theorem dX12_pairNode_180 : decode cX12_pairNode 180 = .ok (.getfield 138, 3) := by decide +kernel
theorem dX12_pairNode_183 : decode cX12_pairNode 183 = .ok (.iload_n 1, 1) := by decide +kernel
theorem dX12_pairNode_184 : decode cX12_pairNode 184 = .ok (.iaload, 1) := by decide +kernel
theorem dX12_pairNode_185 : decode cX12_pairNode 185 = .ok (.invokevirtual 96, 3) := by decide +kernel
theorem dX12_pairNode_188 : decode cX12_pairNode 188 = .ok (.aload_n 0, 1) := by decide +kernel
theorem dX12_pairNode_189 : decode cX12_pairNode 189 = .ok (.aload_n 0, 1) := by decide +kernel
theorem dX12_pairNode_190 : decode cX12_pairNode 190 = .ok (.getfield 630, 3) := by decide +kernel
theorem dX12_pairNode_193 : decode cX12_pairNode 193 = .ok (.invokestatic 645, 3) := by decide +kernel
theorem dX12_pairNode_196 : decode cX12_pairNode 196 = .ok (.iload_n 3, 1) := by decide +kernel
theorem dX12_pairNode_197 : decode cX12_pairNode 197 = .ok (.ifCond .eq 17, 3) := by decide +kernel
theorem dX12_pairNode_200 : decode cX12_pairNode 200 = .ok (.aload_n 0, 1) := by decide +kernel
theorem dX12_pairNode_201 : decode cX12_pairNode 201 = .ok (.getfield 138, 3) := by decide +kernel
theorem dX12_pairNode_204 : decode cX12_pairNode 204 = .ok (.iload_n 1, 1) := by decide +kernel
theorem dX12_pairNode_205 : decode cX12_pairNode 205 = .ok (.iaload, 1) := by decide +kernel
theorem dX12_pairNode_206 : decode cX12_pairNode 206 = .ok (.iload_n 2, 1) := by decide +kernel
theorem dX12_pairNode_207 : decode cX12_pairNode 207 = .ok (.if_icmp .ne 7, 3) := by decide +kernel
theorem dX12_pairNode_210 : decode cX12_pairNode 210 = .ok (.iconst 1, 1) := by decide +kernel
theorem dX12_pairNode_211 : decode cX12_pairNode 211 = .ok (.goto 4, 3) := by decide +kernel
theorem dX12_pairNode_214 : decode cX12_pairNode 214 = .ok (.iconst 0, 1) := by decide +kernel
theorem dX12_pairNode_215 : decode cX12_pairNode 215 = .ok (.invokevirtual 96, 3) := by decide +kernel
theorem dX12_pairNode_218 : decode cX12_pairNode 218 = .ok (.aload_n 0, 1) := by decide +kernel
theorem dX12_pairNode_219 : decode cX12_pairNode 219 = .ok (.dup, 1) := by decide +kernel
theorem dX12_pairNode_220 : decode cX12_pairNode 220 = .ok (.getfield 630, 3) := by decide +kernel
theorem dX12_pairNode_223 : decode cX12_pairNode 223 = .ok (.iconst 1, 1) := by decide +kernel
theorem dX12_pairNode_224 : decode cX12_pairNode 224 = .ok (.iadd, 1) := by decide +kernel
theorem dX12_pairNode_225 : decode cX12_pairNode 225 = .ok (.putfield 630, 3) := by decide +kernel
theorem dX12_pairNode_228 : decode cX12_pairNode 228 = .ok (.iconst 0, 1) := by decide +kernel
theorem dX12_pairNode_229 : decode cX12_pairNode 229 = .ok (.ireturn, 1) := by decide +kernel
theorem dX12_slopes_0 : decode cX12_slopes 0 = .ok (.aload_n 0, 1) := by decide +kernel
theorem dX12_slopes_1 : decode cX12_slopes 1 = .ok (.iconst 0, 1) := by decide +kernel
theorem dX12_slopes_2 : decode cX12_slopes 2 = .ok (.putfield 630, 3) := by decide +kernel
theorem dX12_slopes_5 : decode cX12_slopes 5 = .ok (.aload_n 0, 1) := by decide +kernel
theorem dX12_slopes_6 : decode cX12_slopes 6 = .ok (.iload_n 1, 1) := by decide +kernel
theorem dX12_slopes_7 : decode cX12_slopes 7 = .ok (.invokevirtual 439, 3) := by decide +kernel
theorem dX12_slopes_10 : decode cX12_slopes 10 = .ok (.istore_n 3, 1) := by decide +kernel
theorem dX12_slopes_11 : decode cX12_slopes 11 = .ok (.iconst 0, 1) := by decide +kernel
theorem dX12_slopes_12 : decode cX12_slopes 12 = .ok (.istore 4, 2) := by decide +kernel
theorem dX12_slopes_14 : decode cX12_slopes 14 = .ok (.iconst 0, 1) := by decide +kernel
theorem dX12_slopes_15 : decode cX12_slopes 15 = .ok (.istore 5, 2) := by decide +kernel
theorem dX12_slopes_17 : decode cX12_slopes 17 = .ok (.iload 5, 2) := by decide +kernel
theorem dX12_slopes_19 : decode cX12_slopes 19 = .ok (.iload_n 3, 1) := by decide +kernel
theorem dX12_slopes_20 : decode cX12_slopes 20 = .ok (.if_icmp .ge 28, 3) := by decide +kernel
theorem dX12_slopes_23 : decode cX12_slopes 23 = .ok (.iload 4, 2) := by decide +kernel
theorem dX12_slopes_25 : decode cX12_slopes 25 = .ok (.ifCond .ne 23, 3) := by decide +kernel
theorem dX12_slopes_28 : decode cX12_slopes 28 = .ok (.aload_n 0, 1) := by decide +kernel
theorem dX12_slopes_29 : decode cX12_slopes 29 = .ok (.aload_n 0, 1) := by decide +kernel
theorem dX12_slopes_30 : decode cX12_slopes 30 = .ok (.getfield 150, 3) := by decide +kernel
theorem dX12_slopes_33 : decode cX12_slopes 33 = .ok (.iload 5, 2) := by decide +kernel
theorem dX12_slopes_35 : decode cX12_slopes 35 = .ok (.iaload, 1) := by decide +kernel
theorem dX12_slopes_36 : decode cX12_slopes 36 = .ok (.iload_n 2, 1) := by decide +kernel
theorem dX12_slopes_37 : decode cX12_slopes 37 = .ok (.invokevirtual 648, 3) := by decide +kernel
theorem dX12_slopes_40 : decode cX12_slopes 40 = .ok (.istore 4, 2) := by decide +kernel
theorem dX12_slopes_42 : decode cX12_slopes 42 = .ok (.iinc 5 1, 3) := by decide +kernel
theorem dX12_slopes_45 : decode cX12_slopes 45 = .ok (.goto (-28), 3) := by decide +kernel
theorem dX12_slopes_48 : decode cX12_slopes 48 = .ok (.iload 4, 2) := by decide +kernel
theorem dX12_slopes_50 : decode cX12_slopes 50 = .ok (.ireturn, 1) := by decide +kernel
theorem dX12_note_0 : decode cX12_note 0 = .ok (.aload_n 0, 1) := by decide +kernel
theorem dX12_note_1 : decode cX12_note 1 = .ok (.getfield 651, 3) := by decide +kernel
theorem dX12_note_4 : decode cX12_note 4 = .ok (.bipush 20, 2) := by decide +kernel
theorem dX12_note_6 : decode cX12_note 6 = .ok (.if_icmp .ne 26, 3) := by decide +kernel
theorem dX12_note_9 : decode cX12_note 9 = .ok (.aload_n 0, 1) := by decide +kernel
theorem dX12_note_10 : decode cX12_note 10 = .ok (.aload_n 0, 1) := by decide +kernel
theorem dX12_note_11 : decode cX12_note 11 = .ok (.getfield 654, 3) := by decide +kernel
theorem dX12_note_14 : decode cX12_note 14 = .ok (.iconst 1, 1) := by decide +kernel
theorem dX12_note_15 : decode cX12_note 15 = .ok (.iadd, 1) := by decide +kernel
theorem dX12_note_16 : decode cX12_note 16 = .ok (.bipush 20, 2) := by decide +kernel
theorem dX12_note_18 : decode cX12_note 18 = .ok (.irem, 1) := by decide +kernel
theorem dX12_note_19 : decode cX12_note 19 = .ok (.putfield 654, 3) := by decide +kernel
theorem dX12_note_22 : decode cX12_note 22 = .ok (.aload_n 0, 1) := by decide +kernel
theorem dX12_note_23 : decode cX12_note 23 = .ok (.dup, 1) := by decide +kernel
theorem dX12_note_24 : decode cX12_note 24 = .ok (.getfield 651, 3) := by decide +kernel
theorem dX12_note_27 : decode cX12_note 27 = .ok (.iconst 1, 1) := by decide +kernel
theorem dX12_note_28 : decode cX12_note 28 = .ok (.isub, 1) := by decide +kernel
theorem dX12_note_29 : decode cX12_note 29 = .ok (.putfield 651, 3) := by decide +kernel
theorem dX12_note_32 : decode cX12_note 32 = .ok (.aload_n 0, 1) := by decide +kernel
theorem dX12_note_33 : decode cX12_note 33 = .ok (.getfield 654, 3) := by decide +kernel
theorem dX12_note_36 : decode cX12_note 36 = .ok (.aload_n 0, 1) := by decide +kernel
theorem dX12_note_37 : decode cX12_note 37 = .ok (.getfield 651, 3) := by decide +kernel
theorem dX12_note_40 : decode cX12_note 40 = .ok (.iadd, 1) := by decide +kernel
theorem dX12_note_41 : decode cX12_note 41 = .ok (.bipush 20, 2) := by decide +kernel
theorem dX12_note_43 : decode cX12_note 43 = .ok (.irem, 1) := by decide +kernel
theorem dX12_note_44 : decode cX12_note 44 = .ok (.istore 6, 2) := by decide +kernel
theorem dX12_note_46 : decode cX12_note 46 = .ok (.aload_n 0, 1) := by decide +kernel
theorem dX12_note_47 : decode cX12_note 47 = .ok (.getfield 302, 3) := by decide +kernel
theorem dX12_note_50 : decode cX12_note 50 = .ok (.iload 6, 2) := by decide +kernel
theorem dX12_note_52 : decode cX12_note 52 = .ok (.iload_n 1, 1) := by decide +kernel
theorem dX12_note_53 : decode cX12_note 53 = .ok (.iastore, 1) := by decide +kernel
theorem dX12_note_54 : decode cX12_note 54 = .ok (.aload_n 0, 1) := by decide +kernel
theorem dX12_note_55 : decode cX12_note 55 = .ok (.getfield 305, 3) := by decide +kernel
theorem dX12_note_58 : decode cX12_note 58 = .ok (.iload 6, 2) := by decide +kernel
theorem dX12_note_60 : decode cX12_note 60 = .ok (.iload_n 2, 1) := by decide +kernel
theorem dX12_note_61 : decode cX12_note 61 = .ok (.iastore, 1) := by decide +kernel
theorem dX12_note_62 : decode cX12_note 62 = .ok (.aload_n 0, 1) := by decide +kernel
theorem dX12_note_63 : decode cX12_note 63 = .ok (.getfield 308, 3) := by decide +kernel
theorem dX12_note_66 : decode cX12_note 66 = .ok (.iload 6, 2) := by decide +kernel
theorem dX12_note_68 : decode cX12_note 68 = .ok (.iload_n 3, 1) := by decide +kernel
theorem dX12_note_69 : decode cX12_note 69 = .ok (.iastore, 1) := by decide +kernel
theorem dX12_note_70 : decode cX12_note 70 = .ok (.aload_n 0, 1) := by decide +kernel
theorem dX12_note_71 : decode cX12_note 71 = .ok (.getfield 311, 3) := by decide +kernel
theorem dX12_note_74 : decode cX12_note 74 = .ok (.iload 6, 2) := by decide +kernel
theorem dX12_note_76 : decode cX12_note 76 = .ok (.iload 4, 2) := by decide +kernel
theorem dX12_note_78 : decode cX12_note 78 = .ok (.iastore, 1) := by decide +kernel
theorem dX12_note_79 : decode cX12_note 79 = .ok (.aload_n 0, 1) := by decide +kernel
theorem dX12_note_80 : decode cX12_note 80 = .ok (.getfield 314, 3) := by decide +kernel
theorem dX12_note_83 : decode cX12_note 83 = .ok (.iload 6, 2) := by decide +kernel
theorem dX12_note_85 : decode cX12_note 85 = .ok (.iload 5, 2) := by decide +kernel
theorem dX12_note_87 : decode cX12_note 87 = .ok (.iastore, 1) := by decide +kernel
theorem dX12_note_88 : decode cX12_note 88 = .ok (.aload_n 0, 1) := by decide +kernel
theorem dX12_note_89 : decode cX12_note 89 = .ok (.dup, 1) := by decide +kernel
theorem dX12_note_90 : decode cX12_note 90 = .ok (.getfield 651, 3) := by decide +kernel
theorem dX12_note_93 : decode cX12_note 93 = .ok (.iconst 1, 1) := by decide +kernel
theorem dX12_note_94 : decode cX12_note 94 = .ok (.iadd, 1) := by decide +kernel
theorem dX12_note_95 : decode cX12_note 95 = .ok (.putfield 651, 3) := by decide +kernel
theorem dX12_note_98 : decode cX12_note 98 = .ok (.iload 6, 2) := by decide +kernel
theorem dX12_note_100 : decode cX12_note 100 = .ok (.ireturn, 1) := by decide +kernel
theorem dX12_noteValue_0 : decode cX12_noteValue 0 = .ok (.aload_n 0, 1) := by decide +kernel
theorem dX12_noteValue_1 : decode cX12_noteValue 1 = .ok (.iconst 2, 1) := by decide +kernel
theorem dX12_noteValue_2 : decode cX12_noteValue 2 = .ok (.iload_n 1, 1) := by decide +kernel
theorem dX12_noteValue_3 : decode cX12_noteValue 3 = .ok (.aload_n 0, 1) := by decide +kernel
theorem dX12_noteValue_4 : decode cX12_noteValue 4 = .ok (.getfield 248, 3) := by decide +kernel
theorem dX12_noteValue_7 : decode cX12_noteValue 7 = .ok (.iload_n 1, 1) := by decide +kernel
theorem dX12_noteValue_8 : decode cX12_noteValue 8 = .ok (.baload, 1) := by decide +kernel
theorem dX12_noteValue_9 : decode cX12_noteValue 9 = .ok (.ifCond .eq 7, 3) := by decide +kernel
theorem dX12_noteValue_12 : decode cX12_noteValue 12 = .ok (.iconst 1, 1) := by decide +kernel
theorem dX12_noteValue_13 : decode cX12_noteValue 13 = .ok (.goto 4, 3) := by decide +kernel
theorem dX12_noteValue_16 : decode cX12_noteValue 16 = .ok (.iconst 0, 1) := by decide +kernel
theorem dX12_noteValue_17 : decode cX12_noteValue 17 = .ok (.iconst 0, 1) := by decide +kernel
theorem dX12_noteValue_18 : decode cX12_noteValue 18 = .ok (.iconst 0, 1) := by decide +kernel
theorem dX12_noteValue_19 : decode cX12_noteValue 19 = .ok (.invokevirtual 657, 3) := by decide +kernel
theorem dX12_noteValue_22 : decode cX12_noteValue 22 = .ok (.istore_n 2, 1) := by decide +kernel
theorem dX12_noteValue_23 : decode cX12_noteValue 23 = .ok (.aload_n 0, 1) := by decide +kernel
theorem dX12_noteValue_24 : decode cX12_noteValue 24 = .ok (.bipush 27, 2) := by decide +kernel
theorem dX12_noteValue_26 : decode cX12_noteValue 26 = .ok (.iload_n 2, 1) := by decide +kernel
theorem dX12_noteValue_27 : decode cX12_noteValue 27 = .ok (.iadd, 1) := by decide +kernel
theorem dX12_noteValue_28 : decode cX12_noteValue 28 = .ok (.iload_n 1, 1) := by decide +kernel
theorem dX12_noteValue_29 : decode cX12_noteValue 29 = .ok (.invokevirtual 115, 3) := by decide +kernel
theorem dX12_noteValue_32 : decode cX12_noteValue 32 = .ok (.return_, 1) := by decide +kernel
theorem dX12_noteFunction_0 : decode cX12_noteFunction 0 = .ok (.aload_n 0, 1) := by decide +kernel
theorem dX12_noteFunction_1 : decode cX12_noteFunction 1 = .ok (.iconst 3, 1) := by decide +kernel
theorem dX12_noteFunction_2 : decode cX12_noteFunction 2 = .ok (.iload_n 1, 1) := by decide +kernel
theorem dX12_noteFunction_3 : decode cX12_noteFunction 3 = .ok (.aload_n 0, 1) := by decide +kernel
theorem dX12_noteFunction_4 : decode cX12_noteFunction 4 = .ok (.getfield 175, 3) := by decide +kernel
theorem dX12_noteFunction_7 : decode cX12_noteFunction 7 = .ok (.iload_n 1, 1) := by decide +kernel
theorem dX12_noteFunction_8 : decode cX12_noteFunction 8 = .ok (.iaload, 1) := by decide +kernel
theorem dX12_noteFunction_9 : decode cX12_noteFunction 9 = .ok (.aload_n 0, 1) := by decide +kernel
theorem dX12_noteFunction_10 : decode cX12_noteFunction 10 = .ok (.getfield 178, 3) := by decide +kernel
theorem dX12_noteFunction_13 : decode cX12_noteFunction 13 = .ok (.iload_n 1, 1) := by decide +kernel
theorem dX12_noteFunction_14 : decode cX12_noteFunction 14 = .ok (.iaload, 1) := by decide +kernel
theorem dX12_noteFunction_15 : decode cX12_noteFunction 15 = .ok (.iconst 0, 1) := by decide +kernel
theorem dX12_noteFunction_16 : decode cX12_noteFunction 16 = .ok (.invokevirtual 657, 3) := by decide +kernel
theorem dX12_noteFunction_19 : decode cX12_noteFunction 19 = .ok (.istore_n 2, 1) := by decide +kernel
theorem dX12_noteFunction_20 : decode cX12_noteFunction 20 = .ok (.iconst 0, 1) := by decide +kernel
theorem dX12_noteFunction_21 : decode cX12_noteFunction 21 = .ok (.istore_n 3, 1) := by decide +kernel
theorem dX12_noteFunction_22 : decode cX12_noteFunction 22 = .ok (.iload_n 3, 1) := by decide +kernel
theorem dX12_noteFunction_23 : decode cX12_noteFunction 23 = .ok (.bipush 8, 2) := by decide +kernel
theorem dX12_noteFunction_25 : decode cX12_noteFunction 25 = .ok (.if_icmp .ge 72, 3) := by decide +kernel
theorem dX12_noteFunction_28 : decode cX12_noteFunction 28 = .ok (.aload_n 0, 1) := by decide +kernel
theorem dX12_noteFunction_29 : decode cX12_noteFunction 29 = .ok (.getfield 317, 3) := by decide +kernel
theorem dX12_noteFunction_32 : decode cX12_noteFunction 32 = .ok (.bipush 8, 2) := by decide +kernel
theorem dX12_noteFunction_34 : decode cX12_noteFunction 34 = .ok (.iload_n 2, 1) := by decide +kernel
theorem dX12_noteFunction_35 : decode cX12_noteFunction 35 = .ok (.imul, 1) := by decide +kernel
theorem dX12_noteFunction_36 : decode cX12_noteFunction 36 = .ok (.iload_n 3, 1) := by decide +kernel
theorem dX12_noteFunction_37 : decode cX12_noteFunction 37 = .ok (.iadd, 1) := by decide +kernel
theorem dX12_noteFunction_38 : decode cX12_noteFunction 38 = .ok (.aload_n 0, 1) := by decide +kernel
theorem dX12_noteFunction_39 : decode cX12_noteFunction 39 = .ok (.getfield 181, 3) := by decide +kernel
theorem dX12_noteFunction_42 : decode cX12_noteFunction 42 = .ok (.bipush 8, 2) := by decide +kernel
theorem dX12_noteFunction_44 : decode cX12_noteFunction 44 = .ok (.iload_n 1, 1) := by decide +kernel
theorem dX12_noteFunction_45 : decode cX12_noteFunction 45 = .ok (.imul, 1) := by decide +kernel
theorem dX12_noteFunction_46 : decode cX12_noteFunction 46 = .ok (.iload_n 3, 1) := by decide +kernel
theorem dX12_noteFunction_47 : decode cX12_noteFunction 47 = .ok (.iadd, 1) := by decide +kernel
theorem dX12_noteFunction_48 : decode cX12_noteFunction 48 = .ok (.iaload, 1) := by decide +kernel
theorem dX12_noteFunction_49 : decode cX12_noteFunction 49 = .ok (.iastore, 1) := by decide +kernel
theorem dX12_noteFunction_50 : decode cX12_noteFunction 50 = .ok (.aload_n 0, 1) := by decide +kernel
theorem dX12_noteFunction_51 : decode cX12_noteFunction 51 = .ok (.sipush 8640, 3) := by decide +kernel
theorem dX12_noteFunction_54 : decode cX12_noteFunction 54 = .ok (.bipush 30, 2) := by decide +kernel
theorem dX12_noteFunction_56 : decode cX12_noteFunction 56 = .ok (.bipush 8, 2) := by decide +kernel
theorem dX12_noteFunction_58 : decode cX12_noteFunction 58 = .ok (.iload_n 2, 1) := by decide +kernel
theorem dX12_noteFunction_59 : decode cX12_noteFunction 59 = .ok (.imul, 1) := by decide +kernel
theorem dX12_noteFunction_60 : decode cX12_noteFunction 60 = .ok (.iload_n 3, 1) := by decide +kernel
theorem dX12_noteFunction_61 : decode cX12_noteFunction 61 = .ok (.iadd, 1) := by decide +kernel
theorem dX12_noteFunction_62 : decode cX12_noteFunction 62 = .ok (.imul, 1) := by decide +kernel
theorem dX12_noteFunction_63 : decode cX12_noteFunction 63 = .ok (.iadd, 1) := by decide +kernel
theorem dX12_noteFunction_64 : decode cX12_noteFunction 64 = .ok (.sipush 2400, 3) := by decide +kernel
theorem dX12_noteFunction_67 : decode cX12_noteFunction 67 = .ok (.bipush 30, 2) := by decide +kernel
theorem dX12_noteFunction_69 : decode cX12_noteFunction 69 = .ok (.bipush 8, 2) := by decide +kernel
theorem dX12_noteFunction_71 : decode cX12_noteFunction 71 = .ok (.iload_n 1, 1) := by decide +kernel
theorem dX12_noteFunction_72 : decode cX12_noteFunction 72 = .ok (.imul, 1) := by decide +kernel
theorem dX12_noteFunction_73 : decode cX12_noteFunction 73 = .ok (.iload_n 3, 1) := by decide +kernel
theorem dX12_noteFunction_74 : decode cX12_noteFunction 74 = .ok (.iadd, 1) := by decide +kernel
theorem dX12_noteFunction_75 : decode cX12_noteFunction 75 = .ok (.imul, 1) := by decide +kernel
theorem dX12_noteFunction_76 : decode cX12_noteFunction 76 = .ok (.iadd, 1) := by decide +kernel
theorem dX12_noteFunction_77 : decode cX12_noteFunction 77 = .ok (.aload_n 0, 1) := by decide +kernel
theorem dX12_noteFunction_78 : decode cX12_noteFunction 78 = .ok (.getfield 181, 3) := by decide +kernel
theorem dX12_noteFunction_81 : decode cX12_noteFunction 81 = .ok (.bipush 8, 2) := by decide +kernel
theorem dX12_noteFunction_83 : decode cX12_noteFunction 83 = .ok (.iload_n 1, 1) := by decide +kernel
theorem dX12_noteFunction_84 : decode cX12_noteFunction 84 = .ok (.imul, 1) := by decide +kernel
theorem dX12_noteFunction_85 : decode cX12_noteFunction 85 = .ok (.iload_n 3, 1) := by decide +kernel
theorem dX12_noteFunction_86 : decode cX12_noteFunction 86 = .ok (.iadd, 1) := by decide +kernel
theorem dX12_noteFunction_87 : decode cX12_noteFunction 87 = .ok (.iaload, 1) := by decide +kernel
theorem dX12_noteFunction_88 : decode cX12_noteFunction 88 = .ok (.invokevirtual 515, 3) := by decide +kernel
theorem dX12_noteFunction_91 : decode cX12_noteFunction 91 = .ok (.iinc 3 1, 3) := by decide +kernel
theorem dX12_noteFunction_94 : decode cX12_noteFunction 94 = .ok (.goto (-72), 3) := by decide +kernel
theorem dX12_noteFunction_97 : decode cX12_noteFunction 97 = .ok (.return_, 1) := by decide +kernel
theorem dX12_undo_0 : decode cX12_undo 0 = .ok (.aload_n 0, 1) := by decide +kernel
theorem dX12_undo_1 : decode cX12_undo 1 = .ok (.iconst 0, 1) := by decide +kernel
theorem dX12_undo_2 : decode cX12_undo 2 = .ok (.putfield 1, 3) := by decide +kernel
theorem dX12_undo_5 : decode cX12_undo 5 = .ok (.aload_n 0, 1) := by decide +kernel
theorem dX12_undo_6 : decode cX12_undo 6 = .ok (.getfield 651, 3) := by decide +kernel
theorem dX12_undo_9 : decode cX12_undo 9 = .ok (.ifCond .ne 5, 3) := by decide +kernel
theorem dX12_undo_12 : decode cX12_undo 12 = .ok (.iconst (-1), 1) := by decide +kernel
theorem dX12_undo_13 : decode cX12_undo 13 = .ok (.ireturn, 1) := by decide +kernel
theorem dX12_undo_14 : decode cX12_undo 14 = .ok (.aload_n 0, 1) := by decide +kernel
theorem dX12_undo_15 : decode cX12_undo 15 = .ok (.dup, 1) := by decide +kernel
theorem dX12_undo_16 : decode cX12_undo 16 = .ok (.getfield 651, 3) := by decide +kernel
theorem dX12_undo_19 : decode cX12_undo 19 = .ok (.iconst 1, 1) := by decide +kernel
theorem dX12_undo_20 : decode cX12_undo 20 = .ok (.isub, 1) := by decide +kernel
theorem dX12_undo_21 : decode cX12_undo 21 = .ok (.putfield 651, 3) := by decide +kernel
theorem dX12_undo_24 : decode cX12_undo 24 = .ok (.aload_n 0, 1) := by decide +kernel
theorem dX12_undo_25 : decode cX12_undo 25 = .ok (.getfield 654, 3) := by decide +kernel
theorem dX12_undo_28 : decode cX12_undo 28 = .ok (.aload_n 0, 1) := by decide +kernel
theorem dX12_undo_29 : decode cX12_undo 29 = .ok (.getfield 651, 3) := by decide +kernel
theorem dX12_undo_32 : decode cX12_undo 32 = .ok (.iadd, 1) := by decide +kernel
theorem dX12_undo_33 : decode cX12_undo 33 = .ok (.bipush 20, 2) := by decide +kernel
theorem dX12_undo_35 : decode cX12_undo 35 = .ok (.irem, 1) := by decide +kernel
theorem dX12_undo_36 : decode cX12_undo 36 = .ok (.istore_n 1, 1) := by decide +kernel
theorem dX12_undo_37 : decode cX12_undo 37 = .ok (.aload_n 0, 1) := by decide +kernel
theorem dX12_undo_38 : decode cX12_undo 38 = .ok (.getfield 305, 3) := by decide +kernel
theorem dX12_undo_41 : decode cX12_undo 41 = .ok (.iload_n 1, 1) := by decide +kernel
theorem dX12_undo_42 : decode cX12_undo 42 = .ok (.iaload, 1) := by decide +kernel
theorem dX12_undo_43 : decode cX12_undo 43 = .ok (.istore_n 2, 1) := by decide +kernel
theorem dX12_undo_44 : decode cX12_undo 44 = .ok (.aload_n 0, 1) := by decide +kernel
theorem dX12_undo_45 : decode cX12_undo 45 = .ok (.getfield 302, 3) := by decide +kernel
theorem dX12_undo_48 : decode cX12_undo 48 = .ok (.iload_n 1, 1) := by decide +kernel
theorem dX12_undo_49 : decode cX12_undo 49 = .ok (.iaload, 1) := by decide +kernel
theorem dX12_undo_50 : decode cX12_undo 50 = .ok (.tableswitch 111 0 2 #[26, 39, 78], 26) := by decide +kernel
theorem dX12_undo_76 : decode cX12_undo 76 = .ok (.aload_n 0, 1) := by decide +kernel
theorem dX12_undo_77 : decode cX12_undo 77 = .ok (.dup, 1) := by decide +kernel
theorem dX12_undo_78 : decode cX12_undo 78 = .ok (.getfield 661, 3) := by decide +kernel
theorem dX12_undo_81 : decode cX12_undo 81 = .ok (.iconst 1, 1) := by decide +kernel
theorem dX12_undo_82 : decode cX12_undo 82 = .ok (.isub, 1) := by decide +kernel
theorem dX12_undo_83 : decode cX12_undo 83 = .ok (.putfield 661, 3) := by decide +kernel
theorem dX12_undo_86 : decode cX12_undo 86 = .ok (.goto 176, 3) := by decide +kernel
theorem dX12_undo_89 : decode cX12_undo 89 = .ok (.aload_n 0, 1) := by decide +kernel
theorem dX12_undo_90 : decode cX12_undo 90 = .ok (.getfield 153, 3) := by decide +kernel
theorem dX12_undo_93 : decode cX12_undo 93 = .ok (.iload_n 2, 1) := by decide +kernel
theorem dX12_undo_94 : decode cX12_undo 94 = .ok (.aload_n 0, 1) := by decide +kernel
theorem dX12_undo_95 : decode cX12_undo 95 = .ok (.getfield 308, 3) := by decide +kernel
theorem dX12_undo_98 : decode cX12_undo 98 = .ok (.iload_n 1, 1) := by decide +kernel
theorem dX12_undo_99 : decode cX12_undo 99 = .ok (.iaload, 1) := by decide +kernel
theorem dX12_undo_100 : decode cX12_undo 100 = .ok (.iastore, 1) := by decide +kernel
theorem dX12_undo_101 : decode cX12_undo 101 = .ok (.aload_n 0, 1) := by decide +kernel
theorem dX12_undo_102 : decode cX12_undo 102 = .ok (.getfield 159, 3) := by decide +kernel
theorem dX12_undo_105 : decode cX12_undo 105 = .ok (.iload_n 2, 1) := by decide +kernel
theorem dX12_undo_106 : decode cX12_undo 106 = .ok (.aload_n 0, 1) := by decide +kernel
theorem dX12_undo_107 : decode cX12_undo 107 = .ok (.getfield 311, 3) := by decide +kernel
theorem dX12_undo_110 : decode cX12_undo 110 = .ok (.iload_n 1, 1) := by decide +kernel
theorem dX12_undo_111 : decode cX12_undo 111 = .ok (.iaload, 1) := by decide +kernel
theorem dX12_undo_112 : decode cX12_undo 112 = .ok (.iastore, 1) := by decide +kernel
theorem dX12_undo_113 : decode cX12_undo 113 = .ok (.aload_n 0, 1) := by decide +kernel
theorem dX12_undo_114 : decode cX12_undo 114 = .ok (.getfield 162, 3) := by decide +kernel
theorem dX12_undo_117 : decode cX12_undo 117 = .ok (.iload_n 2, 1) := by decide +kernel
theorem dX12_undo_118 : decode cX12_undo 118 = .ok (.aload_n 0, 1) := by decide +kernel
theorem dX12_undo_119 : decode cX12_undo 119 = .ok (.getfield 314, 3) := by decide +kernel
theorem dX12_undo_122 : decode cX12_undo 122 = .ok (.iload_n 1, 1) := by decide +kernel
theorem dX12_undo_123 : decode cX12_undo 123 = .ok (.iaload, 1) := by decide +kernel
theorem dX12_undo_124 : decode cX12_undo 124 = .ok (.iastore, 1) := by decide +kernel
theorem dX12_undo_125 : decode cX12_undo 125 = .ok (.goto 137, 3) := by decide +kernel
theorem dX12_undo_128 : decode cX12_undo 128 = .ok (.aload_n 0, 1) := by decide +kernel
theorem dX12_undo_129 : decode cX12_undo 129 = .ok (.getfield 248, 3) := by decide +kernel
theorem dX12_undo_132 : decode cX12_undo 132 = .ok (.iload_n 2, 1) := by decide +kernel
theorem dX12_undo_133 : decode cX12_undo 133 = .ok (.aload_n 0, 1) := by decide +kernel
theorem dX12_undo_134 : decode cX12_undo 134 = .ok (.getfield 308, 3) := by decide +kernel
theorem dX12_undo_137 : decode cX12_undo 137 = .ok (.iload_n 1, 1) := by decide +kernel
theorem dX12_undo_138 : decode cX12_undo 138 = .ok (.iaload, 1) := by decide +kernel
theorem dX12_undo_139 : decode cX12_undo 139 = .ok (.iconst 1, 1) := by decide +kernel
theorem dX12_undo_140 : decode cX12_undo 140 = .ok (.if_icmp .ne 7, 3) := by decide +kernel
theorem dX12_undo_143 : decode cX12_undo 143 = .ok (.iconst 1, 1) := by decide +kernel
theorem dX12_undo_144 : decode cX12_undo 144 = .ok (.goto 4, 3) := by decide +kernel
theorem dX12_undo_147 : decode cX12_undo 147 = .ok (.iconst 0, 1) := by decide +kernel
theorem dX12_undo_148 : decode cX12_undo 148 = .ok (.bastore, 1) := by decide +kernel
theorem dX12_undo_149 : decode cX12_undo 149 = .ok (.aload_n 0, 1) := by decide +kernel
theorem dX12_undo_150 : decode cX12_undo 150 = .ok (.iload_n 2, 1) := by decide +kernel
theorem dX12_undo_151 : decode cX12_undo 151 = .ok (.bipush 27, 2) := by decide +kernel
theorem dX12_undo_153 : decode cX12_undo 153 = .ok (.iload_n 1, 1) := by decide +kernel
theorem dX12_undo_154 : decode cX12_undo 154 = .ok (.iadd, 1) := by decide +kernel
theorem dX12_undo_155 : decode cX12_undo 155 = .ok (.invokevirtual 115, 3) := by decide +kernel
theorem dX12_undo_158 : decode cX12_undo 158 = .ok (.goto 104, 3) := by decide +kernel
theorem dX12_undo_161 : decode cX12_undo 161 = .ok (.aload_n 0, 1) := by decide +kernel
theorem dX12_undo_162 : decode cX12_undo 162 = .ok (.getfield 175, 3) := by decide +kernel
theorem dX12_undo_165 : decode cX12_undo 165 = .ok (.iload_n 2, 1) := by decide +kernel
theorem dX12_undo_166 : decode cX12_undo 166 = .ok (.aload_n 0, 1) := by decide +kernel
theorem dX12_undo_167 : decode cX12_undo 167 = .ok (.getfield 308, 3) := by decide +kernel
theorem dX12_undo_170 : decode cX12_undo 170 = .ok (.iload_n 1, 1) := by decide +kernel
theorem dX12_undo_171 : decode cX12_undo 171 = .ok (.iaload, 1) := by decide +kernel
theorem dX12_undo_172 : decode cX12_undo 172 = .ok (.iastore, 1) := by decide +kernel
theorem dX12_undo_173 : decode cX12_undo 173 = .ok (.aload_n 0, 1) := by decide +kernel
theorem dX12_undo_174 : decode cX12_undo 174 = .ok (.getfield 178, 3) := by decide +kernel
theorem dX12_undo_177 : decode cX12_undo 177 = .ok (.iload_n 2, 1) := by decide +kernel
theorem dX12_undo_178 : decode cX12_undo 178 = .ok (.aload_n 0, 1) := by decide +kernel
theorem dX12_undo_179 : decode cX12_undo 179 = .ok (.getfield 311, 3) := by decide +kernel
theorem dX12_undo_182 : decode cX12_undo 182 = .ok (.iload_n 1, 1) := by decide +kernel
theorem dX12_undo_183 : decode cX12_undo 183 = .ok (.iaload, 1) := by decide +kernel
theorem dX12_undo_184 : decode cX12_undo 184 = .ok (.iastore, 1) := by decide +kernel
theorem dX12_undo_185 : decode cX12_undo 185 = .ok (.iconst 0, 1) := by decide +kernel
theorem dX12_undo_186 : decode cX12_undo 186 = .ok (.istore_n 3, 1) := by decide +kernel
theorem dX12_undo_187 : decode cX12_undo 187 = .ok (.iload_n 3, 1) := by decide +kernel
theorem dX12_undo_188 : decode cX12_undo 188 = .ok (.bipush 8, 2) := by decide +kernel
theorem dX12_undo_190 : decode cX12_undo 190 = .ok (.if_icmp .ge 72, 3) := by decide +kernel
theorem dX12_undo_193 : decode cX12_undo 193 = .ok (.aload_n 0, 1) := by decide +kernel
theorem dX12_undo_194 : decode cX12_undo 194 = .ok (.getfield 181, 3) := by decide +kernel
theorem dX12_undo_197 : decode cX12_undo 197 = .ok (.bipush 8, 2) := by decide +kernel
theorem dX12_undo_199 : decode cX12_undo 199 = .ok (.iload_n 2, 1) := by decide +kernel
theorem dX12_undo_200 : decode cX12_undo 200 = .ok (.imul, 1) := by decide +kernel
theorem dX12_undo_201 : decode cX12_undo 201 = .ok (.iload_n 3, 1) := by decide +kernel
theorem dX12_undo_202 : decode cX12_undo 202 = .ok (.iadd, 1) := by decide +kernel
theorem dX12_undo_203 : decode cX12_undo 203 = .ok (.aload_n 0, 1) := by decide +kernel
theorem dX12_undo_204 : decode cX12_undo 204 = .ok (.getfield 317, 3) := by decide +kernel
theorem dX12_undo_207 : decode cX12_undo 207 = .ok (.bipush 8, 2) := by decide +kernel
theorem dX12_undo_209 : decode cX12_undo 209 = .ok (.iload_n 1, 1) := by decide +kernel
theorem dX12_undo_210 : decode cX12_undo 210 = .ok (.imul, 1) := by decide +kernel
theorem dX12_undo_211 : decode cX12_undo 211 = .ok (.iload_n 3, 1) := by decide +kernel
theorem dX12_undo_212 : decode cX12_undo 212 = .ok (.iadd, 1) := by decide +kernel
theorem dX12_undo_213 : decode cX12_undo 213 = .ok (.iaload, 1) := by decide +kernel
theorem dX12_undo_214 : decode cX12_undo 214 = .ok (.iastore, 1) := by decide +kernel
theorem dX12_undo_215 : decode cX12_undo 215 = .ok (.aload_n 0, 1) := by decide +kernel
theorem dX12_undo_216 : decode cX12_undo 216 = .ok (.sipush 2400, 3) := by decide +kernel
theorem dX12_undo_219 : decode cX12_undo 219 = .ok (.bipush 30, 2) := by decide +kernel
theorem dX12_undo_221 : decode cX12_undo 221 = .ok (.bipush 8, 2) := by decide +kernel
theorem dX12_undo_223 : decode cX12_undo 223 = .ok (.iload_n 2, 1) := by decide +kernel
theorem dX12_undo_224 : decode cX12_undo 224 = .ok (.imul, 1) := by decide +kernel
theorem dX12_undo_225 : decode cX12_undo 225 = .ok (.iload_n 3, 1) := by decide +kernel
theorem dX12_undo_226 : decode cX12_undo 226 = .ok (.iadd, 1) := by decide +kernel
theorem dX12_undo_227 : decode cX12_undo 227 = .ok (.imul, 1) := by decide +kernel
theorem dX12_undo_228 : decode cX12_undo 228 = .ok (.iadd, 1) := by decide +kernel
theorem dX12_undo_229 : decode cX12_undo 229 = .ok (.sipush 8640, 3) := by decide +kernel
theorem dX12_undo_232 : decode cX12_undo 232 = .ok (.bipush 30, 2) := by decide +kernel
theorem dX12_undo_234 : decode cX12_undo 234 = .ok (.bipush 8, 2) := by decide +kernel
theorem dX12_undo_236 : decode cX12_undo 236 = .ok (.iload_n 1, 1) := by decide +kernel
theorem dX12_undo_237 : decode cX12_undo 237 = .ok (.imul, 1) := by decide +kernel
theorem dX12_undo_238 : decode cX12_undo 238 = .ok (.iload_n 3, 1) := by decide +kernel
theorem dX12_undo_239 : decode cX12_undo 239 = .ok (.iadd, 1) := by decide +kernel
theorem dX12_undo_240 : decode cX12_undo 240 = .ok (.imul, 1) := by decide +kernel
theorem dX12_undo_241 : decode cX12_undo 241 = .ok (.iadd, 1) := by decide +kernel
theorem dX12_undo_242 : decode cX12_undo 242 = .ok (.aload_n 0, 1) := by decide +kernel
theorem dX12_undo_243 : decode cX12_undo 243 = .ok (.getfield 181, 3) := by decide +kernel
theorem dX12_undo_246 : decode cX12_undo 246 = .ok (.bipush 8, 2) := by decide +kernel
theorem dX12_undo_248 : decode cX12_undo 248 = .ok (.iload_n 2, 1) := by decide +kernel
theorem dX12_undo_249 : decode cX12_undo 249 = .ok (.imul, 1) := by decide +kernel
theorem dX12_undo_250 : decode cX12_undo 250 = .ok (.iload_n 3, 1) := by decide +kernel
theorem dX12_undo_251 : decode cX12_undo 251 = .ok (.iadd, 1) := by decide +kernel
theorem dX12_undo_252 : decode cX12_undo 252 = .ok (.iaload, 1) := by decide +kernel
theorem dX12_undo_253 : decode cX12_undo 253 = .ok (.invokevirtual 515, 3) := by decide +kernel
theorem dX12_undo_256 : decode cX12_undo 256 = .ok (.iinc 3 1, 3) := by decide +kernel
theorem dX12_undo_259 : decode cX12_undo 259 = .ok (.goto (-72), 3) := by decide +kernel
theorem dX12_undo_262 : decode cX12_undo 262 = .ok (.aload_n 0, 1) := by decide +kernel
theorem dX12_undo_263 : decode cX12_undo 263 = .ok (.getfield 302, 3) := by decide +kernel
theorem dX12_undo_266 : decode cX12_undo 266 = .ok (.iload_n 1, 1) := by decide +kernel
theorem dX12_undo_267 : decode cX12_undo 267 = .ok (.iaload, 1) := by decide +kernel
theorem dX12_undo_268 : decode cX12_undo 268 = .ok (.ireturn, 1) := by decide +kernel
theorem dX12_shelf_0 : decode cX12_shelf 0 = .ok (.bipush 80, 2) := by decide +kernel
theorem dX12_shelf_2 : decode cX12_shelf 2 = .ok (.iload_n 0, 1) := by decide +kernel
theorem dX12_shelf_3 : decode cX12_shelf 3 = .ok (.imul, 1) := by decide +kernel
theorem dX12_shelf_4 : decode cX12_shelf 4 = .ok (.ireturn, 1) := by decide +kernel
theorem dX12_isTree_0 : decode cX12_isTree 0 = .ok (.iload_n 1, 1) := by decide +kernel
theorem dX12_isTree_1 : decode cX12_isTree 1 = .ok (.iconst 0, 1) := by decide +kernel
theorem dX12_isTree_2 : decode cX12_isTree 2 = .ok (.aload_n 0, 1) := by decide +kernel
theorem dX12_isTree_3 : decode cX12_isTree 3 = .ok (.getfield 661, 3) := by decide +kernel
theorem dX12_isTree_6 : decode cX12_isTree 6 = .ok (.iconst 1, 1) := by decide +kernel
theorem dX12_isTree_7 : decode cX12_isTree 7 = .ok (.isub, 1) := by decide +kernel
theorem dX12_isTree_8 : decode cX12_isTree 8 = .ok (.invokestatic 106, 3) := by decide +kernel
theorem dX12_isTree_11 : decode cX12_isTree 11 = .ok (.ireturn, 1) := by decide +kernel
theorem dX12_isNode_0 : decode cX12_isNode 0 = .ok (.aload_n 0, 1) := by decide +kernel
theorem dX12_isNode_1 : decode cX12_isNode 1 = .ok (.iload_n 1, 1) := by decide +kernel
theorem dX12_isNode_2 : decode cX12_isNode 2 = .ok (.invokevirtual 664, 3) := by decide +kernel
theorem dX12_isNode_5 : decode cX12_isNode 5 = .ok (.ifCond .eq 23, 3) := by decide +kernel
theorem dX12_isNode_8 : decode cX12_isNode 8 = .ok (.iload_n 2, 1) := by decide +kernel
theorem dX12_isNode_9 : decode cX12_isNode 9 = .ok (.iconst 0, 1) := by decide +kernel
theorem dX12_isNode_10 : decode cX12_isNode 10 = .ok (.aload_n 0, 1) := by decide +kernel
theorem dX12_isNode_11 : decode cX12_isNode 11 = .ok (.getfield 172, 3) := by decide +kernel
theorem dX12_isNode_14 : decode cX12_isNode 14 = .ok (.iload_n 1, 1) := by decide +kernel
theorem dX12_isNode_15 : decode cX12_isNode 15 = .ok (.iaload, 1) := by decide +kernel
theorem dX12_isNode_16 : decode cX12_isNode 16 = .ok (.iconst 1, 1) := by decide +kernel
theorem dX12_isNode_17 : decode cX12_isNode 17 = .ok (.isub, 1) := by decide +kernel
theorem dX12_isNode_18 : decode cX12_isNode 18 = .ok (.invokestatic 106, 3) := by decide +kernel
theorem dX12_isNode_21 : decode cX12_isNode 21 = .ok (.ifCond .eq 7, 3) := by decide +kernel
theorem dX12_isNode_24 : decode cX12_isNode 24 = .ok (.iconst 1, 1) := by decide +kernel
theorem dX12_isNode_25 : decode cX12_isNode 25 = .ok (.goto 4, 3) := by decide +kernel
theorem dX12_isNode_28 : decode cX12_isNode 28 = .ok (.iconst 0, 1) := by decide +kernel
theorem dX12_isNode_29 : decode cX12_isNode 29 = .ok (.ireturn, 1) := by decide +kernel
theorem dX12_isName_0 : decode cX12_isName 0 = .ok (.iload_n 0, 1) := by decide +kernel
theorem dX12_isName_1 : decode cX12_isName 1 = .ok (.bipush 97, 2) := by decide +kernel
theorem dX12_isName_3 : decode cX12_isName 3 = .ok (.bipush 122, 2) := by decide +kernel
theorem dX12_isName_5 : decode cX12_isName 5 = .ok (.invokestatic 106, 3) := by decide +kernel
theorem dX12_isName_8 : decode cX12_isName 8 = .ok (.ireturn, 1) := by decide +kernel
theorem dX12_shelve_0 : decode cX12_shelve 0 = .ok (.aload_n 0, 1) := by decide +kernel
theorem dX12_shelve_1 : decode cX12_shelve 1 = .ok (.aload_n 0, 1) := by decide +kernel
theorem dX12_shelve_2 : decode cX12_shelve 2 = .ok (.getfield 661, 3) := by decide +kernel
theorem dX12_shelve_5 : decode cX12_shelve 5 = .ok (.invokestatic 667, 3) := by decide +kernel
theorem dX12_shelve_8 : decode cX12_shelve 8 = .ok (.iload_n 1, 1) := by decide +kernel
theorem dX12_shelve_9 : decode cX12_shelve 9 = .ok (.iload_n 2, 1) := by decide +kernel
theorem dX12_shelve_10 : decode cX12_shelve 10 = .ok (.invokevirtual 515, 3) := by decide +kernel
theorem dX12_shelve_13 : decode cX12_shelve 13 = .ok (.aload_n 0, 1) := by decide +kernel
theorem dX12_shelve_14 : decode cX12_shelve 14 = .ok (.getfield 172, 3) := by decide +kernel
theorem dX12_shelve_17 : decode cX12_shelve 17 = .ok (.aload_n 0, 1) := by decide +kernel
theorem dX12_shelve_18 : decode cX12_shelve 18 = .ok (.getfield 661, 3) := by decide +kernel
theorem dX12_shelve_21 : decode cX12_shelve 21 = .ok (.iload_n 2, 1) := by decide +kernel
theorem dX12_shelve_22 : decode cX12_shelve 22 = .ok (.iastore, 1) := by decide +kernel
theorem dX12_shelve_23 : decode cX12_shelve 23 = .ok (.aload_n 0, 1) := by decide +kernel
theorem dX12_shelve_24 : decode cX12_shelve 24 = .ok (.aload_n 0, 1) := by decide +kernel
theorem dX12_shelve_25 : decode cX12_shelve 25 = .ok (.getfield 661, 3) := by decide +kernel
theorem dX12_shelve_28 : decode cX12_shelve 28 = .ok (.invokestatic 667, 3) := by decide +kernel
theorem dX12_shelve_31 : decode cX12_shelve 31 = .ok (.iload_n 2, 1) := by decide +kernel
theorem dX12_shelve_32 : decode cX12_shelve 32 = .ok (.invokevirtual 389, 3) := by decide +kernel
theorem dX12_shelve_35 : decode cX12_shelve 35 = .ok (.aload_n 0, 1) := by decide +kernel
theorem dX12_shelve_36 : decode cX12_shelve 36 = .ok (.dup, 1) := by decide +kernel
theorem dX12_shelve_37 : decode cX12_shelve 37 = .ok (.getfield 661, 3) := by decide +kernel
theorem dX12_shelve_40 : decode cX12_shelve 40 = .ok (.iconst 1, 1) := by decide +kernel
theorem dX12_shelve_41 : decode cX12_shelve 41 = .ok (.iadd, 1) := by decide +kernel
theorem dX12_shelve_42 : decode cX12_shelve 42 = .ok (.putfield 661, 3) := by decide +kernel
theorem dX12_shelve_45 : decode cX12_shelve 45 = .ok (.aload_n 0, 1) := by decide +kernel
theorem dX12_shelve_46 : decode cX12_shelve 46 = .ok (.iconst 0, 1) := by decide +kernel
theorem dX12_shelve_47 : decode cX12_shelve 47 = .ok (.iconst 0, 1) := by decide +kernel
theorem dX12_shelve_48 : decode cX12_shelve 48 = .ok (.iconst 0, 1) := by decide +kernel
theorem dX12_shelve_49 : decode cX12_shelve 49 = .ok (.iconst 0, 1) := by decide +kernel
theorem dX12_shelve_50 : decode cX12_shelve 50 = .ok (.iconst 0, 1) := by decide +kernel
theorem dX12_shelve_51 : decode cX12_shelve 51 = .ok (.invokevirtual 657, 3) := by decide +kernel
theorem dX12_shelve_54 : decode cX12_shelve 54 = .ok (.pop, 1) := by decide +kernel
theorem dX12_shelve_55 : decode cX12_shelve 55 = .ok (.aload_n 0, 1) := by decide +kernel
theorem dX12_shelve_56 : decode cX12_shelve 56 = .ok (.getfield 661, 3) := by decide +kernel
theorem dX12_shelve_59 : decode cX12_shelve 59 = .ok (.iconst 1, 1) := by decide +kernel
theorem dX12_shelve_60 : decode cX12_shelve 60 = .ok (.isub, 1) := by decide +kernel
theorem dX12_shelve_61 : decode cX12_shelve 61 = .ok (.ireturn, 1) := by decide +kernel
theorem dX12_type_0 : decode cX12_type 0 = .ok (.aload_n 0, 1) := by decide +kernel
theorem dX12_type_1 : decode cX12_type 1 = .ok (.aload_n 0, 1) := by decide +kernel
theorem dX12_type_2 : decode cX12_type 2 = .ok (.getfield 330, 3) := by decide +kernel
theorem dX12_type_5 : decode cX12_type 5 = .ok (.bipush 60, 2) := by decide +kernel
theorem dX12_type_7 : decode cX12_type 7 = .ok (.if_icmp .ne 7, 3) := by decide +kernel
theorem dX12_type_10 : decode cX12_type 10 = .ok (.iconst 1, 1) := by decide +kernel
theorem dX12_type_11 : decode cX12_type 11 = .ok (.goto 4, 3) := by decide +kernel
theorem dX12_type_14 : decode cX12_type 14 = .ok (.iconst 0, 1) := by decide +kernel
theorem dX12_type_15 : decode cX12_type 15 = .ok (.iconst 0, 1) := by decide +kernel
theorem dX12_type_16 : decode cX12_type 16 = .ok (.iconst 0, 1) := by decide +kernel
theorem dX12_type_17 : decode cX12_type 17 = .ok (.invokevirtual 670, 3) := by decide +kernel
theorem dX12_type_20 : decode cX12_type 20 = .ok (.ifCond .eq 5, 3) := by decide +kernel
theorem dX12_type_23 : decode cX12_type 23 = .ok (.iconst 0, 1) := by decide +kernel
theorem dX12_type_24 : decode cX12_type 24 = .ok (.ireturn, 1) := by decide +kernel
theorem dX12_type_25 : decode cX12_type 25 = .ok (.aload_n 0, 1) := by decide +kernel
theorem dX12_type_26 : decode cX12_type 26 = .ok (.getfield 184, 3) := by decide +kernel
theorem dX12_type_29 : decode cX12_type 29 = .ok (.aload_n 0, 1) := by decide +kernel
theorem dX12_type_30 : decode cX12_type 30 = .ok (.getfield 330, 3) := by decide +kernel
theorem dX12_type_33 : decode cX12_type 33 = .ok (.iload_n 1, 1) := by decide +kernel
theorem dX12_type_34 : decode cX12_type 34 = .ok (.iastore, 1) := by decide +kernel
theorem dX12_type_35 : decode cX12_type 35 = .ok (.aload_n 0, 1) := by decide +kernel
theorem dX12_type_36 : decode cX12_type 36 = .ok (.dup, 1) := by decide +kernel
theorem dX12_type_37 : decode cX12_type 37 = .ok (.getfield 330, 3) := by decide +kernel
theorem dX12_type_40 : decode cX12_type 40 = .ok (.iconst 1, 1) := by decide +kernel
theorem dX12_type_41 : decode cX12_type 41 = .ok (.iadd, 1) := by decide +kernel
theorem dX12_type_42 : decode cX12_type 42 = .ok (.putfield 330, 3) := by decide +kernel
theorem dX12_type_45 : decode cX12_type 45 = .ok (.aload_n 0, 1) := by decide +kernel
theorem dX12_type_46 : decode cX12_type 46 = .ok (.getfield 330, 3) := by decide +kernel
theorem dX12_type_49 : decode cX12_type 49 = .ok (.ireturn, 1) := by decide +kernel
theorem dX12_drop_0 : decode cX12_drop 0 = .ok (.aload_n 0, 1) := by decide +kernel
theorem dX12_drop_1 : decode cX12_drop 1 = .ok (.iconst 0, 1) := by decide +kernel
theorem dX12_drop_2 : decode cX12_drop 2 = .ok (.putfield 1, 3) := by decide +kernel
theorem dX12_drop_5 : decode cX12_drop 5 = .ok (.aload_n 0, 1) := by decide +kernel
theorem dX12_drop_6 : decode cX12_drop 6 = .ok (.getfield 330, 3) := by decide +kernel
theorem dX12_drop_9 : decode cX12_drop 9 = .ok (.istore_n 1, 1) := by decide +kernel
theorem dX12_drop_10 : decode cX12_drop 10 = .ok (.aload_n 0, 1) := by decide +kernel
theorem dX12_drop_11 : decode cX12_drop 11 = .ok (.iconst 0, 1) := by decide +kernel
theorem dX12_drop_12 : decode cX12_drop 12 = .ok (.putfield 330, 3) := by decide +kernel
theorem dX12_drop_15 : decode cX12_drop 15 = .ok (.iload_n 1, 1) := by decide +kernel
theorem dX12_drop_16 : decode cX12_drop 16 = .ok (.ireturn, 1) := by decide +kernel
theorem dX12_fault_0 : decode cX12_fault 0 = .ok (.aload_n 0, 1) := by decide +kernel
theorem dX12_fault_1 : decode cX12_fault 1 = .ok (.iconst 0, 1) := by decide +kernel
theorem dX12_fault_2 : decode cX12_fault 2 = .ok (.putfield 1, 3) := by decide +kernel
theorem dX12_fault_5 : decode cX12_fault 5 = .ok (.aload_n 0, 1) := by decide +kernel
theorem dX12_fault_6 : decode cX12_fault 6 = .ok (.invokevirtual 674, 3) := by decide +kernel
theorem dX12_fault_9 : decode cX12_fault 9 = .ok (.ireturn, 1) := by decide +kernel
theorem dX12_read_0 : decode cX12_read 0 = .ok (.aload_n 0, 1) := by decide +kernel
theorem dX12_read_1 : decode cX12_read 1 = .ok (.aload_n 0, 1) := by decide +kernel
theorem dX12_read_2 : decode cX12_read 2 = .ok (.getfield 661, 3) := by decide +kernel
theorem dX12_read_5 : decode cX12_read 5 = .ok (.bipush 30, 2) := by decide +kernel
theorem dX12_read_7 : decode cX12_read 7 = .ok (.if_icmp .eq 11, 3) := by decide +kernel
theorem dX12_read_10 : decode cX12_read 10 = .ok (.aload_n 0, 1) := by decide +kernel
theorem dX12_read_11 : decode cX12_read 11 = .ok (.invokevirtual 674, 3) := by decide +kernel
theorem dX12_read_14 : decode cX12_read 14 = .ok (.iconst (-1), 1) := by decide +kernel
theorem dX12_read_15 : decode cX12_read 15 = .ok (.if_icmp .eq 7, 3) := by decide +kernel
theorem dX12_read_18 : decode cX12_read 18 = .ok (.iconst 1, 1) := by decide +kernel
theorem dX12_read_19 : decode cX12_read 19 = .ok (.goto 4, 3) := by decide +kernel
theorem dX12_read_22 : decode cX12_read 22 = .ok (.iconst 0, 1) := by decide +kernel
theorem dX12_read_23 : decode cX12_read 23 = .ok (.iconst 0, 1) := by decide +kernel
theorem dX12_read_24 : decode cX12_read 24 = .ok (.iconst 0, 1) := by decide +kernel
theorem dX12_read_25 : decode cX12_read 25 = .ok (.invokevirtual 670, 3) := by decide +kernel
theorem dX12_read_28 : decode cX12_read 28 = .ok (.ifCond .eq 5, 3) := by decide +kernel
theorem dX12_read_31 : decode cX12_read 31 = .ok (.iconst 0, 1) := by decide +kernel
theorem dX12_read_32 : decode cX12_read 32 = .ok (.ireturn, 1) := by decide +kernel
theorem dX12_read_33 : decode cX12_read 33 = .ok (.aload_n 0, 1) := by decide +kernel
theorem dX12_read_34 : decode cX12_read 34 = .ok (.sipush 13440, 3) := by decide +kernel
theorem dX12_read_37 : decode cX12_read 37 = .ok (.invokevirtual 414, 3) := by decide +kernel
theorem dX12_read_40 : decode cX12_read 40 = .ok (.istore_n 1, 1) := by decide +kernel
theorem dX12_read_41 : decode cX12_read 41 = .ok (.aload_n 0, 1) := by decide +kernel
theorem dX12_read_42 : decode cX12_read 42 = .ok (.iconst 0, 1) := by decide +kernel
theorem dX12_read_43 : decode cX12_read 43 = .ok (.putfield 330, 3) := by decide +kernel
theorem dX12_read_46 : decode cX12_read 46 = .ok (.aload_n 0, 1) := by decide +kernel
theorem dX12_read_47 : decode cX12_read 47 = .ok (.sipush 13440, 3) := by decide +kernel
theorem dX12_read_50 : decode cX12_read 50 = .ok (.iload_n 1, 1) := by decide +kernel
theorem dX12_read_51 : decode cX12_read 51 = .ok (.invokevirtual 677, 3) := by decide +kernel
theorem dX12_read_54 : decode cX12_read 54 = .ok (.ireturn, 1) := by decide +kernel
theorem dX12_trees_0 : decode cX12_trees 0 = .ok (.aload_n 0, 1) := by decide +kernel
theorem dX12_trees_1 : decode cX12_trees 1 = .ok (.iconst 0, 1) := by decide +kernel
theorem dX12_trees_2 : decode cX12_trees 2 = .ok (.putfield 1, 3) := by decide +kernel
theorem dX12_trees_5 : decode cX12_trees 5 = .ok (.aload_n 0, 1) := by decide +kernel
theorem dX12_trees_6 : decode cX12_trees 6 = .ok (.getfield 661, 3) := by decide +kernel
theorem dX12_trees_9 : decode cX12_trees 9 = .ok (.ireturn, 1) := by decide +kernel
theorem dX12_parentOf_0 : decode cX12_parentOf 0 = .ok (.iload_n 2, 1) := by decide +kernel
theorem dX12_parentOf_1 : decode cX12_parentOf 1 = .ok (.iconst 1, 1) := by decide +kernel
theorem dX12_parentOf_2 : decode cX12_parentOf 2 = .ok (.isub, 1) := by decide +kernel
theorem dX12_parentOf_3 : decode cX12_parentOf 3 = .ok (.istore_n 3, 1) := by decide +kernel
theorem dX12_parentOf_4 : decode cX12_parentOf 4 = .ok (.iload_n 3, 1) := by decide +kernel
theorem dX12_parentOf_5 : decode cX12_parentOf 5 = .ok (.iload_n 1, 1) := by decide +kernel
theorem dX12_parentOf_6 : decode cX12_parentOf 6 = .ok (.if_icmp .lt 21, 3) := by decide +kernel
theorem dX12_parentOf_9 : decode cX12_parentOf 9 = .ok (.iload_n 3, 1) := by decide +kernel
theorem dX12_parentOf_10 : decode cX12_parentOf 10 = .ok (.aload_n 0, 1) := by decide +kernel
theorem dX12_parentOf_11 : decode cX12_parentOf 11 = .ok (.getfield 147, 3) := by decide +kernel
theorem dX12_parentOf_14 : decode cX12_parentOf 14 = .ok (.iload_n 3, 1) := by decide +kernel
theorem dX12_parentOf_15 : decode cX12_parentOf 15 = .ok (.iaload, 1) := by decide +kernel
theorem dX12_parentOf_16 : decode cX12_parentOf 16 = .ok (.iadd, 1) := by decide +kernel
theorem dX12_parentOf_17 : decode cX12_parentOf 17 = .ok (.iload_n 2, 1) := by decide +kernel
theorem dX12_parentOf_18 : decode cX12_parentOf 18 = .ok (.if_icmp .gt 9, 3) := by decide +kernel
theorem dX12_parentOf_21 : decode cX12_parentOf 21 = .ok (.iinc 3 (-1), 3) := by decide +kernel
theorem dX12_parentOf_24 : decode cX12_parentOf 24 = .ok (.goto (-20), 3) := by decide +kernel
theorem dX12_parentOf_27 : decode cX12_parentOf 27 = .ok (.iload_n 3, 1) := by decide +kernel
theorem dX12_parentOf_28 : decode cX12_parentOf 28 = .ok (.iload_n 1, 1) := by decide +kernel
theorem dX12_parentOf_29 : decode cX12_parentOf 29 = .ok (.if_icmp .ge 7, 3) := by decide +kernel
theorem dX12_parentOf_32 : decode cX12_parentOf 32 = .ok (.iconst (-1), 1) := by decide +kernel
theorem dX12_parentOf_33 : decode cX12_parentOf 33 = .ok (.goto 6, 3) := by decide +kernel
theorem dX12_parentOf_36 : decode cX12_parentOf 36 = .ok (.iload_n 3, 1) := by decide +kernel
theorem dX12_parentOf_37 : decode cX12_parentOf 37 = .ok (.iload_n 1, 1) := by decide +kernel
theorem dX12_parentOf_38 : decode cX12_parentOf 38 = .ok (.isub, 1) := by decide +kernel
theorem dX12_parentOf_39 : decode cX12_parentOf 39 = .ok (.ireturn, 1) := by decide +kernel
theorem dX12_node__0 : decode cX12_node_ 0 = .ok (.aload_n 0, 1) := by decide +kernel
theorem dX12_node__1 : decode cX12_node_ 1 = .ok (.aload_n 0, 1) := by decide +kernel
theorem dX12_node__2 : decode cX12_node_ 2 = .ok (.iload_n 1, 1) := by decide +kernel
theorem dX12_node__3 : decode cX12_node_ 3 = .ok (.iload_n 2, 1) := by decide +kernel
theorem dX12_node__4 : decode cX12_node_ 4 = .ok (.invokevirtual 680, 3) := by decide +kernel
theorem dX12_node__7 : decode cX12_node_ 7 = .ok (.ifCond .ne 7, 3) := by decide +kernel
theorem dX12_node__10 : decode cX12_node_ 10 = .ok (.iconst 1, 1) := by decide +kernel
theorem dX12_node__11 : decode cX12_node_ 11 = .ok (.goto 4, 3) := by decide +kernel
theorem dX12_node__14 : decode cX12_node_ 14 = .ok (.iconst 0, 1) := by decide +kernel
theorem dX12_node__15 : decode cX12_node_ 15 = .ok (.iload_n 3, 1) := by decide +kernel
theorem dX12_node__16 : decode cX12_node_ 16 = .ok (.iconst 0, 1) := by decide +kernel
theorem dX12_node__17 : decode cX12_node_ 17 = .ok (.iconst 5, 1) := by decide +kernel
theorem dX12_node__18 : decode cX12_node_ 18 = .ok (.invokestatic 106, 3) := by decide +kernel
theorem dX12_node__21 : decode cX12_node_ 21 = .ok (.ifCond .ne 7, 3) := by decide +kernel
theorem dX12_node__24 : decode cX12_node_ 24 = .ok (.iconst 1, 1) := by decide +kernel
theorem dX12_node__25 : decode cX12_node_ 25 = .ok (.goto 4, 3) := by decide +kernel
theorem dX12_node__28 : decode cX12_node_ 28 = .ok (.iconst 0, 1) := by decide +kernel
theorem dX12_node__29 : decode cX12_node_ 29 = .ok (.iconst 0, 1) := by decide +kernel
theorem dX12_node__30 : decode cX12_node_ 30 = .ok (.invokevirtual 670, 3) := by decide +kernel
theorem dX12_node__33 : decode cX12_node_ 33 = .ok (.ifCond .eq 5, 3) := by decide +kernel
theorem dX12_node__36 : decode cX12_node_ 36 = .ok (.iconst 0, 1) := by decide +kernel
theorem dX12_node__37 : decode cX12_node_ 37 = .ok (.ireturn, 1) := by decide +kernel
theorem dX12_node__38 : decode cX12_node_ 38 = .ok (.iload_n 1, 1) := by decide +kernel
theorem dX12_node__39 : decode cX12_node_ 39 = .ok (.invokestatic 667, 3) := by decide +kernel
theorem dX12_node__42 : decode cX12_node_ 42 = .ok (.iload_n 2, 1) := by decide +kernel
theorem dX12_node__43 : decode cX12_node_ 43 = .ok (.iadd, 1) := by decide +kernel
theorem dX12_node__44 : decode cX12_node_ 44 = .ok (.istore 4, 2) := by decide +kernel
theorem dX12_node__46 : decode cX12_node_ 46 = .ok (.iload_n 3, 1) := by decide +kernel
theorem dX12_node__47 : decode cX12_node_ 47 = .ok (.tableswitch 76 0 4 #[33, 41, 49, 57, 65], 33) := by decide +kernel
theorem dX12_node__80 : decode cX12_node_ 80 = .ok (.aload_n 0, 1) := by decide +kernel
theorem dX12_node__81 : decode cX12_node_ 81 = .ok (.getfield 135, 3) := by decide +kernel
theorem dX12_node__84 : decode cX12_node_ 84 = .ok (.iload 4, 2) := by decide +kernel
theorem dX12_node__86 : decode cX12_node_ 86 = .ok (.iaload, 1) := by decide +kernel
theorem dX12_node__87 : decode cX12_node_ 87 = .ok (.ireturn, 1) := by decide +kernel
theorem dX12_node__88 : decode cX12_node_ 88 = .ok (.aload_n 0, 1) := by decide +kernel
theorem dX12_node__89 : decode cX12_node_ 89 = .ok (.getfield 138, 3) := by decide +kernel
theorem dX12_node__92 : decode cX12_node_ 92 = .ok (.iload 4, 2) := by decide +kernel
theorem dX12_node__94 : decode cX12_node_ 94 = .ok (.iaload, 1) := by decide +kernel
theorem dX12_node__95 : decode cX12_node_ 95 = .ok (.ireturn, 1) := by decide +kernel
theorem dX12_node__96 : decode cX12_node_ 96 = .ok (.aload_n 0, 1) := by decide +kernel
theorem dX12_node__97 : decode cX12_node_ 97 = .ok (.getfield 141, 3) := by decide +kernel
theorem dX12_node__100 : decode cX12_node_ 100 = .ok (.iload 4, 2) := by decide +kernel
theorem dX12_node__102 : decode cX12_node_ 102 = .ok (.iaload, 1) := by decide +kernel
theorem dX12_node__103 : decode cX12_node_ 103 = .ok (.ireturn, 1) := by decide +kernel
theorem dX12_node__104 : decode cX12_node_ 104 = .ok (.aload_n 0, 1) := by decide +kernel
theorem dX12_node__105 : decode cX12_node_ 105 = .ok (.getfield 144, 3) := by decide +kernel
theorem dX12_node__108 : decode cX12_node_ 108 = .ok (.iload 4, 2) := by decide +kernel
theorem dX12_node__110 : decode cX12_node_ 110 = .ok (.iaload, 1) := by decide +kernel
theorem dX12_node__111 : decode cX12_node_ 111 = .ok (.ireturn, 1) := by decide +kernel
theorem dX12_node__112 : decode cX12_node_ 112 = .ok (.aload_n 0, 1) := by decide +kernel
theorem dX12_node__113 : decode cX12_node_ 113 = .ok (.iload_n 1, 1) := by decide +kernel
theorem dX12_node__114 : decode cX12_node_ 114 = .ok (.invokestatic 667, 3) := by decide +kernel
theorem dX12_node__117 : decode cX12_node_ 117 = .ok (.iload 4, 2) := by decide +kernel
theorem dX12_node__119 : decode cX12_node_ 119 = .ok (.invokevirtual 683, 3) := by decide +kernel
theorem dX12_node__122 : decode cX12_node_ 122 = .ok (.ireturn, 1) := by decide +kernel
theorem dX12_node__123 : decode cX12_node_ 123 = .ok (.aload_n 0, 1) := by decide +kernel
theorem dX12_node__124 : decode cX12_node_ 124 = .ok (.getfield 147, 3) := by decide +kernel
theorem dX12_node__127 : decode cX12_node_ 127 = .ok (.iload 4, 2) := by decide +kernel
theorem dX12_node__129 : decode cX12_node_ 129 = .ok (.iaload, 1) := by decide +kernel
theorem dX12_node__130 : decode cX12_node_ 130 = .ok (.ireturn, 1) := by decide +kernel
theorem dX12_isSame_0 : decode cX12_isSame 0 = .ok (.aload_n 0, 1) := by decide +kernel
theorem dX12_isSame_1 : decode cX12_isSame 1 = .ok (.aload_n 0, 1) := by decide +kernel
theorem dX12_isSame_2 : decode cX12_isSame 2 = .ok (.iload_n 1, 1) := by decide +kernel
theorem dX12_isSame_3 : decode cX12_isSame 3 = .ok (.invokevirtual 664, 3) := by decide +kernel
theorem dX12_isSame_6 : decode cX12_isSame 6 = .ok (.ifCond .eq 11, 3) := by decide +kernel
theorem dX12_isSame_9 : decode cX12_isSame 9 = .ok (.aload_n 0, 1) := by decide +kernel
theorem dX12_isSame_10 : decode cX12_isSame 10 = .ok (.iload_n 2, 1) := by decide +kernel
theorem dX12_isSame_11 : decode cX12_isSame 11 = .ok (.invokevirtual 664, 3) := by decide +kernel
theorem dX12_isSame_14 : decode cX12_isSame 14 = .ok (.ifCond .ne 7, 3) := by decide +kernel
theorem dX12_isSame_17 : decode cX12_isSame 17 = .ok (.iconst 1, 1) := by decide +kernel
theorem dX12_isSame_18 : decode cX12_isSame 18 = .ok (.goto 4, 3) := by decide +kernel
theorem dX12_isSame_21 : decode cX12_isSame 21 = .ok (.iconst 0, 1) := by decide +kernel
theorem dX12_isSame_22 : decode cX12_isSame 22 = .ok (.iconst 0, 1) := by decide +kernel
theorem dX12_isSame_23 : decode cX12_isSame 23 = .ok (.iconst 0, 1) := by decide +kernel
theorem dX12_isSame_24 : decode cX12_isSame 24 = .ok (.invokevirtual 670, 3) := by decide +kernel
theorem dX12_isSame_27 : decode cX12_isSame 27 = .ok (.ifCond .ne 22, 3) := by decide +kernel
theorem dX12_isSame_30 : decode cX12_isSame 30 = .ok (.aload_n 0, 1) := by decide +kernel
theorem dX12_isSame_31 : decode cX12_isSame 31 = .ok (.iload_n 1, 1) := by decide +kernel
theorem dX12_isSame_32 : decode cX12_isSame 32 = .ok (.invokestatic 667, 3) := by decide +kernel
theorem dX12_isSame_35 : decode cX12_isSame 35 = .ok (.iload_n 2, 1) := by decide +kernel
theorem dX12_isSame_36 : decode cX12_isSame 36 = .ok (.invokestatic 667, 3) := by decide +kernel
theorem dX12_isSame_39 : decode cX12_isSame 39 = .ok (.invokevirtual 417, 3) := by decide +kernel
theorem dX12_isSame_42 : decode cX12_isSame 42 = .ok (.ifCond .eq 7, 3) := by decide +kernel
theorem dX12_isSame_45 : decode cX12_isSame 45 = .ok (.iconst 1, 1) := by decide +kernel
theorem dX12_isSame_46 : decode cX12_isSame 46 = .ok (.goto 4, 3) := by decide +kernel
theorem dX12_isSame_49 : decode cX12_isSame 49 = .ok (.iconst 0, 1) := by decide +kernel
theorem dX12_isSame_50 : decode cX12_isSame 50 = .ok (.ireturn, 1) := by decide +kernel
theorem dX12_part_0 : decode cX12_part 0 = .ok (.aload_n 0, 1) := by decide +kernel
theorem dX12_part_1 : decode cX12_part 1 = .ok (.aload_n 0, 1) := by decide +kernel
theorem dX12_part_2 : decode cX12_part 2 = .ok (.iload_n 1, 1) := by decide +kernel
theorem dX12_part_3 : decode cX12_part 3 = .ok (.iload_n 2, 1) := by decide +kernel
theorem dX12_part_4 : decode cX12_part 4 = .ok (.invokevirtual 680, 3) := by decide +kernel
theorem dX12_part_7 : decode cX12_part 7 = .ok (.ifCond .ne 7, 3) := by decide +kernel
theorem dX12_part_10 : decode cX12_part 10 = .ok (.iconst 1, 1) := by decide +kernel
theorem dX12_part_11 : decode cX12_part 11 = .ok (.goto 4, 3) := by decide +kernel
theorem dX12_part_14 : decode cX12_part 14 = .ok (.iconst 0, 1) := by decide +kernel
theorem dX12_part_15 : decode cX12_part 15 = .ok (.aload_n 0, 1) := by decide +kernel
theorem dX12_part_16 : decode cX12_part 16 = .ok (.getfield 661, 3) := by decide +kernel
theorem dX12_part_19 : decode cX12_part 19 = .ok (.bipush 30, 2) := by decide +kernel
theorem dX12_part_21 : decode cX12_part 21 = .ok (.if_icmp .ne 7, 3) := by decide +kernel
theorem dX12_part_24 : decode cX12_part 24 = .ok (.iconst 1, 1) := by decide +kernel
theorem dX12_part_25 : decode cX12_part 25 = .ok (.goto 4, 3) := by decide +kernel
theorem dX12_part_28 : decode cX12_part 28 = .ok (.iconst 0, 1) := by decide +kernel
theorem dX12_part_29 : decode cX12_part 29 = .ok (.iconst 0, 1) := by decide +kernel
theorem dX12_part_30 : decode cX12_part 30 = .ok (.invokevirtual 670, 3) := by decide +kernel
theorem dX12_part_33 : decode cX12_part 33 = .ok (.ifCond .eq 5, 3) := by decide +kernel
theorem dX12_part_36 : decode cX12_part 36 = .ok (.iconst 0, 1) := by decide +kernel
theorem dX12_part_37 : decode cX12_part 37 = .ok (.ireturn, 1) := by decide +kernel
theorem dX12_part_38 : decode cX12_part 38 = .ok (.aload_n 0, 1) := by decide +kernel
theorem dX12_part_39 : decode cX12_part 39 = .ok (.iload_n 1, 1) := by decide +kernel
theorem dX12_part_40 : decode cX12_part 40 = .ok (.invokestatic 667, 3) := by decide +kernel
theorem dX12_part_43 : decode cX12_part 43 = .ok (.iload_n 2, 1) := by decide +kernel
theorem dX12_part_44 : decode cX12_part 44 = .ok (.iadd, 1) := by decide +kernel
theorem dX12_part_45 : decode cX12_part 45 = .ok (.aload_n 0, 1) := by decide +kernel
theorem dX12_part_46 : decode cX12_part 46 = .ok (.getfield 147, 3) := by decide +kernel
theorem dX12_part_49 : decode cX12_part 49 = .ok (.iload_n 1, 1) := by decide +kernel
theorem dX12_part_50 : decode cX12_part 50 = .ok (.invokestatic 667, 3) := by decide +kernel
theorem dX12_part_53 : decode cX12_part 53 = .ok (.iload_n 2, 1) := by decide +kernel
theorem dX12_part_54 : decode cX12_part 54 = .ok (.iadd, 1) := by decide +kernel
theorem dX12_part_55 : decode cX12_part 55 = .ok (.iaload, 1) := by decide +kernel
theorem dX12_part_56 : decode cX12_part 56 = .ok (.invokevirtual 677, 3) := by decide +kernel
theorem dX12_part_59 : decode cX12_part 59 = .ok (.ireturn, 1) := by decide +kernel
theorem dX12_isRange_0 : decode cX12_isRange 0 = .ok (.iload_n 2, 1) := by decide +kernel
theorem dX12_isRange_1 : decode cX12_isRange 1 = .ok (.iload_n 1, 1) := by decide +kernel
theorem dX12_isRange_2 : decode cX12_isRange 2 = .ok (.if_icmp .le 43, 3) := by decide +kernel
theorem dX12_isRange_5 : decode cX12_isRange 5 = .ok (.aload_n 0, 1) := by decide +kernel
theorem dX12_isRange_6 : decode cX12_isRange 6 = .ok (.getfield 135, 3) := by decide +kernel
theorem dX12_isRange_9 : decode cX12_isRange 9 = .ok (.iload_n 2, 1) := by decide +kernel
theorem dX12_isRange_10 : decode cX12_isRange 10 = .ok (.iconst 1, 1) := by decide +kernel
theorem dX12_isRange_11 : decode cX12_isRange 11 = .ok (.isub, 1) := by decide +kernel
theorem dX12_isRange_12 : decode cX12_isRange 12 = .ok (.iaload, 1) := by decide +kernel
theorem dX12_isRange_13 : decode cX12_isRange 13 = .ok (.iconst 2, 1) := by decide +kernel
theorem dX12_isRange_14 : decode cX12_isRange 14 = .ok (.if_icmp .ne 31, 3) := by decide +kernel
theorem dX12_isRange_17 : decode cX12_isRange 17 = .ok (.aload_n 0, 1) := by decide +kernel
theorem dX12_isRange_18 : decode cX12_isRange 18 = .ok (.getfield 138, 3) := by decide +kernel
theorem dX12_isRange_21 : decode cX12_isRange 21 = .ok (.iload_n 2, 1) := by decide +kernel
theorem dX12_isRange_22 : decode cX12_isRange 22 = .ok (.iconst 1, 1) := by decide +kernel
theorem dX12_isRange_23 : decode cX12_isRange 23 = .ok (.isub, 1) := by decide +kernel
theorem dX12_isRange_24 : decode cX12_isRange 24 = .ok (.iaload, 1) := by decide +kernel
theorem dX12_isRange_25 : decode cX12_isRange 25 = .ok (.bipush 115, 2) := by decide +kernel
theorem dX12_isRange_27 : decode cX12_isRange 27 = .ok (.if_icmp .ne 18, 3) := by decide +kernel
theorem dX12_isRange_30 : decode cX12_isRange 30 = .ok (.aload_n 0, 1) := by decide +kernel
theorem dX12_isRange_31 : decode cX12_isRange 31 = .ok (.getfield 144, 3) := by decide +kernel
theorem dX12_isRange_34 : decode cX12_isRange 34 = .ok (.iload_n 2, 1) := by decide +kernel
theorem dX12_isRange_35 : decode cX12_isRange 35 = .ok (.iconst 1, 1) := by decide +kernel
theorem dX12_isRange_36 : decode cX12_isRange 36 = .ok (.isub, 1) := by decide +kernel
theorem dX12_isRange_37 : decode cX12_isRange 37 = .ok (.iaload, 1) := by decide +kernel
theorem dX12_isRange_38 : decode cX12_isRange 38 = .ok (.ifCond .le 7, 3) := by decide +kernel
theorem dX12_isRange_41 : decode cX12_isRange 41 = .ok (.iconst 1, 1) := by decide +kernel
theorem dX12_isRange_42 : decode cX12_isRange 42 = .ok (.goto 4, 3) := by decide +kernel
theorem dX12_isRange_45 : decode cX12_isRange 45 = .ok (.iconst 0, 1) := by decide +kernel
theorem dX12_isRange_46 : decode cX12_isRange 46 = .ok (.ireturn, 1) := by decide +kernel
theorem dX12_grafted_0 : decode cX12_grafted 0 = .ok (.iconst 0, 1) := by decide +kernel
theorem dX12_grafted_1 : decode cX12_grafted 1 = .ok (.istore 4, 2) := by decide +kernel
theorem dX12_grafted_3 : decode cX12_grafted 3 = .ok (.iload_n 1, 1) := by decide +kernel
theorem dX12_grafted_4 : decode cX12_grafted 4 = .ok (.istore 5, 2) := by decide +kernel
theorem dX12_grafted_6 : decode cX12_grafted 6 = .ok (.iload 5, 2) := by decide +kernel
theorem dX12_grafted_8 : decode cX12_grafted 8 = .ok (.iload_n 1, 1) := by decide +kernel
theorem dX12_grafted_9 : decode cX12_grafted 9 = .ok (.aload_n 0, 1) := by decide +kernel
theorem dX12_grafted_10 : decode cX12_grafted 10 = .ok (.getfield 147, 3) := by decide +kernel
theorem dX12_grafted_13 : decode cX12_grafted 13 = .ok (.iload_n 1, 1) := by decide +kernel
theorem dX12_grafted_14 : decode cX12_grafted 14 = .ok (.iaload, 1) := by decide +kernel
theorem dX12_grafted_15 : decode cX12_grafted 15 = .ok (.iadd, 1) := by decide +kernel
theorem dX12_grafted_16 : decode cX12_grafted 16 = .ok (.if_icmp .ge 108, 3) := by decide +kernel
theorem dX12_grafted_19 : decode cX12_grafted 19 = .ok (.aload_n 0, 1) := by decide +kernel
theorem dX12_grafted_20 : decode cX12_grafted 20 = .ok (.getfield 135, 3) := by decide +kernel
theorem dX12_grafted_23 : decode cX12_grafted 23 = .ok (.iload 5, 2) := by decide +kernel
theorem dX12_grafted_25 : decode cX12_grafted 25 = .ok (.iaload, 1) := by decide +kernel
theorem dX12_grafted_26 : decode cX12_grafted 26 = .ok (.iconst 1, 1) := by decide +kernel
theorem dX12_grafted_27 : decode cX12_grafted 27 = .ok (.if_icmp .ne 28, 3) := by decide +kernel
theorem dX12_grafted_30 : decode cX12_grafted 30 = .ok (.aload_n 0, 1) := by decide +kernel
theorem dX12_grafted_31 : decode cX12_grafted 31 = .ok (.getfield 138, 3) := by decide +kernel
theorem dX12_grafted_34 : decode cX12_grafted 34 = .ok (.iload 5, 2) := by decide +kernel
theorem dX12_grafted_36 : decode cX12_grafted 36 = .ok (.iaload, 1) := by decide +kernel
theorem dX12_grafted_37 : decode cX12_grafted 37 = .ok (.iload_n 2, 1) := by decide +kernel
theorem dX12_grafted_38 : decode cX12_grafted 38 = .ok (.if_icmp .ne 17, 3) := by decide +kernel
theorem dX12_grafted_41 : decode cX12_grafted 41 = .ok (.aload_n 0, 1) := by decide +kernel
theorem dX12_grafted_42 : decode cX12_grafted 42 = .ok (.iload_n 1, 1) := by decide +kernel
theorem dX12_grafted_43 : decode cX12_grafted 43 = .ok (.iload 5, 2) := by decide +kernel
theorem dX12_grafted_45 : decode cX12_grafted 45 = .ok (.invokevirtual 686, 3) := by decide +kernel
theorem dX12_grafted_48 : decode cX12_grafted 48 = .ok (.ifCond .ne 7, 3) := by decide +kernel
theorem dX12_grafted_51 : decode cX12_grafted 51 = .ok (.iconst 1, 1) := by decide +kernel
theorem dX12_grafted_52 : decode cX12_grafted 52 = .ok (.goto 4, 3) := by decide +kernel
theorem dX12_grafted_55 : decode cX12_grafted 55 = .ok (.iconst 0, 1) := by decide +kernel
theorem dX12_grafted_56 : decode cX12_grafted 56 = .ok (.istore 6, 2) := by decide +kernel
theorem dX12_grafted_58 : decode cX12_grafted 58 = .ok (.iload 6, 2) := by decide +kernel
theorem dX12_grafted_60 : decode cX12_grafted 60 = .ok (.ifCond .eq 12, 3) := by decide +kernel
theorem dX12_grafted_63 : decode cX12_grafted 63 = .ok (.aload_n 0, 1) := by decide +kernel
theorem dX12_grafted_64 : decode cX12_grafted 64 = .ok (.getfield 147, 3) := by decide +kernel
theorem dX12_grafted_67 : decode cX12_grafted 67 = .ok (.iload_n 3, 1) := by decide +kernel
theorem dX12_grafted_68 : decode cX12_grafted 68 = .ok (.iaload, 1) := by decide +kernel
theorem dX12_grafted_69 : decode cX12_grafted 69 = .ok (.goto 4, 3) := by decide +kernel
theorem dX12_grafted_72 : decode cX12_grafted 72 = .ok (.iconst 1, 1) := by decide +kernel
theorem dX12_grafted_73 : decode cX12_grafted 73 = .ok (.istore 7, 2) := by decide +kernel
theorem dX12_grafted_75 : decode cX12_grafted 75 = .ok (.iload 4, 2) := by decide +kernel
theorem dX12_grafted_77 : decode cX12_grafted 77 = .ok (.iload 7, 2) := by decide +kernel
theorem dX12_grafted_79 : decode cX12_grafted 79 = .ok (.iadd, 1) := by decide +kernel
theorem dX12_grafted_80 : decode cX12_grafted 80 = .ok (.bipush 80, 2) := by decide +kernel
theorem dX12_grafted_82 : decode cX12_grafted 82 = .ok (.if_icmp .le 6, 3) := by decide +kernel
theorem dX12_grafted_85 : decode cX12_grafted 85 = .ok (.bipush 81, 2) := by decide +kernel
theorem dX12_grafted_87 : decode cX12_grafted 87 = .ok (.ireturn, 1) := by decide +kernel
theorem dX12_grafted_88 : decode cX12_grafted 88 = .ok (.aload_n 0, 1) := by decide +kernel
theorem dX12_grafted_89 : decode cX12_grafted 89 = .ok (.sipush 13540, 3) := by decide +kernel
theorem dX12_grafted_92 : decode cX12_grafted 92 = .ok (.iload 4, 2) := by decide +kernel
theorem dX12_grafted_94 : decode cX12_grafted 94 = .ok (.iadd, 1) := by decide +kernel
theorem dX12_grafted_95 : decode cX12_grafted 95 = .ok (.iload 6, 2) := by decide +kernel
theorem dX12_grafted_97 : decode cX12_grafted 97 = .ok (.ifCond .eq 7, 3) := by decide +kernel
theorem dX12_grafted_100 : decode cX12_grafted 100 = .ok (.iload_n 3, 1) := by decide +kernel
theorem dX12_grafted_101 : decode cX12_grafted 101 = .ok (.goto 5, 3) := by decide +kernel
theorem dX12_grafted_104 : decode cX12_grafted 104 = .ok (.iload 5, 2) := by decide +kernel
theorem dX12_grafted_106 : decode cX12_grafted 106 = .ok (.iload 7, 2) := by decide +kernel
theorem dX12_grafted_108 : decode cX12_grafted 108 = .ok (.invokevirtual 515, 3) := by decide +kernel
theorem dX12_grafted_111 : decode cX12_grafted 111 = .ok (.iload 4, 2) := by decide +kernel
theorem dX12_grafted_113 : decode cX12_grafted 113 = .ok (.iload 7, 2) := by decide +kernel
theorem dX12_grafted_115 : decode cX12_grafted 115 = .ok (.iadd, 1) := by decide +kernel
theorem dX12_grafted_116 : decode cX12_grafted 116 = .ok (.istore 4, 2) := by decide +kernel
theorem dX12_grafted_118 : decode cX12_grafted 118 = .ok (.iinc 5 1, 3) := by decide +kernel
theorem dX12_grafted_121 : decode cX12_grafted 121 = .ok (.goto (-115), 3) := by decide +kernel
theorem dX12_grafted_124 : decode cX12_grafted 124 = .ok (.iload 4, 2) := by decide +kernel
theorem dX12_grafted_126 : decode cX12_grafted 126 = .ok (.ireturn, 1) := by decide +kernel
theorem dX12_graft_0 : decode cX12_graft 0 = .ok (.aload_n 0, 1) := by decide +kernel
theorem dX12_graft_1 : decode cX12_graft 1 = .ok (.aload_n 0, 1) := by decide +kernel
theorem dX12_graft_2 : decode cX12_graft 2 = .ok (.iload_n 1, 1) := by decide +kernel
theorem dX12_graft_3 : decode cX12_graft 3 = .ok (.invokevirtual 664, 3) := by decide +kernel
theorem dX12_graft_6 : decode cX12_graft 6 = .ok (.ifCond .eq 11, 3) := by decide +kernel
theorem dX12_graft_9 : decode cX12_graft 9 = .ok (.aload_n 0, 1) := by decide +kernel
theorem dX12_graft_10 : decode cX12_graft 10 = .ok (.iload_n 3, 1) := by decide +kernel
theorem dX12_graft_11 : decode cX12_graft 11 = .ok (.invokevirtual 664, 3) := by decide +kernel
theorem dX12_graft_14 : decode cX12_graft 14 = .ok (.ifCond .ne 7, 3) := by decide +kernel
theorem dX12_graft_17 : decode cX12_graft 17 = .ok (.iconst 1, 1) := by decide +kernel
theorem dX12_graft_18 : decode cX12_graft 18 = .ok (.goto 4, 3) := by decide +kernel
theorem dX12_graft_21 : decode cX12_graft 21 = .ok (.iconst 0, 1) := by decide +kernel
theorem dX12_graft_22 : decode cX12_graft 22 = .ok (.iload_n 2, 1) := by decide +kernel
theorem dX12_graft_23 : decode cX12_graft 23 = .ok (.invokestatic 689, 3) := by decide +kernel
theorem dX12_graft_26 : decode cX12_graft 26 = .ok (.ifCond .ne 7, 3) := by decide +kernel
theorem dX12_graft_29 : decode cX12_graft 29 = .ok (.iconst 1, 1) := by decide +kernel
theorem dX12_graft_30 : decode cX12_graft 30 = .ok (.goto 4, 3) := by decide +kernel
theorem dX12_graft_33 : decode cX12_graft 33 = .ok (.iconst 0, 1) := by decide +kernel
theorem dX12_graft_34 : decode cX12_graft 34 = .ok (.iconst 0, 1) := by decide +kernel
theorem dX12_graft_35 : decode cX12_graft 35 = .ok (.invokevirtual 670, 3) := by decide +kernel
theorem dX12_graft_38 : decode cX12_graft 38 = .ok (.ifCond .eq 5, 3) := by decide +kernel
theorem dX12_graft_41 : decode cX12_graft 41 = .ok (.iconst 0, 1) := by decide +kernel
theorem dX12_graft_42 : decode cX12_graft 42 = .ok (.ireturn, 1) := by decide +kernel
theorem dX12_graft_43 : decode cX12_graft 43 = .ok (.aload_n 0, 1) := by decide +kernel
theorem dX12_graft_44 : decode cX12_graft 44 = .ok (.iload_n 1, 1) := by decide +kernel
theorem dX12_graft_45 : decode cX12_graft 45 = .ok (.invokestatic 667, 3) := by decide +kernel
theorem dX12_graft_48 : decode cX12_graft 48 = .ok (.iload_n 2, 1) := by decide +kernel
theorem dX12_graft_49 : decode cX12_graft 49 = .ok (.iload_n 3, 1) := by decide +kernel
theorem dX12_graft_50 : decode cX12_graft 50 = .ok (.invokestatic 667, 3) := by decide +kernel
theorem dX12_graft_53 : decode cX12_graft 53 = .ok (.invokevirtual 692, 3) := by decide +kernel
theorem dX12_graft_56 : decode cX12_graft 56 = .ok (.istore 4, 2) := by decide +kernel
theorem dX12_graft_58 : decode cX12_graft 58 = .ok (.aload_n 0, 1) := by decide +kernel
theorem dX12_graft_59 : decode cX12_graft 59 = .ok (.iconst 0, 1) := by decide +kernel
theorem dX12_graft_60 : decode cX12_graft 60 = .ok (.iconst 0, 1) := by decide +kernel
theorem dX12_graft_61 : decode cX12_graft 61 = .ok (.aload_n 0, 1) := by decide +kernel
theorem dX12_graft_62 : decode cX12_graft 62 = .ok (.getfield 661, 3) := by decide +kernel
theorem dX12_graft_65 : decode cX12_graft 65 = .ok (.bipush 30, 2) := by decide +kernel
theorem dX12_graft_67 : decode cX12_graft 67 = .ok (.if_icmp .eq 10, 3) := by decide +kernel
theorem dX12_graft_70 : decode cX12_graft 70 = .ok (.iload 4, 2) := by decide +kernel
theorem dX12_graft_72 : decode cX12_graft 72 = .ok (.bipush 80, 2) := by decide +kernel
theorem dX12_graft_74 : decode cX12_graft 74 = .ok (.if_icmp .le 7, 3) := by decide +kernel
theorem dX12_graft_77 : decode cX12_graft 77 = .ok (.iconst 1, 1) := by decide +kernel
theorem dX12_graft_78 : decode cX12_graft 78 = .ok (.goto 4, 3) := by decide +kernel
theorem dX12_graft_81 : decode cX12_graft 81 = .ok (.iconst 0, 1) := by decide +kernel
theorem dX12_graft_82 : decode cX12_graft 82 = .ok (.invokevirtual 670, 3) := by decide +kernel
theorem dX12_graft_85 : decode cX12_graft 85 = .ok (.ifCond .eq 5, 3) := by decide +kernel
theorem dX12_graft_88 : decode cX12_graft 88 = .ok (.iconst 0, 1) := by decide +kernel
theorem dX12_graft_89 : decode cX12_graft 89 = .ok (.ireturn, 1) := by decide +kernel
theorem dX12_graft_90 : decode cX12_graft 90 = .ok (.aload_n 0, 1) := by decide +kernel
theorem dX12_graft_91 : decode cX12_graft 91 = .ok (.sipush 13540, 3) := by decide +kernel
theorem dX12_graft_94 : decode cX12_graft 94 = .ok (.iload 4, 2) := by decide +kernel
theorem dX12_graft_96 : decode cX12_graft 96 = .ok (.invokevirtual 677, 3) := by decide +kernel
theorem dX12_graft_99 : decode cX12_graft 99 = .ok (.ireturn, 1) := by decide +kernel
theorem dX12_isMeaning_0 : decode cX12_isMeaning 0 = .ok (.iload_n 1, 1) := by decide +kernel
theorem dX12_isMeaning_1 : decode cX12_isMeaning 1 = .ok (.bipush 100, 2) := by decide +kernel
theorem dX12_isMeaning_3 : decode cX12_isMeaning 3 = .ok (.bipush 125, 2) := by decide +kernel
theorem dX12_isMeaning_5 : decode cX12_isMeaning 5 = .ok (.invokestatic 106, 3) := by decide +kernel
theorem dX12_isMeaning_8 : decode cX12_isMeaning 8 = .ok (.ifCond .eq 19, 3) := by decide +kernel
theorem dX12_isMeaning_11 : decode cX12_isMeaning 11 = .ok (.iload_n 1, 1) := by decide +kernel
theorem dX12_isMeaning_12 : decode cX12_isMeaning 12 = .ok (.bipush 108, 2) := by decide +kernel
theorem dX12_isMeaning_14 : decode cX12_isMeaning 14 = .ok (.if_icmp .eq 13, 3) := by decide +kernel
theorem dX12_isMeaning_17 : decode cX12_isMeaning 17 = .ok (.iload_n 1, 1) := by decide +kernel
theorem dX12_isMeaning_18 : decode cX12_isMeaning 18 = .ok (.bipush 118, 2) := by decide +kernel
theorem dX12_isMeaning_20 : decode cX12_isMeaning 20 = .ok (.if_icmp .eq 7, 3) := by decide +kernel
theorem dX12_isMeaning_23 : decode cX12_isMeaning 23 = .ok (.iconst 1, 1) := by decide +kernel
theorem dX12_isMeaning_24 : decode cX12_isMeaning 24 = .ok (.goto 4, 3) := by decide +kernel
theorem dX12_isMeaning_27 : decode cX12_isMeaning 27 = .ok (.iconst 0, 1) := by decide +kernel
theorem dX12_isMeaning_28 : decode cX12_isMeaning 28 = .ok (.istore_n 2, 1) := by decide +kernel
theorem dX12_isMeaning_29 : decode cX12_isMeaning 29 = .ok (.iload_n 2, 1) := by decide +kernel
theorem dX12_isMeaning_30 : decode cX12_isMeaning 30 = .ok (.ifCond .ne 32, 3) := by decide +kernel
theorem dX12_isMeaning_33 : decode cX12_isMeaning 33 = .ok (.iload_n 0, 1) := by decide +kernel
theorem dX12_isMeaning_34 : decode cX12_isMeaning 34 = .ok (.iconst 2, 1) := by decide +kernel
theorem dX12_isMeaning_35 : decode cX12_isMeaning 35 = .ok (.if_icmp .ne 16, 3) := by decide +kernel
theorem dX12_isMeaning_38 : decode cX12_isMeaning 38 = .ok (.iload_n 1, 1) := by decide +kernel
theorem dX12_isMeaning_39 : decode cX12_isMeaning 39 = .ok (.iconst 0, 1) := by decide +kernel
theorem dX12_isMeaning_40 : decode cX12_isMeaning 40 = .ok (.bipush 10, 2) := by decide +kernel
theorem dX12_isMeaning_42 : decode cX12_isMeaning 42 = .ok (.invokestatic 106, 3) := by decide +kernel
theorem dX12_isMeaning_45 : decode cX12_isMeaning 45 = .ok (.ifCond .eq 21, 3) := by decide +kernel
theorem dX12_isMeaning_48 : decode cX12_isMeaning 48 = .ok (.goto 14, 3) := by decide +kernel
theorem dX12_isMeaning_51 : decode cX12_isMeaning 51 = .ok (.iload_n 1, 1) := by decide +kernel
theorem dX12_isMeaning_52 : decode cX12_isMeaning 52 = .ok (.bipush 11, 2) := by decide +kernel
theorem dX12_isMeaning_54 : decode cX12_isMeaning 54 = .ok (.bipush 13, 2) := by decide +kernel
theorem dX12_isMeaning_56 : decode cX12_isMeaning 56 = .ok (.invokestatic 106, 3) := by decide +kernel
theorem dX12_isMeaning_59 : decode cX12_isMeaning 59 = .ok (.ifCond .eq 7, 3) := by decide +kernel
theorem dX12_isMeaning_62 : decode cX12_isMeaning 62 = .ok (.iconst 1, 1) := by decide +kernel
theorem dX12_isMeaning_63 : decode cX12_isMeaning 63 = .ok (.goto 4, 3) := by decide +kernel
theorem dX12_isMeaning_66 : decode cX12_isMeaning 66 = .ok (.iconst 0, 1) := by decide +kernel
theorem dX12_isMeaning_67 : decode cX12_isMeaning 67 = .ok (.ireturn, 1) := by decide +kernel
theorem dX12_isOther_0 : decode cX12_isOther 0 = .ok (.iconst 0, 1) := by decide +kernel
theorem dX12_isOther_1 : decode cX12_isOther 1 = .ok (.istore 4, 2) := by decide +kernel
theorem dX12_isOther_3 : decode cX12_isOther 3 = .ok (.iconst 0, 1) := by decide +kernel
theorem dX12_isOther_4 : decode cX12_isOther 4 = .ok (.istore 5, 2) := by decide +kernel
theorem dX12_isOther_6 : decode cX12_isOther 6 = .ok (.iload 5, 2) := by decide +kernel
theorem dX12_isOther_8 : decode cX12_isOther 8 = .ok (.bipush 16, 2) := by decide +kernel
theorem dX12_isOther_10 : decode cX12_isOther 10 = .ok (.if_icmp .ge 57, 3) := by decide +kernel
theorem dX12_isOther_13 : decode cX12_isOther 13 = .ok (.iload 4, 2) := by decide +kernel
theorem dX12_isOther_15 : decode cX12_isOther 15 = .ok (.ifCond .ne 39, 3) := by decide +kernel
theorem dX12_isOther_18 : decode cX12_isOther 18 = .ok (.iload 5, 2) := by decide +kernel
theorem dX12_isOther_20 : decode cX12_isOther 20 = .ok (.iload_n 1, 1) := by decide +kernel
theorem dX12_isOther_21 : decode cX12_isOther 21 = .ok (.if_icmp .eq 37, 3) := by decide +kernel
theorem dX12_isOther_24 : decode cX12_isOther 24 = .ok (.aload_n 0, 1) := by decide +kernel
theorem dX12_isOther_25 : decode cX12_isOther 25 = .ok (.getfield 153, 3) := by decide +kernel
theorem dX12_isOther_28 : decode cX12_isOther 28 = .ok (.iconst 3, 1) := by decide +kernel
theorem dX12_isOther_29 : decode cX12_isOther 29 = .ok (.iload 5, 2) := by decide +kernel
theorem dX12_isOther_31 : decode cX12_isOther 31 = .ok (.imul, 1) := by decide +kernel
theorem dX12_isOther_32 : decode cX12_isOther 32 = .ok (.iconst 2, 1) := by decide +kernel
theorem dX12_isOther_33 : decode cX12_isOther 33 = .ok (.iadd, 1) := by decide +kernel
theorem dX12_isOther_34 : decode cX12_isOther 34 = .ok (.iaload, 1) := by decide +kernel
theorem dX12_isOther_35 : decode cX12_isOther 35 = .ok (.iload_n 2, 1) := by decide +kernel
theorem dX12_isOther_36 : decode cX12_isOther 36 = .ok (.if_icmp .ne 22, 3) := by decide +kernel
theorem dX12_isOther_39 : decode cX12_isOther 39 = .ok (.aload_n 0, 1) := by decide +kernel
theorem dX12_isOther_40 : decode cX12_isOther 40 = .ok (.getfield 159, 3) := by decide +kernel
theorem dX12_isOther_43 : decode cX12_isOther 43 = .ok (.iconst 3, 1) := by decide +kernel
theorem dX12_isOther_44 : decode cX12_isOther 44 = .ok (.iload 5, 2) := by decide +kernel
theorem dX12_isOther_46 : decode cX12_isOther 46 = .ok (.imul, 1) := by decide +kernel
theorem dX12_isOther_47 : decode cX12_isOther 47 = .ok (.iconst 2, 1) := by decide +kernel
theorem dX12_isOther_48 : decode cX12_isOther 48 = .ok (.iadd, 1) := by decide +kernel
theorem dX12_isOther_49 : decode cX12_isOther 49 = .ok (.iaload, 1) := by decide +kernel
theorem dX12_isOther_50 : decode cX12_isOther 50 = .ok (.iload_n 3, 1) := by decide +kernel
theorem dX12_isOther_51 : decode cX12_isOther 51 = .ok (.if_icmp .eq 7, 3) := by decide +kernel
theorem dX12_isOther_54 : decode cX12_isOther 54 = .ok (.iconst 1, 1) := by decide +kernel
theorem dX12_isOther_55 : decode cX12_isOther 55 = .ok (.goto 4, 3) := by decide +kernel
theorem dX12_isOther_58 : decode cX12_isOther 58 = .ok (.iconst 0, 1) := by decide +kernel
theorem dX12_isOther_59 : decode cX12_isOther 59 = .ok (.istore 4, 2) := by decide +kernel
theorem dX12_isOther_61 : decode cX12_isOther 61 = .ok (.iinc 5 1, 3) := by decide +kernel
theorem dX12_isOther_64 : decode cX12_isOther 64 = .ok (.goto (-58), 3) := by decide +kernel
theorem dX12_isOther_67 : decode cX12_isOther 67 = .ok (.iload 4, 2) := by decide +kernel
theorem dX12_isOther_69 : decode cX12_isOther 69 = .ok (.ireturn, 1) := by decide +kernel
theorem dX12_tell_0 : decode cX12_tell 0 = .ok (.iload_n 1, 1) := by decide +kernel
theorem dX12_tell_1 : decode cX12_tell 1 = .ok (.invokestatic 156, 3) := by decide +kernel
theorem dX12_tell_4 : decode cX12_tell 4 = .ok (.istore 6, 2) := by decide +kernel
theorem dX12_tell_6 : decode cX12_tell 6 = .ok (.iload 6, 2) := by decide +kernel
theorem dX12_tell_8 : decode cX12_tell 8 = .ok (.iconst (-1), 1) := by decide +kernel
theorem dX12_tell_9 : decode cX12_tell 9 = .ok (.if_icmp .eq 54, 3) := by decide +kernel
theorem dX12_tell_12 : decode cX12_tell 12 = .ok (.iload_n 2, 1) := by decide +kernel
theorem dX12_tell_13 : decode cX12_tell 13 = .ok (.iconst 0, 1) := by decide +kernel
theorem dX12_tell_14 : decode cX12_tell 14 = .ok (.iconst 2, 1) := by decide +kernel
theorem dX12_tell_15 : decode cX12_tell 15 = .ok (.invokestatic 106, 3) := by decide +kernel
theorem dX12_tell_18 : decode cX12_tell 18 = .ok (.ifCond .eq 45, 3) := by decide +kernel
theorem dX12_tell_21 : decode cX12_tell 21 = .ok (.iload_n 3, 1) := by decide +kernel
theorem dX12_tell_22 : decode cX12_tell 22 = .ok (.iconst 1, 1) := by decide +kernel
theorem dX12_tell_23 : decode cX12_tell 23 = .ok (.bipush 9, 2) := by decide +kernel
theorem dX12_tell_25 : decode cX12_tell 25 = .ok (.invokestatic 106, 3) := by decide +kernel
theorem dX12_tell_28 : decode cX12_tell 28 = .ok (.ifCond .eq 35, 3) := by decide +kernel
theorem dX12_tell_31 : decode cX12_tell 31 = .ok (.iload 4, 2) := by decide +kernel
theorem dX12_tell_33 : decode cX12_tell 33 = .ok (.iconst 0, 1) := by decide +kernel
theorem dX12_tell_34 : decode cX12_tell 34 = .ok (.iload_n 2, 1) := by decide +kernel
theorem dX12_tell_35 : decode cX12_tell 35 = .ok (.iconst 2, 1) := by decide +kernel
theorem dX12_tell_36 : decode cX12_tell 36 = .ok (.if_icmp .ne 7, 3) := by decide +kernel
theorem dX12_tell_39 : decode cX12_tell 39 = .ok (.iconst 2, 1) := by decide +kernel
theorem dX12_tell_40 : decode cX12_tell 40 = .ok (.goto 4, 3) := by decide +kernel
theorem dX12_tell_43 : decode cX12_tell 43 = .ok (.iconst 0, 1) := by decide +kernel
theorem dX12_tell_44 : decode cX12_tell 44 = .ok (.invokestatic 106, 3) := by decide +kernel
theorem dX12_tell_47 : decode cX12_tell 47 = .ok (.ifCond .eq 16, 3) := by decide +kernel
theorem dX12_tell_50 : decode cX12_tell 50 = .ok (.iload_n 2, 1) := by decide +kernel
theorem dX12_tell_51 : decode cX12_tell 51 = .ok (.iload 5, 2) := by decide +kernel
theorem dX12_tell_53 : decode cX12_tell 53 = .ok (.invokestatic 695, 3) := by decide +kernel
theorem dX12_tell_56 : decode cX12_tell 56 = .ok (.ifCond .eq 7, 3) := by decide +kernel
theorem dX12_tell_59 : decode cX12_tell 59 = .ok (.iconst 1, 1) := by decide +kernel
theorem dX12_tell_60 : decode cX12_tell 60 = .ok (.goto 4, 3) := by decide +kernel
theorem dX12_tell_63 : decode cX12_tell 63 = .ok (.iconst 0, 1) := by decide +kernel
theorem dX12_tell_64 : decode cX12_tell 64 = .ok (.istore 7, 2) := by decide +kernel
theorem dX12_tell_66 : decode cX12_tell 66 = .ok (.iload 7, 2) := by decide +kernel
theorem dX12_tell_68 : decode cX12_tell 68 = .ok (.ifCond .eq 51, 3) := by decide +kernel
theorem dX12_tell_71 : decode cX12_tell 71 = .ok (.iload_n 2, 1) := by decide +kernel
theorem dX12_tell_72 : decode cX12_tell 72 = .ok (.ifCond .eq 47, 3) := by decide +kernel
theorem dX12_tell_75 : decode cX12_tell 75 = .ok (.aload_n 0, 1) := by decide +kernel
theorem dX12_tell_76 : decode cX12_tell 76 = .ok (.getfield 153, 3) := by decide +kernel
theorem dX12_tell_79 : decode cX12_tell 79 = .ok (.iconst 3, 1) := by decide +kernel
theorem dX12_tell_80 : decode cX12_tell 80 = .ok (.iload 6, 2) := by decide +kernel
theorem dX12_tell_82 : decode cX12_tell 82 = .ok (.imul, 1) := by decide +kernel
theorem dX12_tell_83 : decode cX12_tell 83 = .ok (.iload_n 2, 1) := by decide +kernel
theorem dX12_tell_84 : decode cX12_tell 84 = .ok (.iconst 2, 1) := by decide +kernel
theorem dX12_tell_85 : decode cX12_tell 85 = .ok (.if_icmp .ne 7, 3) := by decide +kernel
theorem dX12_tell_88 : decode cX12_tell 88 = .ok (.iconst 1, 1) := by decide +kernel
theorem dX12_tell_89 : decode cX12_tell 89 = .ok (.goto 4, 3) := by decide +kernel
theorem dX12_tell_92 : decode cX12_tell 92 = .ok (.iconst 2, 1) := by decide +kernel
theorem dX12_tell_93 : decode cX12_tell 93 = .ok (.iadd, 1) := by decide +kernel
theorem dX12_tell_94 : decode cX12_tell 94 = .ok (.iaload, 1) := by decide +kernel
theorem dX12_tell_95 : decode cX12_tell 95 = .ok (.ifCond .gt 20, 3) := by decide +kernel
theorem dX12_tell_98 : decode cX12_tell 98 = .ok (.iload_n 2, 1) := by decide +kernel
theorem dX12_tell_99 : decode cX12_tell 99 = .ok (.iconst 2, 1) := by decide +kernel
theorem dX12_tell_100 : decode cX12_tell 100 = .ok (.if_icmp .ne 19, 3) := by decide +kernel
theorem dX12_tell_103 : decode cX12_tell 103 = .ok (.aload_n 0, 1) := by decide +kernel
theorem dX12_tell_104 : decode cX12_tell 104 = .ok (.iload 6, 2) := by decide +kernel
theorem dX12_tell_106 : decode cX12_tell 106 = .ok (.iload_n 3, 1) := by decide +kernel
theorem dX12_tell_107 : decode cX12_tell 107 = .ok (.iload 4, 2) := by decide +kernel
theorem dX12_tell_109 : decode cX12_tell 109 = .ok (.invokevirtual 698, 3) := by decide +kernel
theorem dX12_tell_112 : decode cX12_tell 112 = .ok (.ifCond .eq 7, 3) := by decide +kernel
theorem dX12_tell_115 : decode cX12_tell 115 = .ok (.iconst 1, 1) := by decide +kernel
theorem dX12_tell_116 : decode cX12_tell 116 = .ok (.goto 4, 3) := by decide +kernel
theorem dX12_tell_119 : decode cX12_tell 119 = .ok (.iconst 0, 1) := by decide +kernel
theorem dX12_tell_120 : decode cX12_tell 120 = .ok (.istore 8, 2) := by decide +kernel
theorem dX12_tell_122 : decode cX12_tell 122 = .ok (.aload_n 0, 1) := by decide +kernel
theorem dX12_tell_123 : decode cX12_tell 123 = .ok (.iload 7, 2) := by decide +kernel
theorem dX12_tell_125 : decode cX12_tell 125 = .ok (.ifCond .ne 7, 3) := by decide +kernel
theorem dX12_tell_128 : decode cX12_tell 128 = .ok (.iconst 1, 1) := by decide +kernel
theorem dX12_tell_129 : decode cX12_tell 129 = .ok (.goto 4, 3) := by decide +kernel
theorem dX12_tell_132 : decode cX12_tell 132 = .ok (.iconst 0, 1) := by decide +kernel
theorem dX12_tell_133 : decode cX12_tell 133 = .ok (.iload 8, 2) := by decide +kernel
theorem dX12_tell_135 : decode cX12_tell 135 = .ok (.iconst 0, 1) := by decide +kernel
theorem dX12_tell_136 : decode cX12_tell 136 = .ok (.invokevirtual 670, 3) := by decide +kernel
theorem dX12_tell_139 : decode cX12_tell 139 = .ok (.ifCond .eq 5, 3) := by decide +kernel
theorem dX12_tell_142 : decode cX12_tell 142 = .ok (.iconst 0, 1) := by decide +kernel
theorem dX12_tell_143 : decode cX12_tell 143 = .ok (.ireturn, 1) := by decide +kernel
theorem dX12_tell_144 : decode cX12_tell 144 = .ok (.iconst 3, 1) := by decide +kernel
theorem dX12_tell_145 : decode cX12_tell 145 = .ok (.iload 6, 2) := by decide +kernel
theorem dX12_tell_147 : decode cX12_tell 147 = .ok (.imul, 1) := by decide +kernel
theorem dX12_tell_148 : decode cX12_tell 148 = .ok (.iload_n 2, 1) := by decide +kernel
theorem dX12_tell_149 : decode cX12_tell 149 = .ok (.iadd, 1) := by decide +kernel
theorem dX12_tell_150 : decode cX12_tell 150 = .ok (.istore 9, 2) := by decide +kernel
theorem dX12_tell_152 : decode cX12_tell 152 = .ok (.aload_n 0, 1) := by decide +kernel
theorem dX12_tell_153 : decode cX12_tell 153 = .ok (.getfield 153, 3) := by decide +kernel
theorem dX12_tell_156 : decode cX12_tell 156 = .ok (.iload 9, 2) := by decide +kernel
theorem dX12_tell_158 : decode cX12_tell 158 = .ok (.iaload, 1) := by decide +kernel
theorem dX12_tell_159 : decode cX12_tell 159 = .ok (.istore 10, 2) := by decide +kernel
theorem dX12_tell_161 : decode cX12_tell 161 = .ok (.aload_n 0, 1) := by decide +kernel
theorem dX12_tell_162 : decode cX12_tell 162 = .ok (.iconst 1, 1) := by decide +kernel
theorem dX12_tell_163 : decode cX12_tell 163 = .ok (.iload 9, 2) := by decide +kernel
theorem dX12_tell_165 : decode cX12_tell 165 = .ok (.aload_n 0, 1) := by decide +kernel
theorem dX12_tell_166 : decode cX12_tell 166 = .ok (.getfield 153, 3) := by decide +kernel
theorem dX12_tell_169 : decode cX12_tell 169 = .ok (.iload 9, 2) := by decide +kernel
theorem dX12_tell_171 : decode cX12_tell 171 = .ok (.iaload, 1) := by decide +kernel
theorem dX12_tell_172 : decode cX12_tell 172 = .ok (.aload_n 0, 1) := by decide +kernel
theorem dX12_tell_173 : decode cX12_tell 173 = .ok (.getfield 159, 3) := by decide +kernel
theorem dX12_tell_176 : decode cX12_tell 176 = .ok (.iload 9, 2) := by decide +kernel
theorem dX12_tell_178 : decode cX12_tell 178 = .ok (.iaload, 1) := by decide +kernel
theorem dX12_tell_179 : decode cX12_tell 179 = .ok (.aload_n 0, 1) := by decide +kernel
theorem dX12_tell_180 : decode cX12_tell 180 = .ok (.getfield 162, 3) := by decide +kernel
theorem dX12_tell_183 : decode cX12_tell 183 = .ok (.iload 9, 2) := by decide +kernel
theorem dX12_tell_185 : decode cX12_tell 185 = .ok (.iaload, 1) := by decide +kernel
theorem dX12_tell_186 : decode cX12_tell 186 = .ok (.invokevirtual 657, 3) := by decide +kernel
theorem dX12_tell_189 : decode cX12_tell 189 = .ok (.pop, 1) := by decide +kernel
theorem dX12_tell_190 : decode cX12_tell 190 = .ok (.aload_n 0, 1) := by decide +kernel
theorem dX12_tell_191 : decode cX12_tell 191 = .ok (.getfield 153, 3) := by decide +kernel
theorem dX12_tell_194 : decode cX12_tell 194 = .ok (.iload 9, 2) := by decide +kernel
theorem dX12_tell_196 : decode cX12_tell 196 = .ok (.iload_n 3, 1) := by decide +kernel
theorem dX12_tell_197 : decode cX12_tell 197 = .ok (.iastore, 1) := by decide +kernel
theorem dX12_tell_198 : decode cX12_tell 198 = .ok (.aload_n 0, 1) := by decide +kernel
theorem dX12_tell_199 : decode cX12_tell 199 = .ok (.getfield 159, 3) := by decide +kernel
theorem dX12_tell_202 : decode cX12_tell 202 = .ok (.iload 9, 2) := by decide +kernel
theorem dX12_tell_204 : decode cX12_tell 204 = .ok (.iload 4, 2) := by decide +kernel
theorem dX12_tell_206 : decode cX12_tell 206 = .ok (.iastore, 1) := by decide +kernel
theorem dX12_tell_207 : decode cX12_tell 207 = .ok (.aload_n 0, 1) := by decide +kernel
theorem dX12_tell_208 : decode cX12_tell 208 = .ok (.getfield 162, 3) := by decide +kernel
theorem dX12_tell_211 : decode cX12_tell 211 = .ok (.iload 9, 2) := by decide +kernel
theorem dX12_tell_213 : decode cX12_tell 213 = .ok (.iload 5, 2) := by decide +kernel
theorem dX12_tell_215 : decode cX12_tell 215 = .ok (.iastore, 1) := by decide +kernel
theorem dX12_tell_216 : decode cX12_tell 216 = .ok (.iload 10, 2) := by decide +kernel
theorem dX12_tell_218 : decode cX12_tell 218 = .ok (.ireturn, 1) := by decide +kernel
theorem dX12_told_0 : decode cX12_told 0 = .ok (.aload_n 0, 1) := by decide +kernel
theorem dX12_told_1 : decode cX12_told 1 = .ok (.iload_n 2, 1) := by decide +kernel
theorem dX12_told_2 : decode cX12_told 2 = .ok (.iconst 0, 1) := by decide +kernel
theorem dX12_told_3 : decode cX12_told 3 = .ok (.iconst 2, 1) := by decide +kernel
theorem dX12_told_4 : decode cX12_told 4 = .ok (.invokestatic 106, 3) := by decide +kernel
theorem dX12_told_7 : decode cX12_told 7 = .ok (.ifCond .eq 12, 3) := by decide +kernel
theorem dX12_told_10 : decode cX12_told 10 = .ok (.iload_n 3, 1) := by decide +kernel
theorem dX12_told_11 : decode cX12_told 11 = .ok (.iconst 0, 1) := by decide +kernel
theorem dX12_told_12 : decode cX12_told 12 = .ok (.iconst 2, 1) := by decide +kernel
theorem dX12_told_13 : decode cX12_told 13 = .ok (.invokestatic 106, 3) := by decide +kernel
theorem dX12_told_16 : decode cX12_told 16 = .ok (.ifCond .ne 7, 3) := by decide +kernel
theorem dX12_told_19 : decode cX12_told 19 = .ok (.iconst 1, 1) := by decide +kernel
theorem dX12_told_20 : decode cX12_told 20 = .ok (.goto 4, 3) := by decide +kernel
theorem dX12_told_23 : decode cX12_told 23 = .ok (.iconst 0, 1) := by decide +kernel
theorem dX12_told_24 : decode cX12_told 24 = .ok (.iconst 0, 1) := by decide +kernel
theorem dX12_told_25 : decode cX12_told 25 = .ok (.iconst 0, 1) := by decide +kernel
theorem dX12_told_26 : decode cX12_told 26 = .ok (.invokevirtual 670, 3) := by decide +kernel
theorem dX12_told_29 : decode cX12_told 29 = .ok (.ifCond .eq 5, 3) := by decide +kernel
theorem dX12_told_32 : decode cX12_told 32 = .ok (.iconst 0, 1) := by decide +kernel
theorem dX12_told_33 : decode cX12_told 33 = .ok (.ireturn, 1) := by decide +kernel
theorem dX12_told_34 : decode cX12_told 34 = .ok (.iconst 3, 1) := by decide +kernel
theorem dX12_told_35 : decode cX12_told 35 = .ok (.iload_n 1, 1) := by decide +kernel
theorem dX12_told_36 : decode cX12_told 36 = .ok (.invokestatic 156, 3) := by decide +kernel
theorem dX12_told_39 : decode cX12_told 39 = .ok (.imul, 1) := by decide +kernel
theorem dX12_told_40 : decode cX12_told 40 = .ok (.iload_n 2, 1) := by decide +kernel
theorem dX12_told_41 : decode cX12_told 41 = .ok (.iadd, 1) := by decide +kernel
theorem dX12_told_42 : decode cX12_told 42 = .ok (.istore 4, 2) := by decide +kernel
theorem dX12_told_44 : decode cX12_told 44 = .ok (.iload_n 1, 1) := by decide +kernel
theorem dX12_told_45 : decode cX12_told 45 = .ok (.invokestatic 156, 3) := by decide +kernel
theorem dX12_told_48 : decode cX12_told 48 = .ok (.iconst (-1), 1) := by decide +kernel
theorem dX12_told_49 : decode cX12_told 49 = .ok (.if_icmp .eq 13, 3) := by decide +kernel
theorem dX12_told_52 : decode cX12_told 52 = .ok (.aload_n 0, 1) := by decide +kernel
theorem dX12_told_53 : decode cX12_told 53 = .ok (.getfield 153, 3) := by decide +kernel
theorem dX12_told_56 : decode cX12_told 56 = .ok (.iload 4, 2) := by decide +kernel
theorem dX12_told_58 : decode cX12_told 58 = .ok (.iaload, 1) := by decide +kernel
theorem dX12_told_59 : decode cX12_told 59 = .ok (.ifCond .ne 7, 3) := by decide +kernel
theorem dX12_told_62 : decode cX12_told 62 = .ok (.iconst (-1), 1) := by decide +kernel
theorem dX12_told_63 : decode cX12_told 63 = .ok (.goto 39, 3) := by decide +kernel
theorem dX12_told_66 : decode cX12_told 66 = .ok (.iload_n 3, 1) := by decide +kernel
theorem dX12_told_67 : decode cX12_told 67 = .ok (.ifCond .ne 13, 3) := by decide +kernel
theorem dX12_told_70 : decode cX12_told 70 = .ok (.aload_n 0, 1) := by decide +kernel
theorem dX12_told_71 : decode cX12_told 71 = .ok (.getfield 153, 3) := by decide +kernel
theorem dX12_told_74 : decode cX12_told 74 = .ok (.iload 4, 2) := by decide +kernel
theorem dX12_told_76 : decode cX12_told 76 = .ok (.iaload, 1) := by decide +kernel
theorem dX12_told_77 : decode cX12_told 77 = .ok (.goto 25, 3) := by decide +kernel
theorem dX12_told_80 : decode cX12_told 80 = .ok (.iload_n 3, 1) := by decide +kernel
theorem dX12_told_81 : decode cX12_told 81 = .ok (.iconst 1, 1) := by decide +kernel
theorem dX12_told_82 : decode cX12_told 82 = .ok (.if_icmp .ne 13, 3) := by decide +kernel
theorem dX12_told_85 : decode cX12_told 85 = .ok (.aload_n 0, 1) := by decide +kernel
theorem dX12_told_86 : decode cX12_told 86 = .ok (.getfield 159, 3) := by decide +kernel
theorem dX12_told_89 : decode cX12_told 89 = .ok (.iload 4, 2) := by decide +kernel
theorem dX12_told_91 : decode cX12_told 91 = .ok (.iaload, 1) := by decide +kernel
theorem dX12_told_92 : decode cX12_told 92 = .ok (.goto 10, 3) := by decide +kernel
theorem dX12_told_95 : decode cX12_told 95 = .ok (.aload_n 0, 1) := by decide +kernel
theorem dX12_told_96 : decode cX12_told 96 = .ok (.getfield 162, 3) := by decide +kernel
theorem dX12_told_99 : decode cX12_told 99 = .ok (.iload 4, 2) := by decide +kernel
theorem dX12_told_101 : decode cX12_told 101 = .ok (.iaload, 1) := by decide +kernel
theorem dX12_told_102 : decode cX12_told 102 = .ok (.ireturn, 1) := by decide +kernel
theorem dX12_print_0 : decode cX12_print 0 = .ok (.aload_n 0, 1) := by decide +kernel
theorem dX12_print_1 : decode cX12_print 1 = .ok (.aload_n 0, 1) := by decide +kernel
theorem dX12_print_2 : decode cX12_print 2 = .ok (.iload_n 1, 1) := by decide +kernel
theorem dX12_print_3 : decode cX12_print 3 = .ok (.invokevirtual 664, 3) := by decide +kernel
theorem dX12_print_6 : decode cX12_print 6 = .ok (.ifCond .ne 7, 3) := by decide +kernel
theorem dX12_print_9 : decode cX12_print 9 = .ok (.iconst 1, 1) := by decide +kernel
theorem dX12_print_10 : decode cX12_print 10 = .ok (.goto 4, 3) := by decide +kernel
theorem dX12_print_13 : decode cX12_print 13 = .ok (.iconst 0, 1) := by decide +kernel
theorem dX12_print_14 : decode cX12_print 14 = .ok (.iconst 0, 1) := by decide +kernel
theorem dX12_print_15 : decode cX12_print 15 = .ok (.iconst 0, 1) := by decide +kernel
theorem dX12_print_16 : decode cX12_print 16 = .ok (.invokevirtual 670, 3) := by decide +kernel
theorem dX12_print_19 : decode cX12_print 19 = .ok (.ifCond .eq 5, 3) := by decide +kernel
theorem dX12_print_22 : decode cX12_print 22 = .ok (.iconst 0, 1) := by decide +kernel
theorem dX12_print_23 : decode cX12_print 23 = .ok (.ireturn, 1) := by decide +kernel
theorem dX12_print_24 : decode cX12_print 24 = .ok (.aload_n 0, 1) := by decide +kernel
theorem dX12_print_25 : decode cX12_print 25 = .ok (.iload_n 1, 1) := by decide +kernel
theorem dX12_print_26 : decode cX12_print 26 = .ok (.invokestatic 667, 3) := by decide +kernel
theorem dX12_print_29 : decode cX12_print 29 = .ok (.invokevirtual 701, 3) := by decide +kernel
theorem dX12_print_32 : decode cX12_print 32 = .ok (.aload_n 0, 1) := by decide +kernel
theorem dX12_print_33 : decode cX12_print 33 = .ok (.invokevirtual 704, 3) := by decide +kernel
theorem dX12_print_36 : decode cX12_print 36 = .ok (.aload_n 0, 1) := by decide +kernel
theorem dX12_print_37 : decode cX12_print 37 = .ok (.getfield 430, 3) := by decide +kernel
theorem dX12_print_40 : decode cX12_print 40 = .ok (.ireturn, 1) := by decide +kernel
theorem dX12_postfix_0 : decode cX12_postfix 0 = .ok (.aload_n 0, 1) := by decide +kernel
theorem dX12_postfix_1 : decode cX12_postfix 1 = .ok (.aload_n 0, 1) := by decide +kernel
theorem dX12_postfix_2 : decode cX12_postfix 2 = .ok (.iload_n 1, 1) := by decide +kernel
theorem dX12_postfix_3 : decode cX12_postfix 3 = .ok (.invokevirtual 664, 3) := by decide +kernel
theorem dX12_postfix_6 : decode cX12_postfix 6 = .ok (.ifCond .ne 7, 3) := by decide +kernel
theorem dX12_postfix_9 : decode cX12_postfix 9 = .ok (.iconst 1, 1) := by decide +kernel
theorem dX12_postfix_10 : decode cX12_postfix 10 = .ok (.goto 4, 3) := by decide +kernel
theorem dX12_postfix_13 : decode cX12_postfix 13 = .ok (.iconst 0, 1) := by decide +kernel
theorem dX12_postfix_14 : decode cX12_postfix 14 = .ok (.aload_n 0, 1) := by decide +kernel
theorem dX12_postfix_15 : decode cX12_postfix 15 = .ok (.iload_n 1, 1) := by decide +kernel
theorem dX12_postfix_16 : decode cX12_postfix 16 = .ok (.invokevirtual 664, 3) := by decide +kernel
theorem dX12_postfix_19 : decode cX12_postfix 19 = .ok (.ifCond .eq 18, 3) := by decide +kernel
theorem dX12_postfix_22 : decode cX12_postfix 22 = .ok (.aload_n 0, 1) := by decide +kernel
theorem dX12_postfix_23 : decode cX12_postfix 23 = .ok (.iload_n 1, 1) := by decide +kernel
theorem dX12_postfix_24 : decode cX12_postfix 24 = .ok (.invokestatic 667, 3) := by decide +kernel
theorem dX12_postfix_27 : decode cX12_postfix 27 = .ok (.invokevirtual 707, 3) := by decide +kernel
theorem dX12_postfix_30 : decode cX12_postfix 30 = .ok (.ifCond .eq 7, 3) := by decide +kernel
theorem dX12_postfix_33 : decode cX12_postfix 33 = .ok (.iconst 1, 1) := by decide +kernel
theorem dX12_postfix_34 : decode cX12_postfix 34 = .ok (.goto 4, 3) := by decide +kernel
theorem dX12_postfix_37 : decode cX12_postfix 37 = .ok (.iconst 0, 1) := by decide +kernel
theorem dX12_postfix_38 : decode cX12_postfix 38 = .ok (.iconst 0, 1) := by decide +kernel
theorem dX12_postfix_39 : decode cX12_postfix 39 = .ok (.invokevirtual 670, 3) := by decide +kernel
theorem dX12_postfix_42 : decode cX12_postfix 42 = .ok (.ifCond .eq 5, 3) := by decide +kernel
theorem dX12_postfix_45 : decode cX12_postfix 45 = .ok (.iconst 0, 1) := by decide +kernel
theorem dX12_postfix_46 : decode cX12_postfix 46 = .ok (.ireturn, 1) := by decide +kernel
theorem dX12_postfix_47 : decode cX12_postfix 47 = .ok (.aload_n 0, 1) := by decide +kernel
theorem dX12_postfix_48 : decode cX12_postfix 48 = .ok (.iload_n 1, 1) := by decide +kernel
theorem dX12_postfix_49 : decode cX12_postfix 49 = .ok (.invokestatic 667, 3) := by decide +kernel
theorem dX12_postfix_52 : decode cX12_postfix 52 = .ok (.invokevirtual 710, 3) := by decide +kernel
theorem dX12_postfix_55 : decode cX12_postfix 55 = .ok (.aload_n 0, 1) := by decide +kernel
theorem dX12_postfix_56 : decode cX12_postfix 56 = .ok (.getfield 430, 3) := by decide +kernel
theorem dX12_postfix_59 : decode cX12_postfix 59 = .ok (.ireturn, 1) := by decide +kernel
theorem dX12_out_0 : decode cX12_out 0 = .ok (.aload_n 0, 1) := by decide +kernel
theorem dX12_out_1 : decode cX12_out 1 = .ok (.iload_n 1, 1) := by decide +kernel
theorem dX12_out_2 : decode cX12_out 2 = .ok (.iconst 0, 1) := by decide +kernel
theorem dX12_out_3 : decode cX12_out 3 = .ok (.aload_n 0, 1) := by decide +kernel
theorem dX12_out_4 : decode cX12_out 4 = .ok (.getfield 430, 3) := by decide +kernel
theorem dX12_out_7 : decode cX12_out 7 = .ok (.iconst 1, 1) := by decide +kernel
theorem dX12_out_8 : decode cX12_out 8 = .ok (.isub, 1) := by decide +kernel
theorem dX12_out_9 : decode cX12_out 9 = .ok (.invokestatic 106, 3) := by decide +kernel
theorem dX12_out_12 : decode cX12_out 12 = .ok (.ifCond .ne 7, 3) := by decide +kernel
theorem dX12_out_15 : decode cX12_out 15 = .ok (.iconst 1, 1) := by decide +kernel
theorem dX12_out_16 : decode cX12_out 16 = .ok (.goto 4, 3) := by decide +kernel
theorem dX12_out_19 : decode cX12_out 19 = .ok (.iconst 0, 1) := by decide +kernel
theorem dX12_out_20 : decode cX12_out 20 = .ok (.iconst 0, 1) := by decide +kernel
theorem dX12_out_21 : decode cX12_out 21 = .ok (.iconst 0, 1) := by decide +kernel
theorem dX12_out_22 : decode cX12_out 22 = .ok (.invokevirtual 670, 3) := by decide +kernel
theorem dX12_out_25 : decode cX12_out 25 = .ok (.ifCond .eq 7, 3) := by decide +kernel
theorem dX12_out_28 : decode cX12_out 28 = .ok (.iconst 0, 1) := by decide +kernel
theorem dX12_out_29 : decode cX12_out 29 = .ok (.goto 9, 3) := by decide +kernel
theorem dX12_out_32 : decode cX12_out 32 = .ok (.aload_n 0, 1) := by decide +kernel
theorem dX12_out_33 : decode cX12_out 33 = .ok (.getfield 236, 3) := by decide +kernel
theorem dX12_out_36 : decode cX12_out 36 = .ok (.iload_n 1, 1) := by decide +kernel
theorem dX12_out_37 : decode cX12_out 37 = .ok (.iaload, 1) := by decide +kernel
theorem dX12_out_38 : decode cX12_out 38 = .ok (.ireturn, 1) := by decide +kernel
theorem dX12_answers_0 : decode cX12_answers 0 = .ok (.aload_n 0, 1) := by decide +kernel
theorem dX12_answers_1 : decode cX12_answers 1 = .ok (.iload_n 1, 1) := by decide +kernel
theorem dX12_answers_2 : decode cX12_answers 2 = .ok (.invokevirtual 713, 3) := by decide +kernel
theorem dX12_answers_5 : decode cX12_answers 5 = .ok (.istore_n 2, 1) := by decide +kernel
theorem dX12_answers_6 : decode cX12_answers 6 = .ok (.iload_n 2, 1) := by decide +kernel
theorem dX12_answers_7 : decode cX12_answers 7 = .ok (.ifCond .ne 11, 3) := by decide +kernel
theorem dX12_answers_10 : decode cX12_answers 10 = .ok (.aload_n 0, 1) := by decide +kernel
theorem dX12_answers_11 : decode cX12_answers 11 = .ok (.bipush 26, 2) := by decide +kernel
theorem dX12_answers_13 : decode cX12_answers 13 = .ok (.bipush 60, 2) := by decide +kernel
theorem dX12_answers_15 : decode cX12_answers 15 = .ok (.invokevirtual 115, 3) := by decide +kernel
theorem dX12_answers_18 : decode cX12_answers 18 = .ok (.iload_n 2, 1) := by decide +kernel
theorem dX12_answers_19 : decode cX12_answers 19 = .ok (.ireturn, 1) := by decide +kernel
theorem dX12_evaluate_0 : decode cX12_evaluate 0 = .ok (.aload_n 0, 1) := by decide +kernel
theorem dX12_evaluate_1 : decode cX12_evaluate 1 = .ok (.aload_n 0, 1) := by decide +kernel
theorem dX12_evaluate_2 : decode cX12_evaluate 2 = .ok (.iload_n 1, 1) := by decide +kernel
theorem dX12_evaluate_3 : decode cX12_evaluate 3 = .ok (.invokevirtual 664, 3) := by decide +kernel
theorem dX12_evaluate_6 : decode cX12_evaluate 6 = .ok (.ifCond .ne 7, 3) := by decide +kernel
theorem dX12_evaluate_9 : decode cX12_evaluate 9 = .ok (.iconst 1, 1) := by decide +kernel
theorem dX12_evaluate_10 : decode cX12_evaluate 10 = .ok (.goto 4, 3) := by decide +kernel
theorem dX12_evaluate_13 : decode cX12_evaluate 13 = .ok (.iconst 0, 1) := by decide +kernel
theorem dX12_evaluate_14 : decode cX12_evaluate 14 = .ok (.iconst 0, 1) := by decide +kernel
theorem dX12_evaluate_15 : decode cX12_evaluate 15 = .ok (.iconst 0, 1) := by decide +kernel
theorem dX12_evaluate_16 : decode cX12_evaluate 16 = .ok (.invokevirtual 670, 3) := by decide +kernel
theorem dX12_evaluate_19 : decode cX12_evaluate 19 = .ok (.ifCond .eq 7, 3) := by decide +kernel
theorem dX12_evaluate_22 : decode cX12_evaluate 22 = .ok (.iconst 0, 1) := by decide +kernel
theorem dX12_evaluate_23 : decode cX12_evaluate 23 = .ok (.goto 11, 3) := by decide +kernel
theorem dX12_evaluate_26 : decode cX12_evaluate 26 = .ok (.aload_n 0, 1) := by decide +kernel
theorem dX12_evaluate_27 : decode cX12_evaluate 27 = .ok (.iload_n 1, 1) := by decide +kernel
theorem dX12_evaluate_28 : decode cX12_evaluate 28 = .ok (.invokestatic 667, 3) := by decide +kernel
theorem dX12_evaluate_31 : decode cX12_evaluate 31 = .ok (.invokevirtual 716, 3) := by decide +kernel
theorem dX12_evaluate_34 : decode cX12_evaluate 34 = .ok (.ireturn, 1) := by decide +kernel
theorem dX12_reckon_0 : decode cX12_reckon 0 = .ok (.aload_n 0, 1) := by decide +kernel
theorem dX12_reckon_1 : decode cX12_reckon 1 = .ok (.aload_n 0, 1) := by decide +kernel
theorem dX12_reckon_2 : decode cX12_reckon 2 = .ok (.iload_n 1, 1) := by decide +kernel
theorem dX12_reckon_3 : decode cX12_reckon 3 = .ok (.invokevirtual 664, 3) := by decide +kernel
theorem dX12_reckon_6 : decode cX12_reckon 6 = .ok (.ifCond .ne 7, 3) := by decide +kernel
theorem dX12_reckon_9 : decode cX12_reckon 9 = .ok (.iconst 1, 1) := by decide +kernel
theorem dX12_reckon_10 : decode cX12_reckon 10 = .ok (.goto 4, 3) := by decide +kernel
theorem dX12_reckon_13 : decode cX12_reckon 13 = .ok (.iconst 0, 1) := by decide +kernel
theorem dX12_reckon_14 : decode cX12_reckon 14 = .ok (.aload_n 0, 1) := by decide +kernel
theorem dX12_reckon_15 : decode cX12_reckon 15 = .ok (.iload_n 1, 1) := by decide +kernel
theorem dX12_reckon_16 : decode cX12_reckon 16 = .ok (.invokevirtual 664, 3) := by decide +kernel
theorem dX12_reckon_19 : decode cX12_reckon 19 = .ok (.ifCond .eq 18, 3) := by decide +kernel
theorem dX12_reckon_22 : decode cX12_reckon 22 = .ok (.aload_n 0, 1) := by decide +kernel
theorem dX12_reckon_23 : decode cX12_reckon 23 = .ok (.iload_n 1, 1) := by decide +kernel
theorem dX12_reckon_24 : decode cX12_reckon 24 = .ok (.invokestatic 667, 3) := by decide +kernel
theorem dX12_reckon_27 : decode cX12_reckon 27 = .ok (.invokevirtual 707, 3) := by decide +kernel
theorem dX12_reckon_30 : decode cX12_reckon 30 = .ok (.ifCond .eq 7, 3) := by decide +kernel
theorem dX12_reckon_33 : decode cX12_reckon 33 = .ok (.iconst 1, 1) := by decide +kernel
theorem dX12_reckon_34 : decode cX12_reckon 34 = .ok (.goto 4, 3) := by decide +kernel
theorem dX12_reckon_37 : decode cX12_reckon 37 = .ok (.iconst 0, 1) := by decide +kernel
theorem dX12_reckon_38 : decode cX12_reckon 38 = .ok (.iconst 0, 1) := by decide +kernel
theorem dX12_reckon_39 : decode cX12_reckon 39 = .ok (.invokevirtual 670, 3) := by decide +kernel
theorem dX12_reckon_42 : decode cX12_reckon 42 = .ok (.ifCond .eq 7, 3) := by decide +kernel
theorem dX12_reckon_45 : decode cX12_reckon 45 = .ok (.iconst 0, 1) := by decide +kernel
theorem dX12_reckon_46 : decode cX12_reckon 46 = .ok (.goto 11, 3) := by decide +kernel
theorem dX12_reckon_49 : decode cX12_reckon 49 = .ok (.aload_n 0, 1) := by decide +kernel
theorem dX12_reckon_50 : decode cX12_reckon 50 = .ok (.iload_n 1, 1) := by decide +kernel
theorem dX12_reckon_51 : decode cX12_reckon 51 = .ok (.invokestatic 667, 3) := by decide +kernel
theorem dX12_reckon_54 : decode cX12_reckon 54 = .ok (.invokevirtual 716, 3) := by decide +kernel
theorem dX12_reckon_57 : decode cX12_reckon 57 = .ok (.ireturn, 1) := by decide +kernel
theorem dX12_answer_0 : decode cX12_answer 0 = .ok (.aload_n 0, 1) := by decide +kernel
theorem dX12_answer_1 : decode cX12_answer 1 = .ok (.iload_n 1, 1) := by decide +kernel
theorem dX12_answer_2 : decode cX12_answer 2 = .ok (.iconst 0, 1) := by decide +kernel
theorem dX12_answer_3 : decode cX12_answer 3 = .ok (.iconst 1, 1) := by decide +kernel
theorem dX12_answer_4 : decode cX12_answer 4 = .ok (.invokestatic 106, 3) := by decide +kernel
theorem dX12_answer_7 : decode cX12_answer 7 = .ok (.ifCond .eq 13, 3) := by decide +kernel
theorem dX12_answer_10 : decode cX12_answer 10 = .ok (.iload_n 2, 1) := by decide +kernel
theorem dX12_answer_11 : decode cX12_answer 11 = .ok (.iconst 2, 1) := by decide +kernel
theorem dX12_answer_12 : decode cX12_answer 12 = .ok (.bipush 36, 2) := by decide +kernel
theorem dX12_answer_14 : decode cX12_answer 14 = .ok (.invokestatic 106, 3) := by decide +kernel
theorem dX12_answer_17 : decode cX12_answer 17 = .ok (.ifCond .ne 7, 3) := by decide +kernel
theorem dX12_answer_20 : decode cX12_answer 20 = .ok (.iconst 1, 1) := by decide +kernel
theorem dX12_answer_21 : decode cX12_answer 21 = .ok (.goto 4, 3) := by decide +kernel
theorem dX12_answer_24 : decode cX12_answer 24 = .ok (.iconst 0, 1) := by decide +kernel
theorem dX12_answer_25 : decode cX12_answer 25 = .ok (.iconst 0, 1) := by decide +kernel
theorem dX12_answer_26 : decode cX12_answer 26 = .ok (.iconst 0, 1) := by decide +kernel
theorem dX12_answer_27 : decode cX12_answer 27 = .ok (.invokevirtual 670, 3) := by decide +kernel
theorem dX12_answer_30 : decode cX12_answer 30 = .ok (.ifCond .eq 5, 3) := by decide +kernel
theorem dX12_answer_33 : decode cX12_answer 33 = .ok (.iconst 0, 1) := by decide +kernel
theorem dX12_answer_34 : decode cX12_answer 34 = .ok (.ireturn, 1) := by decide +kernel
theorem dX12_answer_35 : decode cX12_answer 35 = .ok (.aload_n 0, 1) := by decide +kernel
theorem dX12_answer_36 : decode cX12_answer 36 = .ok (.iconst 0, 1) := by decide +kernel
theorem dX12_answer_37 : decode cX12_answer 37 = .ok (.putfield 430, 3) := by decide +kernel
theorem dX12_answer_40 : decode cX12_answer 40 = .ok (.iload_n 1, 1) := by decide +kernel
theorem dX12_answer_41 : decode cX12_answer 41 = .ok (.ifCond .ne 13, 3) := by decide +kernel
theorem dX12_answer_44 : decode cX12_answer 44 = .ok (.aload_n 0, 1) := by decide +kernel
theorem dX12_answer_45 : decode cX12_answer 45 = .ok (.iconst 2, 1) := by decide +kernel
theorem dX12_answer_46 : decode cX12_answer 46 = .ok (.bipush 26, 2) := by decide +kernel
theorem dX12_answer_48 : decode cX12_answer 48 = .ok (.invokevirtual 72, 3) := by decide +kernel
theorem dX12_answer_51 : decode cX12_answer 51 = .ok (.goto 10, 3) := by decide +kernel
theorem dX12_answer_54 : decode cX12_answer 54 = .ok (.aload_n 0, 1) := by decide +kernel
theorem dX12_answer_55 : decode cX12_answer 55 = .ok (.iconst 2, 1) := by decide +kernel
theorem dX12_answer_56 : decode cX12_answer 56 = .ok (.bipush 26, 2) := by decide +kernel
theorem dX12_answer_58 : decode cX12_answer 58 = .ok (.invokevirtual 75, 3) := by decide +kernel
theorem dX12_answer_61 : decode cX12_answer 61 = .ok (.iload_n 1, 1) := by decide +kernel
theorem dX12_answer_62 : decode cX12_answer 62 = .ok (.ifCond .ne 18, 3) := by decide +kernel
theorem dX12_answer_65 : decode cX12_answer 65 = .ok (.aload_n 0, 1) := by decide +kernel
theorem dX12_answer_66 : decode cX12_answer 66 = .ok (.bipush 26, 2) := by decide +kernel
theorem dX12_answer_68 : decode cX12_answer 68 = .ok (.invokevirtual 81, 3) := by decide +kernel
theorem dX12_answer_71 : decode cX12_answer 71 = .ok (.ifCond .ge 9, 3) := by decide +kernel
theorem dX12_answer_74 : decode cX12_answer 74 = .ok (.aload_n 0, 1) := by decide +kernel
theorem dX12_answer_75 : decode cX12_answer 75 = .ok (.bipush 45, 2) := by decide +kernel
theorem dX12_answer_77 : decode cX12_answer 77 = .ok (.invokevirtual 433, 3) := by decide +kernel
theorem dX12_answer_80 : decode cX12_answer 80 = .ok (.aload_n 0, 1) := by decide +kernel
theorem dX12_answer_81 : decode cX12_answer 81 = .ok (.getfield 430, 3) := by decide +kernel
theorem dX12_answer_84 : decode cX12_answer 84 = .ok (.istore_n 3, 1) := by decide +kernel
theorem dX12_answer_85 : decode cX12_answer 85 = .ok (.aload_n 0, 1) := by decide +kernel
theorem dX12_answer_86 : decode cX12_answer 86 = .ok (.iconst 3, 1) := by decide +kernel
theorem dX12_answer_87 : decode cX12_answer 87 = .ok (.iload_n 2, 1) := by decide +kernel
theorem dX12_answer_88 : decode cX12_answer 88 = .ok (.invokevirtual 53, 3) := by decide +kernel
theorem dX12_answer_91 : decode cX12_answer 91 = .ok (.aload_n 0, 1) := by decide +kernel
theorem dX12_answer_92 : decode cX12_answer 92 = .ok (.iconst 4, 1) := by decide +kernel
theorem dX12_answer_93 : decode cX12_answer 93 = .ok (.iconst 5, 1) := by decide +kernel
theorem dX12_answer_94 : decode cX12_answer 94 = .ok (.iconst 2, 1) := by decide +kernel
theorem dX12_answer_95 : decode cX12_answer 95 = .ok (.iconst 3, 1) := by decide +kernel
theorem dX12_answer_96 : decode cX12_answer 96 = .ok (.invokevirtual 62, 3) := by decide +kernel
theorem dX12_answer_99 : decode cX12_answer 99 = .ok (.aload_n 0, 1) := by decide +kernel
theorem dX12_answer_100 : decode cX12_answer 100 = .ok (.getfield 7, 3) := by decide +kernel
theorem dX12_answer_103 : decode cX12_answer 103 = .ok (.iconst 5, 1) := by decide +kernel
theorem dX12_answer_104 : decode cX12_answer 104 = .ok (.iaload, 1) := by decide +kernel
theorem dX12_answer_105 : decode cX12_answer 105 = .ok (.ifCond .ne 7, 3) := by decide +kernel
theorem dX12_answer_108 : decode cX12_answer 108 = .ok (.iconst 0, 1) := by decide +kernel
theorem dX12_answer_109 : decode cX12_answer 109 = .ok (.goto 11, 3) := by decide +kernel
theorem dX12_answer_112 : decode cX12_answer 112 = .ok (.aload_n 0, 1) := by decide +kernel
theorem dX12_answer_113 : decode cX12_answer 113 = .ok (.getfield 11, 3) := by decide +kernel
theorem dX12_answer_116 : decode cX12_answer 116 = .ok (.sipush 2200, 3) := by decide +kernel
theorem dX12_answer_119 : decode cX12_answer 119 = .ok (.iaload, 1) := by decide +kernel
theorem dX12_answer_120 : decode cX12_answer 120 = .ok (.istore 4, 2) := by decide +kernel
theorem dX12_answer_122 : decode cX12_answer 122 = .ok (.aload_n 0, 1) := by decide +kernel
theorem dX12_answer_123 : decode cX12_answer 123 = .ok (.iload 4, 2) := by decide +kernel
theorem dX12_answer_125 : decode cX12_answer 125 = .ok (.bipush 10, 2) := by decide +kernel
theorem dX12_answer_127 : decode cX12_answer 127 = .ok (.if_icmp .ge 11, 3) := by decide +kernel
theorem dX12_answer_130 : decode cX12_answer 130 = .ok (.bipush 48, 2) := by decide +kernel
theorem dX12_answer_132 : decode cX12_answer 132 = .ok (.iload 4, 2) := by decide +kernel
theorem dX12_answer_134 : decode cX12_answer 134 = .ok (.iadd, 1) := by decide +kernel
theorem dX12_answer_135 : decode cX12_answer 135 = .ok (.goto 11, 3) := by decide +kernel
theorem dX12_answer_138 : decode cX12_answer 138 = .ok (.bipush 97, 2) := by decide +kernel
theorem dX12_answer_140 : decode cX12_answer 140 = .ok (.iload 4, 2) := by decide +kernel
theorem dX12_answer_142 : decode cX12_answer 142 = .ok (.iadd, 1) := by decide +kernel
theorem dX12_answer_143 : decode cX12_answer 143 = .ok (.bipush 10, 2) := by decide +kernel
theorem dX12_answer_145 : decode cX12_answer 145 = .ok (.isub, 1) := by decide +kernel
theorem dX12_answer_146 : decode cX12_answer 146 = .ok (.invokevirtual 433, 3) := by decide +kernel
theorem dX12_answer_149 : decode cX12_answer 149 = .ok (.aload_n 0, 1) := by decide +kernel
theorem dX12_answer_150 : decode cX12_answer 150 = .ok (.iconst 2, 1) := by decide +kernel
theorem dX12_answer_151 : decode cX12_answer 151 = .ok (.iconst 4, 1) := by decide +kernel
theorem dX12_answer_152 : decode cX12_answer 152 = .ok (.invokevirtual 43, 3) := by decide +kernel
theorem dX12_answer_155 : decode cX12_answer 155 = .ok (.aload_n 0, 1) := by decide +kernel
theorem dX12_answer_156 : decode cX12_answer 156 = .ok (.getfield 7, 3) := by decide +kernel
theorem dX12_answer_159 : decode cX12_answer 159 = .ok (.iconst 2, 1) := by decide +kernel
theorem dX12_answer_160 : decode cX12_answer 160 = .ok (.iaload, 1) := by decide +kernel
theorem dX12_answer_161 : decode cX12_answer 161 = .ok (.ifCond .gt (-70), 3) := by decide +kernel
theorem dX12_answer_164 : decode cX12_answer 164 = .ok (.iconst 0, 1) := by decide +kernel
theorem dX12_answer_165 : decode cX12_answer 165 = .ok (.istore 4, 2) := by decide +kernel
theorem dX12_answer_167 : decode cX12_answer 167 = .ok (.iload 4, 2) := by decide +kernel
theorem dX12_answer_169 : decode cX12_answer 169 = .ok (.aload_n 0, 1) := by decide +kernel
theorem dX12_answer_170 : decode cX12_answer 170 = .ok (.getfield 430, 3) := by decide +kernel
theorem dX12_answer_173 : decode cX12_answer 173 = .ok (.iload_n 3, 1) := by decide +kernel
theorem dX12_answer_174 : decode cX12_answer 174 = .ok (.isub, 1) := by decide +kernel
theorem dX12_answer_175 : decode cX12_answer 175 = .ok (.iconst 2, 1) := by decide +kernel
theorem dX12_answer_176 : decode cX12_answer 176 = .ok (.idiv, 1) := by decide +kernel
theorem dX12_answer_177 : decode cX12_answer 177 = .ok (.if_icmp .ge 59, 3) := by decide +kernel
theorem dX12_answer_180 : decode cX12_answer 180 = .ok (.aload_n 0, 1) := by decide +kernel
theorem dX12_answer_181 : decode cX12_answer 181 = .ok (.getfield 236, 3) := by decide +kernel
theorem dX12_answer_184 : decode cX12_answer 184 = .ok (.iload_n 3, 1) := by decide +kernel
theorem dX12_answer_185 : decode cX12_answer 185 = .ok (.iload 4, 2) := by decide +kernel
theorem dX12_answer_187 : decode cX12_answer 187 = .ok (.iadd, 1) := by decide +kernel
theorem dX12_answer_188 : decode cX12_answer 188 = .ok (.iaload, 1) := by decide +kernel
theorem dX12_answer_189 : decode cX12_answer 189 = .ok (.istore 5, 2) := by decide +kernel
theorem dX12_answer_191 : decode cX12_answer 191 = .ok (.aload_n 0, 1) := by decide +kernel
theorem dX12_answer_192 : decode cX12_answer 192 = .ok (.getfield 236, 3) := by decide +kernel
theorem dX12_answer_195 : decode cX12_answer 195 = .ok (.iload_n 3, 1) := by decide +kernel
theorem dX12_answer_196 : decode cX12_answer 196 = .ok (.iload 4, 2) := by decide +kernel
theorem dX12_answer_198 : decode cX12_answer 198 = .ok (.iadd, 1) := by decide +kernel
theorem dX12_answer_199 : decode cX12_answer 199 = .ok (.aload_n 0, 1) := by decide +kernel
theorem dX12_answer_200 : decode cX12_answer 200 = .ok (.getfield 236, 3) := by decide +kernel
theorem dX12_answer_203 : decode cX12_answer 203 = .ok (.aload_n 0, 1) := by decide +kernel
theorem dX12_answer_204 : decode cX12_answer 204 = .ok (.getfield 430, 3) := by decide +kernel
theorem dX12_answer_207 : decode cX12_answer 207 = .ok (.iconst 1, 1) := by decide +kernel
theorem dX12_answer_208 : decode cX12_answer 208 = .ok (.isub, 1) := by decide +kernel
theorem dX12_answer_209 : decode cX12_answer 209 = .ok (.iload 4, 2) := by decide +kernel
theorem dX12_answer_211 : decode cX12_answer 211 = .ok (.isub, 1) := by decide +kernel
theorem dX12_answer_212 : decode cX12_answer 212 = .ok (.iaload, 1) := by decide +kernel
theorem dX12_answer_213 : decode cX12_answer 213 = .ok (.iastore, 1) := by decide +kernel
theorem dX12_answer_214 : decode cX12_answer 214 = .ok (.aload_n 0, 1) := by decide +kernel
theorem dX12_answer_215 : decode cX12_answer 215 = .ok (.getfield 236, 3) := by decide +kernel
theorem dX12_answer_218 : decode cX12_answer 218 = .ok (.aload_n 0, 1) := by decide +kernel
theorem dX12_answer_219 : decode cX12_answer 219 = .ok (.getfield 430, 3) := by decide +kernel
theorem dX12_answer_222 : decode cX12_answer 222 = .ok (.iconst 1, 1) := by decide +kernel
theorem dX12_answer_223 : decode cX12_answer 223 = .ok (.isub, 1) := by decide +kernel
theorem dX12_answer_224 : decode cX12_answer 224 = .ok (.iload 4, 2) := by decide +kernel
theorem dX12_answer_226 : decode cX12_answer 226 = .ok (.isub, 1) := by decide +kernel
theorem dX12_answer_227 : decode cX12_answer 227 = .ok (.iload 5, 2) := by decide +kernel
theorem dX12_answer_229 : decode cX12_answer 229 = .ok (.iastore, 1) := by decide +kernel
theorem dX12_answer_230 : decode cX12_answer 230 = .ok (.iinc 4 1, 3) := by decide +kernel
theorem dX12_answer_233 : decode cX12_answer 233 = .ok (.goto (-66), 3) := by decide +kernel
theorem dX12_answer_236 : decode cX12_answer 236 = .ok (.aload_n 0, 1) := by decide +kernel
theorem dX12_answer_237 : decode cX12_answer 237 = .ok (.getfield 430, 3) := by decide +kernel
theorem dX12_answer_240 : decode cX12_answer 240 = .ok (.ireturn, 1) := by decide +kernel
theorem dX12_let_0 : decode cX12_let 0 = .ok (.aload_n 0, 1) := by decide +kernel
theorem dX12_let_1 : decode cX12_let 1 = .ok (.iload_n 1, 1) := by decide +kernel
theorem dX12_let_2 : decode cX12_let 2 = .ok (.invokestatic 689, 3) := by decide +kernel
theorem dX12_let_5 : decode cX12_let 5 = .ok (.ifCond .ne 7, 3) := by decide +kernel
theorem dX12_let_8 : decode cX12_let 8 = .ok (.iconst 1, 1) := by decide +kernel
theorem dX12_let_9 : decode cX12_let 9 = .ok (.goto 4, 3) := by decide +kernel
theorem dX12_let_12 : decode cX12_let 12 = .ok (.iconst 0, 1) := by decide +kernel
theorem dX12_let_13 : decode cX12_let 13 = .ok (.aload_n 0, 1) := by decide +kernel
theorem dX12_let_14 : decode cX12_let 14 = .ok (.iload_n 2, 1) := by decide +kernel
theorem dX12_let_15 : decode cX12_let 15 = .ok (.invokevirtual 664, 3) := by decide +kernel
theorem dX12_let_18 : decode cX12_let 18 = .ok (.ifCond .ne 7, 3) := by decide +kernel
theorem dX12_let_21 : decode cX12_let 21 = .ok (.iconst 1, 1) := by decide +kernel
theorem dX12_let_22 : decode cX12_let 22 = .ok (.goto 4, 3) := by decide +kernel
theorem dX12_let_25 : decode cX12_let 25 = .ok (.iconst 0, 1) := by decide +kernel
theorem dX12_let_26 : decode cX12_let 26 = .ok (.iconst 0, 1) := by decide +kernel
theorem dX12_let_27 : decode cX12_let 27 = .ok (.invokevirtual 670, 3) := by decide +kernel
theorem dX12_let_30 : decode cX12_let 30 = .ok (.ifCond .eq 5, 3) := by decide +kernel
theorem dX12_let_33 : decode cX12_let 33 = .ok (.iconst 0, 1) := by decide +kernel
theorem dX12_let_34 : decode cX12_let 34 = .ok (.ireturn, 1) := by decide +kernel
theorem dX12_let_35 : decode cX12_let 35 = .ok (.aload_n 0, 1) := by decide +kernel
theorem dX12_let_36 : decode cX12_let 36 = .ok (.iload_n 2, 1) := by decide +kernel
theorem dX12_let_37 : decode cX12_let 37 = .ok (.invokestatic 667, 3) := by decide +kernel
theorem dX12_let_40 : decode cX12_let 40 = .ok (.invokevirtual 713, 3) := by decide +kernel
theorem dX12_let_43 : decode cX12_let 43 = .ok (.istore_n 3, 1) := by decide +kernel
theorem dX12_let_44 : decode cX12_let 44 = .ok (.iload_n 3, 1) := by decide +kernel
theorem dX12_let_45 : decode cX12_let 45 = .ok (.ifCond .ne 31, 3) := by decide +kernel
theorem dX12_let_48 : decode cX12_let 48 = .ok (.aload_n 0, 1) := by decide +kernel
theorem dX12_let_49 : decode cX12_let 49 = .ok (.iload_n 1, 1) := by decide +kernel
theorem dX12_let_50 : decode cX12_let 50 = .ok (.bipush 97, 2) := by decide +kernel
theorem dX12_let_52 : decode cX12_let 52 = .ok (.isub, 1) := by decide +kernel
theorem dX12_let_53 : decode cX12_let 53 = .ok (.invokevirtual 719, 3) := by decide +kernel
theorem dX12_let_56 : decode cX12_let 56 = .ok (.aload_n 0, 1) := by decide +kernel
theorem dX12_let_57 : decode cX12_let 57 = .ok (.getfield 248, 3) := by decide +kernel
theorem dX12_let_60 : decode cX12_let 60 = .ok (.iload_n 1, 1) := by decide +kernel
theorem dX12_let_61 : decode cX12_let 61 = .ok (.bipush 97, 2) := by decide +kernel
theorem dX12_let_63 : decode cX12_let 63 = .ok (.isub, 1) := by decide +kernel
theorem dX12_let_64 : decode cX12_let 64 = .ok (.iconst 1, 1) := by decide +kernel
theorem dX12_let_65 : decode cX12_let 65 = .ok (.bastore, 1) := by decide +kernel
theorem dX12_let_66 : decode cX12_let 66 = .ok (.aload_n 0, 1) := by decide +kernel
theorem dX12_let_67 : decode cX12_let 67 = .ok (.iload_n 1, 1) := by decide +kernel
theorem dX12_let_68 : decode cX12_let 68 = .ok (.bipush 97, 2) := by decide +kernel
theorem dX12_let_70 : decode cX12_let 70 = .ok (.isub, 1) := by decide +kernel
theorem dX12_let_71 : decode cX12_let 71 = .ok (.bipush 60, 2) := by decide +kernel
theorem dX12_let_73 : decode cX12_let 73 = .ok (.invokevirtual 115, 3) := by decide +kernel
theorem dX12_let_76 : decode cX12_let 76 = .ok (.iload_n 3, 1) := by decide +kernel
theorem dX12_let_77 : decode cX12_let 77 = .ok (.ireturn, 1) := by decide +kernel
theorem dX12_unlet_0 : decode cX12_unlet 0 = .ok (.aload_n 0, 1) := by decide +kernel
theorem dX12_unlet_1 : decode cX12_unlet 1 = .ok (.iload_n 1, 1) := by decide +kernel
theorem dX12_unlet_2 : decode cX12_unlet 2 = .ok (.invokestatic 689, 3) := by decide +kernel
theorem dX12_unlet_5 : decode cX12_unlet 5 = .ok (.ifCond .ne 7, 3) := by decide +kernel
theorem dX12_unlet_8 : decode cX12_unlet 8 = .ok (.iconst 1, 1) := by decide +kernel
theorem dX12_unlet_9 : decode cX12_unlet 9 = .ok (.goto 4, 3) := by decide +kernel
theorem dX12_unlet_12 : decode cX12_unlet 12 = .ok (.iconst 0, 1) := by decide +kernel
theorem dX12_unlet_13 : decode cX12_unlet 13 = .ok (.iconst 0, 1) := by decide +kernel
theorem dX12_unlet_14 : decode cX12_unlet 14 = .ok (.iconst 0, 1) := by decide +kernel
theorem dX12_unlet_15 : decode cX12_unlet 15 = .ok (.invokevirtual 670, 3) := by decide +kernel
theorem dX12_unlet_18 : decode cX12_unlet 18 = .ok (.ifCond .ne 15, 3) := by decide +kernel
theorem dX12_unlet_21 : decode cX12_unlet 21 = .ok (.aload_n 0, 1) := by decide +kernel
theorem dX12_unlet_22 : decode cX12_unlet 22 = .ok (.getfield 248, 3) := by decide +kernel
theorem dX12_unlet_25 : decode cX12_unlet 25 = .ok (.iload_n 1, 1) := by decide +kernel
theorem dX12_unlet_26 : decode cX12_unlet 26 = .ok (.bipush 97, 2) := by decide +kernel
theorem dX12_unlet_28 : decode cX12_unlet 28 = .ok (.isub, 1) := by decide +kernel
theorem dX12_unlet_29 : decode cX12_unlet 29 = .ok (.baload, 1) := by decide +kernel
theorem dX12_unlet_30 : decode cX12_unlet 30 = .ok (.ifCond .ne 5, 3) := by decide +kernel
theorem dX12_unlet_33 : decode cX12_unlet 33 = .ok (.iconst 0, 1) := by decide +kernel
theorem dX12_unlet_34 : decode cX12_unlet 34 = .ok (.ireturn, 1) := by decide +kernel
theorem dX12_unlet_35 : decode cX12_unlet 35 = .ok (.aload_n 0, 1) := by decide +kernel
theorem dX12_unlet_36 : decode cX12_unlet 36 = .ok (.iload_n 1, 1) := by decide +kernel
theorem dX12_unlet_37 : decode cX12_unlet 37 = .ok (.bipush 97, 2) := by decide +kernel
theorem dX12_unlet_39 : decode cX12_unlet 39 = .ok (.isub, 1) := by decide +kernel
theorem dX12_unlet_40 : decode cX12_unlet 40 = .ok (.invokevirtual 719, 3) := by decide +kernel
theorem dX12_unlet_43 : decode cX12_unlet 43 = .ok (.aload_n 0, 1) := by decide +kernel
theorem dX12_unlet_44 : decode cX12_unlet 44 = .ok (.getfield 248, 3) := by decide +kernel
theorem dX12_unlet_47 : decode cX12_unlet 47 = .ok (.iload_n 1, 1) := by decide +kernel
theorem dX12_unlet_48 : decode cX12_unlet 48 = .ok (.bipush 97, 2) := by decide +kernel
theorem dX12_unlet_50 : decode cX12_unlet 50 = .ok (.isub, 1) := by decide +kernel
theorem dX12_unlet_51 : decode cX12_unlet 51 = .ok (.iconst 0, 1) := by decide +kernel
theorem dX12_unlet_52 : decode cX12_unlet 52 = .ok (.bastore, 1) := by decide +kernel
theorem dX12_unlet_53 : decode cX12_unlet 53 = .ok (.iconst 1, 1) := by decide +kernel
theorem dX12_unlet_54 : decode cX12_unlet 54 = .ok (.ireturn, 1) := by decide +kernel
theorem dX12_recall_0 : decode cX12_recall 0 = .ok (.aload_n 0, 1) := by decide +kernel
theorem dX12_recall_1 : decode cX12_recall 1 = .ok (.iload_n 1, 1) := by decide +kernel
theorem dX12_recall_2 : decode cX12_recall 2 = .ok (.invokestatic 689, 3) := by decide +kernel
theorem dX12_recall_5 : decode cX12_recall 5 = .ok (.ifCond .ne 7, 3) := by decide +kernel
theorem dX12_recall_8 : decode cX12_recall 8 = .ok (.iconst 1, 1) := by decide +kernel
theorem dX12_recall_9 : decode cX12_recall 9 = .ok (.goto 4, 3) := by decide +kernel
theorem dX12_recall_12 : decode cX12_recall 12 = .ok (.iconst 0, 1) := by decide +kernel
theorem dX12_recall_13 : decode cX12_recall 13 = .ok (.iconst 0, 1) := by decide +kernel
theorem dX12_recall_14 : decode cX12_recall 14 = .ok (.iconst 0, 1) := by decide +kernel
theorem dX12_recall_15 : decode cX12_recall 15 = .ok (.invokevirtual 670, 3) := by decide +kernel
theorem dX12_recall_18 : decode cX12_recall 18 = .ok (.ifCond .ne 15, 3) := by decide +kernel
theorem dX12_recall_21 : decode cX12_recall 21 = .ok (.aload_n 0, 1) := by decide +kernel
theorem dX12_recall_22 : decode cX12_recall 22 = .ok (.getfield 248, 3) := by decide +kernel
theorem dX12_recall_25 : decode cX12_recall 25 = .ok (.iload_n 1, 1) := by decide +kernel
theorem dX12_recall_26 : decode cX12_recall 26 = .ok (.bipush 97, 2) := by decide +kernel
theorem dX12_recall_28 : decode cX12_recall 28 = .ok (.isub, 1) := by decide +kernel
theorem dX12_recall_29 : decode cX12_recall 29 = .ok (.baload, 1) := by decide +kernel
theorem dX12_recall_30 : decode cX12_recall 30 = .ok (.ifCond .ne 5, 3) := by decide +kernel
theorem dX12_recall_33 : decode cX12_recall 33 = .ok (.iconst 0, 1) := by decide +kernel
theorem dX12_recall_34 : decode cX12_recall 34 = .ok (.ireturn, 1) := by decide +kernel
theorem dX12_recall_35 : decode cX12_recall 35 = .ok (.aload_n 0, 1) := by decide +kernel
theorem dX12_recall_36 : decode cX12_recall 36 = .ok (.bipush 26, 2) := by decide +kernel
theorem dX12_recall_38 : decode cX12_recall 38 = .ok (.iload_n 1, 1) := by decide +kernel
theorem dX12_recall_39 : decode cX12_recall 39 = .ok (.bipush 97, 2) := by decide +kernel
theorem dX12_recall_41 : decode cX12_recall 41 = .ok (.isub, 1) := by decide +kernel
theorem dX12_recall_42 : decode cX12_recall 42 = .ok (.invokevirtual 115, 3) := by decide +kernel
theorem dX12_recall_45 : decode cX12_recall 45 = .ok (.iconst 1, 1) := by decide +kernel
theorem dX12_recall_46 : decode cX12_recall 46 = .ok (.ireturn, 1) := by decide +kernel
theorem dX12_define_0 : decode cX12_define 0 = .ok (.aload_n 0, 1) := by decide +kernel
theorem dX12_define_1 : decode cX12_define 1 = .ok (.iload_n 1, 1) := by decide +kernel
theorem dX12_define_2 : decode cX12_define 2 = .ok (.invokestatic 689, 3) := by decide +kernel
theorem dX12_define_5 : decode cX12_define 5 = .ok (.ifCond .eq 24, 3) := by decide +kernel
theorem dX12_define_8 : decode cX12_define 8 = .ok (.iload_n 1, 1) := by decide +kernel
theorem dX12_define_9 : decode cX12_define 9 = .ok (.bipush 105, 2) := by decide +kernel
theorem dX12_define_11 : decode cX12_define 11 = .ok (.if_icmp .eq 18, 3) := by decide +kernel
theorem dX12_define_14 : decode cX12_define 14 = .ok (.iload_n 1, 1) := by decide +kernel
theorem dX12_define_15 : decode cX12_define 15 = .ok (.bipush 115, 2) := by decide +kernel
theorem dX12_define_17 : decode cX12_define 17 = .ok (.if_icmp .eq 12, 3) := by decide +kernel
theorem dX12_define_20 : decode cX12_define 20 = .ok (.iload_n 2, 1) := by decide +kernel
theorem dX12_define_21 : decode cX12_define 21 = .ok (.iconst 1, 1) := by decide +kernel
theorem dX12_define_22 : decode cX12_define 22 = .ok (.iconst 3, 1) := by decide +kernel
theorem dX12_define_23 : decode cX12_define 23 = .ok (.invokestatic 106, 3) := by decide +kernel
theorem dX12_define_26 : decode cX12_define 26 = .ok (.ifCond .ne 7, 3) := by decide +kernel
theorem dX12_define_29 : decode cX12_define 29 = .ok (.iconst 1, 1) := by decide +kernel
theorem dX12_define_30 : decode cX12_define 30 = .ok (.goto 4, 3) := by decide +kernel
theorem dX12_define_33 : decode cX12_define 33 = .ok (.iconst 0, 1) := by decide +kernel
theorem dX12_define_34 : decode cX12_define 34 = .ok (.iconst 0, 1) := by decide +kernel
theorem dX12_define_35 : decode cX12_define 35 = .ok (.iconst 0, 1) := by decide +kernel
theorem dX12_define_36 : decode cX12_define 36 = .ok (.invokevirtual 670, 3) := by decide +kernel
theorem dX12_define_39 : decode cX12_define 39 = .ok (.ifCond .eq 5, 3) := by decide +kernel
theorem dX12_define_42 : decode cX12_define 42 = .ok (.iconst 0, 1) := by decide +kernel
theorem dX12_define_43 : decode cX12_define 43 = .ok (.ireturn, 1) := by decide +kernel
theorem dX12_define_44 : decode cX12_define 44 = .ok (.iload_n 1, 1) := by decide +kernel
theorem dX12_define_45 : decode cX12_define 45 = .ok (.bipush 97, 2) := by decide +kernel
theorem dX12_define_47 : decode cX12_define 47 = .ok (.isub, 1) := by decide +kernel
theorem dX12_define_48 : decode cX12_define 48 = .ok (.istore_n 3, 1) := by decide +kernel
theorem dX12_define_49 : decode cX12_define 49 = .ok (.aload_n 0, 1) := by decide +kernel
theorem dX12_define_50 : decode cX12_define 50 = .ok (.getfield 175, 3) := by decide +kernel
theorem dX12_define_53 : decode cX12_define 53 = .ok (.iload_n 3, 1) := by decide +kernel
theorem dX12_define_54 : decode cX12_define 54 = .ok (.iaload, 1) := by decide +kernel
theorem dX12_define_55 : decode cX12_define 55 = .ok (.ifCond .ne 7, 3) := by decide +kernel
theorem dX12_define_58 : decode cX12_define 58 = .ok (.iconst (-1), 1) := by decide +kernel
theorem dX12_define_59 : decode cX12_define 59 = .ok (.goto 9, 3) := by decide +kernel
theorem dX12_define_62 : decode cX12_define 62 = .ok (.aload_n 0, 1) := by decide +kernel
theorem dX12_define_63 : decode cX12_define 63 = .ok (.getfield 178, 3) := by decide +kernel
theorem dX12_define_66 : decode cX12_define 66 = .ok (.iload_n 3, 1) := by decide +kernel
theorem dX12_define_67 : decode cX12_define 67 = .ok (.iaload, 1) := by decide +kernel
theorem dX12_define_68 : decode cX12_define 68 = .ok (.istore 4, 2) := by decide +kernel
theorem dX12_define_70 : decode cX12_define 70 = .ok (.aload_n 0, 1) := by decide +kernel
theorem dX12_define_71 : decode cX12_define 71 = .ok (.iload_n 3, 1) := by decide +kernel
theorem dX12_define_72 : decode cX12_define 72 = .ok (.invokevirtual 722, 3) := by decide +kernel
theorem dX12_define_75 : decode cX12_define 75 = .ok (.aload_n 0, 1) := by decide +kernel
theorem dX12_define_76 : decode cX12_define 76 = .ok (.getfield 175, 3) := by decide +kernel
theorem dX12_define_79 : decode cX12_define 79 = .ok (.iload_n 3, 1) := by decide +kernel
theorem dX12_define_80 : decode cX12_define 80 = .ok (.iload_n 2, 1) := by decide +kernel
theorem dX12_define_81 : decode cX12_define 81 = .ok (.iastore, 1) := by decide +kernel
theorem dX12_define_82 : decode cX12_define 82 = .ok (.aload_n 0, 1) := by decide +kernel
theorem dX12_define_83 : decode cX12_define 83 = .ok (.getfield 178, 3) := by decide +kernel
theorem dX12_define_86 : decode cX12_define 86 = .ok (.iload_n 3, 1) := by decide +kernel
theorem dX12_define_87 : decode cX12_define 87 = .ok (.iconst 0, 1) := by decide +kernel
theorem dX12_define_88 : decode cX12_define 88 = .ok (.iastore, 1) := by decide +kernel
theorem dX12_define_89 : decode cX12_define 89 = .ok (.iconst 0, 1) := by decide +kernel
theorem dX12_define_90 : decode cX12_define 90 = .ok (.istore 5, 2) := by decide +kernel
theorem dX12_define_92 : decode cX12_define 92 = .ok (.iload 5, 2) := by decide +kernel
theorem dX12_define_94 : decode cX12_define 94 = .ok (.bipush 8, 2) := by decide +kernel
theorem dX12_define_96 : decode cX12_define 96 = .ok (.if_icmp .ge 22, 3) := by decide +kernel
theorem dX12_define_99 : decode cX12_define 99 = .ok (.aload_n 0, 1) := by decide +kernel
theorem dX12_define_100 : decode cX12_define 100 = .ok (.getfield 181, 3) := by decide +kernel
theorem dX12_define_103 : decode cX12_define 103 = .ok (.bipush 8, 2) := by decide +kernel
theorem dX12_define_105 : decode cX12_define 105 = .ok (.iload_n 3, 1) := by decide +kernel
theorem dX12_define_106 : decode cX12_define 106 = .ok (.imul, 1) := by decide +kernel
theorem dX12_define_107 : decode cX12_define 107 = .ok (.iload 5, 2) := by decide +kernel
theorem dX12_define_109 : decode cX12_define 109 = .ok (.iadd, 1) := by decide +kernel
theorem dX12_define_110 : decode cX12_define 110 = .ok (.iconst 0, 1) := by decide +kernel
theorem dX12_define_111 : decode cX12_define 111 = .ok (.iastore, 1) := by decide +kernel
theorem dX12_define_112 : decode cX12_define 112 = .ok (.iinc 5 1, 3) := by decide +kernel
theorem dX12_define_115 : decode cX12_define 115 = .ok (.goto (-23), 3) := by decide +kernel
theorem dX12_define_118 : decode cX12_define 118 = .ok (.iload 4, 2) := by decide +kernel
theorem dX12_define_120 : decode cX12_define 120 = .ok (.ireturn, 1) := by decide +kernel
theorem dX12_layCase_0 : decode cX12_layCase 0 = .ok (.bipush 8, 2) := by decide +kernel
theorem dX12_layCase_2 : decode cX12_layCase 2 = .ok (.iload_n 1, 1) := by decide +kernel
theorem dX12_layCase_3 : decode cX12_layCase 3 = .ok (.imul, 1) := by decide +kernel
theorem dX12_layCase_4 : decode cX12_layCase 4 = .ok (.iconst 2, 1) := by decide +kernel
theorem dX12_layCase_5 : decode cX12_layCase 5 = .ok (.aload_n 0, 1) := by decide +kernel
theorem dX12_layCase_6 : decode cX12_layCase 6 = .ok (.getfield 178, 3) := by decide +kernel
theorem dX12_layCase_9 : decode cX12_layCase 9 = .ok (.iload_n 1, 1) := by decide +kernel
theorem dX12_layCase_10 : decode cX12_layCase 10 = .ok (.iaload, 1) := by decide +kernel
theorem dX12_layCase_11 : decode cX12_layCase 11 = .ok (.imul, 1) := by decide +kernel
theorem dX12_layCase_12 : decode cX12_layCase 12 = .ok (.iadd, 1) := by decide +kernel
theorem dX12_layCase_13 : decode cX12_layCase 13 = .ok (.iload_n 2, 1) := by decide +kernel
theorem dX12_layCase_14 : decode cX12_layCase 14 = .ok (.iadd, 1) := by decide +kernel
theorem dX12_layCase_15 : decode cX12_layCase 15 = .ok (.istore 4, 2) := by decide +kernel
theorem dX12_layCase_17 : decode cX12_layCase 17 = .ok (.aload_n 0, 1) := by decide +kernel
theorem dX12_layCase_18 : decode cX12_layCase 18 = .ok (.getfield 181, 3) := by decide +kernel
theorem dX12_layCase_21 : decode cX12_layCase 21 = .ok (.iload 4, 2) := by decide +kernel
theorem dX12_layCase_23 : decode cX12_layCase 23 = .ok (.iload_n 3, 1) := by decide +kernel
theorem dX12_layCase_24 : decode cX12_layCase 24 = .ok (.iconst (-1), 1) := by decide +kernel
theorem dX12_layCase_25 : decode cX12_layCase 25 = .ok (.if_icmp .ne 7, 3) := by decide +kernel
theorem dX12_layCase_28 : decode cX12_layCase 28 = .ok (.iconst 0, 1) := by decide +kernel
theorem dX12_layCase_29 : decode cX12_layCase 29 = .ok (.goto 9, 3) := by decide +kernel
theorem dX12_layCase_32 : decode cX12_layCase 32 = .ok (.aload_n 0, 1) := by decide +kernel
theorem dX12_layCase_33 : decode cX12_layCase 33 = .ok (.getfield 172, 3) := by decide +kernel
theorem dX12_layCase_36 : decode cX12_layCase 36 = .ok (.iload_n 3, 1) := by decide +kernel
theorem dX12_layCase_37 : decode cX12_layCase 37 = .ok (.iaload, 1) := by decide +kernel
theorem dX12_layCase_38 : decode cX12_layCase 38 = .ok (.iastore, 1) := by decide +kernel
theorem dX12_layCase_39 : decode cX12_layCase 39 = .ok (.aload_n 0, 1) := by decide +kernel
theorem dX12_layCase_40 : decode cX12_layCase 40 = .ok (.sipush 2400, 3) := by decide +kernel
theorem dX12_layCase_43 : decode cX12_layCase 43 = .ok (.bipush 30, 2) := by decide +kernel
theorem dX12_layCase_45 : decode cX12_layCase 45 = .ok (.iload 4, 2) := by decide +kernel
theorem dX12_layCase_47 : decode cX12_layCase 47 = .ok (.imul, 1) := by decide +kernel
theorem dX12_layCase_48 : decode cX12_layCase 48 = .ok (.iadd, 1) := by decide +kernel
theorem dX12_layCase_49 : decode cX12_layCase 49 = .ok (.iload_n 3, 1) := by decide +kernel
theorem dX12_layCase_50 : decode cX12_layCase 50 = .ok (.iconst (-1), 1) := by decide +kernel
theorem dX12_layCase_51 : decode cX12_layCase 51 = .ok (.if_icmp .ne 7, 3) := by decide +kernel
theorem dX12_layCase_54 : decode cX12_layCase 54 = .ok (.iconst 0, 1) := by decide +kernel
theorem dX12_layCase_55 : decode cX12_layCase 55 = .ok (.goto 7, 3) := by decide +kernel
theorem dX12_layCase_58 : decode cX12_layCase 58 = .ok (.iload_n 3, 1) := by decide +kernel
theorem dX12_layCase_59 : decode cX12_layCase 59 = .ok (.invokestatic 667, 3) := by decide +kernel
theorem dX12_layCase_62 : decode cX12_layCase 62 = .ok (.aload_n 0, 1) := by decide +kernel
theorem dX12_layCase_63 : decode cX12_layCase 63 = .ok (.getfield 181, 3) := by decide +kernel
theorem dX12_layCase_66 : decode cX12_layCase 66 = .ok (.iload 4, 2) := by decide +kernel
theorem dX12_layCase_68 : decode cX12_layCase 68 = .ok (.iaload, 1) := by decide +kernel
theorem dX12_layCase_69 : decode cX12_layCase 69 = .ok (.invokevirtual 515, 3) := by decide +kernel
theorem dX12_layCase_72 : decode cX12_layCase 72 = .ok (.return_, 1) := by decide +kernel
theorem dX12_addCase_0 : decode cX12_addCase 0 = .ok (.aload_n 0, 1) := by decide +kernel
theorem dX12_addCase_1 : decode cX12_addCase 1 = .ok (.iload_n 3, 1) := by decide +kernel
theorem dX12_addCase_2 : decode cX12_addCase 2 = .ok (.invokevirtual 664, 3) := by decide +kernel
theorem dX12_addCase_5 : decode cX12_addCase 5 = .ok (.ifCond .eq 20, 3) := by decide +kernel
theorem dX12_addCase_8 : decode cX12_addCase 8 = .ok (.iload_n 2, 1) := by decide +kernel
theorem dX12_addCase_9 : decode cX12_addCase 9 = .ok (.iconst (-1), 1) := by decide +kernel
theorem dX12_addCase_10 : decode cX12_addCase 10 = .ok (.if_icmp .eq 11, 3) := by decide +kernel
theorem dX12_addCase_13 : decode cX12_addCase 13 = .ok (.aload_n 0, 1) := by decide +kernel
theorem dX12_addCase_14 : decode cX12_addCase 14 = .ok (.iload_n 2, 1) := by decide +kernel
theorem dX12_addCase_15 : decode cX12_addCase 15 = .ok (.invokevirtual 664, 3) := by decide +kernel
theorem dX12_addCase_18 : decode cX12_addCase 18 = .ok (.ifCond .eq 7, 3) := by decide +kernel
theorem dX12_addCase_21 : decode cX12_addCase 21 = .ok (.iconst 1, 1) := by decide +kernel
theorem dX12_addCase_22 : decode cX12_addCase 22 = .ok (.goto 4, 3) := by decide +kernel
theorem dX12_addCase_25 : decode cX12_addCase 25 = .ok (.iconst 0, 1) := by decide +kernel
theorem dX12_addCase_26 : decode cX12_addCase 26 = .ok (.istore 4, 2) := by decide +kernel
theorem dX12_addCase_28 : decode cX12_addCase 28 = .ok (.aload_n 0, 1) := by decide +kernel
theorem dX12_addCase_29 : decode cX12_addCase 29 = .ok (.iload_n 1, 1) := by decide +kernel
theorem dX12_addCase_30 : decode cX12_addCase 30 = .ok (.invokestatic 689, 3) := by decide +kernel
theorem dX12_addCase_33 : decode cX12_addCase 33 = .ok (.ifCond .ne 7, 3) := by decide +kernel
theorem dX12_addCase_36 : decode cX12_addCase 36 = .ok (.iconst 1, 1) := by decide +kernel
theorem dX12_addCase_37 : decode cX12_addCase 37 = .ok (.goto 4, 3) := by decide +kernel
theorem dX12_addCase_40 : decode cX12_addCase 40 = .ok (.iconst 0, 1) := by decide +kernel
theorem dX12_addCase_41 : decode cX12_addCase 41 = .ok (.iload 4, 2) := by decide +kernel
theorem dX12_addCase_43 : decode cX12_addCase 43 = .ok (.ifCond .ne 7, 3) := by decide +kernel
theorem dX12_addCase_46 : decode cX12_addCase 46 = .ok (.iconst 1, 1) := by decide +kernel
theorem dX12_addCase_47 : decode cX12_addCase 47 = .ok (.goto 4, 3) := by decide +kernel
theorem dX12_addCase_50 : decode cX12_addCase 50 = .ok (.iconst 0, 1) := by decide +kernel
theorem dX12_addCase_51 : decode cX12_addCase 51 = .ok (.iconst 0, 1) := by decide +kernel
theorem dX12_addCase_52 : decode cX12_addCase 52 = .ok (.invokevirtual 670, 3) := by decide +kernel
theorem dX12_addCase_55 : decode cX12_addCase 55 = .ok (.ifCond .eq 5, 3) := by decide +kernel
theorem dX12_addCase_58 : decode cX12_addCase 58 = .ok (.iconst 0, 1) := by decide +kernel
theorem dX12_addCase_59 : decode cX12_addCase 59 = .ok (.ireturn, 1) := by decide +kernel
theorem dX12_addCase_60 : decode cX12_addCase 60 = .ok (.iload_n 1, 1) := by decide +kernel
theorem dX12_addCase_61 : decode cX12_addCase 61 = .ok (.bipush 97, 2) := by decide +kernel
theorem dX12_addCase_63 : decode cX12_addCase 63 = .ok (.isub, 1) := by decide +kernel
theorem dX12_addCase_64 : decode cX12_addCase 64 = .ok (.istore 5, 2) := by decide +kernel
theorem dX12_addCase_66 : decode cX12_addCase 66 = .ok (.aload_n 0, 1) := by decide +kernel
theorem dX12_addCase_67 : decode cX12_addCase 67 = .ok (.getfield 172, 3) := by decide +kernel
theorem dX12_addCase_70 : decode cX12_addCase 70 = .ok (.iload_n 3, 1) := by decide +kernel
theorem dX12_addCase_71 : decode cX12_addCase 71 = .ok (.iaload, 1) := by decide +kernel
theorem dX12_addCase_72 : decode cX12_addCase 72 = .ok (.bipush 30, 2) := by decide +kernel
theorem dX12_addCase_74 : decode cX12_addCase 74 = .ok (.if_icmp .gt 19, 3) := by decide +kernel
theorem dX12_addCase_77 : decode cX12_addCase 77 = .ok (.iload_n 2, 1) := by decide +kernel
theorem dX12_addCase_78 : decode cX12_addCase 78 = .ok (.iconst (-1), 1) := by decide +kernel
theorem dX12_addCase_79 : decode cX12_addCase 79 = .ok (.if_icmp .eq 18, 3) := by decide +kernel
theorem dX12_addCase_82 : decode cX12_addCase 82 = .ok (.aload_n 0, 1) := by decide +kernel
theorem dX12_addCase_83 : decode cX12_addCase 83 = .ok (.getfield 172, 3) := by decide +kernel
theorem dX12_addCase_86 : decode cX12_addCase 86 = .ok (.iload_n 2, 1) := by decide +kernel
theorem dX12_addCase_87 : decode cX12_addCase 87 = .ok (.iaload, 1) := by decide +kernel
theorem dX12_addCase_88 : decode cX12_addCase 88 = .ok (.bipush 30, 2) := by decide +kernel
theorem dX12_addCase_90 : decode cX12_addCase 90 = .ok (.if_icmp .le 7, 3) := by decide +kernel
theorem dX12_addCase_93 : decode cX12_addCase 93 = .ok (.iconst 1, 1) := by decide +kernel
theorem dX12_addCase_94 : decode cX12_addCase 94 = .ok (.goto 4, 3) := by decide +kernel
theorem dX12_addCase_97 : decode cX12_addCase 97 = .ok (.iconst 0, 1) := by decide +kernel
theorem dX12_addCase_98 : decode cX12_addCase 98 = .ok (.istore 6, 2) := by decide +kernel
theorem dX12_addCase_100 : decode cX12_addCase 100 = .ok (.aload_n 0, 1) := by decide +kernel
theorem dX12_addCase_101 : decode cX12_addCase 101 = .ok (.iconst 0, 1) := by decide +kernel
theorem dX12_addCase_102 : decode cX12_addCase 102 = .ok (.iconst 0, 1) := by decide +kernel
theorem dX12_addCase_103 : decode cX12_addCase 103 = .ok (.aload_n 0, 1) := by decide +kernel
theorem dX12_addCase_104 : decode cX12_addCase 104 = .ok (.getfield 175, 3) := by decide +kernel
theorem dX12_addCase_107 : decode cX12_addCase 107 = .ok (.iload 5, 2) := by decide +kernel
theorem dX12_addCase_109 : decode cX12_addCase 109 = .ok (.iaload, 1) := by decide +kernel
theorem dX12_addCase_110 : decode cX12_addCase 110 = .ok (.ifCond .eq 19, 3) := by decide +kernel
theorem dX12_addCase_113 : decode cX12_addCase 113 = .ok (.aload_n 0, 1) := by decide +kernel
theorem dX12_addCase_114 : decode cX12_addCase 114 = .ok (.getfield 178, 3) := by decide +kernel
theorem dX12_addCase_117 : decode cX12_addCase 117 = .ok (.iload 5, 2) := by decide +kernel
theorem dX12_addCase_119 : decode cX12_addCase 119 = .ok (.iaload, 1) := by decide +kernel
theorem dX12_addCase_120 : decode cX12_addCase 120 = .ok (.iconst 4, 1) := by decide +kernel
theorem dX12_addCase_121 : decode cX12_addCase 121 = .ok (.if_icmp .eq 8, 3) := by decide +kernel
theorem dX12_addCase_124 : decode cX12_addCase 124 = .ok (.iload 6, 2) := by decide +kernel
theorem dX12_addCase_126 : decode cX12_addCase 126 = .ok (.ifCond .eq 7, 3) := by decide +kernel
theorem dX12_addCase_129 : decode cX12_addCase 129 = .ok (.iconst 1, 1) := by decide +kernel
theorem dX12_addCase_130 : decode cX12_addCase 130 = .ok (.goto 4, 3) := by decide +kernel
theorem dX12_addCase_133 : decode cX12_addCase 133 = .ok (.iconst 0, 1) := by decide +kernel
theorem dX12_addCase_134 : decode cX12_addCase 134 = .ok (.invokevirtual 670, 3) := by decide +kernel
theorem dX12_addCase_137 : decode cX12_addCase 137 = .ok (.ifCond .eq 5, 3) := by decide +kernel
theorem dX12_addCase_140 : decode cX12_addCase 140 = .ok (.iconst 0, 1) := by decide +kernel
theorem dX12_addCase_141 : decode cX12_addCase 141 = .ok (.ireturn, 1) := by decide +kernel
theorem dX12_addCase_142 : decode cX12_addCase 142 = .ok (.aload_n 0, 1) := by decide +kernel
theorem dX12_addCase_143 : decode cX12_addCase 143 = .ok (.iload 5, 2) := by decide +kernel
theorem dX12_addCase_145 : decode cX12_addCase 145 = .ok (.invokevirtual 722, 3) := by decide +kernel
theorem dX12_addCase_148 : decode cX12_addCase 148 = .ok (.aload_n 0, 1) := by decide +kernel
theorem dX12_addCase_149 : decode cX12_addCase 149 = .ok (.iload 5, 2) := by decide +kernel
theorem dX12_addCase_151 : decode cX12_addCase 151 = .ok (.iconst 0, 1) := by decide +kernel
theorem dX12_addCase_152 : decode cX12_addCase 152 = .ok (.iload_n 2, 1) := by decide +kernel
theorem dX12_addCase_153 : decode cX12_addCase 153 = .ok (.invokevirtual 725, 3) := by decide +kernel
theorem dX12_addCase_156 : decode cX12_addCase 156 = .ok (.aload_n 0, 1) := by decide +kernel
theorem dX12_addCase_157 : decode cX12_addCase 157 = .ok (.iload 5, 2) := by decide +kernel
theorem dX12_addCase_159 : decode cX12_addCase 159 = .ok (.iconst 1, 1) := by decide +kernel
theorem dX12_addCase_160 : decode cX12_addCase 160 = .ok (.iload_n 3, 1) := by decide +kernel
theorem dX12_addCase_161 : decode cX12_addCase 161 = .ok (.invokevirtual 725, 3) := by decide +kernel
theorem dX12_addCase_164 : decode cX12_addCase 164 = .ok (.aload_n 0, 1) := by decide +kernel
theorem dX12_addCase_165 : decode cX12_addCase 165 = .ok (.getfield 178, 3) := by decide +kernel
theorem dX12_addCase_168 : decode cX12_addCase 168 = .ok (.iload 5, 2) := by decide +kernel
theorem dX12_addCase_170 : decode cX12_addCase 170 = .ok (.dup2, 1) := by decide +kernel
theorem dX12_addCase_171 : decode cX12_addCase 171 = .ok (.iaload, 1) := by decide +kernel
theorem dX12_addCase_172 : decode cX12_addCase 172 = .ok (.iconst 1, 1) := by decide +kernel
theorem dX12_addCase_173 : decode cX12_addCase 173 = .ok (.iadd, 1) := by decide +kernel
theorem dX12_addCase_174 : decode cX12_addCase 174 = .ok (.iastore, 1) := by decide +kernel
theorem dX12_addCase_175 : decode cX12_addCase 175 = .ok (.aload_n 0, 1) := by decide +kernel
theorem dX12_addCase_176 : decode cX12_addCase 176 = .ok (.getfield 178, 3) := by decide +kernel
theorem dX12_addCase_179 : decode cX12_addCase 179 = .ok (.iload 5, 2) := by decide +kernel
theorem dX12_addCase_181 : decode cX12_addCase 181 = .ok (.iaload, 1) := by decide +kernel
theorem dX12_addCase_182 : decode cX12_addCase 182 = .ok (.ireturn, 1) := by decide +kernel
theorem dX12_step_0 : decode cX12_step 0 = .ok (.aload_n 0, 1) := by decide +kernel
theorem dX12_step_1 : decode cX12_step 1 = .ok (.aload_n 0, 1) := by decide +kernel
theorem dX12_step_2 : decode cX12_step 2 = .ok (.iload_n 1, 1) := by decide +kernel
theorem dX12_step_3 : decode cX12_step 3 = .ok (.invokevirtual 664, 3) := by decide +kernel
theorem dX12_step_6 : decode cX12_step 6 = .ok (.ifCond .ne 7, 3) := by decide +kernel
theorem dX12_step_9 : decode cX12_step 9 = .ok (.iconst 1, 1) := by decide +kernel
theorem dX12_step_10 : decode cX12_step 10 = .ok (.goto 4, 3) := by decide +kernel
theorem dX12_step_13 : decode cX12_step 13 = .ok (.iconst 0, 1) := by decide +kernel
theorem dX12_step_14 : decode cX12_step 14 = .ok (.aload_n 0, 1) := by decide +kernel
theorem dX12_step_15 : decode cX12_step 15 = .ok (.getfield 661, 3) := by decide +kernel
theorem dX12_step_18 : decode cX12_step 18 = .ok (.bipush 30, 2) := by decide +kernel
theorem dX12_step_20 : decode cX12_step 20 = .ok (.if_icmp .ne 7, 3) := by decide +kernel
theorem dX12_step_23 : decode cX12_step 23 = .ok (.iconst 1, 1) := by decide +kernel
theorem dX12_step_24 : decode cX12_step 24 = .ok (.goto 4, 3) := by decide +kernel
theorem dX12_step_27 : decode cX12_step 27 = .ok (.iconst 0, 1) := by decide +kernel
theorem dX12_step_28 : decode cX12_step 28 = .ok (.iconst 0, 1) := by decide +kernel
theorem dX12_step_29 : decode cX12_step 29 = .ok (.invokevirtual 670, 3) := by decide +kernel
theorem dX12_step_32 : decode cX12_step 32 = .ok (.ifCond .eq 5, 3) := by decide +kernel
theorem dX12_step_35 : decode cX12_step 35 = .ok (.iconst 0, 1) := by decide +kernel
theorem dX12_step_36 : decode cX12_step 36 = .ok (.ireturn, 1) := by decide +kernel
theorem dX12_step_37 : decode cX12_step 37 = .ok (.aload_n 0, 1) := by decide +kernel
theorem dX12_step_38 : decode cX12_step 38 = .ok (.iload_n 1, 1) := by decide +kernel
theorem dX12_step_39 : decode cX12_step 39 = .ok (.invokestatic 667, 3) := by decide +kernel
theorem dX12_step_42 : decode cX12_step 42 = .ok (.invokevirtual 728, 3) := by decide +kernel
theorem dX12_step_45 : decode cX12_step 45 = .ok (.aload_n 0, 1) := by decide +kernel
theorem dX12_step_46 : decode cX12_step 46 = .ok (.iconst 0, 1) := by decide +kernel
theorem dX12_step_47 : decode cX12_step 47 = .ok (.putfield 543, 3) := by decide +kernel
theorem dX12_step_50 : decode cX12_step 50 = .ok (.aload_n 0, 1) := by decide +kernel
theorem dX12_step_51 : decode cX12_step 51 = .ok (.invokevirtual 731, 3) := by decide +kernel
theorem dX12_step_54 : decode cX12_step 54 = .ok (.ifCond .eq 17, 3) := by decide +kernel
theorem dX12_step_57 : decode cX12_step 57 = .ok (.aload_n 0, 1) := by decide +kernel
theorem dX12_step_58 : decode cX12_step 58 = .ok (.sipush 13540, 3) := by decide +kernel
theorem dX12_step_61 : decode cX12_step 61 = .ok (.aload_n 0, 1) := by decide +kernel
theorem dX12_step_62 : decode cX12_step 62 = .ok (.getfield 512, 3) := by decide +kernel
theorem dX12_step_65 : decode cX12_step 65 = .ok (.invokevirtual 677, 3) := by decide +kernel
theorem dX12_step_68 : decode cX12_step 68 = .ok (.goto 4, 3) := by decide +kernel
theorem dX12_step_71 : decode cX12_step 71 = .ok (.iconst (-1), 1) := by decide +kernel
theorem dX12_step_72 : decode cX12_step 72 = .ok (.ireturn, 1) := by decide +kernel
theorem dX12_simplify_0 : decode cX12_simplify 0 = .ok (.aload_n 0, 1) := by decide +kernel
theorem dX12_simplify_1 : decode cX12_simplify 1 = .ok (.aload_n 0, 1) := by decide +kernel
theorem dX12_simplify_2 : decode cX12_simplify 2 = .ok (.iload_n 1, 1) := by decide +kernel
theorem dX12_simplify_3 : decode cX12_simplify 3 = .ok (.invokevirtual 664, 3) := by decide +kernel
theorem dX12_simplify_6 : decode cX12_simplify 6 = .ok (.ifCond .ne 7, 3) := by decide +kernel
theorem dX12_simplify_9 : decode cX12_simplify 9 = .ok (.iconst 1, 1) := by decide +kernel
theorem dX12_simplify_10 : decode cX12_simplify 10 = .ok (.goto 4, 3) := by decide +kernel
theorem dX12_simplify_13 : decode cX12_simplify 13 = .ok (.iconst 0, 1) := by decide +kernel
theorem dX12_simplify_14 : decode cX12_simplify 14 = .ok (.aload_n 0, 1) := by decide +kernel
theorem dX12_simplify_15 : decode cX12_simplify 15 = .ok (.getfield 661, 3) := by decide +kernel
theorem dX12_simplify_18 : decode cX12_simplify 18 = .ok (.bipush 30, 2) := by decide +kernel
theorem dX12_simplify_20 : decode cX12_simplify 20 = .ok (.if_icmp .ne 7, 3) := by decide +kernel
theorem dX12_simplify_23 : decode cX12_simplify 23 = .ok (.iconst 1, 1) := by decide +kernel
theorem dX12_simplify_24 : decode cX12_simplify 24 = .ok (.goto 4, 3) := by decide +kernel
theorem dX12_simplify_27 : decode cX12_simplify 27 = .ok (.iconst 0, 1) := by decide +kernel
theorem dX12_simplify_28 : decode cX12_simplify 28 = .ok (.iconst 0, 1) := by decide +kernel
theorem dX12_simplify_29 : decode cX12_simplify 29 = .ok (.invokevirtual 670, 3) := by decide +kernel
theorem dX12_simplify_32 : decode cX12_simplify 32 = .ok (.ifCond .eq 5, 3) := by decide +kernel
theorem dX12_simplify_35 : decode cX12_simplify 35 = .ok (.iconst 0, 1) := by decide +kernel
theorem dX12_simplify_36 : decode cX12_simplify 36 = .ok (.ireturn, 1) := by decide +kernel
theorem dX12_simplify_37 : decode cX12_simplify 37 = .ok (.aload_n 0, 1) := by decide +kernel
theorem dX12_simplify_38 : decode cX12_simplify 38 = .ok (.iload_n 1, 1) := by decide +kernel
theorem dX12_simplify_39 : decode cX12_simplify 39 = .ok (.invokestatic 667, 3) := by decide +kernel
theorem dX12_simplify_42 : decode cX12_simplify 42 = .ok (.invokevirtual 728, 3) := by decide +kernel
theorem dX12_simplify_45 : decode cX12_simplify 45 = .ok (.aload_n 0, 1) := by decide +kernel
theorem dX12_simplify_46 : decode cX12_simplify 46 = .ok (.iconst 0, 1) := by decide +kernel
theorem dX12_simplify_47 : decode cX12_simplify 47 = .ok (.putfield 543, 3) := by decide +kernel
theorem dX12_simplify_50 : decode cX12_simplify 50 = .ok (.aload_n 0, 1) := by decide +kernel
theorem dX12_simplify_51 : decode cX12_simplify 51 = .ok (.invokevirtual 731, 3) := by decide +kernel
theorem dX12_simplify_54 : decode cX12_simplify 54 = .ok (.istore_n 2, 1) := by decide +kernel
theorem dX12_simplify_55 : decode cX12_simplify 55 = .ok (.iload_n 2, 1) := by decide +kernel
theorem dX12_simplify_56 : decode cX12_simplify 56 = .ok (.ifCond .eq 11, 3) := by decide +kernel
theorem dX12_simplify_59 : decode cX12_simplify 59 = .ok (.aload_n 0, 1) := by decide +kernel
theorem dX12_simplify_60 : decode cX12_simplify 60 = .ok (.invokevirtual 731, 3) := by decide +kernel
theorem dX12_simplify_63 : decode cX12_simplify 63 = .ok (.istore_n 2, 1) := by decide +kernel
theorem dX12_simplify_64 : decode cX12_simplify 64 = .ok (.goto (-9), 3) := by decide +kernel
theorem dX12_simplify_67 : decode cX12_simplify 67 = .ok (.aload_n 0, 1) := by decide +kernel
theorem dX12_simplify_68 : decode cX12_simplify 68 = .ok (.getfield 543, 3) := by decide +kernel
theorem dX12_simplify_71 : decode cX12_simplify 71 = .ok (.ifCond .le 17, 3) := by decide +kernel
theorem dX12_simplify_74 : decode cX12_simplify 74 = .ok (.aload_n 0, 1) := by decide +kernel
theorem dX12_simplify_75 : decode cX12_simplify 75 = .ok (.sipush 13540, 3) := by decide +kernel
theorem dX12_simplify_78 : decode cX12_simplify 78 = .ok (.aload_n 0, 1) := by decide +kernel
theorem dX12_simplify_79 : decode cX12_simplify 79 = .ok (.getfield 512, 3) := by decide +kernel
theorem dX12_simplify_82 : decode cX12_simplify 82 = .ok (.invokevirtual 677, 3) := by decide +kernel
theorem dX12_simplify_85 : decode cX12_simplify 85 = .ok (.goto 4, 3) := by decide +kernel
theorem dX12_simplify_88 : decode cX12_simplify 88 = .ok (.iload_n 1, 1) := by decide +kernel
theorem dX12_simplify_89 : decode cX12_simplify 89 = .ok (.ireturn, 1) := by decide +kernel
theorem dX12_trace_0 : decode cX12_trace 0 = .ok (.aload_n 0, 1) := by decide +kernel
theorem dX12_trace_1 : decode cX12_trace 1 = .ok (.iload_n 2, 1) := by decide +kernel
theorem dX12_trace_2 : decode cX12_trace 2 = .ok (.iconst 0, 1) := by decide +kernel
theorem dX12_trace_3 : decode cX12_trace 3 = .ok (.iconst 1, 1) := by decide +kernel
theorem dX12_trace_4 : decode cX12_trace 4 = .ok (.invokestatic 106, 3) := by decide +kernel
theorem dX12_trace_7 : decode cX12_trace 7 = .ok (.ifCond .ne 7, 3) := by decide +kernel
theorem dX12_trace_10 : decode cX12_trace 10 = .ok (.iconst 1, 1) := by decide +kernel
theorem dX12_trace_11 : decode cX12_trace 11 = .ok (.goto 4, 3) := by decide +kernel
theorem dX12_trace_14 : decode cX12_trace 14 = .ok (.iconst 0, 1) := by decide +kernel
theorem dX12_trace_15 : decode cX12_trace 15 = .ok (.iconst 0, 1) := by decide +kernel
theorem dX12_trace_16 : decode cX12_trace 16 = .ok (.iconst 0, 1) := by decide +kernel
theorem dX12_trace_17 : decode cX12_trace 17 = .ok (.invokevirtual 670, 3) := by decide +kernel
theorem dX12_trace_20 : decode cX12_trace 20 = .ok (.ifCond .eq 5, 3) := by decide +kernel
theorem dX12_trace_23 : decode cX12_trace 23 = .ok (.iconst 0, 1) := by decide +kernel
theorem dX12_trace_24 : decode cX12_trace 24 = .ok (.ireturn, 1) := by decide +kernel
theorem dX12_trace_25 : decode cX12_trace 25 = .ok (.iload_n 1, 1) := by decide +kernel
theorem dX12_trace_26 : decode cX12_trace 26 = .ok (.iconst 0, 1) := by decide +kernel
theorem dX12_trace_27 : decode cX12_trace 27 = .ok (.aload_n 0, 1) := by decide +kernel
theorem dX12_trace_28 : decode cX12_trace 28 = .ok (.getfield 543, 3) := by decide +kernel
theorem dX12_trace_31 : decode cX12_trace 31 = .ok (.iconst 1, 1) := by decide +kernel
theorem dX12_trace_32 : decode cX12_trace 32 = .ok (.isub, 1) := by decide +kernel
theorem dX12_trace_33 : decode cX12_trace 33 = .ok (.invokestatic 106, 3) := by decide +kernel
theorem dX12_trace_36 : decode cX12_trace 36 = .ok (.ifCond .ne 7, 3) := by decide +kernel
theorem dX12_trace_39 : decode cX12_trace 39 = .ok (.iconst (-1), 1) := by decide +kernel
theorem dX12_trace_40 : decode cX12_trace 40 = .ok (.goto 22, 3) := by decide +kernel
theorem dX12_trace_43 : decode cX12_trace 43 = .ok (.iload_n 2, 1) := by decide +kernel
theorem dX12_trace_44 : decode cX12_trace 44 = .ok (.ifCond .ne 12, 3) := by decide +kernel
theorem dX12_trace_47 : decode cX12_trace 47 = .ok (.aload_n 0, 1) := by decide +kernel
theorem dX12_trace_48 : decode cX12_trace 48 = .ok (.getfield 284, 3) := by decide +kernel
theorem dX12_trace_51 : decode cX12_trace 51 = .ok (.iload_n 1, 1) := by decide +kernel
theorem dX12_trace_52 : decode cX12_trace 52 = .ok (.iaload, 1) := by decide +kernel
theorem dX12_trace_53 : decode cX12_trace 53 = .ok (.goto 9, 3) := by decide +kernel
theorem dX12_trace_56 : decode cX12_trace 56 = .ok (.aload_n 0, 1) := by decide +kernel
theorem dX12_trace_57 : decode cX12_trace 57 = .ok (.getfield 287, 3) := by decide +kernel
theorem dX12_trace_60 : decode cX12_trace 60 = .ok (.iload_n 1, 1) := by decide +kernel
theorem dX12_trace_61 : decode cX12_trace 61 = .ok (.iaload, 1) := by decide +kernel
theorem dX12_trace_62 : decode cX12_trace 62 = .ok (.ireturn, 1) := by decide +kernel
theorem dX12_gather_0 : decode cX12_gather 0 = .ok (.aload_n 0, 1) := by decide +kernel
theorem dX12_gather_1 : decode cX12_gather 1 = .ok (.aload_n 0, 1) := by decide +kernel
theorem dX12_gather_2 : decode cX12_gather 2 = .ok (.iload_n 1, 1) := by decide +kernel
theorem dX12_gather_3 : decode cX12_gather 3 = .ok (.invokevirtual 664, 3) := by decide +kernel
theorem dX12_gather_6 : decode cX12_gather 6 = .ok (.ifCond .ne 7, 3) := by decide +kernel
theorem dX12_gather_9 : decode cX12_gather 9 = .ok (.iconst 1, 1) := by decide +kernel
theorem dX12_gather_10 : decode cX12_gather 10 = .ok (.goto 4, 3) := by decide +kernel
theorem dX12_gather_13 : decode cX12_gather 13 = .ok (.iconst 0, 1) := by decide +kernel
theorem dX12_gather_14 : decode cX12_gather 14 = .ok (.iload_n 2, 1) := by decide +kernel
theorem dX12_gather_15 : decode cX12_gather 15 = .ok (.invokestatic 689, 3) := by decide +kernel
theorem dX12_gather_18 : decode cX12_gather 18 = .ok (.ifCond .ne 7, 3) := by decide +kernel
theorem dX12_gather_21 : decode cX12_gather 21 = .ok (.iconst 1, 1) := by decide +kernel
theorem dX12_gather_22 : decode cX12_gather 22 = .ok (.goto 4, 3) := by decide +kernel
theorem dX12_gather_25 : decode cX12_gather 25 = .ok (.iconst 0, 1) := by decide +kernel
theorem dX12_gather_26 : decode cX12_gather 26 = .ok (.iconst 0, 1) := by decide +kernel
theorem dX12_gather_27 : decode cX12_gather 27 = .ok (.invokevirtual 670, 3) := by decide +kernel
theorem dX12_gather_30 : decode cX12_gather 30 = .ok (.ifCond .eq 5, 3) := by decide +kernel
theorem dX12_gather_33 : decode cX12_gather 33 = .ok (.iconst 0, 1) := by decide +kernel
theorem dX12_gather_34 : decode cX12_gather 34 = .ok (.ireturn, 1) := by decide +kernel
theorem dX12_gather_35 : decode cX12_gather 35 = .ok (.aload_n 0, 1) := by decide +kernel
theorem dX12_gather_36 : decode cX12_gather 36 = .ok (.iconst 0, 1) := by decide +kernel
theorem dX12_gather_37 : decode cX12_gather 37 = .ok (.putfield 576, 3) := by decide +kernel
theorem dX12_gather_40 : decode cX12_gather 40 = .ok (.aload_n 0, 1) := by decide +kernel
theorem dX12_gather_41 : decode cX12_gather 41 = .ok (.iload_n 1, 1) := by decide +kernel
theorem dX12_gather_42 : decode cX12_gather 42 = .ok (.invokestatic 667, 3) := by decide +kernel
theorem dX12_gather_45 : decode cX12_gather 45 = .ok (.iload_n 2, 1) := by decide +kernel
theorem dX12_gather_46 : decode cX12_gather 46 = .ok (.invokevirtual 735, 3) := by decide +kernel
theorem dX12_gather_49 : decode cX12_gather 49 = .ok (.ifCond .ne 5, 3) := by decide +kernel
theorem dX12_gather_52 : decode cX12_gather 52 = .ok (.iconst (-1), 1) := by decide +kernel
theorem dX12_gather_53 : decode cX12_gather 53 = .ok (.ireturn, 1) := by decide +kernel
theorem dX12_gather_54 : decode cX12_gather 54 = .ok (.iconst 0, 1) := by decide +kernel
theorem dX12_gather_55 : decode cX12_gather 55 = .ok (.istore_n 3, 1) := by decide +kernel
theorem dX12_gather_56 : decode cX12_gather 56 = .ok (.iload_n 3, 1) := by decide +kernel
theorem dX12_gather_57 : decode cX12_gather 57 = .ok (.bipush 9, 2) := by decide +kernel
theorem dX12_gather_59 : decode cX12_gather 59 = .ok (.if_icmp .ge 22, 3) := by decide +kernel
theorem dX12_gather_62 : decode cX12_gather 62 = .ok (.aload_n 0, 1) := by decide +kernel
theorem dX12_gather_63 : decode cX12_gather 63 = .ok (.bipush 47, 2) := by decide +kernel
theorem dX12_gather_65 : decode cX12_gather 65 = .ok (.iload_n 3, 1) := by decide +kernel
theorem dX12_gather_66 : decode cX12_gather 66 = .ok (.iadd, 1) := by decide +kernel
theorem dX12_gather_67 : decode cX12_gather 67 = .ok (.iconst 0, 1) := by decide +kernel
theorem dX12_gather_68 : decode cX12_gather 68 = .ok (.iload_n 3, 1) := by decide +kernel
theorem dX12_gather_69 : decode cX12_gather 69 = .ok (.invokestatic 546, 3) := by decide +kernel
theorem dX12_gather_72 : decode cX12_gather 72 = .ok (.invokevirtual 115, 3) := by decide +kernel
theorem dX12_gather_75 : decode cX12_gather 75 = .ok (.iinc 3 1, 3) := by decide +kernel
theorem dX12_gather_78 : decode cX12_gather 78 = .ok (.goto (-22), 3) := by decide +kernel
theorem dX12_gather_81 : decode cX12_gather 81 = .ok (.aload_n 0, 1) := by decide +kernel
theorem dX12_gather_82 : decode cX12_gather 82 = .ok (.iconst 0, 1) := by decide +kernel
theorem dX12_gather_83 : decode cX12_gather 83 = .ok (.invokevirtual 552, 3) := by decide +kernel
theorem dX12_gather_86 : decode cX12_gather 86 = .ok (.ireturn, 1) := by decide +kernel
theorem dX12_coefficient_0 : decode cX12_coefficient 0 = .ok (.aload_n 0, 1) := by decide +kernel
theorem dX12_coefficient_1 : decode cX12_coefficient 1 = .ok (.iload_n 1, 1) := by decide +kernel
theorem dX12_coefficient_2 : decode cX12_coefficient 2 = .ok (.iconst 0, 1) := by decide +kernel
theorem dX12_coefficient_3 : decode cX12_coefficient 3 = .ok (.bipush 8, 2) := by decide +kernel
theorem dX12_coefficient_5 : decode cX12_coefficient 5 = .ok (.invokestatic 106, 3) := by decide +kernel
theorem dX12_coefficient_8 : decode cX12_coefficient 8 = .ok (.ifCond .ne 7, 3) := by decide +kernel
theorem dX12_coefficient_11 : decode cX12_coefficient 11 = .ok (.iconst 1, 1) := by decide +kernel
theorem dX12_coefficient_12 : decode cX12_coefficient 12 = .ok (.goto 4, 3) := by decide +kernel
theorem dX12_coefficient_15 : decode cX12_coefficient 15 = .ok (.iconst 0, 1) := by decide +kernel
theorem dX12_coefficient_16 : decode cX12_coefficient 16 = .ok (.iconst 0, 1) := by decide +kernel
theorem dX12_coefficient_17 : decode cX12_coefficient 17 = .ok (.iconst 0, 1) := by decide +kernel
theorem dX12_coefficient_18 : decode cX12_coefficient 18 = .ok (.invokevirtual 670, 3) := by decide +kernel
theorem dX12_coefficient_21 : decode cX12_coefficient 21 = .ok (.ifCond .eq 5, 3) := by decide +kernel
theorem dX12_coefficient_24 : decode cX12_coefficient 24 = .ok (.iconst 0, 1) := by decide +kernel
theorem dX12_coefficient_25 : decode cX12_coefficient 25 = .ok (.ireturn, 1) := by decide +kernel
theorem dX12_coefficient_26 : decode cX12_coefficient 26 = .ok (.aload_n 0, 1) := by decide +kernel
theorem dX12_coefficient_27 : decode cX12_coefficient 27 = .ok (.bipush 26, 2) := by decide +kernel
theorem dX12_coefficient_29 : decode cX12_coefficient 29 = .ok (.bipush 47, 2) := by decide +kernel
theorem dX12_coefficient_31 : decode cX12_coefficient 31 = .ok (.iload_n 1, 1) := by decide +kernel
theorem dX12_coefficient_32 : decode cX12_coefficient 32 = .ok (.iadd, 1) := by decide +kernel
theorem dX12_coefficient_33 : decode cX12_coefficient 33 = .ok (.invokevirtual 115, 3) := by decide +kernel
theorem dX12_coefficient_36 : decode cX12_coefficient 36 = .ok (.aload_n 0, 1) := by decide +kernel
theorem dX12_coefficient_37 : decode cX12_coefficient 37 = .ok (.bipush 26, 2) := by decide +kernel
theorem dX12_coefficient_39 : decode cX12_coefficient 39 = .ok (.invokevirtual 81, 3) := by decide +kernel
theorem dX12_coefficient_42 : decode cX12_coefficient 42 = .ok (.ifCond .eq 7, 3) := by decide +kernel
theorem dX12_coefficient_45 : decode cX12_coefficient 45 = .ok (.iconst 1, 1) := by decide +kernel
theorem dX12_coefficient_46 : decode cX12_coefficient 46 = .ok (.goto 4, 3) := by decide +kernel
theorem dX12_coefficient_49 : decode cX12_coefficient 49 = .ok (.iconst 0, 1) := by decide +kernel
theorem dX12_coefficient_50 : decode cX12_coefficient 50 = .ok (.ireturn, 1) := by decide +kernel
theorem dX12_derive_0 : decode cX12_derive 0 = .ok (.aload_n 0, 1) := by decide +kernel
theorem dX12_derive_1 : decode cX12_derive 1 = .ok (.aload_n 0, 1) := by decide +kernel
theorem dX12_derive_2 : decode cX12_derive 2 = .ok (.iload_n 1, 1) := by decide +kernel
theorem dX12_derive_3 : decode cX12_derive 3 = .ok (.invokevirtual 664, 3) := by decide +kernel
theorem dX12_derive_6 : decode cX12_derive 6 = .ok (.ifCond .ne 7, 3) := by decide +kernel
theorem dX12_derive_9 : decode cX12_derive 9 = .ok (.iconst 1, 1) := by decide +kernel
theorem dX12_derive_10 : decode cX12_derive 10 = .ok (.goto 4, 3) := by decide +kernel
theorem dX12_derive_13 : decode cX12_derive 13 = .ok (.iconst 0, 1) := by decide +kernel
theorem dX12_derive_14 : decode cX12_derive 14 = .ok (.iload_n 2, 1) := by decide +kernel
theorem dX12_derive_15 : decode cX12_derive 15 = .ok (.invokestatic 689, 3) := by decide +kernel
theorem dX12_derive_18 : decode cX12_derive 18 = .ok (.ifCond .ne 7, 3) := by decide +kernel
theorem dX12_derive_21 : decode cX12_derive 21 = .ok (.iconst 1, 1) := by decide +kernel
theorem dX12_derive_22 : decode cX12_derive 22 = .ok (.goto 4, 3) := by decide +kernel
theorem dX12_derive_25 : decode cX12_derive 25 = .ok (.iconst 0, 1) := by decide +kernel
theorem dX12_derive_26 : decode cX12_derive 26 = .ok (.iconst 0, 1) := by decide +kernel
theorem dX12_derive_27 : decode cX12_derive 27 = .ok (.invokevirtual 670, 3) := by decide +kernel
theorem dX12_derive_30 : decode cX12_derive 30 = .ok (.ifCond .eq 5, 3) := by decide +kernel
theorem dX12_derive_33 : decode cX12_derive 33 = .ok (.iconst 0, 1) := by decide +kernel
theorem dX12_derive_34 : decode cX12_derive 34 = .ok (.ireturn, 1) := by decide +kernel
theorem dX12_derive_35 : decode cX12_derive 35 = .ok (.aload_n 0, 1) := by decide +kernel
theorem dX12_derive_36 : decode cX12_derive 36 = .ok (.iload_n 1, 1) := by decide +kernel
theorem dX12_derive_37 : decode cX12_derive 37 = .ok (.invokestatic 667, 3) := by decide +kernel
theorem dX12_derive_40 : decode cX12_derive 40 = .ok (.iload_n 2, 1) := by decide +kernel
theorem dX12_derive_41 : decode cX12_derive 41 = .ok (.invokevirtual 738, 3) := by decide +kernel
theorem dX12_derive_44 : decode cX12_derive 44 = .ok (.istore_n 3, 1) := by decide +kernel
theorem dX12_derive_45 : decode cX12_derive 45 = .ok (.aload_n 0, 1) := by decide +kernel
theorem dX12_derive_46 : decode cX12_derive 46 = .ok (.iconst 0, 1) := by decide +kernel
theorem dX12_derive_47 : decode cX12_derive 47 = .ok (.iconst 0, 1) := by decide +kernel
theorem dX12_derive_48 : decode cX12_derive 48 = .ok (.iload_n 3, 1) := by decide +kernel
theorem dX12_derive_49 : decode cX12_derive 49 = .ok (.iconst (-1), 1) := by decide +kernel
theorem dX12_derive_50 : decode cX12_derive 50 = .ok (.if_icmp .eq 12, 3) := by decide +kernel
theorem dX12_derive_53 : decode cX12_derive 53 = .ok (.aload_n 0, 1) := by decide +kernel
theorem dX12_derive_54 : decode cX12_derive 54 = .ok (.getfield 661, 3) := by decide +kernel
theorem dX12_derive_57 : decode cX12_derive 57 = .ok (.bipush 30, 2) := by decide +kernel
theorem dX12_derive_59 : decode cX12_derive 59 = .ok (.if_icmp .ne 7, 3) := by decide +kernel
theorem dX12_derive_62 : decode cX12_derive 62 = .ok (.iconst 1, 1) := by decide +kernel
theorem dX12_derive_63 : decode cX12_derive 63 = .ok (.goto 4, 3) := by decide +kernel
theorem dX12_derive_66 : decode cX12_derive 66 = .ok (.iconst 0, 1) := by decide +kernel
theorem dX12_derive_67 : decode cX12_derive 67 = .ok (.invokevirtual 670, 3) := by decide +kernel
theorem dX12_derive_70 : decode cX12_derive 70 = .ok (.ifCond .eq 5, 3) := by decide +kernel
theorem dX12_derive_73 : decode cX12_derive 73 = .ok (.iconst 0, 1) := by decide +kernel
theorem dX12_derive_74 : decode cX12_derive 74 = .ok (.ireturn, 1) := by decide +kernel
theorem dX12_derive_75 : decode cX12_derive 75 = .ok (.aload_n 0, 1) := by decide +kernel
theorem dX12_derive_76 : decode cX12_derive 76 = .ok (.sipush 13740, 3) := by decide +kernel
theorem dX12_derive_79 : decode cX12_derive 79 = .ok (.iload_n 3, 1) := by decide +kernel
theorem dX12_derive_80 : decode cX12_derive 80 = .ok (.invokevirtual 677, 3) := by decide +kernel
theorem dX12_derive_83 : decode cX12_derive 83 = .ok (.ireturn, 1) := by decide +kernel
theorem dX12_slope_0 : decode cX12_slope 0 = .ok (.aload_n 0, 1) := by decide +kernel
theorem dX12_slope_1 : decode cX12_slope 1 = .ok (.aload_n 0, 1) := by decide +kernel
theorem dX12_slope_2 : decode cX12_slope 2 = .ok (.iload_n 1, 1) := by decide +kernel
theorem dX12_slope_3 : decode cX12_slope 3 = .ok (.invokevirtual 664, 3) := by decide +kernel
theorem dX12_slope_6 : decode cX12_slope 6 = .ok (.ifCond .ne 7, 3) := by decide +kernel
theorem dX12_slope_9 : decode cX12_slope 9 = .ok (.iconst 1, 1) := by decide +kernel
theorem dX12_slope_10 : decode cX12_slope 10 = .ok (.goto 4, 3) := by decide +kernel
theorem dX12_slope_13 : decode cX12_slope 13 = .ok (.iconst 0, 1) := by decide +kernel
theorem dX12_slope_14 : decode cX12_slope 14 = .ok (.iload_n 2, 1) := by decide +kernel
theorem dX12_slope_15 : decode cX12_slope 15 = .ok (.invokestatic 689, 3) := by decide +kernel
theorem dX12_slope_18 : decode cX12_slope 18 = .ok (.ifCond .ne 7, 3) := by decide +kernel
theorem dX12_slope_21 : decode cX12_slope 21 = .ok (.iconst 1, 1) := by decide +kernel
theorem dX12_slope_22 : decode cX12_slope 22 = .ok (.goto 4, 3) := by decide +kernel
theorem dX12_slope_25 : decode cX12_slope 25 = .ok (.iconst 0, 1) := by decide +kernel
theorem dX12_slope_26 : decode cX12_slope 26 = .ok (.aload_n 0, 1) := by decide +kernel
theorem dX12_slope_27 : decode cX12_slope 27 = .ok (.iload_n 1, 1) := by decide +kernel
theorem dX12_slope_28 : decode cX12_slope 28 = .ok (.invokevirtual 664, 3) := by decide +kernel
theorem dX12_slope_31 : decode cX12_slope 31 = .ok (.ifCond .eq 18, 3) := by decide +kernel
theorem dX12_slope_34 : decode cX12_slope 34 = .ok (.aload_n 0, 1) := by decide +kernel
theorem dX12_slope_35 : decode cX12_slope 35 = .ok (.iload_n 1, 1) := by decide +kernel
theorem dX12_slope_36 : decode cX12_slope 36 = .ok (.invokestatic 667, 3) := by decide +kernel
theorem dX12_slope_39 : decode cX12_slope 39 = .ok (.invokevirtual 624, 3) := by decide +kernel
theorem dX12_slope_42 : decode cX12_slope 42 = .ok (.ifCond .ne 7, 3) := by decide +kernel
theorem dX12_slope_45 : decode cX12_slope 45 = .ok (.iconst 1, 1) := by decide +kernel
theorem dX12_slope_46 : decode cX12_slope 46 = .ok (.goto 4, 3) := by decide +kernel
theorem dX12_slope_49 : decode cX12_slope 49 = .ok (.iconst 0, 1) := by decide +kernel
theorem dX12_slope_50 : decode cX12_slope 50 = .ok (.invokevirtual 670, 3) := by decide +kernel
theorem dX12_slope_53 : decode cX12_slope 53 = .ok (.ifCond .eq 5, 3) := by decide +kernel
theorem dX12_slope_56 : decode cX12_slope 56 = .ok (.iconst 0, 1) := by decide +kernel
theorem dX12_slope_57 : decode cX12_slope 57 = .ok (.ireturn, 1) := by decide +kernel
theorem dX12_slope_58 : decode cX12_slope 58 = .ok (.aload_n 0, 1) := by decide +kernel
theorem dX12_slope_59 : decode cX12_slope 59 = .ok (.iload_n 1, 1) := by decide +kernel
theorem dX12_slope_60 : decode cX12_slope 60 = .ok (.invokestatic 667, 3) := by decide +kernel
theorem dX12_slope_63 : decode cX12_slope 63 = .ok (.iload_n 2, 1) := by decide +kernel
theorem dX12_slope_64 : decode cX12_slope 64 = .ok (.invokevirtual 741, 3) := by decide +kernel
theorem dX12_slope_67 : decode cX12_slope 67 = .ok (.istore_n 3, 1) := by decide +kernel
theorem dX12_slope_68 : decode cX12_slope 68 = .ok (.iload_n 3, 1) := by decide +kernel
theorem dX12_slope_69 : decode cX12_slope 69 = .ok (.ifCond .ne 13, 3) := by decide +kernel
theorem dX12_slope_72 : decode cX12_slope 72 = .ok (.aload_n 0, 1) := by decide +kernel
theorem dX12_slope_73 : decode cX12_slope 73 = .ok (.bipush 26, 2) := by decide +kernel
theorem dX12_slope_75 : decode cX12_slope 75 = .ok (.iconst 0, 1) := by decide +kernel
theorem dX12_slope_76 : decode cX12_slope 76 = .ok (.invokestatic 645, 3) := by decide +kernel
theorem dX12_slope_79 : decode cX12_slope 79 = .ok (.invokevirtual 115, 3) := by decide +kernel
theorem dX12_slope_82 : decode cX12_slope 82 = .ok (.iload_n 3, 1) := by decide +kernel
theorem dX12_slope_83 : decode cX12_slope 83 = .ok (.ireturn, 1) := by decide +kernel
theorem dX12_solve_0 : decode cX12_solve 0 = .ok (.aload_n 0, 1) := by decide +kernel
theorem dX12_solve_1 : decode cX12_solve 1 = .ok (.aload_n 0, 1) := by decide +kernel
theorem dX12_solve_2 : decode cX12_solve 2 = .ok (.iload_n 1, 1) := by decide +kernel
theorem dX12_solve_3 : decode cX12_solve 3 = .ok (.invokevirtual 664, 3) := by decide +kernel
theorem dX12_solve_6 : decode cX12_solve 6 = .ok (.ifCond .ne 7, 3) := by decide +kernel
theorem dX12_solve_9 : decode cX12_solve 9 = .ok (.iconst 1, 1) := by decide +kernel
theorem dX12_solve_10 : decode cX12_solve 10 = .ok (.goto 4, 3) := by decide +kernel
theorem dX12_solve_13 : decode cX12_solve 13 = .ok (.iconst 0, 1) := by decide +kernel
theorem dX12_solve_14 : decode cX12_solve 14 = .ok (.iload_n 2, 1) := by decide +kernel
theorem dX12_solve_15 : decode cX12_solve 15 = .ok (.invokestatic 689, 3) := by decide +kernel
theorem dX12_solve_18 : decode cX12_solve 18 = .ok (.ifCond .ne 7, 3) := by decide +kernel
theorem dX12_solve_21 : decode cX12_solve 21 = .ok (.iconst 1, 1) := by decide +kernel
theorem dX12_solve_22 : decode cX12_solve 22 = .ok (.goto 4, 3) := by decide +kernel
theorem dX12_solve_25 : decode cX12_solve 25 = .ok (.iconst 0, 1) := by decide +kernel
theorem dX12_solve_26 : decode cX12_solve 26 = .ok (.iconst 0, 1) := by decide +kernel
theorem dX12_solve_27 : decode cX12_solve 27 = .ok (.invokevirtual 670, 3) := by decide +kernel
theorem dX12_solve_30 : decode cX12_solve 30 = .ok (.ifCond .eq 5, 3) := by decide +kernel
theorem dX12_solve_33 : decode cX12_solve 33 = .ok (.iconst 0, 1) := by decide +kernel
theorem dX12_solve_34 : decode cX12_solve 34 = .ok (.ireturn, 1) := by decide +kernel
theorem dX12_solve_35 : decode cX12_solve 35 = .ok (.iload_n 1, 1) := by decide +kernel
theorem dX12_solve_36 : decode cX12_solve 36 = .ok (.invokestatic 667, 3) := by decide +kernel
theorem dX12_solve_39 : decode cX12_solve 39 = .ok (.istore_n 3, 1) := by decide +kernel
theorem dX12_solve_40 : decode cX12_solve 40 = .ok (.aload_n 0, 1) := by decide +kernel
theorem dX12_solve_41 : decode cX12_solve 41 = .ok (.iconst 0, 1) := by decide +kernel
theorem dX12_solve_42 : decode cX12_solve 42 = .ok (.putfield 576, 3) := by decide +kernel
theorem dX12_solve_45 : decode cX12_solve 45 = .ok (.aload_n 0, 1) := by decide +kernel
theorem dX12_solve_46 : decode cX12_solve 46 = .ok (.iload_n 3, 1) := by decide +kernel
theorem dX12_solve_47 : decode cX12_solve 47 = .ok (.invokevirtual 484, 3) := by decide +kernel
theorem dX12_solve_50 : decode cX12_solve 50 = .ok (.bipush 7, 2) := by decide +kernel
theorem dX12_solve_52 : decode cX12_solve 52 = .ok (.if_icmp .ne 46, 3) := by decide +kernel
theorem dX12_solve_55 : decode cX12_solve 55 = .ok (.aload_n 0, 1) := by decide +kernel
theorem dX12_solve_56 : decode cX12_solve 56 = .ok (.iload_n 3, 1) := by decide +kernel
theorem dX12_solve_57 : decode cX12_solve 57 = .ok (.iconst 1, 1) := by decide +kernel
theorem dX12_solve_58 : decode cX12_solve 58 = .ok (.iadd, 1) := by decide +kernel
theorem dX12_solve_59 : decode cX12_solve 59 = .ok (.iload_n 2, 1) := by decide +kernel
theorem dX12_solve_60 : decode cX12_solve 60 = .ok (.invokevirtual 735, 3) := by decide +kernel
theorem dX12_solve_63 : decode cX12_solve 63 = .ok (.ifCond .eq 35, 3) := by decide +kernel
theorem dX12_solve_66 : decode cX12_solve 66 = .ok (.aload_n 0, 1) := by decide +kernel
theorem dX12_solve_67 : decode cX12_solve 67 = .ok (.aload_n 0, 1) := by decide +kernel
theorem dX12_solve_68 : decode cX12_solve 68 = .ok (.iload_n 3, 1) := by decide +kernel
theorem dX12_solve_69 : decode cX12_solve 69 = .ok (.iconst 1, 1) := by decide +kernel
theorem dX12_solve_70 : decode cX12_solve 70 = .ok (.invokevirtual 405, 3) := by decide +kernel
theorem dX12_solve_73 : decode cX12_solve 73 = .ok (.iload_n 2, 1) := by decide +kernel
theorem dX12_solve_74 : decode cX12_solve 74 = .ok (.invokevirtual 735, 3) := by decide +kernel
theorem dX12_solve_77 : decode cX12_solve 77 = .ok (.ifCond .eq 21, 3) := by decide +kernel
theorem dX12_solve_80 : decode cX12_solve 80 = .ok (.aload_n 0, 1) := by decide +kernel
theorem dX12_solve_81 : decode cX12_solve 81 = .ok (.iconst 0, 1) := by decide +kernel
theorem dX12_solve_82 : decode cX12_solve 82 = .ok (.invokevirtual 552, 3) := by decide +kernel
theorem dX12_solve_85 : decode cX12_solve 85 = .ok (.iconst 1, 1) := by decide +kernel
theorem dX12_solve_86 : decode cX12_solve 86 = .ok (.if_icmp .gt 12, 3) := by decide +kernel
theorem dX12_solve_89 : decode cX12_solve 89 = .ok (.aload_n 0, 1) := by decide +kernel
theorem dX12_solve_90 : decode cX12_solve 90 = .ok (.iconst 1, 1) := by decide +kernel
theorem dX12_solve_91 : decode cX12_solve 91 = .ok (.invokevirtual 552, 3) := by decide +kernel
theorem dX12_solve_94 : decode cX12_solve 94 = .ok (.iconst 1, 1) := by decide +kernel
theorem dX12_solve_95 : decode cX12_solve 95 = .ok (.if_icmp .le 5, 3) := by decide +kernel
theorem dX12_solve_98 : decode cX12_solve 98 = .ok (.iconst (-1), 1) := by decide +kernel
theorem dX12_solve_99 : decode cX12_solve 99 = .ok (.ireturn, 1) := by decide +kernel
theorem dX12_solve_100 : decode cX12_solve 100 = .ok (.iconst 0, 1) := by decide +kernel
theorem dX12_solve_101 : decode cX12_solve 101 = .ok (.iconst 1, 1) := by decide +kernel
theorem dX12_solve_102 : decode cX12_solve 102 = .ok (.invokestatic 546, 3) := by decide +kernel
theorem dX12_solve_105 : decode cX12_solve 105 = .ok (.istore 4, 2) := by decide +kernel
theorem dX12_solve_107 : decode cX12_solve 107 = .ok (.iconst 0, 1) := by decide +kernel
theorem dX12_solve_108 : decode cX12_solve 108 = .ok (.iconst 0, 1) := by decide +kernel
theorem dX12_solve_109 : decode cX12_solve 109 = .ok (.invokestatic 546, 3) := by decide +kernel
theorem dX12_solve_112 : decode cX12_solve 112 = .ok (.istore 5, 2) := by decide +kernel
theorem dX12_solve_114 : decode cX12_solve 114 = .ok (.iconst 1, 1) := by decide +kernel
theorem dX12_solve_115 : decode cX12_solve 115 = .ok (.iconst 1, 1) := by decide +kernel
theorem dX12_solve_116 : decode cX12_solve 116 = .ok (.invokestatic 546, 3) := by decide +kernel
theorem dX12_solve_119 : decode cX12_solve 119 = .ok (.istore 6, 2) := by decide +kernel
theorem dX12_solve_121 : decode cX12_solve 121 = .ok (.iconst 1, 1) := by decide +kernel
theorem dX12_solve_122 : decode cX12_solve 122 = .ok (.iconst 0, 1) := by decide +kernel
theorem dX12_solve_123 : decode cX12_solve 123 = .ok (.invokestatic 546, 3) := by decide +kernel
theorem dX12_solve_126 : decode cX12_solve 126 = .ok (.istore 7, 2) := by decide +kernel
theorem dX12_solve_128 : decode cX12_solve 128 = .ok (.aload_n 0, 1) := by decide +kernel
theorem dX12_solve_129 : decode cX12_solve 129 = .ok (.iload 4, 2) := by decide +kernel
theorem dX12_solve_131 : decode cX12_solve 131 = .ok (.iload 6, 2) := by decide +kernel
theorem dX12_solve_133 : decode cX12_solve 133 = .ok (.invokevirtual 132, 3) := by decide +kernel
theorem dX12_solve_136 : decode cX12_solve 136 = .ok (.ifCond .eq 7, 3) := by decide +kernel
theorem dX12_solve_139 : decode cX12_solve 139 = .ok (.iconst 1, 1) := by decide +kernel
theorem dX12_solve_140 : decode cX12_solve 140 = .ok (.goto 4, 3) := by decide +kernel
theorem dX12_solve_143 : decode cX12_solve 143 = .ok (.iconst 0, 1) := by decide +kernel
theorem dX12_solve_144 : decode cX12_solve 144 = .ok (.istore 8, 2) := by decide +kernel
theorem dX12_solve_146 : decode cX12_solve 146 = .ok (.iload 8, 2) := by decide +kernel
theorem dX12_solve_148 : decode cX12_solve 148 = .ok (.ifCond .ne 20, 3) := by decide +kernel
theorem dX12_solve_151 : decode cX12_solve 151 = .ok (.aload_n 0, 1) := by decide +kernel
theorem dX12_solve_152 : decode cX12_solve 152 = .ok (.iload 5, 2) := by decide +kernel
theorem dX12_solve_154 : decode cX12_solve 154 = .ok (.iload 7, 2) := by decide +kernel
theorem dX12_solve_156 : decode cX12_solve 156 = .ok (.invokevirtual 132, 3) := by decide +kernel
theorem dX12_solve_159 : decode cX12_solve 159 = .ok (.ifCond .ne 7, 3) := by decide +kernel
theorem dX12_solve_162 : decode cX12_solve 162 = .ok (.iconst 2, 1) := by decide +kernel
theorem dX12_solve_163 : decode cX12_solve 163 = .ok (.goto 4, 3) := by decide +kernel
theorem dX12_solve_166 : decode cX12_solve 166 = .ok (.iconst 0, 1) := by decide +kernel
theorem dX12_solve_167 : decode cX12_solve 167 = .ok (.ireturn, 1) := by decide +kernel
theorem dX12_solve_168 : decode cX12_solve 168 = .ok (.aload_n 0, 1) := by decide +kernel
theorem dX12_solve_169 : decode cX12_solve 169 = .ok (.sipush 3600, 3) := by decide +kernel
theorem dX12_solve_172 : decode cX12_solve 172 = .ok (.iconst 1, 1) := by decide +kernel
theorem dX12_solve_173 : decode cX12_solve 173 = .ok (.invokevirtual 96, 3) := by decide +kernel
theorem dX12_solve_176 : decode cX12_solve 176 = .ok (.aload_n 0, 1) := by decide +kernel
theorem dX12_solve_177 : decode cX12_solve 177 = .ok (.invokevirtual 555, 3) := by decide +kernel
theorem dX12_solve_180 : decode cX12_solve 180 = .ok (.aload_n 0, 1) := by decide +kernel
theorem dX12_solve_181 : decode cX12_solve 181 = .ok (.iload 7, 2) := by decide +kernel
theorem dX12_solve_183 : decode cX12_solve 183 = .ok (.sipush 3600, 3) := by decide +kernel
theorem dX12_solve_186 : decode cX12_solve 186 = .ok (.iconst 1, 1) := by decide +kernel
theorem dX12_solve_187 : decode cX12_solve 187 = .ok (.invokevirtual 558, 3) := by decide +kernel
theorem dX12_solve_190 : decode cX12_solve 190 = .ok (.aload_n 0, 1) := by decide +kernel
theorem dX12_solve_191 : decode cX12_solve 191 = .ok (.iload 5, 2) := by decide +kernel
theorem dX12_solve_193 : decode cX12_solve 193 = .ok (.sipush 3600, 3) := by decide +kernel
theorem dX12_solve_196 : decode cX12_solve 196 = .ok (.iconst (-1), 1) := by decide +kernel
theorem dX12_solve_197 : decode cX12_solve 197 = .ok (.invokevirtual 558, 3) := by decide +kernel
theorem dX12_solve_200 : decode cX12_solve 200 = .ok (.aload_n 0, 1) := by decide +kernel
theorem dX12_solve_201 : decode cX12_solve 201 = .ok (.getfield 549, 3) := by decide +kernel
theorem dX12_solve_204 : decode cX12_solve 204 = .ok (.istore 9, 2) := by decide +kernel
theorem dX12_solve_206 : decode cX12_solve 206 = .ok (.aload_n 0, 1) := by decide +kernel
theorem dX12_solve_207 : decode cX12_solve 207 = .ok (.invokevirtual 744, 3) := by decide +kernel
theorem dX12_solve_210 : decode cX12_solve 210 = .ok (.aload_n 0, 1) := by decide +kernel
theorem dX12_solve_211 : decode cX12_solve 211 = .ok (.invokevirtual 555, 3) := by decide +kernel
theorem dX12_solve_214 : decode cX12_solve 214 = .ok (.aload_n 0, 1) := by decide +kernel
theorem dX12_solve_215 : decode cX12_solve 215 = .ok (.iload 4, 2) := by decide +kernel
theorem dX12_solve_217 : decode cX12_solve 217 = .ok (.sipush 3600, 3) := by decide +kernel
theorem dX12_solve_220 : decode cX12_solve 220 = .ok (.iconst 1, 1) := by decide +kernel
theorem dX12_solve_221 : decode cX12_solve 221 = .ok (.invokevirtual 558, 3) := by decide +kernel
theorem dX12_solve_224 : decode cX12_solve 224 = .ok (.aload_n 0, 1) := by decide +kernel
theorem dX12_solve_225 : decode cX12_solve 225 = .ok (.iload 6, 2) := by decide +kernel
theorem dX12_solve_227 : decode cX12_solve 227 = .ok (.sipush 3600, 3) := by decide +kernel
theorem dX12_solve_230 : decode cX12_solve 230 = .ok (.iconst (-1), 1) := by decide +kernel
theorem dX12_solve_231 : decode cX12_solve 231 = .ok (.invokevirtual 558, 3) := by decide +kernel
theorem dX12_solve_234 : decode cX12_solve 234 = .ok (.aload_n 0, 1) := by decide +kernel
theorem dX12_solve_235 : decode cX12_solve 235 = .ok (.invokevirtual 747, 3) := by decide +kernel
theorem dX12_solve_238 : decode cX12_solve 238 = .ok (.aload_n 0, 1) := by decide +kernel
theorem dX12_solve_239 : decode cX12_solve 239 = .ok (.iconst 0, 1) := by decide +kernel
theorem dX12_solve_240 : decode cX12_solve 240 = .ok (.iconst 2, 1) := by decide +kernel
theorem dX12_solve_241 : decode cX12_solve 241 = .ok (.bipush 9, 2) := by decide +kernel
theorem dX12_solve_243 : decode cX12_solve 243 = .ok (.invokevirtual 78, 3) := by decide +kernel
theorem dX12_solve_246 : decode cX12_solve 246 = .ok (.aload_n 0, 1) := by decide +kernel
theorem dX12_solve_247 : decode cX12_solve 247 = .ok (.iconst 1, 1) := by decide +kernel
theorem dX12_solve_248 : decode cX12_solve 248 = .ok (.iconst 3, 1) := by decide +kernel
theorem dX12_solve_249 : decode cX12_solve 249 = .ok (.bipush 8, 2) := by decide +kernel
theorem dX12_solve_251 : decode cX12_solve 251 = .ok (.invokevirtual 78, 3) := by decide +kernel
theorem dX12_solve_254 : decode cX12_solve 254 = .ok (.aload_n 0, 1) := by decide +kernel
theorem dX12_solve_255 : decode cX12_solve 255 = .ok (.bipush 26, 2) := by decide +kernel
theorem dX12_solve_257 : decode cX12_solve 257 = .ok (.iload 9, 2) := by decide +kernel
theorem dX12_solve_259 : decode cX12_solve 259 = .ok (.aload_n 0, 1) := by decide +kernel
theorem dX12_solve_260 : decode cX12_solve 260 = .ok (.getfield 549, 3) := by decide +kernel
theorem dX12_solve_263 : decode cX12_solve 263 = .ok (.imul, 1) := by decide +kernel
theorem dX12_solve_264 : decode cX12_solve 264 = .ok (.invokevirtual 88, 3) := by decide +kernel
theorem dX12_solve_267 : decode cX12_solve 267 = .ok (.ifCond .eq 7, 3) := by decide +kernel
theorem dX12_solve_270 : decode cX12_solve 270 = .ok (.iconst 1, 1) := by decide +kernel
theorem dX12_solve_271 : decode cX12_solve 271 = .ok (.goto 4, 3) := by decide +kernel
theorem dX12_solve_274 : decode cX12_solve 274 = .ok (.iconst (-1), 1) := by decide +kernel
theorem dX12_solve_275 : decode cX12_solve 275 = .ok (.ireturn, 1) := by decide +kernel
theorem dX12_copyWideAside_0 : decode cX12_copyWideAside 0 = .ok (.aload_n 0, 1) := by decide +kernel
theorem dX12_copyWideAside_1 : decode cX12_copyWideAside 1 = .ok (.getfield 320, 3) := by decide +kernel
theorem dX12_copyWideAside_4 : decode cX12_copyWideAside 4 = .ok (.bipush 120, 2) := by decide +kernel
theorem dX12_copyWideAside_6 : decode cX12_copyWideAside 6 = .ok (.aload_n 0, 1) := by decide +kernel
theorem dX12_copyWideAside_7 : decode cX12_copyWideAside 7 = .ok (.getfield 7, 3) := by decide +kernel
theorem dX12_copyWideAside_10 : decode cX12_copyWideAside 10 = .ok (.bipush 8, 2) := by decide +kernel
theorem dX12_copyWideAside_12 : decode cX12_copyWideAside 12 = .ok (.iaload, 1) := by decide +kernel
theorem dX12_copyWideAside_13 : decode cX12_copyWideAside 13 = .ok (.iastore, 1) := by decide +kernel
theorem dX12_copyWideAside_14 : decode cX12_copyWideAside 14 = .ok (.aload_n 0, 1) := by decide +kernel
theorem dX12_copyWideAside_15 : decode cX12_copyWideAside 15 = .ok (.getfield 320, 3) := by decide +kernel
theorem dX12_copyWideAside_18 : decode cX12_copyWideAside 18 = .ok (.bipush 121, 2) := by decide +kernel
theorem dX12_copyWideAside_20 : decode cX12_copyWideAside 20 = .ok (.aload_n 0, 1) := by decide +kernel
theorem dX12_copyWideAside_21 : decode cX12_copyWideAside 21 = .ok (.getfield 7, 3) := by decide +kernel
theorem dX12_copyWideAside_24 : decode cX12_copyWideAside 24 = .ok (.bipush 9, 2) := by decide +kernel
theorem dX12_copyWideAside_26 : decode cX12_copyWideAside 26 = .ok (.iaload, 1) := by decide +kernel
theorem dX12_copyWideAside_27 : decode cX12_copyWideAside 27 = .ok (.iastore, 1) := by decide +kernel
theorem dX12_copyWideAside_28 : decode cX12_copyWideAside 28 = .ok (.iconst 0, 1) := by decide +kernel
theorem dX12_copyWideAside_29 : decode cX12_copyWideAside 29 = .ok (.istore_n 1, 1) := by decide +kernel
theorem dX12_copyWideAside_30 : decode cX12_copyWideAside 30 = .ok (.iload_n 1, 1) := by decide +kernel
theorem dX12_copyWideAside_31 : decode cX12_copyWideAside 31 = .ok (.bipush 60, 2) := by decide +kernel
theorem dX12_copyWideAside_33 : decode cX12_copyWideAside 33 = .ok (.if_icmp .ge 74, 3) := by decide +kernel
theorem dX12_copyWideAside_36 : decode cX12_copyWideAside 36 = .ok (.aload_n 0, 1) := by decide +kernel
theorem dX12_copyWideAside_37 : decode cX12_copyWideAside 37 = .ok (.getfield 320, 3) := by decide +kernel
theorem dX12_copyWideAside_40 : decode cX12_copyWideAside 40 = .ok (.iload_n 1, 1) := by decide +kernel
theorem dX12_copyWideAside_41 : decode cX12_copyWideAside 41 = .ok (.iload_n 1, 1) := by decide +kernel
theorem dX12_copyWideAside_42 : decode cX12_copyWideAside 42 = .ok (.aload_n 0, 1) := by decide +kernel
theorem dX12_copyWideAside_43 : decode cX12_copyWideAside 43 = .ok (.getfield 7, 3) := by decide +kernel
theorem dX12_copyWideAside_46 : decode cX12_copyWideAside 46 = .ok (.bipush 8, 2) := by decide +kernel
theorem dX12_copyWideAside_48 : decode cX12_copyWideAside 48 = .ok (.iaload, 1) := by decide +kernel
theorem dX12_copyWideAside_49 : decode cX12_copyWideAside 49 = .ok (.if_icmp .ge 16, 3) := by decide +kernel
theorem dX12_copyWideAside_52 : decode cX12_copyWideAside 52 = .ok (.aload_n 0, 1) := by decide +kernel
theorem dX12_copyWideAside_53 : decode cX12_copyWideAside 53 = .ok (.getfield 11, 3) := by decide +kernel
theorem dX12_copyWideAside_56 : decode cX12_copyWideAside 56 = .ok (.sipush 3520, 3) := by decide +kernel
theorem dX12_copyWideAside_59 : decode cX12_copyWideAside 59 = .ok (.iload_n 1, 1) := by decide +kernel
theorem dX12_copyWideAside_60 : decode cX12_copyWideAside 60 = .ok (.iadd, 1) := by decide +kernel
theorem dX12_copyWideAside_61 : decode cX12_copyWideAside 61 = .ok (.iaload, 1) := by decide +kernel
theorem dX12_copyWideAside_62 : decode cX12_copyWideAside 62 = .ok (.goto 4, 3) := by decide +kernel
theorem dX12_copyWideAside_65 : decode cX12_copyWideAside 65 = .ok (.iconst 0, 1) := by decide +kernel
theorem dX12_copyWideAside_66 : decode cX12_copyWideAside 66 = .ok (.iastore, 1) := by decide +kernel
theorem dX12_copyWideAside_67 : decode cX12_copyWideAside 67 = .ok (.aload_n 0, 1) := by decide +kernel
theorem dX12_copyWideAside_68 : decode cX12_copyWideAside 68 = .ok (.getfield 320, 3) := by decide +kernel
theorem dX12_copyWideAside_71 : decode cX12_copyWideAside 71 = .ok (.bipush 60, 2) := by decide +kernel
theorem dX12_copyWideAside_73 : decode cX12_copyWideAside 73 = .ok (.iload_n 1, 1) := by decide +kernel
theorem dX12_copyWideAside_74 : decode cX12_copyWideAside 74 = .ok (.iadd, 1) := by decide +kernel
theorem dX12_copyWideAside_75 : decode cX12_copyWideAside 75 = .ok (.iload_n 1, 1) := by decide +kernel
theorem dX12_copyWideAside_76 : decode cX12_copyWideAside 76 = .ok (.aload_n 0, 1) := by decide +kernel
theorem dX12_copyWideAside_77 : decode cX12_copyWideAside 77 = .ok (.getfield 7, 3) := by decide +kernel
theorem dX12_copyWideAside_80 : decode cX12_copyWideAside 80 = .ok (.bipush 9, 2) := by decide +kernel
theorem dX12_copyWideAside_82 : decode cX12_copyWideAside 82 = .ok (.iaload, 1) := by decide +kernel
theorem dX12_copyWideAside_83 : decode cX12_copyWideAside 83 = .ok (.if_icmp .ge 16, 3) := by decide +kernel
theorem dX12_copyWideAside_86 : decode cX12_copyWideAside 86 = .ok (.aload_n 0, 1) := by decide +kernel
theorem dX12_copyWideAside_87 : decode cX12_copyWideAside 87 = .ok (.getfield 11, 3) := by decide +kernel
theorem dX12_copyWideAside_90 : decode cX12_copyWideAside 90 = .ok (.sipush 3960, 3) := by decide +kernel
theorem dX12_copyWideAside_93 : decode cX12_copyWideAside 93 = .ok (.iload_n 1, 1) := by decide +kernel
theorem dX12_copyWideAside_94 : decode cX12_copyWideAside 94 = .ok (.iadd, 1) := by decide +kernel
theorem dX12_copyWideAside_95 : decode cX12_copyWideAside 95 = .ok (.iaload, 1) := by decide +kernel
theorem dX12_copyWideAside_96 : decode cX12_copyWideAside 96 = .ok (.goto 4, 3) := by decide +kernel
theorem dX12_copyWideAside_99 : decode cX12_copyWideAside 99 = .ok (.iconst 0, 1) := by decide +kernel
theorem dX12_copyWideAside_100 : decode cX12_copyWideAside 100 = .ok (.iastore, 1) := by decide +kernel
theorem dX12_copyWideAside_101 : decode cX12_copyWideAside 101 = .ok (.iinc 1 1, 3) := by decide +kernel
theorem dX12_copyWideAside_104 : decode cX12_copyWideAside 104 = .ok (.goto (-74), 3) := by decide +kernel
theorem dX12_copyWideAside_107 : decode cX12_copyWideAside 107 = .ok (.return_, 1) := by decide +kernel
theorem dX12_loadAside_0 : decode cX12_loadAside 0 = .ok (.aload_n 0, 1) := by decide +kernel
theorem dX12_loadAside_1 : decode cX12_loadAside 1 = .ok (.getfield 7, 3) := by decide +kernel
theorem dX12_loadAside_4 : decode cX12_loadAside 4 = .ok (.iconst 2, 1) := by decide +kernel
theorem dX12_loadAside_5 : decode cX12_loadAside 5 = .ok (.aload_n 0, 1) := by decide +kernel
theorem dX12_loadAside_6 : decode cX12_loadAside 6 = .ok (.getfield 320, 3) := by decide +kernel
theorem dX12_loadAside_9 : decode cX12_loadAside 9 = .ok (.bipush 120, 2) := by decide +kernel
theorem dX12_loadAside_11 : decode cX12_loadAside 11 = .ok (.iaload, 1) := by decide +kernel
theorem dX12_loadAside_12 : decode cX12_loadAside 12 = .ok (.iastore, 1) := by decide +kernel
theorem dX12_loadAside_13 : decode cX12_loadAside 13 = .ok (.aload_n 0, 1) := by decide +kernel
theorem dX12_loadAside_14 : decode cX12_loadAside 14 = .ok (.getfield 7, 3) := by decide +kernel
theorem dX12_loadAside_17 : decode cX12_loadAside 17 = .ok (.iconst 3, 1) := by decide +kernel
theorem dX12_loadAside_18 : decode cX12_loadAside 18 = .ok (.aload_n 0, 1) := by decide +kernel
theorem dX12_loadAside_19 : decode cX12_loadAside 19 = .ok (.getfield 320, 3) := by decide +kernel
theorem dX12_loadAside_22 : decode cX12_loadAside 22 = .ok (.bipush 121, 2) := by decide +kernel
theorem dX12_loadAside_24 : decode cX12_loadAside 24 = .ok (.iaload, 1) := by decide +kernel
theorem dX12_loadAside_25 : decode cX12_loadAside 25 = .ok (.iastore, 1) := by decide +kernel
theorem dX12_loadAside_26 : decode cX12_loadAside 26 = .ok (.iconst 0, 1) := by decide +kernel
theorem dX12_loadAside_27 : decode cX12_loadAside 27 = .ok (.istore_n 1, 1) := by decide +kernel
theorem dX12_loadAside_28 : decode cX12_loadAside 28 = .ok (.iload_n 1, 1) := by decide +kernel
theorem dX12_loadAside_29 : decode cX12_loadAside 29 = .ok (.bipush 60, 2) := by decide +kernel
theorem dX12_loadAside_31 : decode cX12_loadAside 31 = .ok (.if_icmp .ge 44, 3) := by decide +kernel
theorem dX12_loadAside_34 : decode cX12_loadAside 34 = .ok (.aload_n 0, 1) := by decide +kernel
theorem dX12_loadAside_35 : decode cX12_loadAside 35 = .ok (.getfield 11, 3) := by decide +kernel
theorem dX12_loadAside_38 : decode cX12_loadAside 38 = .ok (.sipush 880, 3) := by decide +kernel
theorem dX12_loadAside_41 : decode cX12_loadAside 41 = .ok (.iload_n 1, 1) := by decide +kernel
theorem dX12_loadAside_42 : decode cX12_loadAside 42 = .ok (.iadd, 1) := by decide +kernel
theorem dX12_loadAside_43 : decode cX12_loadAside 43 = .ok (.aload_n 0, 1) := by decide +kernel
theorem dX12_loadAside_44 : decode cX12_loadAside 44 = .ok (.getfield 320, 3) := by decide +kernel
theorem dX12_loadAside_47 : decode cX12_loadAside 47 = .ok (.iload_n 1, 1) := by decide +kernel
theorem dX12_loadAside_48 : decode cX12_loadAside 48 = .ok (.iaload, 1) := by decide +kernel
theorem dX12_loadAside_49 : decode cX12_loadAside 49 = .ok (.iastore, 1) := by decide +kernel
theorem dX12_loadAside_50 : decode cX12_loadAside 50 = .ok (.aload_n 0, 1) := by decide +kernel
theorem dX12_loadAside_51 : decode cX12_loadAside 51 = .ok (.getfield 11, 3) := by decide +kernel
theorem dX12_loadAside_54 : decode cX12_loadAside 54 = .ok (.sipush 1320, 3) := by decide +kernel
theorem dX12_loadAside_57 : decode cX12_loadAside 57 = .ok (.iload_n 1, 1) := by decide +kernel
theorem dX12_loadAside_58 : decode cX12_loadAside 58 = .ok (.iadd, 1) := by decide +kernel
theorem dX12_loadAside_59 : decode cX12_loadAside 59 = .ok (.aload_n 0, 1) := by decide +kernel
theorem dX12_loadAside_60 : decode cX12_loadAside 60 = .ok (.getfield 320, 3) := by decide +kernel
theorem dX12_loadAside_63 : decode cX12_loadAside 63 = .ok (.bipush 60, 2) := by decide +kernel
theorem dX12_loadAside_65 : decode cX12_loadAside 65 = .ok (.iload_n 1, 1) := by decide +kernel
theorem dX12_loadAside_66 : decode cX12_loadAside 66 = .ok (.iadd, 1) := by decide +kernel
theorem dX12_loadAside_67 : decode cX12_loadAside 67 = .ok (.iaload, 1) := by decide +kernel
theorem dX12_loadAside_68 : decode cX12_loadAside 68 = .ok (.iastore, 1) := by decide +kernel
theorem dX12_loadAside_69 : decode cX12_loadAside 69 = .ok (.iinc 1 1, 3) := by decide +kernel
theorem dX12_loadAside_72 : decode cX12_loadAside 72 = .ok (.goto (-44), 3) := by decide +kernel
theorem dX12_loadAside_75 : decode cX12_loadAside 75 = .ok (.return_, 1) := by decide +kernel
theorem dX12_isPrinted_0 : decode cX12_isPrinted 0 = .ok (.aload_n 0, 1) := by decide +kernel
theorem dX12_isPrinted_1 : decode cX12_isPrinted 1 = .ok (.iload_n 1, 1) := by decide +kernel
theorem dX12_isPrinted_2 : decode cX12_isPrinted 2 = .ok (.invokevirtual 701, 3) := by decide +kernel
theorem dX12_isPrinted_5 : decode cX12_isPrinted 5 = .ok (.aload_n 0, 1) := by decide +kernel
theorem dX12_isPrinted_6 : decode cX12_isPrinted 6 = .ok (.iload_n 1, 1) := by decide +kernel
theorem dX12_isPrinted_7 : decode cX12_isPrinted 7 = .ok (.invokevirtual 427, 3) := by decide +kernel
theorem dX12_isPrinted_10 : decode cX12_isPrinted 10 = .ok (.istore_n 2, 1) := by decide +kernel
theorem dX12_isPrinted_11 : decode cX12_isPrinted 11 = .ok (.iconst 0, 1) := by decide +kernel
theorem dX12_isPrinted_12 : decode cX12_isPrinted 12 = .ok (.istore_n 3, 1) := by decide +kernel
theorem dX12_isPrinted_13 : decode cX12_isPrinted 13 = .ok (.iload_n 3, 1) := by decide +kernel
theorem dX12_isPrinted_14 : decode cX12_isPrinted 14 = .ok (.aload_n 0, 1) := by decide +kernel
theorem dX12_isPrinted_15 : decode cX12_isPrinted 15 = .ok (.getfield 327, 3) := by decide +kernel
theorem dX12_isPrinted_18 : decode cX12_isPrinted 18 = .ok (.if_icmp .ge 58, 3) := by decide +kernel
theorem dX12_isPrinted_21 : decode cX12_isPrinted 21 = .ok (.iload_n 2, 1) := by decide +kernel
theorem dX12_isPrinted_22 : decode cX12_isPrinted 22 = .ok (.ifCond .eq 54, 3) := by decide +kernel
theorem dX12_isPrinted_25 : decode cX12_isPrinted 25 = .ok (.aload_n 0, 1) := by decide +kernel
theorem dX12_isPrinted_26 : decode cX12_isPrinted 26 = .ok (.getfield 196, 3) := by decide +kernel
theorem dX12_isPrinted_29 : decode cX12_isPrinted 29 = .ok (.iload_n 3, 1) := by decide +kernel
theorem dX12_isPrinted_30 : decode cX12_isPrinted 30 = .ok (.iaload, 1) := by decide +kernel
theorem dX12_isPrinted_31 : decode cX12_isPrinted 31 = .ok (.iconst (-1), 1) := by decide +kernel
theorem dX12_isPrinted_32 : decode cX12_isPrinted 32 = .ok (.if_icmp .eq 38, 3) := by decide +kernel
theorem dX12_isPrinted_35 : decode cX12_isPrinted 35 = .ok (.aload_n 0, 1) := by decide +kernel
theorem dX12_isPrinted_36 : decode cX12_isPrinted 36 = .ok (.getfield 199, 3) := by decide +kernel
theorem dX12_isPrinted_39 : decode cX12_isPrinted 39 = .ok (.iload_n 3, 1) := by decide +kernel
theorem dX12_isPrinted_40 : decode cX12_isPrinted 40 = .ok (.baload, 1) := by decide +kernel
theorem dX12_isPrinted_41 : decode cX12_isPrinted 41 = .ok (.ifCond .ne 29, 3) := by decide +kernel
theorem dX12_isPrinted_44 : decode cX12_isPrinted 44 = .ok (.aload_n 0, 1) := by decide +kernel
theorem dX12_isPrinted_45 : decode cX12_isPrinted 45 = .ok (.iload_n 3, 1) := by decide +kernel
theorem dX12_isPrinted_46 : decode cX12_isPrinted 46 = .ok (.iconst 1, 1) := by decide +kernel
theorem dX12_isPrinted_47 : decode cX12_isPrinted 47 = .ok (.invokevirtual 423, 3) := by decide +kernel
theorem dX12_isPrinted_50 : decode cX12_isPrinted 50 = .ok (.aload_n 0, 1) := by decide +kernel
theorem dX12_isPrinted_51 : decode cX12_isPrinted 51 = .ok (.iload_n 1, 1) := by decide +kernel
theorem dX12_isPrinted_52 : decode cX12_isPrinted 52 = .ok (.invokevirtual 427, 3) := by decide +kernel
theorem dX12_isPrinted_55 : decode cX12_isPrinted 55 = .ok (.ifCond .ne 7, 3) := by decide +kernel
theorem dX12_isPrinted_58 : decode cX12_isPrinted 58 = .ok (.iconst 1, 1) := by decide +kernel
theorem dX12_isPrinted_59 : decode cX12_isPrinted 59 = .ok (.goto 4, 3) := by decide +kernel
theorem dX12_isPrinted_62 : decode cX12_isPrinted 62 = .ok (.iconst 0, 1) := by decide +kernel
theorem dX12_isPrinted_63 : decode cX12_isPrinted 63 = .ok (.istore_n 2, 1) := by decide +kernel
theorem dX12_isPrinted_64 : decode cX12_isPrinted 64 = .ok (.aload_n 0, 1) := by decide +kernel
theorem dX12_isPrinted_65 : decode cX12_isPrinted 65 = .ok (.iload_n 3, 1) := by decide +kernel
theorem dX12_isPrinted_66 : decode cX12_isPrinted 66 = .ok (.iconst 0, 1) := by decide +kernel
theorem dX12_isPrinted_67 : decode cX12_isPrinted 67 = .ok (.invokevirtual 423, 3) := by decide +kernel
theorem dX12_isPrinted_70 : decode cX12_isPrinted 70 = .ok (.iinc 3 1, 3) := by decide +kernel
theorem dX12_isPrinted_73 : decode cX12_isPrinted 73 = .ok (.goto (-60), 3) := by decide +kernel
theorem dX12_isPrinted_76 : decode cX12_isPrinted 76 = .ok (.iload_n 2, 1) := by decide +kernel
theorem dX12_isPrinted_77 : decode cX12_isPrinted 77 = .ok (.ireturn, 1) := by decide +kernel
theorem dX12_isSimpler_0 : decode cX12_isSimpler 0 = .ok (.aload_n 0, 1) := by decide +kernel
theorem dX12_isSimpler_1 : decode cX12_isSimpler 1 = .ok (.getfield 543, 3) := by decide +kernel
theorem dX12_isSimpler_4 : decode cX12_isSimpler 4 = .ok (.istore_n 2, 1) := by decide +kernel
theorem dX12_isSimpler_5 : decode cX12_isSimpler 5 = .ok (.aload_n 0, 1) := by decide +kernel
theorem dX12_isSimpler_6 : decode cX12_isSimpler 6 = .ok (.getfield 284, 3) := by decide +kernel
theorem dX12_isSimpler_9 : decode cX12_isSimpler 9 = .ok (.iconst 0, 1) := by decide +kernel
theorem dX12_isSimpler_10 : decode cX12_isSimpler 10 = .ok (.iaload, 1) := by decide +kernel
theorem dX12_isSimpler_11 : decode cX12_isSimpler 11 = .ok (.istore_n 3, 1) := by decide +kernel
theorem dX12_isSimpler_12 : decode cX12_isSimpler 12 = .ok (.aload_n 0, 1) := by decide +kernel
theorem dX12_isSimpler_13 : decode cX12_isSimpler 13 = .ok (.getfield 287, 3) := by decide +kernel
theorem dX12_isSimpler_16 : decode cX12_isSimpler 16 = .ok (.iconst 0, 1) := by decide +kernel
theorem dX12_isSimpler_17 : decode cX12_isSimpler 17 = .ok (.iaload, 1) := by decide +kernel
theorem dX12_isSimpler_18 : decode cX12_isSimpler 18 = .ok (.istore 4, 2) := by decide +kernel
theorem dX12_isSimpler_20 : decode cX12_isSimpler 20 = .ok (.aload_n 0, 1) := by decide +kernel
theorem dX12_isSimpler_21 : decode cX12_isSimpler 21 = .ok (.iload_n 1, 1) := by decide +kernel
theorem dX12_isSimpler_22 : decode cX12_isSimpler 22 = .ok (.invokevirtual 713, 3) := by decide +kernel
theorem dX12_isSimpler_25 : decode cX12_isSimpler 25 = .ok (.istore 5, 2) := by decide +kernel
theorem dX12_isSimpler_27 : decode cX12_isSimpler 27 = .ok (.aload_n 0, 1) := by decide +kernel
theorem dX12_isSimpler_28 : decode cX12_isSimpler 28 = .ok (.sipush 3606, 3) := by decide +kernel
theorem dX12_isSimpler_31 : decode cX12_isSimpler 31 = .ok (.bipush 60, 2) := by decide +kernel
theorem dX12_isSimpler_33 : decode cX12_isSimpler 33 = .ok (.invokevirtual 115, 3) := by decide +kernel
theorem dX12_isSimpler_36 : decode cX12_isSimpler 36 = .ok (.aload_n 0, 1) := by decide +kernel
theorem dX12_isSimpler_37 : decode cX12_isSimpler 37 = .ok (.iload_n 1, 1) := by decide +kernel
theorem dX12_isSimpler_38 : decode cX12_isSimpler 38 = .ok (.invokevirtual 728, 3) := by decide +kernel
theorem dX12_isSimpler_41 : decode cX12_isSimpler 41 = .ok (.iconst 1, 1) := by decide +kernel
theorem dX12_isSimpler_42 : decode cX12_isSimpler 42 = .ok (.istore 6, 2) := by decide +kernel
theorem dX12_isSimpler_44 : decode cX12_isSimpler 44 = .ok (.iconst 1, 1) := by decide +kernel
theorem dX12_isSimpler_45 : decode cX12_isSimpler 45 = .ok (.istore 7, 2) := by decide +kernel
theorem dX12_isSimpler_47 : decode cX12_isSimpler 47 = .ok (.iload 7, 2) := by decide +kernel
theorem dX12_isSimpler_49 : decode cX12_isSimpler 49 = .ok (.ifCond .eq 49, 3) := by decide +kernel
theorem dX12_isSimpler_52 : decode cX12_isSimpler 52 = .ok (.aload_n 0, 1) := by decide +kernel
theorem dX12_isSimpler_53 : decode cX12_isSimpler 53 = .ok (.getfield 512, 3) := by decide +kernel
theorem dX12_isSimpler_56 : decode cX12_isSimpler 56 = .ok (.istore 8, 2) := by decide +kernel
theorem dX12_isSimpler_58 : decode cX12_isSimpler 58 = .ok (.aload_n 0, 1) := by decide +kernel
theorem dX12_isSimpler_59 : decode cX12_isSimpler 59 = .ok (.iconst 0, 1) := by decide +kernel
theorem dX12_isSimpler_60 : decode cX12_isSimpler 60 = .ok (.putfield 543, 3) := by decide +kernel
theorem dX12_isSimpler_63 : decode cX12_isSimpler 63 = .ok (.aload_n 0, 1) := by decide +kernel
theorem dX12_isSimpler_64 : decode cX12_isSimpler 64 = .ok (.invokevirtual 731, 3) := by decide +kernel
theorem dX12_isSimpler_67 : decode cX12_isSimpler 67 = .ok (.istore 7, 2) := by decide +kernel
theorem dX12_isSimpler_69 : decode cX12_isSimpler 69 = .ok (.iload 6, 2) := by decide +kernel
theorem dX12_isSimpler_71 : decode cX12_isSimpler 71 = .ok (.ifCond .eq 21, 3) := by decide +kernel
theorem dX12_isSimpler_74 : decode cX12_isSimpler 74 = .ok (.iload 7, 2) := by decide +kernel
theorem dX12_isSimpler_76 : decode cX12_isSimpler 76 = .ok (.ifCond .eq 12, 3) := by decide +kernel
theorem dX12_isSimpler_79 : decode cX12_isSimpler 79 = .ok (.aload_n 0, 1) := by decide +kernel
theorem dX12_isSimpler_80 : decode cX12_isSimpler 80 = .ok (.getfield 512, 3) := by decide +kernel
theorem dX12_isSimpler_83 : decode cX12_isSimpler 83 = .ok (.iload 8, 2) := by decide +kernel
theorem dX12_isSimpler_85 : decode cX12_isSimpler 85 = .ok (.if_icmp .ge 7, 3) := by decide +kernel
theorem dX12_isSimpler_88 : decode cX12_isSimpler 88 = .ok (.iconst 1, 1) := by decide +kernel
theorem dX12_isSimpler_89 : decode cX12_isSimpler 89 = .ok (.goto 4, 3) := by decide +kernel
theorem dX12_isSimpler_92 : decode cX12_isSimpler 92 = .ok (.iconst 0, 1) := by decide +kernel
theorem dX12_isSimpler_93 : decode cX12_isSimpler 93 = .ok (.istore 6, 2) := by decide +kernel
theorem dX12_isSimpler_95 : decode cX12_isSimpler 95 = .ok (.goto (-48), 3) := by decide +kernel
theorem dX12_isSimpler_98 : decode cX12_isSimpler 98 = .ok (.aload_n 0, 1) := by decide +kernel
theorem dX12_isSimpler_99 : decode cX12_isSimpler 99 = .ok (.iload_n 2, 1) := by decide +kernel
theorem dX12_isSimpler_100 : decode cX12_isSimpler 100 = .ok (.putfield 543, 3) := by decide +kernel
theorem dX12_isSimpler_103 : decode cX12_isSimpler 103 = .ok (.aload_n 0, 1) := by decide +kernel
theorem dX12_isSimpler_104 : decode cX12_isSimpler 104 = .ok (.getfield 284, 3) := by decide +kernel
theorem dX12_isSimpler_107 : decode cX12_isSimpler 107 = .ok (.iconst 0, 1) := by decide +kernel
theorem dX12_isSimpler_108 : decode cX12_isSimpler 108 = .ok (.iload_n 3, 1) := by decide +kernel
theorem dX12_isSimpler_109 : decode cX12_isSimpler 109 = .ok (.iastore, 1) := by decide +kernel
theorem dX12_isSimpler_110 : decode cX12_isSimpler 110 = .ok (.aload_n 0, 1) := by decide +kernel
theorem dX12_isSimpler_111 : decode cX12_isSimpler 111 = .ok (.getfield 287, 3) := by decide +kernel
theorem dX12_isSimpler_114 : decode cX12_isSimpler 114 = .ok (.iconst 0, 1) := by decide +kernel
theorem dX12_isSimpler_115 : decode cX12_isSimpler 115 = .ok (.iload 4, 2) := by decide +kernel
theorem dX12_isSimpler_117 : decode cX12_isSimpler 117 = .ok (.iastore, 1) := by decide +kernel
theorem dX12_isSimpler_118 : decode cX12_isSimpler 118 = .ok (.aload_n 0, 1) := by decide +kernel
theorem dX12_isSimpler_119 : decode cX12_isSimpler 119 = .ok (.sipush 13540, 3) := by decide +kernel
theorem dX12_isSimpler_122 : decode cX12_isSimpler 122 = .ok (.invokevirtual 713, 3) := by decide +kernel
theorem dX12_isSimpler_125 : decode cX12_isSimpler 125 = .ok (.istore 8, 2) := by decide +kernel
theorem dX12_isSimpler_127 : decode cX12_isSimpler 127 = .ok (.iload 6, 2) := by decide +kernel
theorem dX12_isSimpler_129 : decode cX12_isSimpler 129 = .ok (.ifCond .eq 29, 3) := by decide +kernel
theorem dX12_isSimpler_132 : decode cX12_isSimpler 132 = .ok (.iload 5, 2) := by decide +kernel
theorem dX12_isSimpler_134 : decode cX12_isSimpler 134 = .ok (.ifCond .ne 20, 3) := by decide +kernel
theorem dX12_isSimpler_137 : decode cX12_isSimpler 137 = .ok (.iload 8, 2) := by decide +kernel
theorem dX12_isSimpler_139 : decode cX12_isSimpler 139 = .ok (.ifCond .ne 15, 3) := by decide +kernel
theorem dX12_isSimpler_142 : decode cX12_isSimpler 142 = .ok (.aload_n 0, 1) := by decide +kernel
theorem dX12_isSimpler_143 : decode cX12_isSimpler 143 = .ok (.sipush 3606, 3) := by decide +kernel
theorem dX12_isSimpler_146 : decode cX12_isSimpler 146 = .ok (.bipush 60, 2) := by decide +kernel
theorem dX12_isSimpler_148 : decode cX12_isSimpler 148 = .ok (.invokevirtual 132, 3) := by decide +kernel
theorem dX12_isSimpler_151 : decode cX12_isSimpler 151 = .ok (.ifCond .ne 7, 3) := by decide +kernel
theorem dX12_isSimpler_154 : decode cX12_isSimpler 154 = .ok (.iconst 1, 1) := by decide +kernel
theorem dX12_isSimpler_155 : decode cX12_isSimpler 155 = .ok (.goto 4, 3) := by decide +kernel
theorem dX12_isSimpler_158 : decode cX12_isSimpler 158 = .ok (.iconst 0, 1) := by decide +kernel
theorem dX12_isSimpler_159 : decode cX12_isSimpler 159 = .ok (.ireturn, 1) := by decide +kernel
theorem dX12_isSlope_0 : decode cX12_isSlope 0 = .ok (.aload_n 0, 1) := by decide +kernel
theorem dX12_isSlope_1 : decode cX12_isSlope 1 = .ok (.iload_n 1, 1) := by decide +kernel
theorem dX12_isSlope_2 : decode cX12_isSlope 2 = .ok (.iload_n 2, 1) := by decide +kernel
theorem dX12_isSlope_3 : decode cX12_isSlope 3 = .ok (.invokevirtual 738, 3) := by decide +kernel
theorem dX12_isSlope_6 : decode cX12_isSlope 6 = .ok (.istore_n 3, 1) := by decide +kernel
theorem dX12_isSlope_7 : decode cX12_isSlope 7 = .ok (.iload_n 3, 1) := by decide +kernel
theorem dX12_isSlope_8 : decode cX12_isSlope 8 = .ok (.iconst (-1), 1) := by decide +kernel
theorem dX12_isSlope_9 : decode cX12_isSlope 9 = .ok (.if_icmp .eq 13, 3) := by decide +kernel
theorem dX12_isSlope_12 : decode cX12_isSlope 12 = .ok (.aload_n 0, 1) := by decide +kernel
theorem dX12_isSlope_13 : decode cX12_isSlope 13 = .ok (.sipush 13740, 3) := by decide +kernel
theorem dX12_isSlope_16 : decode cX12_isSlope 16 = .ok (.invokevirtual 713, 3) := by decide +kernel
theorem dX12_isSlope_19 : decode cX12_isSlope 19 = .ok (.ifCond .eq 5, 3) := by decide +kernel
theorem dX12_isSlope_22 : decode cX12_isSlope 22 = .ok (.iconst 1, 1) := by decide +kernel
theorem dX12_isSlope_23 : decode cX12_isSlope 23 = .ok (.ireturn, 1) := by decide +kernel
theorem dX12_isSlope_24 : decode cX12_isSlope 24 = .ok (.aload_n 0, 1) := by decide +kernel
theorem dX12_isSlope_25 : decode cX12_isSlope 25 = .ok (.sipush 3606, 3) := by decide +kernel
theorem dX12_isSlope_28 : decode cX12_isSlope 28 = .ok (.bipush 60, 2) := by decide +kernel
theorem dX12_isSlope_30 : decode cX12_isSlope 30 = .ok (.invokevirtual 115, 3) := by decide +kernel
theorem dX12_isSlope_33 : decode cX12_isSlope 33 = .ok (.aload_n 0, 1) := by decide +kernel
theorem dX12_isSlope_34 : decode cX12_isSlope 34 = .ok (.iload_n 1, 1) := by decide +kernel
theorem dX12_isSlope_35 : decode cX12_isSlope 35 = .ok (.iload_n 2, 1) := by decide +kernel
theorem dX12_isSlope_36 : decode cX12_isSlope 36 = .ok (.invokevirtual 741, 3) := by decide +kernel
theorem dX12_isSlope_39 : decode cX12_isSlope 39 = .ok (.ifCond .ne 17, 3) := by decide +kernel
theorem dX12_isSlope_42 : decode cX12_isSlope 42 = .ok (.aload_n 0, 1) := by decide +kernel
theorem dX12_isSlope_43 : decode cX12_isSlope 43 = .ok (.sipush 3606, 3) := by decide +kernel
theorem dX12_isSlope_46 : decode cX12_isSlope 46 = .ok (.iconst 0, 1) := by decide +kernel
theorem dX12_isSlope_47 : decode cX12_isSlope 47 = .ok (.invokestatic 645, 3) := by decide +kernel
theorem dX12_isSlope_50 : decode cX12_isSlope 50 = .ok (.invokevirtual 132, 3) := by decide +kernel
theorem dX12_isSlope_53 : decode cX12_isSlope 53 = .ok (.ifCond .ne 7, 3) := by decide +kernel
theorem dX12_isSlope_56 : decode cX12_isSlope 56 = .ok (.iconst 1, 1) := by decide +kernel
theorem dX12_isSlope_57 : decode cX12_isSlope 57 = .ok (.goto 4, 3) := by decide +kernel
theorem dX12_isSlope_60 : decode cX12_isSlope 60 = .ok (.iconst 0, 1) := by decide +kernel
theorem dX12_isSlope_61 : decode cX12_isSlope 61 = .ok (.ireturn, 1) := by decide +kernel
theorem dX12_audit_0 : decode cX12_audit 0 = .ok (.aload_n 0, 1) := by decide +kernel
theorem dX12_audit_1 : decode cX12_audit 1 = .ok (.iload_n 1, 1) := by decide +kernel
theorem dX12_audit_2 : decode cX12_audit 2 = .ok (.iconst 0, 1) := by decide +kernel
theorem dX12_audit_3 : decode cX12_audit 3 = .ok (.iconst 3, 1) := by decide +kernel
theorem dX12_audit_4 : decode cX12_audit 4 = .ok (.invokestatic 106, 3) := by decide +kernel
theorem dX12_audit_7 : decode cX12_audit 7 = .ok (.ifCond .ne 7, 3) := by decide +kernel
theorem dX12_audit_10 : decode cX12_audit 10 = .ok (.iconst 1, 1) := by decide +kernel
theorem dX12_audit_11 : decode cX12_audit 11 = .ok (.goto 4, 3) := by decide +kernel
theorem dX12_audit_14 : decode cX12_audit 14 = .ok (.iconst 0, 1) := by decide +kernel
theorem dX12_audit_15 : decode cX12_audit 15 = .ok (.aload_n 0, 1) := by decide +kernel
theorem dX12_audit_16 : decode cX12_audit 16 = .ok (.iload_n 2, 1) := by decide +kernel
theorem dX12_audit_17 : decode cX12_audit 17 = .ok (.invokevirtual 664, 3) := by decide +kernel
theorem dX12_audit_20 : decode cX12_audit 20 = .ok (.ifCond .ne 7, 3) := by decide +kernel
theorem dX12_audit_23 : decode cX12_audit 23 = .ok (.iconst 1, 1) := by decide +kernel
theorem dX12_audit_24 : decode cX12_audit 24 = .ok (.goto 4, 3) := by decide +kernel
theorem dX12_audit_27 : decode cX12_audit 27 = .ok (.iconst 0, 1) := by decide +kernel
theorem dX12_audit_28 : decode cX12_audit 28 = .ok (.iconst 0, 1) := by decide +kernel
theorem dX12_audit_29 : decode cX12_audit 29 = .ok (.invokevirtual 670, 3) := by decide +kernel
theorem dX12_audit_32 : decode cX12_audit 32 = .ok (.ifCond .eq 5, 3) := by decide +kernel
theorem dX12_audit_35 : decode cX12_audit 35 = .ok (.iconst 0, 1) := by decide +kernel
theorem dX12_audit_36 : decode cX12_audit 36 = .ok (.ireturn, 1) := by decide +kernel
theorem dX12_audit_37 : decode cX12_audit 37 = .ok (.iload_n 2, 1) := by decide +kernel
theorem dX12_audit_38 : decode cX12_audit 38 = .ok (.invokestatic 667, 3) := by decide +kernel
theorem dX12_audit_41 : decode cX12_audit 41 = .ok (.istore_n 3, 1) := by decide +kernel
theorem dX12_audit_42 : decode cX12_audit 42 = .ok (.iload_n 1, 1) := by decide +kernel
theorem dX12_audit_43 : decode cX12_audit 43 = .ok (.tableswitch 39 0 2 #[25, 31, 33], 25) := by decide +kernel
theorem dX12_audit_68 : decode cX12_audit 68 = .ok (.aload_n 0, 1) := by decide +kernel
theorem dX12_audit_69 : decode cX12_audit 69 = .ok (.iload_n 3, 1) := by decide +kernel
theorem dX12_audit_70 : decode cX12_audit 70 = .ok (.invokevirtual 750, 3) := by decide +kernel
theorem dX12_audit_73 : decode cX12_audit 73 = .ok (.ireturn, 1) := by decide +kernel
theorem dX12_audit_74 : decode cX12_audit 74 = .ok (.iconst 1, 1) := by decide +kernel
theorem dX12_audit_75 : decode cX12_audit 75 = .ok (.ireturn, 1) := by decide +kernel
theorem dX12_audit_76 : decode cX12_audit 76 = .ok (.aload_n 0, 1) := by decide +kernel
theorem dX12_audit_77 : decode cX12_audit 77 = .ok (.iload_n 3, 1) := by decide +kernel
theorem dX12_audit_78 : decode cX12_audit 78 = .ok (.invokevirtual 753, 3) := by decide +kernel
theorem dX12_audit_81 : decode cX12_audit 81 = .ok (.ireturn, 1) := by decide +kernel
theorem dX12_audit_82 : decode cX12_audit 82 = .ok (.aload_n 0, 1) := by decide +kernel
theorem dX12_audit_83 : decode cX12_audit 83 = .ok (.iload_n 3, 1) := by decide +kernel
theorem dX12_audit_84 : decode cX12_audit 84 = .ok (.bipush 120, 2) := by decide +kernel
theorem dX12_audit_86 : decode cX12_audit 86 = .ok (.invokevirtual 756, 3) := by decide +kernel
theorem dX12_audit_89 : decode cX12_audit 89 = .ok (.ifCond .eq 27, 3) := by decide +kernel
theorem dX12_audit_92 : decode cX12_audit 92 = .ok (.aload_n 0, 1) := by decide +kernel
theorem dX12_audit_93 : decode cX12_audit 93 = .ok (.iload_n 3, 1) := by decide +kernel
theorem dX12_audit_94 : decode cX12_audit 94 = .ok (.bipush 121, 2) := by decide +kernel
theorem dX12_audit_96 : decode cX12_audit 96 = .ok (.invokevirtual 756, 3) := by decide +kernel
theorem dX12_audit_99 : decode cX12_audit 99 = .ok (.ifCond .eq 17, 3) := by decide +kernel
theorem dX12_audit_102 : decode cX12_audit 102 = .ok (.aload_n 0, 1) := by decide +kernel
theorem dX12_audit_103 : decode cX12_audit 103 = .ok (.iload_n 3, 1) := by decide +kernel
theorem dX12_audit_104 : decode cX12_audit 104 = .ok (.bipush 122, 2) := by decide +kernel
theorem dX12_audit_106 : decode cX12_audit 106 = .ok (.invokevirtual 756, 3) := by decide +kernel
theorem dX12_audit_109 : decode cX12_audit 109 = .ok (.ifCond .eq 7, 3) := by decide +kernel
theorem dX12_audit_112 : decode cX12_audit 112 = .ok (.iconst 1, 1) := by decide +kernel
theorem dX12_audit_113 : decode cX12_audit 113 = .ok (.goto 4, 3) := by decide +kernel
theorem dX12_audit_116 : decode cX12_audit 116 = .ok (.iconst 0, 1) := by decide +kernel
theorem dX12_audit_117 : decode cX12_audit 117 = .ok (.ireturn, 1) := by decide +kernel
