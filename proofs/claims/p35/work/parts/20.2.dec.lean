theorem dX7_applyNeutral_58 : decode cX7_applyNeutral 58 = .ok (.iconst 0, 1) := by decide +kernel
theorem dX7_applyNeutral_59 : decode cX7_applyNeutral 59 = .ok (.goto 4, 3) := by decide +kernel
theorem dX7_applyNeutral_62 : decode cX7_applyNeutral 62 = .ok (.iconst 1, 1) := by decide +kernel
theorem dX7_applyNeutral_63 : decode cX7_applyNeutral 63 = .ok (.istore 6, 2) := by decide +kernel
theorem dX7_applyNeutral_65 : decode cX7_applyNeutral 65 = .ok (.iload_n 2, 1) := by decide +kernel
theorem dX7_applyNeutral_66 : decode cX7_applyNeutral 66 = .ok (.ifCond .eq 8, 3) := by decide +kernel
theorem dX7_applyNeutral_69 : decode cX7_applyNeutral 69 = .ok (.iload_n 2, 1) := by decide +kernel
theorem dX7_applyNeutral_70 : decode cX7_applyNeutral 70 = .ok (.iconst 2, 1) := by decide +kernel
theorem dX7_applyNeutral_71 : decode cX7_applyNeutral 71 = .ok (.if_icmp .ne 23, 3) := by decide +kernel
theorem dX7_applyNeutral_74 : decode cX7_applyNeutral 74 = .ok (.aload_n 0, 1) := by decide +kernel
theorem dX7_applyNeutral_75 : decode cX7_applyNeutral 75 = .ok (.iload_n 3, 1) := by decide +kernel
theorem dX7_applyNeutral_76 : decode cX7_applyNeutral 76 = .ok (.iload 6, 2) := by decide +kernel
theorem dX7_applyNeutral_78 : decode cX7_applyNeutral 78 = .ok (.invokevirtual 74, 3) := by decide +kernel
theorem dX7_applyNeutral_81 : decode cX7_applyNeutral 81 = .ok (.ifCond .eq 13, 3) := by decide +kernel
theorem dX7_applyNeutral_84 : decode cX7_applyNeutral 84 = .ok (.aload_n 0, 1) := by decide +kernel
theorem dX7_applyNeutral_85 : decode cX7_applyNeutral 85 = .ok (.iload_n 1, 1) := by decide +kernel
theorem dX7_applyNeutral_86 : decode cX7_applyNeutral 86 = .ok (.iload 4, 2) := by decide +kernel
theorem dX7_applyNeutral_88 : decode cX7_applyNeutral 88 = .ok (.invokevirtual 53, 3) := by decide +kernel
theorem dX7_applyNeutral_91 : decode cX7_applyNeutral 91 = .ok (.goto 25, 3) := by decide +kernel
theorem dX7_applyNeutral_94 : decode cX7_applyNeutral 94 = .ok (.aload_n 0, 1) := by decide +kernel
theorem dX7_applyNeutral_95 : decode cX7_applyNeutral 95 = .ok (.iload 4, 2) := by decide +kernel
theorem dX7_applyNeutral_97 : decode cX7_applyNeutral 97 = .ok (.iload 6, 2) := by decide +kernel
theorem dX7_applyNeutral_99 : decode cX7_applyNeutral 99 = .ok (.invokevirtual 74, 3) := by decide +kernel
theorem dX7_applyNeutral_102 : decode cX7_applyNeutral 102 = .ok (.ifCond .eq 12, 3) := by decide +kernel
theorem dX7_applyNeutral_105 : decode cX7_applyNeutral 105 = .ok (.aload_n 0, 1) := by decide +kernel
theorem dX7_applyNeutral_106 : decode cX7_applyNeutral 106 = .ok (.iload_n 1, 1) := by decide +kernel
theorem dX7_applyNeutral_107 : decode cX7_applyNeutral 107 = .ok (.iload_n 3, 1) := by decide +kernel
theorem dX7_applyNeutral_108 : decode cX7_applyNeutral 108 = .ok (.invokevirtual 53, 3) := by decide +kernel
theorem dX7_applyNeutral_111 : decode cX7_applyNeutral 111 = .ok (.goto 5, 3) := by decide +kernel
theorem dX7_applyNeutral_114 : decode cX7_applyNeutral 114 = .ok (.iconst 0, 1) := by decide +kernel
theorem dX7_applyNeutral_115 : decode cX7_applyNeutral 115 = .ok (.ireturn, 1) := by decide +kernel
theorem dX7_applyNeutral_116 : decode cX7_applyNeutral 116 = .ok (.iload 5, 2) := by decide +kernel
theorem dX7_applyNeutral_118 : decode cX7_applyNeutral 118 = .ok (.ifCond .eq 7, 3) := by decide +kernel
theorem dX7_applyNeutral_121 : decode cX7_applyNeutral 121 = .ok (.iconst 2, 1) := by decide +kernel
theorem dX7_applyNeutral_122 : decode cX7_applyNeutral 122 = .ok (.goto 4, 3) := by decide +kernel
theorem dX7_applyNeutral_125 : decode cX7_applyNeutral 125 = .ok (.iconst 3, 1) := by decide +kernel
theorem dX7_applyNeutral_126 : decode cX7_applyNeutral 126 = .ok (.ireturn, 1) := by decide +kernel
theorem dX7_addAlike_0 : decode cX7_addAlike 0 = .ok (.aload_n 0, 1) := by decide +kernel
theorem dX7_addAlike_1 : decode cX7_addAlike 1 = .ok (.aload_n 1, 1) := by decide +kernel
theorem dX7_addAlike_2 : decode cX7_addAlike 2 = .ok (.iload_n 3, 1) := by decide +kernel
theorem dX7_addAlike_3 : decode cX7_addAlike 3 = .ok (.invokevirtual 46, 3) := by decide +kernel
theorem dX7_addAlike_6 : decode cX7_addAlike 6 = .ok (.iconst 2, 1) := by decide +kernel
theorem dX7_addAlike_7 : decode cX7_addAlike 7 = .ok (.if_icmp .ne 14, 3) := by decide +kernel
theorem dX7_addAlike_10 : decode cX7_addAlike 10 = .ok (.aload_n 0, 1) := by decide +kernel
theorem dX7_addAlike_11 : decode cX7_addAlike 11 = .ok (.aload_n 1, 1) := by decide +kernel
theorem dX7_addAlike_12 : decode cX7_addAlike 12 = .ok (.iload 4, 2) := by decide +kernel
theorem dX7_addAlike_14 : decode cX7_addAlike 14 = .ok (.invokevirtual 46, 3) := by decide +kernel
theorem dX7_addAlike_17 : decode cX7_addAlike 17 = .ok (.iconst 2, 1) := by decide +kernel
theorem dX7_addAlike_18 : decode cX7_addAlike 18 = .ok (.if_icmp .eq 5, 3) := by decide +kernel
theorem dX7_addAlike_21 : decode cX7_addAlike 21 = .ok (.iconst 0, 1) := by decide +kernel
theorem dX7_addAlike_22 : decode cX7_addAlike 22 = .ok (.ireturn, 1) := by decide +kernel
theorem dX7_addAlike_23 : decode cX7_addAlike 23 = .ok (.aload_n 1, 1) := by decide +kernel
theorem dX7_addAlike_24 : decode cX7_addAlike 24 = .ok (.iload_n 3, 1) := by decide +kernel
theorem dX7_addAlike_25 : decode cX7_addAlike 25 = .ok (.iconst 0, 1) := by decide +kernel
theorem dX7_addAlike_26 : decode cX7_addAlike 26 = .ok (.invokevirtual 50, 3) := by decide +kernel
theorem dX7_addAlike_29 : decode cX7_addAlike 29 = .ok (.istore 5, 2) := by decide +kernel
theorem dX7_addAlike_31 : decode cX7_addAlike 31 = .ok (.aload_n 1, 1) := by decide +kernel
theorem dX7_addAlike_32 : decode cX7_addAlike 32 = .ok (.iload 4, 2) := by decide +kernel
theorem dX7_addAlike_34 : decode cX7_addAlike 34 = .ok (.iconst 0, 1) := by decide +kernel
theorem dX7_addAlike_35 : decode cX7_addAlike 35 = .ok (.invokevirtual 50, 3) := by decide +kernel
theorem dX7_addAlike_38 : decode cX7_addAlike 38 = .ok (.istore 6, 2) := by decide +kernel
theorem dX7_addAlike_40 : decode cX7_addAlike 40 = .ok (.aload_n 1, 1) := by decide +kernel
theorem dX7_addAlike_41 : decode cX7_addAlike 41 = .ok (.getfield 22, 3) := by decide +kernel
theorem dX7_addAlike_44 : decode cX7_addAlike 44 = .ok (.iload 5, 2) := by decide +kernel
theorem dX7_addAlike_46 : decode cX7_addAlike 46 = .ok (.iaload, 1) := by decide +kernel
theorem dX7_addAlike_47 : decode cX7_addAlike 47 = .ok (.ifCond .ne 33, 3) := by decide +kernel
theorem dX7_addAlike_50 : decode cX7_addAlike 50 = .ok (.aload_n 1, 1) := by decide +kernel
theorem dX7_addAlike_51 : decode cX7_addAlike 51 = .ok (.getfield 22, 3) := by decide +kernel
theorem dX7_addAlike_54 : decode cX7_addAlike 54 = .ok (.iload 6, 2) := by decide +kernel
theorem dX7_addAlike_56 : decode cX7_addAlike 56 = .ok (.iaload, 1) := by decide +kernel
theorem dX7_addAlike_57 : decode cX7_addAlike 57 = .ok (.ifCond .ne 23, 3) := by decide +kernel
theorem dX7_addAlike_60 : decode cX7_addAlike 60 = .ok (.aload_n 1, 1) := by decide +kernel
theorem dX7_addAlike_61 : decode cX7_addAlike 61 = .ok (.aload_n 1, 1) := by decide +kernel
theorem dX7_addAlike_62 : decode cX7_addAlike 62 = .ok (.iload_n 3, 1) := by decide +kernel
theorem dX7_addAlike_63 : decode cX7_addAlike 63 = .ok (.iconst 1, 1) := by decide +kernel
theorem dX7_addAlike_64 : decode cX7_addAlike 64 = .ok (.invokevirtual 50, 3) := by decide +kernel
theorem dX7_addAlike_67 : decode cX7_addAlike 67 = .ok (.aload_n 1, 1) := by decide +kernel
theorem dX7_addAlike_68 : decode cX7_addAlike 68 = .ok (.iload 4, 2) := by decide +kernel
theorem dX7_addAlike_70 : decode cX7_addAlike 70 = .ok (.iconst 1, 1) := by decide +kernel
theorem dX7_addAlike_71 : decode cX7_addAlike 71 = .ok (.invokevirtual 50, 3) := by decide +kernel
theorem dX7_addAlike_74 : decode cX7_addAlike 74 = .ok (.invokevirtual 78, 3) := by decide +kernel
theorem dX7_addAlike_77 : decode cX7_addAlike 77 = .ok (.ifCond .ne 5, 3) := by decide +kernel
theorem dX7_addAlike_80 : decode cX7_addAlike 80 = .ok (.iconst 0, 1) := by decide +kernel
theorem dX7_addAlike_81 : decode cX7_addAlike 81 = .ok (.ireturn, 1) := by decide +kernel
theorem dX7_addAlike_82 : decode cX7_addAlike 82 = .ok (.aload_n 1, 1) := by decide +kernel
theorem dX7_addAlike_83 : decode cX7_addAlike 83 = .ok (.getfield 26, 3) := by decide +kernel
theorem dX7_addAlike_86 : decode cX7_addAlike 86 = .ok (.iload 5, 2) := by decide +kernel
theorem dX7_addAlike_88 : decode cX7_addAlike 88 = .ok (.iaload, 1) := by decide +kernel
theorem dX7_addAlike_89 : decode cX7_addAlike 89 = .ok (.aload_n 1, 1) := by decide +kernel
theorem dX7_addAlike_90 : decode cX7_addAlike 90 = .ok (.getfield 26, 3) := by decide +kernel
theorem dX7_addAlike_93 : decode cX7_addAlike 93 = .ok (.iload 6, 2) := by decide +kernel
theorem dX7_addAlike_95 : decode cX7_addAlike 95 = .ok (.iaload, 1) := by decide +kernel
theorem dX7_addAlike_96 : decode cX7_addAlike 96 = .ok (.iadd, 1) := by decide +kernel
theorem dX7_addAlike_97 : decode cX7_addAlike 97 = .ok (.istore 7, 2) := by decide +kernel
theorem dX7_addAlike_99 : decode cX7_addAlike 99 = .ok (.iload 7, 2) := by decide +kernel
theorem dX7_addAlike_101 : decode cX7_addAlike 101 = .ok (.ldc 95, 2) := by decide +kernel
theorem dX7_addAlike_103 : decode cX7_addAlike 103 = .ok (.if_icmp .le 5, 3) := by decide +kernel
theorem dX7_addAlike_106 : decode cX7_addAlike 106 = .ok (.iconst 0, 1) := by decide +kernel
theorem dX7_addAlike_107 : decode cX7_addAlike 107 = .ok (.ireturn, 1) := by decide +kernel
theorem dX7_addAlike_108 : decode cX7_addAlike 108 = .ok (.aload_n 1, 1) := by decide +kernel
theorem dX7_addAlike_109 : decode cX7_addAlike 109 = .ok (.getfield 26, 3) := by decide +kernel
theorem dX7_addAlike_112 : decode cX7_addAlike 112 = .ok (.iload 5, 2) := by decide +kernel
theorem dX7_addAlike_114 : decode cX7_addAlike 114 = .ok (.iload 7, 2) := by decide +kernel
theorem dX7_addAlike_116 : decode cX7_addAlike 116 = .ok (.iastore, 1) := by decide +kernel
theorem dX7_addAlike_117 : decode cX7_addAlike 117 = .ok (.aload_n 1, 1) := by decide +kernel
theorem dX7_addAlike_118 : decode cX7_addAlike 118 = .ok (.iload_n 2, 1) := by decide +kernel
theorem dX7_addAlike_119 : decode cX7_addAlike 119 = .ok (.iload_n 3, 1) := by decide +kernel
theorem dX7_addAlike_120 : decode cX7_addAlike 120 = .ok (.invokevirtual 53, 3) := by decide +kernel
theorem dX7_addAlike_123 : decode cX7_addAlike 123 = .ok (.iconst 1, 1) := by decide +kernel
theorem dX7_addAlike_124 : decode cX7_addAlike 124 = .ok (.ireturn, 1) := by decide +kernel
theorem dX7_hasRules_0 : decode cX7_hasRules 0 = .ok (.iconst 0, 1) := by decide +kernel
theorem dX7_hasRules_1 : decode cX7_hasRules 1 = .ok (.istore_n 2, 1) := by decide +kernel
theorem dX7_hasRules_2 : decode cX7_hasRules 2 = .ok (.iload_n 2, 1) := by decide +kernel
theorem dX7_hasRules_3 : decode cX7_hasRules 3 = .ok (.aload_n 1, 1) := by decide +kernel
theorem dX7_hasRules_4 : decode cX7_hasRules 4 = .ok (.getfield 38, 3) := by decide +kernel
theorem dX7_hasRules_7 : decode cX7_hasRules 7 = .ok (.if_icmp .ge 83, 3) := by decide +kernel
theorem dX7_hasRules_10 : decode cX7_hasRules 10 = .ok (.aload_n 0, 1) := by decide +kernel
theorem dX7_hasRules_11 : decode cX7_hasRules 11 = .ok (.aload_n 1, 1) := by decide +kernel
theorem dX7_hasRules_12 : decode cX7_hasRules 12 = .ok (.iload_n 2, 1) := by decide +kernel
theorem dX7_hasRules_13 : decode cX7_hasRules 13 = .ok (.invokevirtual 46, 3) := by decide +kernel
theorem dX7_hasRules_16 : decode cX7_hasRules 16 = .ok (.istore_n 3, 1) := by decide +kernel
theorem dX7_hasRules_17 : decode cX7_hasRules 17 = .ok (.aload_n 1, 1) := by decide +kernel
theorem dX7_hasRules_18 : decode cX7_hasRules 18 = .ok (.getfield 22, 3) := by decide +kernel
theorem dX7_hasRules_21 : decode cX7_hasRules 21 = .ok (.iload_n 2, 1) := by decide +kernel
theorem dX7_hasRules_22 : decode cX7_hasRules 22 = .ok (.iaload, 1) := by decide +kernel
theorem dX7_hasRules_23 : decode cX7_hasRules 23 = .ok (.ifCond .eq 47, 3) := by decide +kernel
theorem dX7_hasRules_26 : decode cX7_hasRules 26 = .ok (.aload_n 1, 1) := by decide +kernel
theorem dX7_hasRules_27 : decode cX7_hasRules 27 = .ok (.getfield 22, 3) := by decide +kernel
theorem dX7_hasRules_30 : decode cX7_hasRules 30 = .ok (.iload_n 2, 1) := by decide +kernel
theorem dX7_hasRules_31 : decode cX7_hasRules 31 = .ok (.iaload, 1) := by decide +kernel
theorem dX7_hasRules_32 : decode cX7_hasRules 32 = .ok (.iconst 1, 1) := by decide +kernel
theorem dX7_hasRules_33 : decode cX7_hasRules 33 = .ok (.if_icmp .eq 37, 3) := by decide +kernel
theorem dX7_hasRules_36 : decode cX7_hasRules 36 = .ok (.iload_n 3, 1) := by decide +kernel
theorem dX7_hasRules_37 : decode cX7_hasRules 37 = .ok (.bipush 11, 2) := by decide +kernel
theorem dX7_hasRules_39 : decode cX7_hasRules 39 = .ok (.if_icmp .eq 31, 3) := by decide +kernel
theorem dX7_hasRules_42 : decode cX7_hasRules 42 = .ok (.iload_n 3, 1) := by decide +kernel
theorem dX7_hasRules_43 : decode cX7_hasRules 43 = .ok (.ifCond .lt 8, 3) := by decide +kernel
theorem dX7_hasRules_46 : decode cX7_hasRules 46 = .ok (.iload_n 3, 1) := by decide +kernel
theorem dX7_hasRules_47 : decode cX7_hasRules 47 = .ok (.iconst 3, 1) := by decide +kernel
theorem dX7_hasRules_48 : decode cX7_hasRules 48 = .ok (.if_icmp .le 22, 3) := by decide +kernel
theorem dX7_hasRules_51 : decode cX7_hasRules 51 = .ok (.iload_n 3, 1) := by decide +kernel
theorem dX7_hasRules_52 : decode cX7_hasRules 52 = .ok (.iconst 5, 1) := by decide +kernel
theorem dX7_hasRules_53 : decode cX7_hasRules 53 = .ok (.if_icmp .ne 21, 3) := by decide +kernel
theorem dX7_hasRules_56 : decode cX7_hasRules 56 = .ok (.aload_n 1, 1) := by decide +kernel
theorem dX7_hasRules_57 : decode cX7_hasRules 57 = .ok (.getfield 22, 3) := by decide +kernel
theorem dX7_hasRules_60 : decode cX7_hasRules 60 = .ok (.aload_n 1, 1) := by decide +kernel
theorem dX7_hasRules_61 : decode cX7_hasRules 61 = .ok (.iload_n 2, 1) := by decide +kernel
theorem dX7_hasRules_62 : decode cX7_hasRules 62 = .ok (.iconst 1, 1) := by decide +kernel
theorem dX7_hasRules_63 : decode cX7_hasRules 63 = .ok (.invokevirtual 50, 3) := by decide +kernel
theorem dX7_hasRules_66 : decode cX7_hasRules 66 = .ok (.iaload, 1) := by decide +kernel
theorem dX7_hasRules_67 : decode cX7_hasRules 67 = .ok (.ifCond .ne 7, 3) := by decide +kernel
theorem dX7_hasRules_70 : decode cX7_hasRules 70 = .ok (.iconst 1, 1) := by decide +kernel
theorem dX7_hasRules_71 : decode cX7_hasRules 71 = .ok (.goto 4, 3) := by decide +kernel
theorem dX7_hasRules_74 : decode cX7_hasRules 74 = .ok (.iconst 0, 1) := by decide +kernel
theorem dX7_hasRules_75 : decode cX7_hasRules 75 = .ok (.istore 4, 2) := by decide +kernel
theorem dX7_hasRules_77 : decode cX7_hasRules 77 = .ok (.iload 4, 2) := by decide +kernel
theorem dX7_hasRules_79 : decode cX7_hasRules 79 = .ok (.ifCond .ne 5, 3) := by decide +kernel
theorem dX7_hasRules_82 : decode cX7_hasRules 82 = .ok (.iconst 0, 1) := by decide +kernel
theorem dX7_hasRules_83 : decode cX7_hasRules 83 = .ok (.ireturn, 1) := by decide +kernel
theorem dX7_hasRules_84 : decode cX7_hasRules 84 = .ok (.iinc 2 1, 3) := by decide +kernel
theorem dX7_hasRules_87 : decode cX7_hasRules 87 = .ok (.goto (-85), 3) := by decide +kernel
theorem dX7_hasRules_90 : decode cX7_hasRules 90 = .ok (.iconst 1, 1) := by decide +kernel
theorem dX7_hasRules_91 : decode cX7_hasRules 91 = .ok (.ireturn, 1) := by decide +kernel
theorem dX7_differentiate_0 : decode cX7_differentiate 0 = .ok (.aload_n 0, 1) := by decide +kernel
theorem dX7_differentiate_1 : decode cX7_differentiate 1 = .ok (.getfield 12, 3) := by decide +kernel
theorem dX7_differentiate_4 : decode cX7_differentiate 4 = .ok (.invokevirtual 96, 3) := by decide +kernel
theorem dX7_differentiate_7 : decode cX7_differentiate 7 = .ok (.aload_n 0, 1) := by decide +kernel
theorem dX7_differentiate_8 : decode cX7_differentiate 8 = .ok (.aload_n 1, 1) := by decide +kernel
theorem dX7_differentiate_9 : decode cX7_differentiate 9 = .ok (.invokevirtual 99, 3) := by decide +kernel
theorem dX7_differentiate_12 : decode cX7_differentiate 12 = .ok (.ifCond .eq 14, 3) := by decide +kernel
theorem dX7_differentiate_15 : decode cX7_differentiate 15 = .ok (.aload_n 0, 1) := by decide +kernel
theorem dX7_differentiate_16 : decode cX7_differentiate 16 = .ok (.aload_n 1, 1) := by decide +kernel
theorem dX7_differentiate_17 : decode cX7_differentiate 17 = .ok (.iconst 0, 1) := by decide +kernel
theorem dX7_differentiate_18 : decode cX7_differentiate 18 = .ok (.iload_n 2, 1) := by decide +kernel
theorem dX7_differentiate_19 : decode cX7_differentiate 19 = .ok (.iconst 0, 1) := by decide +kernel
theorem dX7_differentiate_20 : decode cX7_differentiate 20 = .ok (.invokevirtual 103, 3) := by decide +kernel
theorem dX7_differentiate_23 : decode cX7_differentiate 23 = .ok (.ifCond .ne 5, 3) := by decide +kernel
theorem dX7_differentiate_26 : decode cX7_differentiate 26 = .ok (.iconst 0, 1) := by decide +kernel
theorem dX7_differentiate_27 : decode cX7_differentiate 27 = .ok (.ireturn, 1) := by decide +kernel
theorem dX7_differentiate_28 : decode cX7_differentiate 28 = .ok (.aload_n 0, 1) := by decide +kernel
theorem dX7_differentiate_29 : decode cX7_differentiate 29 = .ok (.getfield 12, 3) := by decide +kernel
theorem dX7_differentiate_32 : decode cX7_differentiate 32 = .ok (.invokevirtual 106, 3) := by decide +kernel
theorem dX7_differentiate_35 : decode cX7_differentiate 35 = .ok (.iconst 1, 1) := by decide +kernel
theorem dX7_differentiate_36 : decode cX7_differentiate 36 = .ok (.ireturn, 1) := by decide +kernel
theorem dX7_addDerivative_0 : decode cX7_addDerivative 0 = .ok (.aload_n 1, 1) := by decide +kernel
theorem dX7_addDerivative_1 : decode cX7_addDerivative 1 = .ok (.getfield 22, 3) := by decide +kernel
theorem dX7_addDerivative_4 : decode cX7_addDerivative 4 = .ok (.iload_n 2, 1) := by decide +kernel
theorem dX7_addDerivative_5 : decode cX7_addDerivative 5 = .ok (.iaload, 1) := by decide +kernel
theorem dX7_addDerivative_6 : decode cX7_addDerivative 6 = .ok (.istore 5, 2) := by decide +kernel
theorem dX7_addDerivative_8 : decode cX7_addDerivative 8 = .ok (.iload 4, 2) := by decide +kernel
theorem dX7_addDerivative_10 : decode cX7_addDerivative 10 = .ok (.bipush 80, 2) := by decide +kernel
theorem dX7_addDerivative_12 : decode cX7_addDerivative 12 = .ok (.if_icmp .le 5, 3) := by decide +kernel
theorem dX7_addDerivative_15 : decode cX7_addDerivative 15 = .ok (.iconst 0, 1) := by decide +kernel
theorem dX7_addDerivative_16 : decode cX7_addDerivative 16 = .ok (.ireturn, 1) := by decide +kernel
theorem dX7_addDerivative_17 : decode cX7_addDerivative 17 = .ok (.iload 5, 2) := by decide +kernel
theorem dX7_addDerivative_19 : decode cX7_addDerivative 19 = .ok (.ifCond .eq 9, 3) := by decide +kernel
theorem dX7_addDerivative_22 : decode cX7_addDerivative 22 = .ok (.iload 5, 2) := by decide +kernel
theorem dX7_addDerivative_24 : decode cX7_addDerivative 24 = .ok (.iconst 1, 1) := by decide +kernel
theorem dX7_addDerivative_25 : decode cX7_addDerivative 25 = .ok (.if_icmp .ne 29, 3) := by decide +kernel
theorem dX7_addDerivative_28 : decode cX7_addDerivative 28 = .ok (.aload_n 0, 1) := by decide +kernel
theorem dX7_addDerivative_29 : decode cX7_addDerivative 29 = .ok (.iload 5, 2) := by decide +kernel
theorem dX7_addDerivative_31 : decode cX7_addDerivative 31 = .ok (.iconst 1, 1) := by decide +kernel
theorem dX7_addDerivative_32 : decode cX7_addDerivative 32 = .ok (.if_icmp .ne 17, 3) := by decide +kernel
theorem dX7_addDerivative_35 : decode cX7_addDerivative 35 = .ok (.aload_n 1, 1) := by decide +kernel
theorem dX7_addDerivative_36 : decode cX7_addDerivative 36 = .ok (.getfield 26, 3) := by decide +kernel
theorem dX7_addDerivative_39 : decode cX7_addDerivative 39 = .ok (.iload_n 2, 1) := by decide +kernel
theorem dX7_addDerivative_40 : decode cX7_addDerivative 40 = .ok (.iaload, 1) := by decide +kernel
theorem dX7_addDerivative_41 : decode cX7_addDerivative 41 = .ok (.iload_n 3, 1) := by decide +kernel
theorem dX7_addDerivative_42 : decode cX7_addDerivative 42 = .ok (.if_icmp .ne 7, 3) := by decide +kernel
theorem dX7_addDerivative_45 : decode cX7_addDerivative 45 = .ok (.iconst 1, 1) := by decide +kernel
theorem dX7_addDerivative_46 : decode cX7_addDerivative 46 = .ok (.goto 4, 3) := by decide +kernel
theorem dX7_addDerivative_49 : decode cX7_addDerivative 49 = .ok (.iconst 0, 1) := by decide +kernel
theorem dX7_addDerivative_50 : decode cX7_addDerivative 50 = .ok (.invokevirtual 109, 3) := by decide +kernel
theorem dX7_addDerivative_53 : decode cX7_addDerivative 53 = .ok (.ireturn, 1) := by decide +kernel
theorem dX7_addDerivative_54 : decode cX7_addDerivative 54 = .ok (.aload_n 1, 1) := by decide +kernel
theorem dX7_addDerivative_55 : decode cX7_addDerivative 55 = .ok (.iload_n 2, 1) := by decide +kernel
theorem dX7_addDerivative_56 : decode cX7_addDerivative 56 = .ok (.iconst 0, 1) := by decide +kernel
theorem dX7_addDerivative_57 : decode cX7_addDerivative 57 = .ok (.invokevirtual 50, 3) := by decide +kernel
theorem dX7_addDerivative_60 : decode cX7_addDerivative 60 = .ok (.istore 6, 2) := by decide +kernel
theorem dX7_addDerivative_62 : decode cX7_addDerivative 62 = .ok (.aload_n 1, 1) := by decide +kernel
theorem dX7_addDerivative_63 : decode cX7_addDerivative 63 = .ok (.iload_n 2, 1) := by decide +kernel
theorem dX7_addDerivative_64 : decode cX7_addDerivative 64 = .ok (.iconst 1, 1) := by decide +kernel
theorem dX7_addDerivative_65 : decode cX7_addDerivative 65 = .ok (.invokevirtual 50, 3) := by decide +kernel
theorem dX7_addDerivative_68 : decode cX7_addDerivative 68 = .ok (.istore 7, 2) := by decide +kernel
theorem dX7_addDerivative_70 : decode cX7_addDerivative 70 = .ok (.aload_n 0, 1) := by decide +kernel
theorem dX7_addDerivative_71 : decode cX7_addDerivative 71 = .ok (.aload_n 1, 1) := by decide +kernel
theorem dX7_addDerivative_72 : decode cX7_addDerivative 72 = .ok (.iload_n 2, 1) := by decide +kernel
theorem dX7_addDerivative_73 : decode cX7_addDerivative 73 = .ok (.invokevirtual 46, 3) := by decide +kernel
theorem dX7_addDerivative_76 : decode cX7_addDerivative 76 = .ok (.istore 8, 2) := by decide +kernel
theorem dX7_addDerivative_78 : decode cX7_addDerivative 78 = .ok (.iload 8, 2) := by decide +kernel
theorem dX7_addDerivative_80 : decode cX7_addDerivative 80 = .ok (.tableswitch 312 0 11 #[97, 97, 145, 145, 312, 312, 312, 312, 312, 312, 312, 64], 64) := by decide +kernel
theorem dX7_addDerivative_144 : decode cX7_addDerivative 144 = .ok (.aload_n 0, 1) := by decide +kernel
theorem dX7_addDerivative_145 : decode cX7_addDerivative 145 = .ok (.getfield 12, 3) := by decide +kernel
theorem dX7_addDerivative_148 : decode cX7_addDerivative 148 = .ok (.aload_n 1, 1) := by decide +kernel
theorem dX7_addDerivative_149 : decode cX7_addDerivative 149 = .ok (.iload_n 2, 1) := by decide +kernel
theorem dX7_addDerivative_150 : decode cX7_addDerivative 150 = .ok (.invokevirtual 113, 3) := by decide +kernel
theorem dX7_addDerivative_153 : decode cX7_addDerivative 153 = .ok (.ifCond .eq 22, 3) := by decide +kernel
theorem dX7_addDerivative_156 : decode cX7_addDerivative 156 = .ok (.aload_n 0, 1) := by decide +kernel
theorem dX7_addDerivative_157 : decode cX7_addDerivative 157 = .ok (.aload_n 1, 1) := by decide +kernel
theorem dX7_addDerivative_158 : decode cX7_addDerivative 158 = .ok (.iload 6, 2) := by decide +kernel
theorem dX7_addDerivative_160 : decode cX7_addDerivative 160 = .ok (.iload_n 3, 1) := by decide +kernel
theorem dX7_addDerivative_161 : decode cX7_addDerivative 161 = .ok (.iload 4, 2) := by decide +kernel
theorem dX7_addDerivative_163 : decode cX7_addDerivative 163 = .ok (.iconst 1, 1) := by decide +kernel
theorem dX7_addDerivative_164 : decode cX7_addDerivative 164 = .ok (.iadd, 1) := by decide +kernel
theorem dX7_addDerivative_165 : decode cX7_addDerivative 165 = .ok (.invokevirtual 103, 3) := by decide +kernel
theorem dX7_addDerivative_168 : decode cX7_addDerivative 168 = .ok (.ifCond .eq 7, 3) := by decide +kernel
theorem dX7_addDerivative_171 : decode cX7_addDerivative 171 = .ok (.iconst 1, 1) := by decide +kernel
theorem dX7_addDerivative_172 : decode cX7_addDerivative 172 = .ok (.goto 4, 3) := by decide +kernel
theorem dX7_addDerivative_175 : decode cX7_addDerivative 175 = .ok (.iconst 0, 1) := by decide +kernel
theorem dX7_addDerivative_176 : decode cX7_addDerivative 176 = .ok (.ireturn, 1) := by decide +kernel
theorem dX7_addDerivative_177 : decode cX7_addDerivative 177 = .ok (.aload_n 0, 1) := by decide +kernel
theorem dX7_addDerivative_178 : decode cX7_addDerivative 178 = .ok (.getfield 12, 3) := by decide +kernel
theorem dX7_addDerivative_181 : decode cX7_addDerivative 181 = .ok (.aload_n 1, 1) := by decide +kernel
theorem dX7_addDerivative_182 : decode cX7_addDerivative 182 = .ok (.iload_n 2, 1) := by decide +kernel
theorem dX7_addDerivative_183 : decode cX7_addDerivative 183 = .ok (.invokevirtual 113, 3) := by decide +kernel
theorem dX7_addDerivative_186 : decode cX7_addDerivative 186 = .ok (.ifCond .eq 37, 3) := by decide +kernel
theorem dX7_addDerivative_189 : decode cX7_addDerivative 189 = .ok (.aload_n 0, 1) := by decide +kernel
theorem dX7_addDerivative_190 : decode cX7_addDerivative 190 = .ok (.aload_n 1, 1) := by decide +kernel
theorem dX7_addDerivative_191 : decode cX7_addDerivative 191 = .ok (.iload 6, 2) := by decide +kernel
theorem dX7_addDerivative_193 : decode cX7_addDerivative 193 = .ok (.iload_n 3, 1) := by decide +kernel
theorem dX7_addDerivative_194 : decode cX7_addDerivative 194 = .ok (.iload 4, 2) := by decide +kernel
theorem dX7_addDerivative_196 : decode cX7_addDerivative 196 = .ok (.iconst 1, 1) := by decide +kernel
theorem dX7_addDerivative_197 : decode cX7_addDerivative 197 = .ok (.iadd, 1) := by decide +kernel
theorem dX7_addDerivative_198 : decode cX7_addDerivative 198 = .ok (.invokevirtual 103, 3) := by decide +kernel
theorem dX7_addDerivative_201 : decode cX7_addDerivative 201 = .ok (.ifCond .eq 22, 3) := by decide +kernel
theorem dX7_addDerivative_204 : decode cX7_addDerivative 204 = .ok (.aload_n 0, 1) := by decide +kernel
theorem dX7_addDerivative_205 : decode cX7_addDerivative 205 = .ok (.aload_n 1, 1) := by decide +kernel
theorem dX7_addDerivative_206 : decode cX7_addDerivative 206 = .ok (.iload 7, 2) := by decide +kernel
theorem dX7_addDerivative_208 : decode cX7_addDerivative 208 = .ok (.iload_n 3, 1) := by decide +kernel
theorem dX7_addDerivative_209 : decode cX7_addDerivative 209 = .ok (.iload 4, 2) := by decide +kernel
theorem dX7_addDerivative_211 : decode cX7_addDerivative 211 = .ok (.iconst 1, 1) := by decide +kernel
theorem dX7_addDerivative_212 : decode cX7_addDerivative 212 = .ok (.iadd, 1) := by decide +kernel
theorem dX7_addDerivative_213 : decode cX7_addDerivative 213 = .ok (.invokevirtual 103, 3) := by decide +kernel
theorem dX7_addDerivative_216 : decode cX7_addDerivative 216 = .ok (.ifCond .eq 7, 3) := by decide +kernel
theorem dX7_addDerivative_219 : decode cX7_addDerivative 219 = .ok (.iconst 1, 1) := by decide +kernel
theorem dX7_addDerivative_220 : decode cX7_addDerivative 220 = .ok (.goto 4, 3) := by decide +kernel
theorem dX7_addDerivative_223 : decode cX7_addDerivative 223 = .ok (.iconst 0, 1) := by decide +kernel
theorem dX7_addDerivative_224 : decode cX7_addDerivative 224 = .ok (.ireturn, 1) := by decide +kernel
theorem dX7_addDerivative_225 : decode cX7_addDerivative 225 = .ok (.iload 8, 2) := by decide +kernel
theorem dX7_addDerivative_227 : decode cX7_addDerivative 227 = .ok (.iconst 3, 1) := by decide +kernel
theorem dX7_addDerivative_228 : decode cX7_addDerivative 228 = .ok (.if_icmp .ne 7, 3) := by decide +kernel
theorem dX7_addDerivative_231 : decode cX7_addDerivative 231 = .ok (.iconst 1, 1) := by decide +kernel
theorem dX7_addDerivative_232 : decode cX7_addDerivative 232 = .ok (.goto 4, 3) := by decide +kernel
theorem dX7_addDerivative_235 : decode cX7_addDerivative 235 = .ok (.iconst 0, 1) := by decide +kernel
theorem dX7_addDerivative_236 : decode cX7_addDerivative 236 = .ok (.istore 9, 2) := by decide +kernel
theorem dX7_addDerivative_238 : decode cX7_addDerivative 238 = .ok (.iload 9, 2) := by decide +kernel
theorem dX7_addDerivative_240 : decode cX7_addDerivative 240 = .ok (.ifCond .eq 15, 3) := by decide +kernel
theorem dX7_addDerivative_243 : decode cX7_addDerivative 243 = .ok (.aload_n 0, 1) := by decide +kernel
theorem dX7_addDerivative_244 : decode cX7_addDerivative 244 = .ok (.getfield 12, 3) := by decide +kernel
theorem dX7_addDerivative_247 : decode cX7_addDerivative 247 = .ok (.aload_n 1, 1) := by decide +kernel
theorem dX7_addDerivative_248 : decode cX7_addDerivative 248 = .ok (.iload_n 2, 1) := by decide +kernel
theorem dX7_addDerivative_249 : decode cX7_addDerivative 249 = .ok (.invokevirtual 113, 3) := by decide +kernel
theorem dX7_addDerivative_252 : decode cX7_addDerivative 252 = .ok (.ifCond .eq 138, 3) := by decide +kernel
theorem dX7_addDerivative_255 : decode cX7_addDerivative 255 = .ok (.aload_n 0, 1) := by decide +kernel
theorem dX7_addDerivative_256 : decode cX7_addDerivative 256 = .ok (.iload 9, 2) := by decide +kernel
theorem dX7_addDerivative_258 : decode cX7_addDerivative 258 = .ok (.ifCond .eq 7, 3) := by decide +kernel
theorem dX7_addDerivative_261 : decode cX7_addDerivative 261 = .ok (.iconst 1, 1) := by decide +kernel
theorem dX7_addDerivative_262 : decode cX7_addDerivative 262 = .ok (.goto 4, 3) := by decide +kernel
theorem dX7_addDerivative_265 : decode cX7_addDerivative 265 = .ok (.iconst 0, 1) := by decide +kernel
theorem dX7_addDerivative_266 : decode cX7_addDerivative 266 = .ok (.aload_n 1, 1) := by decide +kernel
theorem dX7_addDerivative_267 : decode cX7_addDerivative 267 = .ok (.iload_n 2, 1) := by decide +kernel
theorem dX7_addDerivative_268 : decode cX7_addDerivative 268 = .ok (.invokevirtual 117, 3) := by decide +kernel
theorem dX7_addDerivative_271 : decode cX7_addDerivative 271 = .ok (.ifCond .eq 119, 3) := by decide +kernel
theorem dX7_addDerivative_274 : decode cX7_addDerivative 274 = .ok (.aload_n 0, 1) := by decide +kernel
theorem dX7_addDerivative_275 : decode cX7_addDerivative 275 = .ok (.iconst 2, 1) := by decide +kernel
theorem dX7_addDerivative_276 : decode cX7_addDerivative 276 = .ok (.aload_n 1, 1) := by decide +kernel
theorem dX7_addDerivative_277 : decode cX7_addDerivative 277 = .ok (.iload_n 2, 1) := by decide +kernel
theorem dX7_addDerivative_278 : decode cX7_addDerivative 278 = .ok (.invokevirtual 117, 3) := by decide +kernel
theorem dX7_addDerivative_281 : decode cX7_addDerivative 281 = .ok (.ifCond .eq 109, 3) := by decide +kernel
theorem dX7_addDerivative_284 : decode cX7_addDerivative 284 = .ok (.aload_n 0, 1) := by decide +kernel
theorem dX7_addDerivative_285 : decode cX7_addDerivative 285 = .ok (.aload_n 1, 1) := by decide +kernel
theorem dX7_addDerivative_286 : decode cX7_addDerivative 286 = .ok (.iload 6, 2) := by decide +kernel
theorem dX7_addDerivative_288 : decode cX7_addDerivative 288 = .ok (.iload_n 3, 1) := by decide +kernel
theorem dX7_addDerivative_289 : decode cX7_addDerivative 289 = .ok (.iload 4, 2) := by decide +kernel
theorem dX7_addDerivative_291 : decode cX7_addDerivative 291 = .ok (.iconst 1, 1) := by decide +kernel
theorem dX7_addDerivative_292 : decode cX7_addDerivative 292 = .ok (.iadd, 1) := by decide +kernel
theorem dX7_addDerivative_293 : decode cX7_addDerivative 293 = .ok (.invokevirtual 103, 3) := by decide +kernel
theorem dX7_addDerivative_296 : decode cX7_addDerivative 296 = .ok (.ifCond .eq 94, 3) := by decide +kernel
theorem dX7_addDerivative_299 : decode cX7_addDerivative 299 = .ok (.aload_n 0, 1) := by decide +kernel
theorem dX7_addDerivative_300 : decode cX7_addDerivative 300 = .ok (.getfield 12, 3) := by decide +kernel
theorem dX7_addDerivative_303 : decode cX7_addDerivative 303 = .ok (.aload_n 1, 1) := by decide +kernel
theorem dX7_addDerivative_304 : decode cX7_addDerivative 304 = .ok (.iload 7, 2) := by decide +kernel
theorem dX7_addDerivative_306 : decode cX7_addDerivative 306 = .ok (.invokevirtual 121, 3) := by decide +kernel
theorem dX7_addDerivative_309 : decode cX7_addDerivative 309 = .ok (.ifCond .eq 81, 3) := by decide +kernel
theorem dX7_addDerivative_312 : decode cX7_addDerivative 312 = .ok (.aload_n 0, 1) := by decide +kernel
theorem dX7_addDerivative_313 : decode cX7_addDerivative 313 = .ok (.iconst 2, 1) := by decide +kernel
theorem dX7_addDerivative_314 : decode cX7_addDerivative 314 = .ok (.aload_n 1, 1) := by decide +kernel
theorem dX7_addDerivative_315 : decode cX7_addDerivative 315 = .ok (.iload_n 2, 1) := by decide +kernel
theorem dX7_addDerivative_316 : decode cX7_addDerivative 316 = .ok (.invokevirtual 117, 3) := by decide +kernel
theorem dX7_addDerivative_319 : decode cX7_addDerivative 319 = .ok (.ifCond .eq 71, 3) := by decide +kernel
theorem dX7_addDerivative_322 : decode cX7_addDerivative 322 = .ok (.aload_n 0, 1) := by decide +kernel
theorem dX7_addDerivative_323 : decode cX7_addDerivative 323 = .ok (.getfield 12, 3) := by decide +kernel
theorem dX7_addDerivative_326 : decode cX7_addDerivative 326 = .ok (.aload_n 1, 1) := by decide +kernel
theorem dX7_addDerivative_327 : decode cX7_addDerivative 327 = .ok (.iload 6, 2) := by decide +kernel
theorem dX7_addDerivative_329 : decode cX7_addDerivative 329 = .ok (.invokevirtual 121, 3) := by decide +kernel
theorem dX7_addDerivative_332 : decode cX7_addDerivative 332 = .ok (.ifCond .eq 58, 3) := by decide +kernel
theorem dX7_addDerivative_335 : decode cX7_addDerivative 335 = .ok (.aload_n 0, 1) := by decide +kernel
theorem dX7_addDerivative_336 : decode cX7_addDerivative 336 = .ok (.aload_n 1, 1) := by decide +kernel
theorem dX7_addDerivative_337 : decode cX7_addDerivative 337 = .ok (.iload 7, 2) := by decide +kernel
theorem dX7_addDerivative_339 : decode cX7_addDerivative 339 = .ok (.iload_n 3, 1) := by decide +kernel
theorem dX7_addDerivative_340 : decode cX7_addDerivative 340 = .ok (.iload 4, 2) := by decide +kernel
theorem dX7_addDerivative_342 : decode cX7_addDerivative 342 = .ok (.iconst 1, 1) := by decide +kernel
theorem dX7_addDerivative_343 : decode cX7_addDerivative 343 = .ok (.iadd, 1) := by decide +kernel
theorem dX7_addDerivative_344 : decode cX7_addDerivative 344 = .ok (.invokevirtual 103, 3) := by decide +kernel
theorem dX7_addDerivative_347 : decode cX7_addDerivative 347 = .ok (.ifCond .eq 43, 3) := by decide +kernel
theorem dX7_addDerivative_350 : decode cX7_addDerivative 350 = .ok (.iload 9, 2) := by decide +kernel
theorem dX7_addDerivative_352 : decode cX7_addDerivative 352 = .ok (.ifCond .eq 34, 3) := by decide +kernel
theorem dX7_addDerivative_355 : decode cX7_addDerivative 355 = .ok (.aload_n 0, 1) := by decide +kernel
theorem dX7_addDerivative_356 : decode cX7_addDerivative 356 = .ok (.iconst 5, 1) := by decide +kernel
theorem dX7_addDerivative_357 : decode cX7_addDerivative 357 = .ok (.aload_n 1, 1) := by decide +kernel
theorem dX7_addDerivative_358 : decode cX7_addDerivative 358 = .ok (.iload_n 2, 1) := by decide +kernel
theorem dX7_addDerivative_359 : decode cX7_addDerivative 359 = .ok (.invokevirtual 117, 3) := by decide +kernel
theorem dX7_addDerivative_362 : decode cX7_addDerivative 362 = .ok (.ifCond .eq 28, 3) := by decide +kernel
theorem dX7_addDerivative_365 : decode cX7_addDerivative 365 = .ok (.aload_n 0, 1) := by decide +kernel
theorem dX7_addDerivative_366 : decode cX7_addDerivative 366 = .ok (.getfield 12, 3) := by decide +kernel
theorem dX7_addDerivative_369 : decode cX7_addDerivative 369 = .ok (.aload_n 1, 1) := by decide +kernel
theorem dX7_addDerivative_370 : decode cX7_addDerivative 370 = .ok (.iload 7, 2) := by decide +kernel
theorem dX7_addDerivative_372 : decode cX7_addDerivative 372 = .ok (.invokevirtual 121, 3) := by decide +kernel
theorem dX7_addDerivative_375 : decode cX7_addDerivative 375 = .ok (.ifCond .eq 15, 3) := by decide +kernel
theorem dX7_addDerivative_378 : decode cX7_addDerivative 378 = .ok (.aload_n 0, 1) := by decide +kernel
theorem dX7_addDerivative_379 : decode cX7_addDerivative 379 = .ok (.iconst 2, 1) := by decide +kernel
theorem dX7_addDerivative_380 : decode cX7_addDerivative 380 = .ok (.invokevirtual 109, 3) := by decide +kernel
theorem dX7_addDerivative_383 : decode cX7_addDerivative 383 = .ok (.ifCond .eq 7, 3) := by decide +kernel
theorem dX7_addDerivative_386 : decode cX7_addDerivative 386 = .ok (.iconst 1, 1) := by decide +kernel
theorem dX7_addDerivative_387 : decode cX7_addDerivative 387 = .ok (.goto 4, 3) := by decide +kernel
theorem dX7_addDerivative_390 : decode cX7_addDerivative 390 = .ok (.iconst 0, 1) := by decide +kernel
theorem dX7_addDerivative_391 : decode cX7_addDerivative 391 = .ok (.ireturn, 1) := by decide +kernel
theorem dX7_addDerivative_392 : decode cX7_addDerivative 392 = .ok (.aload_n 1, 1) := by decide +kernel
theorem dX7_addDerivative_393 : decode cX7_addDerivative 393 = .ok (.getfield 26, 3) := by decide +kernel
theorem dX7_addDerivative_396 : decode cX7_addDerivative 396 = .ok (.iload 7, 2) := by decide +kernel
theorem dX7_addDerivative_398 : decode cX7_addDerivative 398 = .ok (.iaload, 1) := by decide +kernel
theorem dX7_addDerivative_399 : decode cX7_addDerivative 399 = .ok (.istore 10, 2) := by decide +kernel
theorem dX7_addDerivative_401 : decode cX7_addDerivative 401 = .ok (.iload 10, 2) := by decide +kernel
theorem dX7_addDerivative_403 : decode cX7_addDerivative 403 = .ok (.ifCond .ne 9, 3) := by decide +kernel
theorem dX7_addDerivative_406 : decode cX7_addDerivative 406 = .ok (.aload_n 0, 1) := by decide +kernel
theorem dX7_addDerivative_407 : decode cX7_addDerivative 407 = .ok (.iconst 0, 1) := by decide +kernel
theorem dX7_addDerivative_408 : decode cX7_addDerivative 408 = .ok (.invokevirtual 109, 3) := by decide +kernel
theorem dX7_addDerivative_411 : decode cX7_addDerivative 411 = .ok (.ireturn, 1) := by decide +kernel
theorem dX7_addDerivative_412 : decode cX7_addDerivative 412 = .ok (.aload_n 0, 1) := by decide +kernel
theorem dX7_addDerivative_413 : decode cX7_addDerivative 413 = .ok (.iconst 2, 1) := by decide +kernel
theorem dX7_addDerivative_414 : decode cX7_addDerivative 414 = .ok (.aload_n 1, 1) := by decide +kernel
theorem dX7_addDerivative_415 : decode cX7_addDerivative 415 = .ok (.iload_n 2, 1) := by decide +kernel
theorem dX7_addDerivative_416 : decode cX7_addDerivative 416 = .ok (.invokevirtual 117, 3) := by decide +kernel
theorem dX7_addDerivative_419 : decode cX7_addDerivative 419 = .ok (.ifCond .eq 77, 3) := by decide +kernel
theorem dX7_addDerivative_422 : decode cX7_addDerivative 422 = .ok (.aload_n 0, 1) := by decide +kernel
theorem dX7_addDerivative_423 : decode cX7_addDerivative 423 = .ok (.iconst 2, 1) := by decide +kernel
theorem dX7_addDerivative_424 : decode cX7_addDerivative 424 = .ok (.aload_n 1, 1) := by decide +kernel
theorem dX7_addDerivative_425 : decode cX7_addDerivative 425 = .ok (.iload_n 2, 1) := by decide +kernel
theorem dX7_addDerivative_426 : decode cX7_addDerivative 426 = .ok (.invokevirtual 117, 3) := by decide +kernel
theorem dX7_addDerivative_429 : decode cX7_addDerivative 429 = .ok (.ifCond .eq 67, 3) := by decide +kernel
theorem dX7_addDerivative_432 : decode cX7_addDerivative 432 = .ok (.aload_n 0, 1) := by decide +kernel
theorem dX7_addDerivative_433 : decode cX7_addDerivative 433 = .ok (.iload 10, 2) := by decide +kernel
theorem dX7_addDerivative_435 : decode cX7_addDerivative 435 = .ok (.invokevirtual 109, 3) := by decide +kernel
theorem dX7_addDerivative_438 : decode cX7_addDerivative 438 = .ok (.ifCond .eq 58, 3) := by decide +kernel
theorem dX7_addDerivative_441 : decode cX7_addDerivative 441 = .ok (.aload_n 0, 1) := by decide +kernel
theorem dX7_addDerivative_442 : decode cX7_addDerivative 442 = .ok (.getfield 12, 3) := by decide +kernel
theorem dX7_addDerivative_445 : decode cX7_addDerivative 445 = .ok (.aload_n 1, 1) := by decide +kernel
theorem dX7_addDerivative_446 : decode cX7_addDerivative 446 = .ok (.iload_n 2, 1) := by decide +kernel
theorem dX7_addDerivative_447 : decode cX7_addDerivative 447 = .ok (.invokevirtual 113, 3) := by decide +kernel
theorem dX7_addDerivative_450 : decode cX7_addDerivative 450 = .ok (.ifCond .eq 46, 3) := by decide +kernel
theorem dX7_addDerivative_453 : decode cX7_addDerivative 453 = .ok (.aload_n 0, 1) := by decide +kernel
theorem dX7_addDerivative_454 : decode cX7_addDerivative 454 = .ok (.getfield 12, 3) := by decide +kernel
theorem dX7_addDerivative_457 : decode cX7_addDerivative 457 = .ok (.aload_n 1, 1) := by decide +kernel
theorem dX7_addDerivative_458 : decode cX7_addDerivative 458 = .ok (.iload 6, 2) := by decide +kernel
theorem dX7_addDerivative_460 : decode cX7_addDerivative 460 = .ok (.invokevirtual 121, 3) := by decide +kernel
theorem dX7_addDerivative_463 : decode cX7_addDerivative 463 = .ok (.ifCond .eq 33, 3) := by decide +kernel
theorem dX7_addDerivative_466 : decode cX7_addDerivative 466 = .ok (.aload_n 0, 1) := by decide +kernel
theorem dX7_addDerivative_467 : decode cX7_addDerivative 467 = .ok (.iload 10, 2) := by decide +kernel
theorem dX7_addDerivative_469 : decode cX7_addDerivative 469 = .ok (.iconst 1, 1) := by decide +kernel
theorem dX7_addDerivative_470 : decode cX7_addDerivative 470 = .ok (.isub, 1) := by decide +kernel
theorem dX7_addDerivative_471 : decode cX7_addDerivative 471 = .ok (.invokevirtual 109, 3) := by decide +kernel
theorem dX7_addDerivative_474 : decode cX7_addDerivative 474 = .ok (.ifCond .eq 22, 3) := by decide +kernel
theorem dX7_addDerivative_477 : decode cX7_addDerivative 477 = .ok (.aload_n 0, 1) := by decide +kernel
theorem dX7_addDerivative_478 : decode cX7_addDerivative 478 = .ok (.aload_n 1, 1) := by decide +kernel
theorem dX7_addDerivative_479 : decode cX7_addDerivative 479 = .ok (.iload 6, 2) := by decide +kernel
theorem dX7_addDerivative_481 : decode cX7_addDerivative 481 = .ok (.iload_n 3, 1) := by decide +kernel
theorem dX7_addDerivative_482 : decode cX7_addDerivative 482 = .ok (.iload 4, 2) := by decide +kernel
theorem dX7_addDerivative_484 : decode cX7_addDerivative 484 = .ok (.iconst 1, 1) := by decide +kernel
theorem dX7_addDerivative_485 : decode cX7_addDerivative 485 = .ok (.iadd, 1) := by decide +kernel
theorem dX7_addDerivative_486 : decode cX7_addDerivative 486 = .ok (.invokevirtual 103, 3) := by decide +kernel
theorem dX7_addDerivative_489 : decode cX7_addDerivative 489 = .ok (.ifCond .eq 7, 3) := by decide +kernel
theorem dX7_addDerivative_492 : decode cX7_addDerivative 492 = .ok (.iconst 1, 1) := by decide +kernel
theorem dX7_addDerivative_493 : decode cX7_addDerivative 493 = .ok (.goto 4, 3) := by decide +kernel
theorem dX7_addDerivative_496 : decode cX7_addDerivative 496 = .ok (.iconst 0, 1) := by decide +kernel
theorem dX7_addDerivative_497 : decode cX7_addDerivative 497 = .ok (.ireturn, 1) := by decide +kernel
theorem dX7_addNumber_0 : decode cX7_addNumber 0 = .ok (.aload_n 0, 1) := by decide +kernel
theorem dX7_addNumber_1 : decode cX7_addNumber 1 = .ok (.getfield 12, 3) := by decide +kernel
theorem dX7_addNumber_4 : decode cX7_addNumber 4 = .ok (.iconst 0, 1) := by decide +kernel
theorem dX7_addNumber_5 : decode cX7_addNumber 5 = .ok (.iload_n 1, 1) := by decide +kernel
theorem dX7_addNumber_6 : decode cX7_addNumber 6 = .ok (.iconst (-1), 1) := by decide +kernel
theorem dX7_addNumber_7 : decode cX7_addNumber 7 = .ok (.iconst 0, 1) := by decide +kernel
theorem dX7_addNumber_8 : decode cX7_addNumber 8 = .ok (.invokevirtual 124, 3) := by decide +kernel
theorem dX7_addNumber_11 : decode cX7_addNumber 11 = .ok (.ireturn, 1) := by decide +kernel
theorem dX7_addWanted_0 : decode cX7_addWanted 0 = .ok (.aload_n 0, 1) := by decide +kernel
theorem dX7_addWanted_1 : decode cX7_addWanted 1 = .ok (.aload_n 2, 1) := by decide +kernel
theorem dX7_addWanted_2 : decode cX7_addWanted 2 = .ok (.iload_n 3, 1) := by decide +kernel
theorem dX7_addWanted_3 : decode cX7_addWanted 3 = .ok (.invokevirtual 46, 3) := by decide +kernel
theorem dX7_addWanted_6 : decode cX7_addWanted 6 = .ok (.iload_n 1, 1) := by decide +kernel
theorem dX7_addWanted_7 : decode cX7_addWanted 7 = .ok (.if_icmp .ne 13, 3) := by decide +kernel
theorem dX7_addWanted_10 : decode cX7_addWanted 10 = .ok (.aload_n 0, 1) := by decide +kernel
theorem dX7_addWanted_11 : decode cX7_addWanted 11 = .ok (.getfield 12, 3) := by decide +kernel
theorem dX7_addWanted_14 : decode cX7_addWanted 14 = .ok (.aload_n 2, 1) := by decide +kernel
theorem dX7_addWanted_15 : decode cX7_addWanted 15 = .ok (.iload_n 3, 1) := by decide +kernel
theorem dX7_addWanted_16 : decode cX7_addWanted 16 = .ok (.invokevirtual 113, 3) := by decide +kernel
theorem dX7_addWanted_19 : decode cX7_addWanted 19 = .ok (.ireturn, 1) := by decide +kernel
theorem dX7_addWanted_20 : decode cX7_addWanted 20 = .ok (.aload_n 0, 1) := by decide +kernel
theorem dX7_addWanted_21 : decode cX7_addWanted 21 = .ok (.getfield 18, 3) := by decide +kernel
theorem dX7_addWanted_24 : decode cX7_addWanted 24 = .ok (.iload_n 1, 1) := by decide +kernel
theorem dX7_addWanted_25 : decode cX7_addWanted 25 = .ok (.invokevirtual 128, 3) := by decide +kernel
theorem dX7_addWanted_28 : decode cX7_addWanted 28 = .ok (.istore 4, 2) := by decide +kernel
theorem dX7_addWanted_30 : decode cX7_addWanted 30 = .ok (.iload 4, 2) := by decide +kernel
theorem dX7_addWanted_32 : decode cX7_addWanted 32 = .ok (.iconst (-1), 1) := by decide +kernel
theorem dX7_addWanted_33 : decode cX7_addWanted 33 = .ok (.if_icmp .eq 22, 3) := by decide +kernel
theorem dX7_addWanted_36 : decode cX7_addWanted 36 = .ok (.aload_n 0, 1) := by decide +kernel
theorem dX7_addWanted_37 : decode cX7_addWanted 37 = .ok (.getfield 12, 3) := by decide +kernel
theorem dX7_addWanted_40 : decode cX7_addWanted 40 = .ok (.iconst 3, 1) := by decide +kernel
theorem dX7_addWanted_41 : decode cX7_addWanted 41 = .ok (.iload 4, 2) := by decide +kernel
theorem dX7_addWanted_43 : decode cX7_addWanted 43 = .ok (.iconst 2, 1) := by decide +kernel
theorem dX7_addWanted_44 : decode cX7_addWanted 44 = .ok (.iconst 2, 1) := by decide +kernel
theorem dX7_addWanted_45 : decode cX7_addWanted 45 = .ok (.invokevirtual 124, 3) := by decide +kernel
theorem dX7_addWanted_48 : decode cX7_addWanted 48 = .ok (.ifCond .eq 7, 3) := by decide +kernel
theorem dX7_addWanted_51 : decode cX7_addWanted 51 = .ok (.iconst 1, 1) := by decide +kernel
theorem dX7_addWanted_52 : decode cX7_addWanted 52 = .ok (.goto 4, 3) := by decide +kernel
theorem dX7_addWanted_55 : decode cX7_addWanted 55 = .ok (.iconst 0, 1) := by decide +kernel
theorem dX7_addWanted_56 : decode cX7_addWanted 56 = .ok (.ireturn, 1) := by decide +kernel
theorem dX8_init_0 : decode cX8_init 0 = .ok (.aload_n 0, 1) := by decide +kernel
theorem dX8_init_1 : decode cX8_init 1 = .ok (.invokespecial 3, 3) := by decide +kernel
theorem dX8_init_4 : decode cX8_init 4 = .ok (.aload_n 0, 1) := by decide +kernel
theorem dX8_init_5 : decode cX8_init 5 = .ok (.bipush 80, 2) := by decide +kernel
theorem dX8_init_7 : decode cX8_init 7 = .ok (.anewarray 11, 3) := by decide +kernel
theorem dX8_init_10 : decode cX8_init 10 = .ok (.putfield 13, 3) := by decide +kernel
theorem dX8_init_13 : decode cX8_init 13 = .ok (.aload_n 0, 1) := by decide +kernel
theorem dX8_init_14 : decode cX8_init 14 = .ok (.new 11, 3) := by decide +kernel
theorem dX8_init_17 : decode cX8_init 17 = .ok (.dup, 1) := by decide +kernel
theorem dX8_init_18 : decode cX8_init 18 = .ok (.bipush 7, 2) := by decide +kernel
theorem dX8_init_20 : decode cX8_init 20 = .ok (.invokespecial 21, 3) := by decide +kernel
theorem dX8_init_23 : decode cX8_init 23 = .ok (.putfield 24, 3) := by decide +kernel
theorem dX8_init_26 : decode cX8_init 26 = .ok (.aload_n 0, 1) := by decide +kernel
theorem dX8_init_27 : decode cX8_init 27 = .ok (.new 11, 3) := by decide +kernel
theorem dX8_init_30 : decode cX8_init 30 = .ok (.dup, 1) := by decide +kernel
theorem dX8_init_31 : decode cX8_init 31 = .ok (.bipush 7, 2) := by decide +kernel
theorem dX8_init_33 : decode cX8_init 33 = .ok (.invokespecial 21, 3) := by decide +kernel
theorem dX8_init_36 : decode cX8_init 36 = .ok (.putfield 28, 3) := by decide +kernel
theorem dX8_init_39 : decode cX8_init 39 = .ok (.aload_n 0, 1) := by decide +kernel
theorem dX8_init_40 : decode cX8_init 40 = .ok (.new 11, 3) := by decide +kernel
theorem dX8_init_43 : decode cX8_init 43 = .ok (.dup, 1) := by decide +kernel
theorem dX8_init_44 : decode cX8_init 44 = .ok (.bipush 100, 2) := by decide +kernel
theorem dX8_init_46 : decode cX8_init 46 = .ok (.invokespecial 21, 3) := by decide +kernel
theorem dX8_init_49 : decode cX8_init 49 = .ok (.putfield 31, 3) := by decide +kernel
theorem dX8_init_52 : decode cX8_init 52 = .ok (.aload_n 0, 1) := by decide +kernel
theorem dX8_init_53 : decode cX8_init 53 = .ok (.new 11, 3) := by decide +kernel
theorem dX8_init_56 : decode cX8_init 56 = .ok (.dup, 1) := by decide +kernel
theorem dX8_init_57 : decode cX8_init 57 = .ok (.bipush 100, 2) := by decide +kernel
theorem dX8_init_59 : decode cX8_init 59 = .ok (.invokespecial 21, 3) := by decide +kernel
theorem dX8_init_62 : decode cX8_init 62 = .ok (.putfield 34, 3) := by decide +kernel
theorem dX8_init_65 : decode cX8_init 65 = .ok (.aload_n 0, 1) := by decide +kernel
theorem dX8_init_66 : decode cX8_init 66 = .ok (.aload_n 1, 1) := by decide +kernel
theorem dX8_init_67 : decode cX8_init 67 = .ok (.putfield 37, 3) := by decide +kernel
theorem dX8_init_70 : decode cX8_init 70 = .ok (.aload_n 0, 1) := by decide +kernel
theorem dX8_init_71 : decode cX8_init 71 = .ok (.aload_n 2, 1) := by decide +kernel
theorem dX8_init_72 : decode cX8_init 72 = .ok (.putfield 41, 3) := by decide +kernel
theorem dX8_init_75 : decode cX8_init 75 = .ok (.iconst 0, 1) := by decide +kernel
theorem dX8_init_76 : decode cX8_init 76 = .ok (.istore_n 3, 1) := by decide +kernel
theorem dX8_init_77 : decode cX8_init 77 = .ok (.iload_n 3, 1) := by decide +kernel
theorem dX8_init_78 : decode cX8_init 78 = .ok (.bipush 80, 2) := by decide +kernel
theorem dX8_init_80 : decode cX8_init 80 = .ok (.if_icmp .ge 24, 3) := by decide +kernel
theorem dX8_init_83 : decode cX8_init 83 = .ok (.aload_n 0, 1) := by decide +kernel
theorem dX8_init_84 : decode cX8_init 84 = .ok (.getfield 13, 3) := by decide +kernel
theorem dX8_init_87 : decode cX8_init 87 = .ok (.iload_n 3, 1) := by decide +kernel
theorem dX8_init_88 : decode cX8_init 88 = .ok (.new 11, 3) := by decide +kernel
theorem dX8_init_91 : decode cX8_init 91 = .ok (.dup, 1) := by decide +kernel
theorem dX8_init_92 : decode cX8_init 92 = .ok (.bipush 7, 2) := by decide +kernel
theorem dX8_init_94 : decode cX8_init 94 = .ok (.invokespecial 21, 3) := by decide +kernel
theorem dX8_init_97 : decode cX8_init 97 = .ok (.aastore, 1) := by decide +kernel
theorem dX8_init_98 : decode cX8_init 98 = .ok (.iinc 3 1, 3) := by decide +kernel
theorem dX8_init_101 : decode cX8_init 101 = .ok (.goto (-24), 3) := by decide +kernel
theorem dX8_init_104 : decode cX8_init 104 = .ok (.return_, 1) := by decide +kernel
theorem dX8_result_0 : decode cX8_result 0 = .ok (.aload_n 0, 1) := by decide +kernel
theorem dX8_result_1 : decode cX8_result 1 = .ok (.getfield 13, 3) := by decide +kernel
theorem dX8_result_4 : decode cX8_result 4 = .ok (.iconst 0, 1) := by decide +kernel
theorem dX8_result_5 : decode cX8_result 5 = .ok (.aaload, 1) := by decide +kernel
theorem dX8_result_6 : decode cX8_result 6 = .ok (.areturn, 1) := by decide +kernel
theorem dX8_reckonPart_0 : decode cX8_reckonPart 0 = .ok (.aload_n 0, 1) := by decide +kernel
theorem dX8_reckonPart_1 : decode cX8_reckonPart 1 = .ok (.getfield 37, 3) := by decide +kernel
theorem dX8_reckonPart_4 : decode cX8_reckonPart 4 = .ok (.invokevirtual 45, 3) := by decide +kernel
theorem dX8_reckonPart_7 : decode cX8_reckonPart 7 = .ok (.aload_n 0, 1) := by decide +kernel
theorem dX8_reckonPart_8 : decode cX8_reckonPart 8 = .ok (.iconst 0, 1) := by decide +kernel
theorem dX8_reckonPart_9 : decode cX8_reckonPart 9 = .ok (.putfield 50, 3) := by decide +kernel
theorem dX8_reckonPart_12 : decode cX8_reckonPart 12 = .ok (.iconst 0, 1) := by decide +kernel
theorem dX8_reckonPart_13 : decode cX8_reckonPart 13 = .ok (.istore_n 3, 1) := by decide +kernel
theorem dX8_reckonPart_14 : decode cX8_reckonPart 14 = .ok (.iconst 0, 1) := by decide +kernel
theorem dX8_reckonPart_15 : decode cX8_reckonPart 15 = .ok (.istore 4, 2) := by decide +kernel
theorem dX8_reckonPart_17 : decode cX8_reckonPart 17 = .ok (.iload 4, 2) := by decide +kernel
theorem dX8_reckonPart_19 : decode cX8_reckonPart 19 = .ok (.aload_n 1, 1) := by decide +kernel
theorem dX8_reckonPart_20 : decode cX8_reckonPart 20 = .ok (.getfield 54, 3) := by decide +kernel
theorem dX8_reckonPart_23 : decode cX8_reckonPart 23 = .ok (.if_icmp .ge 122, 3) := by decide +kernel
theorem dX8_reckonPart_26 : decode cX8_reckonPart 26 = .ok (.iload_n 3, 1) := by decide +kernel
theorem dX8_reckonPart_27 : decode cX8_reckonPart 27 = .ok (.ifCond .ne 118, 3) := by decide +kernel
theorem dX8_reckonPart_30 : decode cX8_reckonPart 30 = .ok (.aload_n 1, 1) := by decide +kernel
theorem dX8_reckonPart_31 : decode cX8_reckonPart 31 = .ok (.iload 4, 2) := by decide +kernel
theorem dX8_reckonPart_33 : decode cX8_reckonPart 33 = .ok (.invokevirtual 57, 3) := by decide +kernel
theorem dX8_reckonPart_36 : decode cX8_reckonPart 36 = .ok (.istore 5, 2) := by decide +kernel
theorem dX8_reckonPart_38 : decode cX8_reckonPart 38 = .ok (.aload_n 1, 1) := by decide +kernel
theorem dX8_reckonPart_39 : decode cX8_reckonPart 39 = .ok (.getfield 61, 3) := by decide +kernel
theorem dX8_reckonPart_42 : decode cX8_reckonPart 42 = .ok (.iload 5, 2) := by decide +kernel
theorem dX8_reckonPart_44 : decode cX8_reckonPart 44 = .ok (.iaload, 1) := by decide +kernel
theorem dX8_reckonPart_45 : decode cX8_reckonPart 45 = .ok (.iconst 3, 1) := by decide +kernel
theorem dX8_reckonPart_46 : decode cX8_reckonPart 46 = .ok (.if_icmp .ne 41, 3) := by decide +kernel
theorem dX8_reckonPart_49 : decode cX8_reckonPart 49 = .ok (.aload_n 0, 1) := by decide +kernel
theorem dX8_reckonPart_50 : decode cX8_reckonPart 50 = .ok (.getfield 24, 3) := by decide +kernel
theorem dX8_reckonPart_53 : decode cX8_reckonPart 53 = .ok (.aload_n 0, 1) := by decide +kernel
theorem dX8_reckonPart_54 : decode cX8_reckonPart 54 = .ok (.getfield 37, 3) := by decide +kernel
theorem dX8_reckonPart_57 : decode cX8_reckonPart 57 = .ok (.aload_n 1, 1) := by decide +kernel
theorem dX8_reckonPart_58 : decode cX8_reckonPart 58 = .ok (.getfield 65, 3) := by decide +kernel
theorem dX8_reckonPart_61 : decode cX8_reckonPart 61 = .ok (.iload 5, 2) := by decide +kernel
theorem dX8_reckonPart_63 : decode cX8_reckonPart 63 = .ok (.iaload, 1) := by decide +kernel
theorem dX8_reckonPart_64 : decode cX8_reckonPart 64 = .ok (.iconst 1, 1) := by decide +kernel
theorem dX8_reckonPart_65 : decode cX8_reckonPart 65 = .ok (.isub, 1) := by decide +kernel
theorem dX8_reckonPart_66 : decode cX8_reckonPart 66 = .ok (.invokevirtual 68, 3) := by decide +kernel
theorem dX8_reckonPart_69 : decode cX8_reckonPart 69 = .ok (.invokevirtual 72, 3) := by decide +kernel
theorem dX8_reckonPart_72 : decode cX8_reckonPart 72 = .ok (.aload_n 0, 1) := by decide +kernel
theorem dX8_reckonPart_73 : decode cX8_reckonPart 73 = .ok (.getfield 28, 3) := by decide +kernel
theorem dX8_reckonPart_76 : decode cX8_reckonPart 76 = .ok (.aload_n 0, 1) := by decide +kernel
theorem dX8_reckonPart_77 : decode cX8_reckonPart 77 = .ok (.getfield 37, 3) := by decide +kernel
theorem dX8_reckonPart_80 : decode cX8_reckonPart 80 = .ok (.iconst 0, 1) := by decide +kernel
theorem dX8_reckonPart_81 : decode cX8_reckonPart 81 = .ok (.invokevirtual 68, 3) := by decide +kernel
theorem dX8_reckonPart_84 : decode cX8_reckonPart 84 = .ok (.invokevirtual 72, 3) := by decide +kernel
theorem dX8_reckonPart_87 : decode cX8_reckonPart 87 = .ok (.aload_n 0, 1) := by decide +kernel
theorem dX8_reckonPart_88 : decode cX8_reckonPart 88 = .ok (.getfield 37, 3) := by decide +kernel
theorem dX8_reckonPart_91 : decode cX8_reckonPart 91 = .ok (.aload_n 1, 1) := by decide +kernel
theorem dX8_reckonPart_92 : decode cX8_reckonPart 92 = .ok (.iload 5, 2) := by decide +kernel
theorem dX8_reckonPart_94 : decode cX8_reckonPart 94 = .ok (.invokevirtual 76, 3) := by decide +kernel
theorem dX8_reckonPart_97 : decode cX8_reckonPart 97 = .ok (.istore 6, 2) := by decide +kernel
theorem dX8_reckonPart_99 : decode cX8_reckonPart 99 = .ok (.aload_n 0, 1) := by decide +kernel
theorem dX8_reckonPart_100 : decode cX8_reckonPart 100 = .ok (.getfield 37, 3) := by decide +kernel
theorem dX8_reckonPart_103 : decode cX8_reckonPart 103 = .ok (.aload_n 1, 1) := by decide +kernel
theorem dX8_reckonPart_104 : decode cX8_reckonPart 104 = .ok (.iload 5, 2) := by decide +kernel
theorem dX8_reckonPart_106 : decode cX8_reckonPart 106 = .ok (.iconst (-1), 1) := by decide +kernel
theorem dX8_reckonPart_107 : decode cX8_reckonPart 107 = .ok (.invokevirtual 80, 3) := by decide +kernel
theorem dX8_reckonPart_110 : decode cX8_reckonPart 110 = .ok (.istore_n 3, 1) := by decide +kernel
theorem dX8_reckonPart_111 : decode cX8_reckonPart 111 = .ok (.iload_n 3, 1) := by decide +kernel
theorem dX8_reckonPart_112 : decode cX8_reckonPart 112 = .ok (.ifCond .ne 27, 3) := by decide +kernel
theorem dX8_reckonPart_115 : decode cX8_reckonPart 115 = .ok (.iload 6, 2) := by decide +kernel
theorem dX8_reckonPart_117 : decode cX8_reckonPart 117 = .ok (.iconst (-1), 1) := by decide +kernel
theorem dX8_reckonPart_118 : decode cX8_reckonPart 118 = .ok (.if_icmp .ne 14, 3) := by decide +kernel
theorem dX8_reckonPart_121 : decode cX8_reckonPart 121 = .ok (.aload_n 0, 1) := by decide +kernel
theorem dX8_reckonPart_122 : decode cX8_reckonPart 122 = .ok (.aload_n 1, 1) := by decide +kernel
theorem dX8_reckonPart_123 : decode cX8_reckonPart 123 = .ok (.iload 5, 2) := by decide +kernel
theorem dX8_reckonPart_125 : decode cX8_reckonPart 125 = .ok (.iload_n 2, 1) := by decide +kernel
theorem dX8_reckonPart_126 : decode cX8_reckonPart 126 = .ok (.invokevirtual 84, 3) := by decide +kernel
theorem dX8_reckonPart_129 : decode cX8_reckonPart 129 = .ok (.goto 9, 3) := by decide +kernel
theorem dX8_reckonPart_132 : decode cX8_reckonPart 132 = .ok (.aload_n 0, 1) := by decide +kernel
theorem dX8_reckonPart_133 : decode cX8_reckonPart 133 = .ok (.iload 6, 2) := by decide +kernel
theorem dX8_reckonPart_135 : decode cX8_reckonPart 135 = .ok (.invokevirtual 87, 3) := by decide +kernel
theorem dX8_reckonPart_138 : decode cX8_reckonPart 138 = .ok (.istore_n 3, 1) := by decide +kernel
theorem dX8_reckonPart_139 : decode cX8_reckonPart 139 = .ok (.iinc 4 1, 3) := by decide +kernel
theorem dX8_reckonPart_142 : decode cX8_reckonPart 142 = .ok (.goto (-125), 3) := by decide +kernel
theorem dX8_reckonPart_145 : decode cX8_reckonPart 145 = .ok (.iload_n 3, 1) := by decide +kernel
theorem dX8_reckonPart_146 : decode cX8_reckonPart 146 = .ok (.ireturn, 1) := by decide +kernel
theorem dX8_leafPart_0 : decode cX8_leafPart 0 = .ok (.aload_n 0, 1) := by decide +kernel
theorem dX8_leafPart_1 : decode cX8_leafPart 1 = .ok (.getfield 50, 3) := by decide +kernel
theorem dX8_leafPart_4 : decode cX8_leafPart 4 = .ok (.bipush 80, 2) := by decide +kernel
theorem dX8_leafPart_6 : decode cX8_leafPart 6 = .ok (.if_icmp .lt 6, 3) := by decide +kernel
theorem dX8_leafPart_9 : decode cX8_leafPart 9 = .ok (.bipush 9, 2) := by decide +kernel
theorem dX8_leafPart_11 : decode cX8_leafPart 11 = .ok (.ireturn, 1) := by decide +kernel
theorem dX8_leafPart_12 : decode cX8_leafPart 12 = .ok (.aload_n 0, 1) := by decide +kernel
theorem dX8_leafPart_13 : decode cX8_leafPart 13 = .ok (.getfield 13, 3) := by decide +kernel
theorem dX8_leafPart_16 : decode cX8_leafPart 16 = .ok (.aload_n 0, 1) := by decide +kernel
theorem dX8_leafPart_17 : decode cX8_leafPart 17 = .ok (.getfield 50, 3) := by decide +kernel
theorem dX8_leafPart_20 : decode cX8_leafPart 20 = .ok (.aaload, 1) := by decide +kernel
theorem dX8_leafPart_21 : decode cX8_leafPart 21 = .ok (.aload_n 1, 1) := by decide +kernel
theorem dX8_leafPart_22 : decode cX8_leafPart 22 = .ok (.getfield 61, 3) := by decide +kernel
theorem dX8_leafPart_25 : decode cX8_leafPart 25 = .ok (.iload_n 2, 1) := by decide +kernel
theorem dX8_leafPart_26 : decode cX8_leafPart 26 = .ok (.iaload, 1) := by decide +kernel
theorem dX8_leafPart_27 : decode cX8_leafPart 27 = .ok (.iconst 1, 1) := by decide +kernel
theorem dX8_leafPart_28 : decode cX8_leafPart 28 = .ok (.if_icmp .ne 17, 3) := by decide +kernel
theorem dX8_leafPart_31 : decode cX8_leafPart 31 = .ok (.aload_n 1, 1) := by decide +kernel
theorem dX8_leafPart_32 : decode cX8_leafPart 32 = .ok (.getfield 90, 3) := by decide +kernel
theorem dX8_leafPart_35 : decode cX8_leafPart 35 = .ok (.iload_n 2, 1) := by decide +kernel
theorem dX8_leafPart_36 : decode cX8_leafPart 36 = .ok (.iaload, 1) := by decide +kernel
theorem dX8_leafPart_37 : decode cX8_leafPart 37 = .ok (.iload_n 3, 1) := by decide +kernel
theorem dX8_leafPart_38 : decode cX8_leafPart 38 = .ok (.if_icmp .ne 7, 3) := by decide +kernel
theorem dX8_leafPart_41 : decode cX8_leafPart 41 = .ok (.lconst 1, 1) := by decide +kernel
theorem dX8_leafPart_42 : decode cX8_leafPart 42 = .ok (.goto 4, 3) := by decide +kernel
theorem dX8_leafPart_45 : decode cX8_leafPart 45 = .ok (.lconst 0, 1) := by decide +kernel
theorem dX8_leafPart_46 : decode cX8_leafPart 46 = .ok (.invokevirtual 93, 3) := by decide +kernel
theorem dX8_leafPart_49 : decode cX8_leafPart 49 = .ok (.aload_n 0, 1) := by decide +kernel
theorem dX8_leafPart_50 : decode cX8_leafPart 50 = .ok (.dup, 1) := by decide +kernel
theorem dX8_leafPart_51 : decode cX8_leafPart 51 = .ok (.getfield 50, 3) := by decide +kernel
theorem dX8_leafPart_54 : decode cX8_leafPart 54 = .ok (.iconst 1, 1) := by decide +kernel
theorem dX8_leafPart_55 : decode cX8_leafPart 55 = .ok (.iadd, 1) := by decide +kernel
theorem dX8_leafPart_56 : decode cX8_leafPart 56 = .ok (.putfield 50, 3) := by decide +kernel
theorem dX8_leafPart_59 : decode cX8_leafPart 59 = .ok (.iconst 0, 1) := by decide +kernel
theorem dX8_leafPart_60 : decode cX8_leafPart 60 = .ok (.ireturn, 1) := by decide +kernel
theorem dX8_operatorPart_0 : decode cX8_operatorPart 0 = .ok (.iload_n 1, 1) := by decide +kernel
theorem dX8_operatorPart_1 : decode cX8_operatorPart 1 = .ok (.bipush 11, 2) := by decide +kernel
theorem dX8_operatorPart_3 : decode cX8_operatorPart 3 = .ok (.if_icmp .ne 7, 3) := by decide +kernel
theorem dX8_operatorPart_6 : decode cX8_operatorPart 6 = .ok (.iconst 1, 1) := by decide +kernel
theorem dX8_operatorPart_7 : decode cX8_operatorPart 7 = .ok (.goto 4, 3) := by decide +kernel
theorem dX8_operatorPart_10 : decode cX8_operatorPart 10 = .ok (.iconst 2, 1) := by decide +kernel
theorem dX8_operatorPart_11 : decode cX8_operatorPart 11 = .ok (.istore_n 2, 1) := by decide +kernel
theorem dX8_operatorPart_12 : decode cX8_operatorPart 12 = .ok (.aload_n 0, 1) := by decide +kernel
theorem dX8_operatorPart_13 : decode cX8_operatorPart 13 = .ok (.getfield 50, 3) := by decide +kernel
theorem dX8_operatorPart_16 : decode cX8_operatorPart 16 = .ok (.iload_n 2, 1) := by decide +kernel
theorem dX8_operatorPart_17 : decode cX8_operatorPart 17 = .ok (.if_icmp .ge 6, 3) := by decide +kernel
theorem dX8_operatorPart_20 : decode cX8_operatorPart 20 = .ok (.bipush 9, 2) := by decide +kernel
theorem dX8_operatorPart_22 : decode cX8_operatorPart 22 = .ok (.ireturn, 1) := by decide +kernel
theorem dX8_operatorPart_23 : decode cX8_operatorPart 23 = .ok (.aload_n 0, 1) := by decide +kernel
theorem dX8_operatorPart_24 : decode cX8_operatorPart 24 = .ok (.getfield 13, 3) := by decide +kernel
theorem dX8_operatorPart_27 : decode cX8_operatorPart 27 = .ok (.aload_n 0, 1) := by decide +kernel
theorem dX8_operatorPart_28 : decode cX8_operatorPart 28 = .ok (.getfield 50, 3) := by decide +kernel
theorem dX8_operatorPart_31 : decode cX8_operatorPart 31 = .ok (.iload_n 2, 1) := by decide +kernel
theorem dX8_operatorPart_32 : decode cX8_operatorPart 32 = .ok (.isub, 1) := by decide +kernel
theorem dX8_operatorPart_33 : decode cX8_operatorPart 33 = .ok (.aaload, 1) := by decide +kernel
theorem dX8_operatorPart_34 : decode cX8_operatorPart 34 = .ok (.astore_n 3, 1) := by decide +kernel
theorem dX8_operatorPart_35 : decode cX8_operatorPart 35 = .ok (.aload_n 0, 1) := by decide +kernel
theorem dX8_operatorPart_36 : decode cX8_operatorPart 36 = .ok (.getfield 13, 3) := by decide +kernel
theorem dX8_operatorPart_39 : decode cX8_operatorPart 39 = .ok (.aload_n 0, 1) := by decide +kernel
theorem dX8_operatorPart_40 : decode cX8_operatorPart 40 = .ok (.getfield 50, 3) := by decide +kernel
theorem dX8_operatorPart_43 : decode cX8_operatorPart 43 = .ok (.iconst 1, 1) := by decide +kernel
theorem dX8_operatorPart_44 : decode cX8_operatorPart 44 = .ok (.isub, 1) := by decide +kernel
theorem dX8_operatorPart_45 : decode cX8_operatorPart 45 = .ok (.aaload, 1) := by decide +kernel
theorem dX8_operatorPart_46 : decode cX8_operatorPart 46 = .ok (.astore 4, 2) := by decide +kernel
theorem dX8_operatorPart_48 : decode cX8_operatorPart 48 = .ok (.iload_n 1, 1) := by decide +kernel
theorem dX8_operatorPart_49 : decode cX8_operatorPart 49 = .ok (.tableswitch 180 0 11 #[63, 81, 120, 131, 180, 180, 180, 180, 180, 180, 180, 99], 63) := by decide +kernel
theorem dX8_operatorPart_112 : decode cX8_operatorPart 112 = .ok (.aload_n 0, 1) := by decide +kernel
theorem dX8_operatorPart_113 : decode cX8_operatorPart 113 = .ok (.getfield 41, 3) := by decide +kernel
theorem dX8_operatorPart_116 : decode cX8_operatorPart 116 = .ok (.aload_n 0, 1) := by decide +kernel
theorem dX8_operatorPart_117 : decode cX8_operatorPart 117 = .ok (.getfield 31, 3) := by decide +kernel
theorem dX8_operatorPart_120 : decode cX8_operatorPart 120 = .ok (.aload_n 3, 1) := by decide +kernel
theorem dX8_operatorPart_121 : decode cX8_operatorPart 121 = .ok (.aload 4, 2) := by decide +kernel
theorem dX8_operatorPart_123 : decode cX8_operatorPart 123 = .ok (.iconst 0, 1) := by decide +kernel
theorem dX8_operatorPart_124 : decode cX8_operatorPart 124 = .ok (.invokevirtual 97, 3) := by decide +kernel
theorem dX8_operatorPart_127 : decode cX8_operatorPart 127 = .ok (.goto 117, 3) := by decide +kernel
theorem dX8_operatorPart_130 : decode cX8_operatorPart 130 = .ok (.aload_n 0, 1) := by decide +kernel
theorem dX8_operatorPart_131 : decode cX8_operatorPart 131 = .ok (.getfield 41, 3) := by decide +kernel
theorem dX8_operatorPart_134 : decode cX8_operatorPart 134 = .ok (.aload_n 0, 1) := by decide +kernel
theorem dX8_operatorPart_135 : decode cX8_operatorPart 135 = .ok (.getfield 31, 3) := by decide +kernel
theorem dX8_operatorPart_138 : decode cX8_operatorPart 138 = .ok (.aload_n 3, 1) := by decide +kernel
theorem dX8_operatorPart_139 : decode cX8_operatorPart 139 = .ok (.aload 4, 2) := by decide +kernel
theorem dX8_operatorPart_141 : decode cX8_operatorPart 141 = .ok (.iconst 1, 1) := by decide +kernel
theorem dX8_operatorPart_142 : decode cX8_operatorPart 142 = .ok (.invokevirtual 97, 3) := by decide +kernel
theorem dX8_operatorPart_145 : decode cX8_operatorPart 145 = .ok (.goto 99, 3) := by decide +kernel
theorem dX8_operatorPart_148 : decode cX8_operatorPart 148 = .ok (.aload_n 0, 1) := by decide +kernel
theorem dX8_operatorPart_149 : decode cX8_operatorPart 149 = .ok (.getfield 31, 3) := by decide +kernel
theorem dX8_operatorPart_152 : decode cX8_operatorPart 152 = .ok (.aload_n 3, 1) := by decide +kernel
theorem dX8_operatorPart_153 : decode cX8_operatorPart 153 = .ok (.invokevirtual 72, 3) := by decide +kernel
theorem dX8_operatorPart_156 : decode cX8_operatorPart 156 = .ok (.aload_n 0, 1) := by decide +kernel
theorem dX8_operatorPart_157 : decode cX8_operatorPart 157 = .ok (.getfield 31, 3) := by decide +kernel
theorem dX8_operatorPart_160 : decode cX8_operatorPart 160 = .ok (.getfield 103, 3) := by decide +kernel
theorem dX8_operatorPart_163 : decode cX8_operatorPart 163 = .ok (.invokevirtual 107, 3) := by decide +kernel
theorem dX8_operatorPart_166 : decode cX8_operatorPart 166 = .ok (.goto 78, 3) := by decide +kernel
theorem dX8_operatorPart_169 : decode cX8_operatorPart 169 = .ok (.aload_n 0, 1) := by decide +kernel
theorem dX8_operatorPart_170 : decode cX8_operatorPart 170 = .ok (.aload_n 3, 1) := by decide +kernel
theorem dX8_operatorPart_171 : decode cX8_operatorPart 171 = .ok (.aload 4, 2) := by decide +kernel
theorem dX8_operatorPart_173 : decode cX8_operatorPart 173 = .ok (.iconst 0, 1) := by decide +kernel
theorem dX8_operatorPart_174 : decode cX8_operatorPart 174 = .ok (.invokevirtual 110, 3) := by decide +kernel
theorem dX8_operatorPart_177 : decode cX8_operatorPart 177 = .ok (.goto 67, 3) := by decide +kernel
theorem dX8_operatorPart_180 : decode cX8_operatorPart 180 = .ok (.aload_n 0, 1) := by decide +kernel
theorem dX8_operatorPart_181 : decode cX8_operatorPart 181 = .ok (.aload_n 3, 1) := by decide +kernel
theorem dX8_operatorPart_182 : decode cX8_operatorPart 182 = .ok (.aload 4, 2) := by decide +kernel
theorem dX8_operatorPart_184 : decode cX8_operatorPart 184 = .ok (.iconst 1, 1) := by decide +kernel
theorem dX8_operatorPart_185 : decode cX8_operatorPart 185 = .ok (.invokevirtual 110, 3) := by decide +kernel
theorem dX8_operatorPart_188 : decode cX8_operatorPart 188 = .ok (.aload_n 0, 1) := by decide +kernel
theorem dX8_operatorPart_189 : decode cX8_operatorPart 189 = .ok (.getfield 41, 3) := by decide +kernel
theorem dX8_operatorPart_192 : decode cX8_operatorPart 192 = .ok (.aload_n 0, 1) := by decide +kernel
theorem dX8_operatorPart_193 : decode cX8_operatorPart 193 = .ok (.getfield 34, 3) := by decide +kernel
theorem dX8_operatorPart_196 : decode cX8_operatorPart 196 = .ok (.aload_n 0, 1) := by decide +kernel
theorem dX8_operatorPart_197 : decode cX8_operatorPart 197 = .ok (.getfield 28, 3) := by decide +kernel
theorem dX8_operatorPart_200 : decode cX8_operatorPart 200 = .ok (.aload_n 0, 1) := by decide +kernel
theorem dX8_operatorPart_201 : decode cX8_operatorPart 201 = .ok (.getfield 28, 3) := by decide +kernel
theorem dX8_operatorPart_204 : decode cX8_operatorPart 204 = .ok (.invokevirtual 114, 3) := by decide +kernel
theorem dX8_operatorPart_207 : decode cX8_operatorPart 207 = .ok (.aload_n 0, 1) := by decide +kernel
theorem dX8_operatorPart_208 : decode cX8_operatorPart 208 = .ok (.getfield 41, 3) := by decide +kernel
theorem dX8_operatorPart_211 : decode cX8_operatorPart 211 = .ok (.aload_n 0, 1) := by decide +kernel
theorem dX8_operatorPart_212 : decode cX8_operatorPart 212 = .ok (.getfield 31, 3) := by decide +kernel
theorem dX8_operatorPart_215 : decode cX8_operatorPart 215 = .ok (.aload_n 0, 1) := by decide +kernel
theorem dX8_operatorPart_216 : decode cX8_operatorPart 216 = .ok (.getfield 31, 3) := by decide +kernel
theorem dX8_operatorPart_219 : decode cX8_operatorPart 219 = .ok (.aload_n 0, 1) := by decide +kernel
theorem dX8_operatorPart_220 : decode cX8_operatorPart 220 = .ok (.getfield 34, 3) := by decide +kernel
theorem dX8_operatorPart_223 : decode cX8_operatorPart 223 = .ok (.invokevirtual 118, 3) := by decide +kernel
theorem dX8_operatorPart_226 : decode cX8_operatorPart 226 = .ok (.goto 18, 3) := by decide +kernel
theorem dX8_operatorPart_229 : decode cX8_operatorPart 229 = .ok (.aload_n 0, 1) := by decide +kernel
theorem dX8_operatorPart_230 : decode cX8_operatorPart 230 = .ok (.aload_n 3, 1) := by decide +kernel
theorem dX8_operatorPart_231 : decode cX8_operatorPart 231 = .ok (.aload_n 0, 1) := by decide +kernel
theorem dX8_operatorPart_232 : decode cX8_operatorPart 232 = .ok (.getfield 28, 3) := by decide +kernel
theorem dX8_operatorPart_235 : decode cX8_operatorPart 235 = .ok (.getfield 103, 3) := by decide +kernel
theorem dX8_operatorPart_238 : decode cX8_operatorPart 238 = .ok (.invokevirtual 121, 3) := by decide +kernel
theorem dX8_operatorPart_241 : decode cX8_operatorPart 241 = .ok (.invokevirtual 125, 3) := by decide +kernel
theorem dX8_operatorPart_244 : decode cX8_operatorPart 244 = .ok (.aload_n 0, 1) := by decide +kernel
theorem dX8_operatorPart_245 : decode cX8_operatorPart 245 = .ok (.getfield 41, 3) := by decide +kernel
theorem dX8_operatorPart_248 : decode cX8_operatorPart 248 = .ok (.aload_n 0, 1) := by decide +kernel
theorem dX8_operatorPart_249 : decode cX8_operatorPart 249 = .ok (.getfield 31, 3) := by decide +kernel
theorem dX8_operatorPart_252 : decode cX8_operatorPart 252 = .ok (.invokevirtual 129, 3) := by decide +kernel
theorem dX8_operatorPart_255 : decode cX8_operatorPart 255 = .ok (.aload_n 0, 1) := by decide +kernel
theorem dX8_operatorPart_256 : decode cX8_operatorPart 256 = .ok (.getfield 31, 3) := by decide +kernel
theorem dX8_operatorPart_259 : decode cX8_operatorPart 259 = .ok (.invokevirtual 132, 3) := by decide +kernel
theorem dX8_operatorPart_262 : decode cX8_operatorPart 262 = .ok (.ifCond .ne 5, 3) := by decide +kernel
theorem dX8_operatorPart_265 : decode cX8_operatorPart 265 = .ok (.iconst 3, 1) := by decide +kernel
theorem dX8_operatorPart_266 : decode cX8_operatorPart 266 = .ok (.ireturn, 1) := by decide +kernel
theorem dX8_operatorPart_267 : decode cX8_operatorPart 267 = .ok (.aload_n 3, 1) := by decide +kernel
theorem dX8_operatorPart_268 : decode cX8_operatorPart 268 = .ok (.aload_n 0, 1) := by decide +kernel
theorem dX8_operatorPart_269 : decode cX8_operatorPart 269 = .ok (.getfield 31, 3) := by decide +kernel
theorem dX8_operatorPart_272 : decode cX8_operatorPart 272 = .ok (.invokevirtual 72, 3) := by decide +kernel
theorem dX8_operatorPart_275 : decode cX8_operatorPart 275 = .ok (.aload_n 0, 1) := by decide +kernel
theorem dX8_operatorPart_276 : decode cX8_operatorPart 276 = .ok (.dup, 1) := by decide +kernel
theorem dX8_operatorPart_277 : decode cX8_operatorPart 277 = .ok (.getfield 50, 3) := by decide +kernel
theorem dX8_operatorPart_280 : decode cX8_operatorPart 280 = .ok (.iload_n 2, 1) := by decide +kernel
theorem dX8_operatorPart_281 : decode cX8_operatorPart 281 = .ok (.iconst 1, 1) := by decide +kernel
theorem dX8_operatorPart_282 : decode cX8_operatorPart 282 = .ok (.isub, 1) := by decide +kernel
theorem dX8_operatorPart_283 : decode cX8_operatorPart 283 = .ok (.isub, 1) := by decide +kernel
theorem dX8_operatorPart_284 : decode cX8_operatorPart 284 = .ok (.putfield 50, 3) := by decide +kernel
theorem dX8_operatorPart_287 : decode cX8_operatorPart 287 = .ok (.iconst 0, 1) := by decide +kernel
theorem dX8_operatorPart_288 : decode cX8_operatorPart 288 = .ok (.ireturn, 1) := by decide +kernel
theorem dX8_crosswise_0 : decode cX8_crosswise 0 = .ok (.aload_n 0, 1) := by decide +kernel
theorem dX8_crosswise_1 : decode cX8_crosswise 1 = .ok (.getfield 41, 3) := by decide +kernel
theorem dX8_crosswise_4 : decode cX8_crosswise 4 = .ok (.aload_n 0, 1) := by decide +kernel
theorem dX8_crosswise_5 : decode cX8_crosswise 5 = .ok (.getfield 31, 3) := by decide +kernel
theorem dX8_crosswise_8 : decode cX8_crosswise 8 = .ok (.aload_n 1, 1) := by decide +kernel
theorem dX8_crosswise_9 : decode cX8_crosswise 9 = .ok (.aload_n 0, 1) := by decide +kernel
theorem dX8_crosswise_10 : decode cX8_crosswise 10 = .ok (.getfield 28, 3) := by decide +kernel
theorem dX8_crosswise_13 : decode cX8_crosswise 13 = .ok (.invokevirtual 114, 3) := by decide +kernel
theorem dX8_crosswise_16 : decode cX8_crosswise 16 = .ok (.aload_n 0, 1) := by decide +kernel
theorem dX8_crosswise_17 : decode cX8_crosswise 17 = .ok (.getfield 41, 3) := by decide +kernel
theorem dX8_crosswise_20 : decode cX8_crosswise 20 = .ok (.aload_n 0, 1) := by decide +kernel
theorem dX8_crosswise_21 : decode cX8_crosswise 21 = .ok (.getfield 34, 3) := by decide +kernel
theorem dX8_crosswise_24 : decode cX8_crosswise 24 = .ok (.aload_n 0, 1) := by decide +kernel
theorem dX8_crosswise_25 : decode cX8_crosswise 25 = .ok (.getfield 24, 3) := by decide +kernel
theorem dX8_crosswise_28 : decode cX8_crosswise 28 = .ok (.aload_n 2, 1) := by decide +kernel
theorem dX8_crosswise_29 : decode cX8_crosswise 29 = .ok (.invokevirtual 114, 3) := by decide +kernel
theorem dX8_crosswise_32 : decode cX8_crosswise 32 = .ok (.aload_n 0, 1) := by decide +kernel
theorem dX8_crosswise_33 : decode cX8_crosswise 33 = .ok (.getfield 41, 3) := by decide +kernel
theorem dX8_crosswise_36 : decode cX8_crosswise 36 = .ok (.aload_n 0, 1) := by decide +kernel
theorem dX8_crosswise_37 : decode cX8_crosswise 37 = .ok (.getfield 31, 3) := by decide +kernel
theorem dX8_crosswise_40 : decode cX8_crosswise 40 = .ok (.aload_n 0, 1) := by decide +kernel
theorem dX8_crosswise_41 : decode cX8_crosswise 41 = .ok (.getfield 31, 3) := by decide +kernel
theorem dX8_crosswise_44 : decode cX8_crosswise 44 = .ok (.aload_n 0, 1) := by decide +kernel
theorem dX8_crosswise_45 : decode cX8_crosswise 45 = .ok (.getfield 34, 3) := by decide +kernel
theorem dX8_crosswise_48 : decode cX8_crosswise 48 = .ok (.iload_n 3, 1) := by decide +kernel
theorem dX8_crosswise_49 : decode cX8_crosswise 49 = .ok (.invokevirtual 97, 3) := by decide +kernel
theorem dX8_crosswise_52 : decode cX8_crosswise 52 = .ok (.return_, 1) := by decide +kernel
theorem dX8_powerPart_0 : decode cX8_powerPart 0 = .ok (.iload_n 2, 1) := by decide +kernel
theorem dX8_powerPart_1 : decode cX8_powerPart 1 = .ok (.ifCond .ne 12, 3) := by decide +kernel
theorem dX8_powerPart_4 : decode cX8_powerPart 4 = .ok (.aload_n 0, 1) := by decide +kernel
theorem dX8_powerPart_5 : decode cX8_powerPart 5 = .ok (.getfield 31, 3) := by decide +kernel
theorem dX8_powerPart_8 : decode cX8_powerPart 8 = .ok (.lconst 0, 1) := by decide +kernel
theorem dX8_powerPart_9 : decode cX8_powerPart 9 = .ok (.invokevirtual 93, 3) := by decide +kernel
theorem dX8_powerPart_12 : decode cX8_powerPart 12 = .ok (.return_, 1) := by decide +kernel
theorem dX8_powerPart_13 : decode cX8_powerPart 13 = .ok (.aload_n 0, 1) := by decide +kernel
theorem dX8_powerPart_14 : decode cX8_powerPart 14 = .ok (.getfield 41, 3) := by decide +kernel
theorem dX8_powerPart_17 : decode cX8_powerPart 17 = .ok (.aload_n 0, 1) := by decide +kernel
theorem dX8_powerPart_18 : decode cX8_powerPart 18 = .ok (.getfield 31, 3) := by decide +kernel
theorem dX8_powerPart_21 : decode cX8_powerPart 21 = .ok (.aload_n 0, 1) := by decide +kernel
theorem dX8_powerPart_22 : decode cX8_powerPart 22 = .ok (.getfield 24, 3) := by decide +kernel
theorem dX8_powerPart_25 : decode cX8_powerPart 25 = .ok (.iload_n 2, 1) := by decide +kernel
theorem dX8_powerPart_26 : decode cX8_powerPart 26 = .ok (.iconst 1, 1) := by decide +kernel
theorem dX8_powerPart_27 : decode cX8_powerPart 27 = .ok (.isub, 1) := by decide +kernel
theorem dX8_powerPart_28 : decode cX8_powerPart 28 = .ok (.invokevirtual 136, 3) := by decide +kernel
theorem dX8_powerPart_31 : decode cX8_powerPart 31 = .ok (.pop, 1) := by decide +kernel
theorem dX8_powerPart_32 : decode cX8_powerPart 32 = .ok (.aload_n 0, 1) := by decide +kernel
theorem dX8_powerPart_33 : decode cX8_powerPart 33 = .ok (.getfield 41, 3) := by decide +kernel
theorem dX8_powerPart_36 : decode cX8_powerPart 36 = .ok (.aload_n 0, 1) := by decide +kernel
theorem dX8_powerPart_37 : decode cX8_powerPart 37 = .ok (.getfield 31, 3) := by decide +kernel
theorem dX8_powerPart_40 : decode cX8_powerPart 40 = .ok (.aload_n 0, 1) := by decide +kernel
theorem dX8_powerPart_41 : decode cX8_powerPart 41 = .ok (.getfield 31, 3) := by decide +kernel
theorem dX8_powerPart_44 : decode cX8_powerPart 44 = .ok (.aload_n 0, 1) := by decide +kernel
theorem dX8_powerPart_45 : decode cX8_powerPart 45 = .ok (.getfield 28, 3) := by decide +kernel
theorem dX8_powerPart_48 : decode cX8_powerPart 48 = .ok (.invokevirtual 114, 3) := by decide +kernel
theorem dX8_powerPart_51 : decode cX8_powerPart 51 = .ok (.aload_n 0, 1) := by decide +kernel
theorem dX8_powerPart_52 : decode cX8_powerPart 52 = .ok (.getfield 41, 3) := by decide +kernel
theorem dX8_powerPart_55 : decode cX8_powerPart 55 = .ok (.aload_n 0, 1) := by decide +kernel
theorem dX8_powerPart_56 : decode cX8_powerPart 56 = .ok (.getfield 31, 3) := by decide +kernel
theorem dX8_powerPart_59 : decode cX8_powerPart 59 = .ok (.aload_n 0, 1) := by decide +kernel
theorem dX8_powerPart_60 : decode cX8_powerPart 60 = .ok (.getfield 31, 3) := by decide +kernel
theorem dX8_powerPart_63 : decode cX8_powerPart 63 = .ok (.aload_n 1, 1) := by decide +kernel
theorem dX8_powerPart_64 : decode cX8_powerPart 64 = .ok (.invokevirtual 114, 3) := by decide +kernel
theorem dX8_powerPart_67 : decode cX8_powerPart 67 = .ok (.return_, 1) := by decide +kernel
theorem dX9_init_0 : decode cX9_init 0 = .ok (.aload_n 0, 1) := by decide +kernel
theorem dX9_init_1 : decode cX9_init 1 = .ok (.invokespecial 3, 3) := by decide +kernel
theorem dX9_init_4 : decode cX9_init 4 = .ok (.aload_n 0, 1) := by decide +kernel
theorem dX9_init_5 : decode cX9_init 5 = .ok (.bipush 80, 2) := by decide +kernel
theorem dX9_init_7 : decode cX9_init 7 = .ok (.newarray .int, 2) := by decide +kernel
theorem dX9_init_9 : decode cX9_init 9 = .ok (.putfield 11, 3) := by decide +kernel
theorem dX9_init_12 : decode cX9_init 12 = .ok (.aload_n 0, 1) := by decide +kernel
theorem dX9_init_13 : decode cX9_init 13 = .ok (.bipush 80, 2) := by decide +kernel
theorem dX9_init_15 : decode cX9_init 15 = .ok (.newarray .int, 2) := by decide +kernel
theorem dX9_init_17 : decode cX9_init 17 = .ok (.putfield 15, 3) := by decide +kernel
theorem dX9_init_20 : decode cX9_init 20 = .ok (.aload_n 0, 1) := by decide +kernel
theorem dX9_init_21 : decode cX9_init 21 = .ok (.bipush 80, 2) := by decide +kernel
theorem dX9_init_23 : decode cX9_init 23 = .ok (.newarray .int, 2) := by decide +kernel
theorem dX9_init_25 : decode cX9_init 25 = .ok (.putfield 18, 3) := by decide +kernel
theorem dX9_init_28 : decode cX9_init 28 = .ok (.aload_n 0, 1) := by decide +kernel
theorem dX9_init_29 : decode cX9_init 29 = .ok (.bipush 80, 2) := by decide +kernel
theorem dX9_init_31 : decode cX9_init 31 = .ok (.newarray .int, 2) := by decide +kernel
theorem dX9_init_33 : decode cX9_init 33 = .ok (.putfield 21, 3) := by decide +kernel
theorem dX9_init_36 : decode cX9_init 36 = .ok (.aload_n 0, 1) := by decide +kernel
theorem dX9_init_37 : decode cX9_init 37 = .ok (.bipush 80, 2) := by decide +kernel
theorem dX9_init_39 : decode cX9_init 39 = .ok (.newarray .int, 2) := by decide +kernel
theorem dX9_init_41 : decode cX9_init 41 = .ok (.putfield 24, 3) := by decide +kernel
theorem dX9_init_44 : decode cX9_init 44 = .ok (.aload_n 0, 1) := by decide +kernel
theorem dX9_init_45 : decode cX9_init 45 = .ok (.bipush 80, 2) := by decide +kernel
theorem dX9_init_47 : decode cX9_init 47 = .ok (.newarray .int, 2) := by decide +kernel
theorem dX9_init_49 : decode cX9_init 49 = .ok (.putfield 27, 3) := by decide +kernel
theorem dX9_init_52 : decode cX9_init 52 = .ok (.aload_n 0, 1) := by decide +kernel
theorem dX9_init_53 : decode cX9_init 53 = .ok (.bipush 80, 2) := by decide +kernel
theorem dX9_init_55 : decode cX9_init 55 = .ok (.newarray .int, 2) := by decide +kernel
theorem dX9_init_57 : decode cX9_init 57 = .ok (.putfield 30, 3) := by decide +kernel
theorem dX9_init_60 : decode cX9_init 60 = .ok (.return_, 1) := by decide +kernel
theorem dX9_clear_0 : decode cX9_clear 0 = .ok (.aload_n 0, 1) := by decide +kernel
theorem dX9_clear_1 : decode cX9_clear 1 = .ok (.iconst 0, 1) := by decide +kernel
theorem dX9_clear_2 : decode cX9_clear 2 = .ok (.putfield 33, 3) := by decide +kernel
theorem dX9_clear_5 : decode cX9_clear 5 = .ok (.return_, 1) := by decide +kernel
theorem dX9_add_0 : decode cX9_add 0 = .ok (.aload_n 0, 1) := by decide +kernel
theorem dX9_add_1 : decode cX9_add 1 = .ok (.getfield 33, 3) := by decide +kernel
theorem dX9_add_4 : decode cX9_add 4 = .ok (.bipush 80, 2) := by decide +kernel
theorem dX9_add_6 : decode cX9_add 6 = .ok (.if_icmp .lt 5, 3) := by decide +kernel
theorem dX9_add_9 : decode cX9_add 9 = .ok (.iconst 0, 1) := by decide +kernel
theorem dX9_add_10 : decode cX9_add 10 = .ok (.ireturn, 1) := by decide +kernel
theorem dX9_add_11 : decode cX9_add 11 = .ok (.aload_n 0, 1) := by decide +kernel
theorem dX9_add_12 : decode cX9_add 12 = .ok (.getfield 11, 3) := by decide +kernel
theorem dX9_add_15 : decode cX9_add 15 = .ok (.aload_n 0, 1) := by decide +kernel
theorem dX9_add_16 : decode cX9_add 16 = .ok (.getfield 33, 3) := by decide +kernel
theorem dX9_add_19 : decode cX9_add 19 = .ok (.iload_n 1, 1) := by decide +kernel
theorem dX9_add_20 : decode cX9_add 20 = .ok (.iastore, 1) := by decide +kernel
theorem dX9_add_21 : decode cX9_add 21 = .ok (.aload_n 0, 1) := by decide +kernel
theorem dX9_add_22 : decode cX9_add 22 = .ok (.getfield 15, 3) := by decide +kernel
theorem dX9_add_25 : decode cX9_add 25 = .ok (.aload_n 0, 1) := by decide +kernel
theorem dX9_add_26 : decode cX9_add 26 = .ok (.getfield 33, 3) := by decide +kernel
theorem dX9_add_29 : decode cX9_add 29 = .ok (.iload_n 2, 1) := by decide +kernel
theorem dX9_add_30 : decode cX9_add 30 = .ok (.iastore, 1) := by decide +kernel
theorem dX9_add_31 : decode cX9_add 31 = .ok (.aload_n 0, 1) := by decide +kernel
theorem dX9_add_32 : decode cX9_add 32 = .ok (.getfield 18, 3) := by decide +kernel
theorem dX9_add_35 : decode cX9_add 35 = .ok (.aload_n 0, 1) := by decide +kernel
theorem dX9_add_36 : decode cX9_add 36 = .ok (.getfield 33, 3) := by decide +kernel
theorem dX9_add_39 : decode cX9_add 39 = .ok (.iload_n 3, 1) := by decide +kernel
theorem dX9_add_40 : decode cX9_add 40 = .ok (.iastore, 1) := by decide +kernel
theorem dX9_add_41 : decode cX9_add 41 = .ok (.aload_n 0, 1) := by decide +kernel
theorem dX9_add_42 : decode cX9_add 42 = .ok (.getfield 21, 3) := by decide +kernel
theorem dX9_add_45 : decode cX9_add 45 = .ok (.aload_n 0, 1) := by decide +kernel
theorem dX9_add_46 : decode cX9_add 46 = .ok (.getfield 33, 3) := by decide +kernel
theorem dX9_add_49 : decode cX9_add 49 = .ok (.iload 4, 2) := by decide +kernel
theorem dX9_add_51 : decode cX9_add 51 = .ok (.iastore, 1) := by decide +kernel
theorem dX9_add_52 : decode cX9_add 52 = .ok (.aload_n 0, 1) := by decide +kernel
theorem dX9_add_53 : decode cX9_add 53 = .ok (.dup, 1) := by decide +kernel
theorem dX9_add_54 : decode cX9_add 54 = .ok (.getfield 33, 3) := by decide +kernel
theorem dX9_add_57 : decode cX9_add 57 = .ok (.iconst 1, 1) := by decide +kernel
theorem dX9_add_58 : decode cX9_add 58 = .ok (.iadd, 1) := by decide +kernel
theorem dX9_add_59 : decode cX9_add 59 = .ok (.putfield 33, 3) := by decide +kernel
theorem dX9_add_62 : decode cX9_add 62 = .ok (.iconst 1, 1) := by decide +kernel
theorem dX9_add_63 : decode cX9_add 63 = .ok (.ireturn, 1) := by decide +kernel
theorem dX9_addNode_0 : decode cX9_addNode 0 = .ok (.iload_n 2, 1) := by decide +kernel
theorem dX9_addNode_1 : decode cX9_addNode 1 = .ok (.ifCond .lt 46, 3) := by decide +kernel
theorem dX9_addNode_4 : decode cX9_addNode 4 = .ok (.iload_n 2, 1) := by decide +kernel
theorem dX9_addNode_5 : decode cX9_addNode 5 = .ok (.aload_n 1, 1) := by decide +kernel
theorem dX9_addNode_6 : decode cX9_addNode 6 = .ok (.getfield 33, 3) := by decide +kernel
theorem dX9_addNode_9 : decode cX9_addNode 9 = .ok (.if_icmp .ge 38, 3) := by decide +kernel
theorem dX9_addNode_12 : decode cX9_addNode 12 = .ok (.aload_n 0, 1) := by decide +kernel
theorem dX9_addNode_13 : decode cX9_addNode 13 = .ok (.aload_n 1, 1) := by decide +kernel
theorem dX9_addNode_14 : decode cX9_addNode 14 = .ok (.getfield 11, 3) := by decide +kernel
theorem dX9_addNode_17 : decode cX9_addNode 17 = .ok (.iload_n 2, 1) := by decide +kernel
theorem dX9_addNode_18 : decode cX9_addNode 18 = .ok (.iaload, 1) := by decide +kernel
theorem dX9_addNode_19 : decode cX9_addNode 19 = .ok (.aload_n 1, 1) := by decide +kernel
theorem dX9_addNode_20 : decode cX9_addNode 20 = .ok (.getfield 15, 3) := by decide +kernel
theorem dX9_addNode_23 : decode cX9_addNode 23 = .ok (.iload_n 2, 1) := by decide +kernel
theorem dX9_addNode_24 : decode cX9_addNode 24 = .ok (.iaload, 1) := by decide +kernel
theorem dX9_addNode_25 : decode cX9_addNode 25 = .ok (.aload_n 1, 1) := by decide +kernel
theorem dX9_addNode_26 : decode cX9_addNode 26 = .ok (.getfield 18, 3) := by decide +kernel
theorem dX9_addNode_29 : decode cX9_addNode 29 = .ok (.iload_n 2, 1) := by decide +kernel
theorem dX9_addNode_30 : decode cX9_addNode 30 = .ok (.iaload, 1) := by decide +kernel
theorem dX9_addNode_31 : decode cX9_addNode 31 = .ok (.aload_n 1, 1) := by decide +kernel
theorem dX9_addNode_32 : decode cX9_addNode 32 = .ok (.getfield 21, 3) := by decide +kernel
theorem dX9_addNode_35 : decode cX9_addNode 35 = .ok (.iload_n 2, 1) := by decide +kernel
theorem dX9_addNode_36 : decode cX9_addNode 36 = .ok (.iaload, 1) := by decide +kernel
theorem dX9_addNode_37 : decode cX9_addNode 37 = .ok (.invokevirtual 37, 3) := by decide +kernel
theorem dX9_addNode_40 : decode cX9_addNode 40 = .ok (.ifCond .eq 7, 3) := by decide +kernel
theorem dX9_addNode_43 : decode cX9_addNode 43 = .ok (.iconst 1, 1) := by decide +kernel
theorem dX9_addNode_44 : decode cX9_addNode 44 = .ok (.goto 4, 3) := by decide +kernel
theorem dX9_addNode_47 : decode cX9_addNode 47 = .ok (.iconst 0, 1) := by decide +kernel
theorem dX9_addNode_48 : decode cX9_addNode 48 = .ok (.ireturn, 1) := by decide +kernel
theorem dX9_addPart_0 : decode cX9_addPart 0 = .ok (.iload_n 2, 1) := by decide +kernel
theorem dX9_addPart_1 : decode cX9_addPart 1 = .ok (.ifCond .lt 11, 3) := by decide +kernel
theorem dX9_addPart_4 : decode cX9_addPart 4 = .ok (.iload_n 2, 1) := by decide +kernel
theorem dX9_addPart_5 : decode cX9_addPart 5 = .ok (.aload_n 1, 1) := by decide +kernel
theorem dX9_addPart_6 : decode cX9_addPart 6 = .ok (.getfield 33, 3) := by decide +kernel
theorem dX9_addPart_9 : decode cX9_addPart 9 = .ok (.if_icmp .lt 5, 3) := by decide +kernel
theorem dX9_addPart_12 : decode cX9_addPart 12 = .ok (.iconst 0, 1) := by decide +kernel
theorem dX9_addPart_13 : decode cX9_addPart 13 = .ok (.ireturn, 1) := by decide +kernel
theorem dX9_addPart_14 : decode cX9_addPart 14 = .ok (.iload_n 2, 1) := by decide +kernel
theorem dX9_addPart_15 : decode cX9_addPart 15 = .ok (.aload_n 1, 1) := by decide +kernel
theorem dX9_addPart_16 : decode cX9_addPart 16 = .ok (.getfield 24, 3) := by decide +kernel
theorem dX9_addPart_19 : decode cX9_addPart 19 = .ok (.iload_n 2, 1) := by decide +kernel
theorem dX9_addPart_20 : decode cX9_addPart 20 = .ok (.iaload, 1) := by decide +kernel
theorem dX9_addPart_21 : decode cX9_addPart 21 = .ok (.iadd, 1) := by decide +kernel
theorem dX9_addPart_22 : decode cX9_addPart 22 = .ok (.aload_n 1, 1) := by decide +kernel
theorem dX9_addPart_23 : decode cX9_addPart 23 = .ok (.getfield 33, 3) := by decide +kernel
theorem dX9_addPart_26 : decode cX9_addPart 26 = .ok (.invokestatic 41, 3) := by decide +kernel
theorem dX9_addPart_29 : decode cX9_addPart 29 = .ok (.istore_n 3, 1) := by decide +kernel
theorem dX9_addPart_30 : decode cX9_addPart 30 = .ok (.iconst 1, 1) := by decide +kernel
theorem dX9_addPart_31 : decode cX9_addPart 31 = .ok (.istore 4, 2) := by decide +kernel
theorem dX9_addPart_33 : decode cX9_addPart 33 = .ok (.iload_n 2, 1) := by decide +kernel
theorem dX9_addPart_34 : decode cX9_addPart 34 = .ok (.istore 5, 2) := by decide +kernel
theorem dX9_addPart_36 : decode cX9_addPart 36 = .ok (.iload 5, 2) := by decide +kernel
theorem dX9_addPart_38 : decode cX9_addPart 38 = .ok (.iload_n 3, 1) := by decide +kernel
theorem dX9_addPart_39 : decode cX9_addPart 39 = .ok (.if_icmp .ge 23, 3) := by decide +kernel
theorem dX9_addPart_42 : decode cX9_addPart 42 = .ok (.iload 4, 2) := by decide +kernel
theorem dX9_addPart_44 : decode cX9_addPart 44 = .ok (.ifCond .eq 18, 3) := by decide +kernel
theorem dX9_addPart_47 : decode cX9_addPart 47 = .ok (.aload_n 0, 1) := by decide +kernel
theorem dX9_addPart_48 : decode cX9_addPart 48 = .ok (.aload_n 1, 1) := by decide +kernel
theorem dX9_addPart_49 : decode cX9_addPart 49 = .ok (.iload 5, 2) := by decide +kernel
theorem dX9_addPart_51 : decode cX9_addPart 51 = .ok (.invokevirtual 47, 3) := by decide +kernel
theorem dX9_addPart_54 : decode cX9_addPart 54 = .ok (.istore 4, 2) := by decide +kernel
theorem dX9_addPart_56 : decode cX9_addPart 56 = .ok (.iinc 5 1, 3) := by decide +kernel
theorem dX9_addPart_59 : decode cX9_addPart 59 = .ok (.goto (-23), 3) := by decide +kernel
theorem dX9_addPart_62 : decode cX9_addPart 62 = .ok (.iload 4, 2) := by decide +kernel
theorem dX9_addPart_64 : decode cX9_addPart 64 = .ok (.ireturn, 1) := by decide +kernel
theorem dX9_copy_0 : decode cX9_copy 0 = .ok (.aload_n 0, 1) := by decide +kernel
theorem dX9_copy_1 : decode cX9_copy 1 = .ok (.invokevirtual 51, 3) := by decide +kernel
theorem dX9_copy_4 : decode cX9_copy 4 = .ok (.aload_n 0, 1) := by decide +kernel
theorem dX9_copy_5 : decode cX9_copy 5 = .ok (.aload_n 1, 1) := by decide +kernel
theorem dX9_copy_6 : decode cX9_copy 6 = .ok (.iconst 0, 1) := by decide +kernel
theorem dX9_copy_7 : decode cX9_copy 7 = .ok (.invokevirtual 54, 3) := by decide +kernel
theorem dX9_copy_10 : decode cX9_copy 10 = .ok (.pop, 1) := by decide +kernel
theorem dX9_copy_11 : decode cX9_copy 11 = .ok (.aload_n 0, 1) := by decide +kernel
theorem dX9_copy_12 : decode cX9_copy 12 = .ok (.invokevirtual 57, 3) := by decide +kernel
theorem dX9_copy_15 : decode cX9_copy 15 = .ok (.return_, 1) := by decide +kernel
theorem dX9_measure_0 : decode cX9_measure 0 = .ok (.aload_n 0, 1) := by decide +kernel
theorem dX9_measure_1 : decode cX9_measure 1 = .ok (.getfield 33, 3) := by decide +kernel
theorem dX9_measure_4 : decode cX9_measure 4 = .ok (.iconst 1, 1) := by decide +kernel
theorem dX9_measure_5 : decode cX9_measure 5 = .ok (.isub, 1) := by decide +kernel
theorem dX9_measure_6 : decode cX9_measure 6 = .ok (.istore_n 1, 1) := by decide +kernel
theorem dX9_measure_7 : decode cX9_measure 7 = .ok (.iload_n 1, 1) := by decide +kernel
theorem dX9_measure_8 : decode cX9_measure 8 = .ok (.ifCond .lt 57, 3) := by decide +kernel
theorem dX9_measure_11 : decode cX9_measure 11 = .ok (.iload_n 1, 1) := by decide +kernel
theorem dX9_measure_12 : decode cX9_measure 12 = .ok (.iconst 1, 1) := by decide +kernel
theorem dX9_measure_13 : decode cX9_measure 13 = .ok (.iadd, 1) := by decide +kernel
theorem dX9_measure_14 : decode cX9_measure 14 = .ok (.istore_n 2, 1) := by decide +kernel
theorem dX9_measure_15 : decode cX9_measure 15 = .ok (.iconst 0, 1) := by decide +kernel
theorem dX9_measure_16 : decode cX9_measure 16 = .ok (.istore_n 3, 1) := by decide +kernel
theorem dX9_measure_17 : decode cX9_measure 17 = .ok (.iload_n 3, 1) := by decide +kernel
theorem dX9_measure_18 : decode cX9_measure 18 = .ok (.aload_n 0, 1) := by decide +kernel
theorem dX9_measure_19 : decode cX9_measure 19 = .ok (.getfield 21, 3) := by decide +kernel
theorem dX9_measure_22 : decode cX9_measure 22 = .ok (.iload_n 1, 1) := by decide +kernel
theorem dX9_measure_23 : decode cX9_measure 23 = .ok (.iaload, 1) := by decide +kernel
theorem dX9_measure_24 : decode cX9_measure 24 = .ok (.if_icmp .ge 26, 3) := by decide +kernel
theorem dX9_measure_27 : decode cX9_measure 27 = .ok (.iload_n 2, 1) := by decide +kernel
theorem dX9_measure_28 : decode cX9_measure 28 = .ok (.aload_n 0, 1) := by decide +kernel
theorem dX9_measure_29 : decode cX9_measure 29 = .ok (.getfield 33, 3) := by decide +kernel
theorem dX9_measure_32 : decode cX9_measure 32 = .ok (.if_icmp .ge 18, 3) := by decide +kernel
theorem dX9_measure_35 : decode cX9_measure 35 = .ok (.iload_n 2, 1) := by decide +kernel
theorem dX9_measure_36 : decode cX9_measure 36 = .ok (.aload_n 0, 1) := by decide +kernel
theorem dX9_measure_37 : decode cX9_measure 37 = .ok (.getfield 24, 3) := by decide +kernel
theorem dX9_measure_40 : decode cX9_measure 40 = .ok (.iload_n 2, 1) := by decide +kernel
theorem dX9_measure_41 : decode cX9_measure 41 = .ok (.iaload, 1) := by decide +kernel
theorem dX9_measure_42 : decode cX9_measure 42 = .ok (.iadd, 1) := by decide +kernel
theorem dX9_measure_43 : decode cX9_measure 43 = .ok (.istore_n 2, 1) := by decide +kernel
theorem dX9_measure_44 : decode cX9_measure 44 = .ok (.iinc 3 1, 3) := by decide +kernel
theorem dX9_measure_47 : decode cX9_measure 47 = .ok (.goto (-30), 3) := by decide +kernel
theorem dX9_measure_50 : decode cX9_measure 50 = .ok (.aload_n 0, 1) := by decide +kernel
theorem dX9_measure_51 : decode cX9_measure 51 = .ok (.getfield 24, 3) := by decide +kernel
theorem dX9_measure_54 : decode cX9_measure 54 = .ok (.iload_n 1, 1) := by decide +kernel
theorem dX9_measure_55 : decode cX9_measure 55 = .ok (.iload_n 2, 1) := by decide +kernel
theorem dX9_measure_56 : decode cX9_measure 56 = .ok (.iload_n 1, 1) := by decide +kernel
theorem dX9_measure_57 : decode cX9_measure 57 = .ok (.isub, 1) := by decide +kernel
theorem dX9_measure_58 : decode cX9_measure 58 = .ok (.iastore, 1) := by decide +kernel
theorem dX9_measure_59 : decode cX9_measure 59 = .ok (.iinc 1 (-1), 3) := by decide +kernel
theorem dX9_measure_62 : decode cX9_measure 62 = .ok (.goto (-55), 3) := by decide +kernel
theorem dX9_measure_65 : decode cX9_measure 65 = .ok (.aload_n 0, 1) := by decide +kernel
theorem dX9_measure_66 : decode cX9_measure 66 = .ok (.getfield 27, 3) := by decide +kernel
theorem dX9_measure_69 : decode cX9_measure 69 = .ok (.iconst 0, 1) := by decide +kernel
theorem dX9_measure_70 : decode cX9_measure 70 = .ok (.aload_n 0, 1) := by decide +kernel
theorem dX9_measure_71 : decode cX9_measure 71 = .ok (.getfield 33, 3) := by decide +kernel
theorem dX9_measure_74 : decode cX9_measure 74 = .ok (.iconst 1, 1) := by decide +kernel
theorem dX9_measure_75 : decode cX9_measure 75 = .ok (.isub, 1) := by decide +kernel
theorem dX9_measure_76 : decode cX9_measure 76 = .ok (.iastore, 1) := by decide +kernel
theorem dX9_measure_77 : decode cX9_measure 77 = .ok (.iconst 0, 1) := by decide +kernel
theorem dX9_measure_78 : decode cX9_measure 78 = .ok (.istore_n 1, 1) := by decide +kernel
theorem dX9_measure_79 : decode cX9_measure 79 = .ok (.iload_n 1, 1) := by decide +kernel
theorem dX9_measure_80 : decode cX9_measure 80 = .ok (.aload_n 0, 1) := by decide +kernel
theorem dX9_measure_81 : decode cX9_measure 81 = .ok (.getfield 33, 3) := by decide +kernel
theorem dX9_measure_84 : decode cX9_measure 84 = .ok (.if_icmp .ge 84, 3) := by decide +kernel
theorem dX9_measure_87 : decode cX9_measure 87 = .ok (.aload_n 0, 1) := by decide +kernel
theorem dX9_measure_88 : decode cX9_measure 88 = .ok (.getfield 27, 3) := by decide +kernel
theorem dX9_measure_91 : decode cX9_measure 91 = .ok (.iload_n 1, 1) := by decide +kernel
theorem dX9_measure_92 : decode cX9_measure 92 = .ok (.iaload, 1) := by decide +kernel
theorem dX9_measure_93 : decode cX9_measure 93 = .ok (.aload_n 0, 1) := by decide +kernel
theorem dX9_measure_94 : decode cX9_measure 94 = .ok (.getfield 24, 3) := by decide +kernel
theorem dX9_measure_97 : decode cX9_measure 97 = .ok (.iload_n 1, 1) := by decide +kernel
theorem dX9_measure_98 : decode cX9_measure 98 = .ok (.iaload, 1) := by decide +kernel
theorem dX9_measure_99 : decode cX9_measure 99 = .ok (.isub, 1) := by decide +kernel
theorem dX9_measure_100 : decode cX9_measure 100 = .ok (.iconst 1, 1) := by decide +kernel
theorem dX9_measure_101 : decode cX9_measure 101 = .ok (.iadd, 1) := by decide +kernel
theorem dX9_measure_102 : decode cX9_measure 102 = .ok (.istore_n 2, 1) := by decide +kernel
theorem dX9_measure_103 : decode cX9_measure 103 = .ok (.iload_n 1, 1) := by decide +kernel
theorem dX9_measure_104 : decode cX9_measure 104 = .ok (.iconst 1, 1) := by decide +kernel
theorem dX9_measure_105 : decode cX9_measure 105 = .ok (.iadd, 1) := by decide +kernel
theorem dX9_measure_106 : decode cX9_measure 106 = .ok (.istore_n 3, 1) := by decide +kernel
theorem dX9_measure_107 : decode cX9_measure 107 = .ok (.iconst 0, 1) := by decide +kernel
theorem dX9_measure_108 : decode cX9_measure 108 = .ok (.istore 4, 2) := by decide +kernel
theorem dX9_measure_110 : decode cX9_measure 110 = .ok (.iload 4, 2) := by decide +kernel
theorem dX9_measure_112 : decode cX9_measure 112 = .ok (.aload_n 0, 1) := by decide +kernel
theorem dX9_measure_113 : decode cX9_measure 113 = .ok (.getfield 21, 3) := by decide +kernel
theorem dX9_measure_116 : decode cX9_measure 116 = .ok (.iload_n 1, 1) := by decide +kernel
theorem dX9_measure_117 : decode cX9_measure 117 = .ok (.iaload, 1) := by decide +kernel
theorem dX9_measure_118 : decode cX9_measure 118 = .ok (.if_icmp .ge 44, 3) := by decide +kernel
theorem dX9_measure_121 : decode cX9_measure 121 = .ok (.iload_n 3, 1) := by decide +kernel
theorem dX9_measure_122 : decode cX9_measure 122 = .ok (.aload_n 0, 1) := by decide +kernel
theorem dX9_measure_123 : decode cX9_measure 123 = .ok (.getfield 33, 3) := by decide +kernel
theorem dX9_measure_126 : decode cX9_measure 126 = .ok (.if_icmp .ge 36, 3) := by decide +kernel
theorem dX9_measure_129 : decode cX9_measure 129 = .ok (.iload_n 2, 1) := by decide +kernel
theorem dX9_measure_130 : decode cX9_measure 130 = .ok (.aload_n 0, 1) := by decide +kernel
theorem dX9_measure_131 : decode cX9_measure 131 = .ok (.getfield 24, 3) := by decide +kernel
theorem dX9_measure_134 : decode cX9_measure 134 = .ok (.iload_n 3, 1) := by decide +kernel
theorem dX9_measure_135 : decode cX9_measure 135 = .ok (.iaload, 1) := by decide +kernel
theorem dX9_measure_136 : decode cX9_measure 136 = .ok (.iadd, 1) := by decide +kernel
theorem dX9_measure_137 : decode cX9_measure 137 = .ok (.istore_n 2, 1) := by decide +kernel
theorem dX9_measure_138 : decode cX9_measure 138 = .ok (.aload_n 0, 1) := by decide +kernel
theorem dX9_measure_139 : decode cX9_measure 139 = .ok (.getfield 27, 3) := by decide +kernel
theorem dX9_measure_142 : decode cX9_measure 142 = .ok (.iload_n 3, 1) := by decide +kernel
theorem dX9_measure_143 : decode cX9_measure 143 = .ok (.iload_n 2, 1) := by decide +kernel
theorem dX9_measure_144 : decode cX9_measure 144 = .ok (.iconst 1, 1) := by decide +kernel
theorem dX9_measure_145 : decode cX9_measure 145 = .ok (.isub, 1) := by decide +kernel
theorem dX9_measure_146 : decode cX9_measure 146 = .ok (.iastore, 1) := by decide +kernel
theorem dX9_measure_147 : decode cX9_measure 147 = .ok (.iload_n 3, 1) := by decide +kernel
theorem dX9_measure_148 : decode cX9_measure 148 = .ok (.aload_n 0, 1) := by decide +kernel
theorem dX9_measure_149 : decode cX9_measure 149 = .ok (.getfield 24, 3) := by decide +kernel
theorem dX9_measure_152 : decode cX9_measure 152 = .ok (.iload_n 3, 1) := by decide +kernel
theorem dX9_measure_153 : decode cX9_measure 153 = .ok (.iaload, 1) := by decide +kernel
theorem dX9_measure_154 : decode cX9_measure 154 = .ok (.iadd, 1) := by decide +kernel
theorem dX9_measure_155 : decode cX9_measure 155 = .ok (.istore_n 3, 1) := by decide +kernel
theorem dX9_measure_156 : decode cX9_measure 156 = .ok (.iinc 4 1, 3) := by decide +kernel
theorem dX9_measure_159 : decode cX9_measure 159 = .ok (.goto (-49), 3) := by decide +kernel
theorem dX9_measure_162 : decode cX9_measure 162 = .ok (.iinc 1 1, 3) := by decide +kernel
theorem dX9_measure_165 : decode cX9_measure 165 = .ok (.goto (-86), 3) := by decide +kernel
theorem dX9_measure_168 : decode cX9_measure 168 = .ok (.iconst 0, 1) := by decide +kernel
theorem dX9_measure_169 : decode cX9_measure 169 = .ok (.istore_n 1, 1) := by decide +kernel
theorem dX9_measure_170 : decode cX9_measure 170 = .ok (.iload_n 1, 1) := by decide +kernel
theorem dX9_measure_171 : decode cX9_measure 171 = .ok (.aload_n 0, 1) := by decide +kernel
theorem dX9_measure_172 : decode cX9_measure 172 = .ok (.getfield 33, 3) := by decide +kernel
theorem dX9_measure_175 : decode cX9_measure 175 = .ok (.if_icmp .ge 41, 3) := by decide +kernel
theorem dX9_measure_178 : decode cX9_measure 178 = .ok (.aload_n 0, 1) := by decide +kernel
theorem dX9_measure_179 : decode cX9_measure 179 = .ok (.getfield 27, 3) := by decide +kernel
theorem dX9_measure_182 : decode cX9_measure 182 = .ok (.iload_n 1, 1) := by decide +kernel
theorem dX9_measure_183 : decode cX9_measure 183 = .ok (.iaload, 1) := by decide +kernel
theorem dX9_measure_184 : decode cX9_measure 184 = .ok (.ifCond .lt 26, 3) := by decide +kernel
theorem dX9_measure_187 : decode cX9_measure 187 = .ok (.aload_n 0, 1) := by decide +kernel
theorem dX9_measure_188 : decode cX9_measure 188 = .ok (.getfield 27, 3) := by decide +kernel
theorem dX9_measure_191 : decode cX9_measure 191 = .ok (.iload_n 1, 1) := by decide +kernel
theorem dX9_measure_192 : decode cX9_measure 192 = .ok (.iaload, 1) := by decide +kernel
theorem dX9_measure_193 : decode cX9_measure 193 = .ok (.bipush 80, 2) := by decide +kernel
theorem dX9_measure_195 : decode cX9_measure 195 = .ok (.if_icmp .ge 15, 3) := by decide +kernel
theorem dX9_measure_198 : decode cX9_measure 198 = .ok (.aload_n 0, 1) := by decide +kernel
theorem dX9_measure_199 : decode cX9_measure 199 = .ok (.getfield 30, 3) := by decide +kernel
theorem dX9_measure_202 : decode cX9_measure 202 = .ok (.aload_n 0, 1) := by decide +kernel
theorem dX9_measure_203 : decode cX9_measure 203 = .ok (.getfield 27, 3) := by decide +kernel
theorem dX9_measure_206 : decode cX9_measure 206 = .ok (.iload_n 1, 1) := by decide +kernel
theorem dX9_measure_207 : decode cX9_measure 207 = .ok (.iaload, 1) := by decide +kernel
theorem dX9_measure_208 : decode cX9_measure 208 = .ok (.iload_n 1, 1) := by decide +kernel
theorem dX9_measure_209 : decode cX9_measure 209 = .ok (.iastore, 1) := by decide +kernel
theorem dX9_measure_210 : decode cX9_measure 210 = .ok (.iinc 1 1, 3) := by decide +kernel
theorem dX9_measure_213 : decode cX9_measure 213 = .ok (.goto (-43), 3) := by decide +kernel
theorem dX9_measure_216 : decode cX9_measure 216 = .ok (.return_, 1) := by decide +kernel
theorem dX9_turn_0 : decode cX9_turn 0 = .ok (.aload_n 0, 1) := by decide +kernel
theorem dX9_turn_1 : decode cX9_turn 1 = .ok (.aload_n 1, 1) := by decide +kernel
theorem dX9_turn_2 : decode cX9_turn 2 = .ok (.getfield 33, 3) := by decide +kernel
theorem dX9_turn_5 : decode cX9_turn 5 = .ok (.putfield 33, 3) := by decide +kernel
theorem dX9_turn_8 : decode cX9_turn 8 = .ok (.iconst 0, 1) := by decide +kernel
theorem dX9_turn_9 : decode cX9_turn 9 = .ok (.istore_n 2, 1) := by decide +kernel
theorem dX9_turn_10 : decode cX9_turn 10 = .ok (.iload_n 2, 1) := by decide +kernel
theorem dX9_turn_11 : decode cX9_turn 11 = .ok (.aload_n 0, 1) := by decide +kernel
theorem dX9_turn_12 : decode cX9_turn 12 = .ok (.getfield 33, 3) := by decide +kernel
theorem dX9_turn_15 : decode cX9_turn 15 = .ok (.if_icmp .ge 57, 3) := by decide +kernel
theorem dX9_turn_18 : decode cX9_turn 18 = .ok (.iload_n 2, 1) := by decide +kernel
theorem dX9_turn_19 : decode cX9_turn 19 = .ok (.istore_n 3, 1) := by decide +kernel
theorem dX9_turn_20 : decode cX9_turn 20 = .ok (.iconst 0, 1) := by decide +kernel
theorem dX9_turn_21 : decode cX9_turn 21 = .ok (.istore 4, 2) := by decide +kernel
theorem dX9_turn_23 : decode cX9_turn 23 = .ok (.iload 4, 2) := by decide +kernel
theorem dX9_turn_25 : decode cX9_turn 25 = .ok (.aload_n 1, 1) := by decide +kernel
theorem dX9_turn_26 : decode cX9_turn 26 = .ok (.getfield 21, 3) := by decide +kernel
theorem dX9_turn_29 : decode cX9_turn 29 = .ok (.iload_n 2, 1) := by decide +kernel
theorem dX9_turn_30 : decode cX9_turn 30 = .ok (.iaload, 1) := by decide +kernel
theorem dX9_turn_31 : decode cX9_turn 31 = .ok (.if_icmp .ge 24, 3) := by decide +kernel
theorem dX9_turn_34 : decode cX9_turn 34 = .ok (.iload_n 3, 1) := by decide +kernel
theorem dX9_turn_35 : decode cX9_turn 35 = .ok (.ifCond .le 20, 3) := by decide +kernel
theorem dX9_turn_38 : decode cX9_turn 38 = .ok (.iload_n 3, 1) := by decide +kernel
theorem dX9_turn_39 : decode cX9_turn 39 = .ok (.aload_n 1, 1) := by decide +kernel
theorem dX9_turn_40 : decode cX9_turn 40 = .ok (.getfield 24, 3) := by decide +kernel
theorem dX9_turn_43 : decode cX9_turn 43 = .ok (.iload_n 3, 1) := by decide +kernel
theorem dX9_turn_44 : decode cX9_turn 44 = .ok (.iconst 1, 1) := by decide +kernel
theorem dX9_turn_45 : decode cX9_turn 45 = .ok (.isub, 1) := by decide +kernel
theorem dX9_turn_46 : decode cX9_turn 46 = .ok (.iaload, 1) := by decide +kernel
theorem dX9_turn_47 : decode cX9_turn 47 = .ok (.isub, 1) := by decide +kernel
theorem dX9_turn_48 : decode cX9_turn 48 = .ok (.istore_n 3, 1) := by decide +kernel
theorem dX9_turn_49 : decode cX9_turn 49 = .ok (.iinc 4 1, 3) := by decide +kernel
theorem dX9_turn_52 : decode cX9_turn 52 = .ok (.goto (-29), 3) := by decide +kernel
theorem dX9_turn_55 : decode cX9_turn 55 = .ok (.aload_n 1, 1) := by decide +kernel
theorem dX9_turn_56 : decode cX9_turn 56 = .ok (.getfield 24, 3) := by decide +kernel
theorem dX9_turn_59 : decode cX9_turn 59 = .ok (.iload_n 2, 1) := by decide +kernel
theorem dX9_turn_60 : decode cX9_turn 60 = .ok (.iload_n 2, 1) := by decide +kernel
theorem dX9_turn_61 : decode cX9_turn 61 = .ok (.iload_n 3, 1) := by decide +kernel
theorem dX9_turn_62 : decode cX9_turn 62 = .ok (.isub, 1) := by decide +kernel
theorem dX9_turn_63 : decode cX9_turn 63 = .ok (.iconst 1, 1) := by decide +kernel
theorem dX9_turn_64 : decode cX9_turn 64 = .ok (.iadd, 1) := by decide +kernel
theorem dX9_turn_65 : decode cX9_turn 65 = .ok (.iastore, 1) := by decide +kernel
theorem dX9_turn_66 : decode cX9_turn 66 = .ok (.iinc 2 1, 3) := by decide +kernel
theorem dX9_turn_69 : decode cX9_turn 69 = .ok (.goto (-59), 3) := by decide +kernel
theorem dX9_turn_72 : decode cX9_turn 72 = .ok (.aload_n 1, 1) := by decide +kernel
theorem dX9_turn_73 : decode cX9_turn 73 = .ok (.getfield 27, 3) := by decide +kernel
theorem dX9_turn_76 : decode cX9_turn 76 = .ok (.aload_n 0, 1) := by decide +kernel
theorem dX9_turn_77 : decode cX9_turn 77 = .ok (.getfield 33, 3) := by decide +kernel
theorem dX9_turn_80 : decode cX9_turn 80 = .ok (.iconst 1, 1) := by decide +kernel
theorem dX9_turn_81 : decode cX9_turn 81 = .ok (.isub, 1) := by decide +kernel
theorem dX9_turn_82 : decode cX9_turn 82 = .ok (.iconst 0, 1) := by decide +kernel
theorem dX9_turn_83 : decode cX9_turn 83 = .ok (.invokestatic 60, 3) := by decide +kernel
theorem dX9_turn_86 : decode cX9_turn 86 = .ok (.iconst 0, 1) := by decide +kernel
theorem dX9_turn_87 : decode cX9_turn 87 = .ok (.iastore, 1) := by decide +kernel
theorem dX9_turn_88 : decode cX9_turn 88 = .ok (.aload_n 0, 1) := by decide +kernel
theorem dX9_turn_89 : decode cX9_turn 89 = .ok (.getfield 33, 3) := by decide +kernel
theorem dX9_turn_92 : decode cX9_turn 92 = .ok (.iconst 1, 1) := by decide +kernel
theorem dX9_turn_93 : decode cX9_turn 93 = .ok (.isub, 1) := by decide +kernel
theorem dX9_turn_94 : decode cX9_turn 94 = .ok (.istore_n 2, 1) := by decide +kernel
theorem dX9_turn_95 : decode cX9_turn 95 = .ok (.iload_n 2, 1) := by decide +kernel
theorem dX9_turn_96 : decode cX9_turn 96 = .ok (.ifCond .lt 95, 3) := by decide +kernel
theorem dX9_turn_99 : decode cX9_turn 99 = .ok (.aload_n 1, 1) := by decide +kernel
theorem dX9_turn_100 : decode cX9_turn 100 = .ok (.getfield 27, 3) := by decide +kernel
theorem dX9_turn_103 : decode cX9_turn 103 = .ok (.iload_n 2, 1) := by decide +kernel
theorem dX9_turn_104 : decode cX9_turn 104 = .ok (.iaload, 1) := by decide +kernel
theorem dX9_turn_105 : decode cX9_turn 105 = .ok (.aload_n 1, 1) := by decide +kernel
theorem dX9_turn_106 : decode cX9_turn 106 = .ok (.getfield 24, 3) := by decide +kernel
theorem dX9_turn_109 : decode cX9_turn 109 = .ok (.iload_n 2, 1) := by decide +kernel
theorem dX9_turn_110 : decode cX9_turn 110 = .ok (.iaload, 1) := by decide +kernel
theorem dX9_turn_111 : decode cX9_turn 111 = .ok (.iadd, 1) := by decide +kernel
theorem dX9_turn_112 : decode cX9_turn 112 = .ok (.istore_n 3, 1) := by decide +kernel
theorem dX9_turn_113 : decode cX9_turn 113 = .ok (.iload_n 2, 1) := by decide +kernel
theorem dX9_turn_114 : decode cX9_turn 114 = .ok (.iconst 1, 1) := by decide +kernel
theorem dX9_turn_115 : decode cX9_turn 115 = .ok (.isub, 1) := by decide +kernel
theorem dX9_turn_116 : decode cX9_turn 116 = .ok (.istore 4, 2) := by decide +kernel
theorem dX9_turn_118 : decode cX9_turn 118 = .ok (.iconst 0, 1) := by decide +kernel
theorem dX9_turn_119 : decode cX9_turn 119 = .ok (.istore 5, 2) := by decide +kernel
theorem dX9_turn_121 : decode cX9_turn 121 = .ok (.iload 5, 2) := by decide +kernel
theorem dX9_turn_123 : decode cX9_turn 123 = .ok (.aload_n 1, 1) := by decide +kernel
theorem dX9_turn_124 : decode cX9_turn 124 = .ok (.getfield 21, 3) := by decide +kernel
theorem dX9_turn_127 : decode cX9_turn 127 = .ok (.iload_n 2, 1) := by decide +kernel
theorem dX9_turn_128 : decode cX9_turn 128 = .ok (.iaload, 1) := by decide +kernel
theorem dX9_turn_129 : decode cX9_turn 129 = .ok (.if_icmp .ge 44, 3) := by decide +kernel
theorem dX9_turn_132 : decode cX9_turn 132 = .ok (.iload 4, 2) := by decide +kernel
theorem dX9_turn_134 : decode cX9_turn 134 = .ok (.ifCond .lt 39, 3) := by decide +kernel
theorem dX9_turn_137 : decode cX9_turn 137 = .ok (.iload_n 3, 1) := by decide +kernel
theorem dX9_turn_138 : decode cX9_turn 138 = .ok (.aload_n 1, 1) := by decide +kernel
theorem dX9_turn_139 : decode cX9_turn 139 = .ok (.getfield 24, 3) := by decide +kernel
theorem dX9_turn_142 : decode cX9_turn 142 = .ok (.iload 4, 2) := by decide +kernel
theorem dX9_turn_144 : decode cX9_turn 144 = .ok (.iaload, 1) := by decide +kernel
theorem dX9_turn_145 : decode cX9_turn 145 = .ok (.isub, 1) := by decide +kernel
theorem dX9_turn_146 : decode cX9_turn 146 = .ok (.istore_n 3, 1) := by decide +kernel
theorem dX9_turn_147 : decode cX9_turn 147 = .ok (.aload_n 1, 1) := by decide +kernel
theorem dX9_turn_148 : decode cX9_turn 148 = .ok (.getfield 27, 3) := by decide +kernel
theorem dX9_turn_151 : decode cX9_turn 151 = .ok (.iload 4, 2) := by decide +kernel
theorem dX9_turn_153 : decode cX9_turn 153 = .ok (.iload_n 3, 1) := by decide +kernel
theorem dX9_turn_154 : decode cX9_turn 154 = .ok (.iastore, 1) := by decide +kernel
theorem dX9_turn_155 : decode cX9_turn 155 = .ok (.iload 4, 2) := by decide +kernel
theorem dX9_turn_157 : decode cX9_turn 157 = .ok (.aload_n 1, 1) := by decide +kernel
theorem dX9_turn_158 : decode cX9_turn 158 = .ok (.getfield 24, 3) := by decide +kernel
theorem dX9_turn_161 : decode cX9_turn 161 = .ok (.iload 4, 2) := by decide +kernel
theorem dX9_turn_163 : decode cX9_turn 163 = .ok (.iaload, 1) := by decide +kernel
theorem dX9_turn_164 : decode cX9_turn 164 = .ok (.isub, 1) := by decide +kernel
theorem dX9_turn_165 : decode cX9_turn 165 = .ok (.istore 4, 2) := by decide +kernel
theorem dX9_turn_167 : decode cX9_turn 167 = .ok (.iinc 5 1, 3) := by decide +kernel
theorem dX9_turn_170 : decode cX9_turn 170 = .ok (.goto (-49), 3) := by decide +kernel
theorem dX9_turn_173 : decode cX9_turn 173 = .ok (.aload_n 0, 1) := by decide +kernel
theorem dX9_turn_174 : decode cX9_turn 174 = .ok (.aload_n 1, 1) := by decide +kernel
theorem dX9_turn_175 : decode cX9_turn 175 = .ok (.getfield 27, 3) := by decide +kernel
theorem dX9_turn_178 : decode cX9_turn 178 = .ok (.iload_n 2, 1) := by decide +kernel
theorem dX9_turn_179 : decode cX9_turn 179 = .ok (.iaload, 1) := by decide +kernel
theorem dX9_turn_180 : decode cX9_turn 180 = .ok (.aload_n 1, 1) := by decide +kernel
theorem dX9_turn_181 : decode cX9_turn 181 = .ok (.iload_n 2, 1) := by decide +kernel
theorem dX9_turn_182 : decode cX9_turn 182 = .ok (.invokevirtual 63, 3) := by decide +kernel
theorem dX9_turn_185 : decode cX9_turn 185 = .ok (.iinc 2 (-1), 3) := by decide +kernel
theorem dX9_turn_188 : decode cX9_turn 188 = .ok (.goto (-93), 3) := by decide +kernel
theorem dX9_turn_191 : decode cX9_turn 191 = .ok (.aload_n 0, 1) := by decide +kernel
theorem dX9_turn_192 : decode cX9_turn 192 = .ok (.invokevirtual 57, 3) := by decide +kernel
theorem dX9_turn_195 : decode cX9_turn 195 = .ok (.return_, 1) := by decide +kernel
theorem dX9_put_0 : decode cX9_put 0 = .ok (.iload_n 1, 1) := by decide +kernel
theorem dX9_put_1 : decode cX9_put 1 = .ok (.ifCond .lt 59, 3) := by decide +kernel
theorem dX9_put_4 : decode cX9_put 4 = .ok (.iload_n 1, 1) := by decide +kernel
theorem dX9_put_5 : decode cX9_put 5 = .ok (.aload_n 0, 1) := by decide +kernel
theorem dX9_put_6 : decode cX9_put 6 = .ok (.getfield 33, 3) := by decide +kernel
theorem dX9_put_9 : decode cX9_put 9 = .ok (.if_icmp .ge 51, 3) := by decide +kernel
theorem dX9_put_12 : decode cX9_put 12 = .ok (.aload_n 0, 1) := by decide +kernel
theorem dX9_put_13 : decode cX9_put 13 = .ok (.getfield 11, 3) := by decide +kernel
theorem dX9_put_16 : decode cX9_put 16 = .ok (.iload_n 1, 1) := by decide +kernel
theorem dX9_put_17 : decode cX9_put 17 = .ok (.aload_n 2, 1) := by decide +kernel
theorem dX9_put_18 : decode cX9_put 18 = .ok (.getfield 11, 3) := by decide +kernel
theorem dX9_put_21 : decode cX9_put 21 = .ok (.iload_n 3, 1) := by decide +kernel
theorem dX9_put_22 : decode cX9_put 22 = .ok (.iaload, 1) := by decide +kernel
theorem dX9_put_23 : decode cX9_put 23 = .ok (.iastore, 1) := by decide +kernel
theorem dX9_put_24 : decode cX9_put 24 = .ok (.aload_n 0, 1) := by decide +kernel
theorem dX9_put_25 : decode cX9_put 25 = .ok (.getfield 15, 3) := by decide +kernel
theorem dX9_put_28 : decode cX9_put 28 = .ok (.iload_n 1, 1) := by decide +kernel
theorem dX9_put_29 : decode cX9_put 29 = .ok (.aload_n 2, 1) := by decide +kernel
theorem dX9_put_30 : decode cX9_put 30 = .ok (.getfield 15, 3) := by decide +kernel
theorem dX9_put_33 : decode cX9_put 33 = .ok (.iload_n 3, 1) := by decide +kernel
theorem dX9_put_34 : decode cX9_put 34 = .ok (.iaload, 1) := by decide +kernel
theorem dX9_put_35 : decode cX9_put 35 = .ok (.iastore, 1) := by decide +kernel
theorem dX9_put_36 : decode cX9_put 36 = .ok (.aload_n 0, 1) := by decide +kernel
theorem dX9_put_37 : decode cX9_put 37 = .ok (.getfield 18, 3) := by decide +kernel
theorem dX9_put_40 : decode cX9_put 40 = .ok (.iload_n 1, 1) := by decide +kernel
theorem dX9_put_41 : decode cX9_put 41 = .ok (.aload_n 2, 1) := by decide +kernel
theorem dX9_put_42 : decode cX9_put 42 = .ok (.getfield 18, 3) := by decide +kernel
theorem dX9_put_45 : decode cX9_put 45 = .ok (.iload_n 3, 1) := by decide +kernel
theorem dX9_put_46 : decode cX9_put 46 = .ok (.iaload, 1) := by decide +kernel
theorem dX9_put_47 : decode cX9_put 47 = .ok (.iastore, 1) := by decide +kernel
theorem dX9_put_48 : decode cX9_put 48 = .ok (.aload_n 0, 1) := by decide +kernel
theorem dX9_put_49 : decode cX9_put 49 = .ok (.getfield 21, 3) := by decide +kernel
theorem dX9_put_52 : decode cX9_put 52 = .ok (.iload_n 1, 1) := by decide +kernel
theorem dX9_put_53 : decode cX9_put 53 = .ok (.aload_n 2, 1) := by decide +kernel
theorem dX9_put_54 : decode cX9_put 54 = .ok (.getfield 21, 3) := by decide +kernel
theorem dX9_put_57 : decode cX9_put 57 = .ok (.iload_n 3, 1) := by decide +kernel
theorem dX9_put_58 : decode cX9_put 58 = .ok (.iaload, 1) := by decide +kernel
theorem dX9_put_59 : decode cX9_put 59 = .ok (.iastore, 1) := by decide +kernel
theorem dX9_put_60 : decode cX9_put 60 = .ok (.return_, 1) := by decide +kernel
theorem dX9_keepOnly_0 : decode cX9_keepOnly 0 = .ok (.iload_n 1, 1) := by decide +kernel
theorem dX9_keepOnly_1 : decode cX9_keepOnly 1 = .ok (.aload_n 0, 1) := by decide +kernel
theorem dX9_keepOnly_2 : decode cX9_keepOnly 2 = .ok (.getfield 24, 3) := by decide +kernel
theorem dX9_keepOnly_5 : decode cX9_keepOnly 5 = .ok (.iload_n 1, 1) := by decide +kernel
theorem dX9_keepOnly_6 : decode cX9_keepOnly 6 = .ok (.iaload, 1) := by decide +kernel
theorem dX9_keepOnly_7 : decode cX9_keepOnly 7 = .ok (.iadd, 1) := by decide +kernel
theorem dX9_keepOnly_8 : decode cX9_keepOnly 8 = .ok (.istore_n 3, 1) := by decide +kernel
theorem dX9_keepOnly_9 : decode cX9_keepOnly 9 = .ok (.iload_n 2, 1) := by decide +kernel
theorem dX9_keepOnly_10 : decode cX9_keepOnly 10 = .ok (.aload_n 0, 1) := by decide +kernel
theorem dX9_keepOnly_11 : decode cX9_keepOnly 11 = .ok (.getfield 24, 3) := by decide +kernel
theorem dX9_keepOnly_14 : decode cX9_keepOnly 14 = .ok (.iload_n 2, 1) := by decide +kernel
theorem dX9_keepOnly_15 : decode cX9_keepOnly 15 = .ok (.iaload, 1) := by decide +kernel
theorem dX9_keepOnly_16 : decode cX9_keepOnly 16 = .ok (.iadd, 1) := by decide +kernel
theorem dX9_keepOnly_17 : decode cX9_keepOnly 17 = .ok (.istore 4, 2) := by decide +kernel
theorem dX9_keepOnly_19 : decode cX9_keepOnly 19 = .ok (.aload_n 0, 1) := by decide +kernel
theorem dX9_keepOnly_20 : decode cX9_keepOnly 20 = .ok (.iload 4, 2) := by decide +kernel
theorem dX9_keepOnly_22 : decode cX9_keepOnly 22 = .ok (.iload_n 3, 1) := by decide +kernel
theorem dX9_keepOnly_23 : decode cX9_keepOnly 23 = .ok (.invokevirtual 71, 3) := by decide +kernel
theorem dX9_keepOnly_26 : decode cX9_keepOnly 26 = .ok (.aload_n 0, 1) := by decide +kernel
theorem dX9_keepOnly_27 : decode cX9_keepOnly 27 = .ok (.iload_n 1, 1) := by decide +kernel
theorem dX9_keepOnly_28 : decode cX9_keepOnly 28 = .ok (.iload_n 2, 1) := by decide +kernel
theorem dX9_keepOnly_29 : decode cX9_keepOnly 29 = .ok (.invokevirtual 71, 3) := by decide +kernel
theorem dX9_keepOnly_32 : decode cX9_keepOnly 32 = .ok (.aload_n 0, 1) := by decide +kernel
theorem dX9_keepOnly_33 : decode cX9_keepOnly 33 = .ok (.invokevirtual 57, 3) := by decide +kernel
theorem dX9_keepOnly_36 : decode cX9_keepOnly 36 = .ok (.return_, 1) := by decide +kernel
theorem dX9_makeNumber_0 : decode cX9_makeNumber 0 = .ok (.aload_n 0, 1) := by decide +kernel
theorem dX9_makeNumber_1 : decode cX9_makeNumber 1 = .ok (.iload_n 1, 1) := by decide +kernel
theorem dX9_makeNumber_2 : decode cX9_makeNumber 2 = .ok (.iconst 1, 1) := by decide +kernel
theorem dX9_makeNumber_3 : decode cX9_makeNumber 3 = .ok (.iadd, 1) := by decide +kernel
theorem dX9_makeNumber_4 : decode cX9_makeNumber 4 = .ok (.iload_n 1, 1) := by decide +kernel
theorem dX9_makeNumber_5 : decode cX9_makeNumber 5 = .ok (.aload_n 0, 1) := by decide +kernel
theorem dX9_makeNumber_6 : decode cX9_makeNumber 6 = .ok (.getfield 24, 3) := by decide +kernel
theorem dX9_makeNumber_9 : decode cX9_makeNumber 9 = .ok (.iload_n 1, 1) := by decide +kernel
theorem dX9_makeNumber_10 : decode cX9_makeNumber 10 = .ok (.iaload, 1) := by decide +kernel
theorem dX9_makeNumber_11 : decode cX9_makeNumber 11 = .ok (.iadd, 1) := by decide +kernel
theorem dX9_makeNumber_12 : decode cX9_makeNumber 12 = .ok (.invokevirtual 71, 3) := by decide +kernel
theorem dX9_makeNumber_15 : decode cX9_makeNumber 15 = .ok (.aload_n 0, 1) := by decide +kernel
theorem dX9_makeNumber_16 : decode cX9_makeNumber 16 = .ok (.getfield 11, 3) := by decide +kernel
theorem dX9_makeNumber_19 : decode cX9_makeNumber 19 = .ok (.iload_n 1, 1) := by decide +kernel
theorem dX9_makeNumber_20 : decode cX9_makeNumber 20 = .ok (.iconst 0, 1) := by decide +kernel
theorem dX9_makeNumber_21 : decode cX9_makeNumber 21 = .ok (.iastore, 1) := by decide +kernel
theorem dX9_makeNumber_22 : decode cX9_makeNumber 22 = .ok (.aload_n 0, 1) := by decide +kernel
theorem dX9_makeNumber_23 : decode cX9_makeNumber 23 = .ok (.getfield 15, 3) := by decide +kernel
theorem dX9_makeNumber_26 : decode cX9_makeNumber 26 = .ok (.iload_n 1, 1) := by decide +kernel
theorem dX9_makeNumber_27 : decode cX9_makeNumber 27 = .ok (.iload_n 2, 1) := by decide +kernel
theorem dX9_makeNumber_28 : decode cX9_makeNumber 28 = .ok (.iastore, 1) := by decide +kernel
theorem dX9_makeNumber_29 : decode cX9_makeNumber 29 = .ok (.aload_n 0, 1) := by decide +kernel
theorem dX9_makeNumber_30 : decode cX9_makeNumber 30 = .ok (.getfield 18, 3) := by decide +kernel
theorem dX9_makeNumber_33 : decode cX9_makeNumber 33 = .ok (.iload_n 1, 1) := by decide +kernel
theorem dX9_makeNumber_34 : decode cX9_makeNumber 34 = .ok (.iconst (-1), 1) := by decide +kernel
theorem dX9_makeNumber_35 : decode cX9_makeNumber 35 = .ok (.iastore, 1) := by decide +kernel
theorem dX9_makeNumber_36 : decode cX9_makeNumber 36 = .ok (.aload_n 0, 1) := by decide +kernel
theorem dX9_makeNumber_37 : decode cX9_makeNumber 37 = .ok (.getfield 21, 3) := by decide +kernel
theorem dX9_makeNumber_40 : decode cX9_makeNumber 40 = .ok (.iload_n 1, 1) := by decide +kernel
theorem dX9_makeNumber_41 : decode cX9_makeNumber 41 = .ok (.iconst 0, 1) := by decide +kernel
theorem dX9_makeNumber_42 : decode cX9_makeNumber 42 = .ok (.iastore, 1) := by decide +kernel
theorem dX9_makeNumber_43 : decode cX9_makeNumber 43 = .ok (.aload_n 0, 1) := by decide +kernel
theorem dX9_makeNumber_44 : decode cX9_makeNumber 44 = .ok (.invokevirtual 57, 3) := by decide +kernel
theorem dX9_makeNumber_47 : decode cX9_makeNumber 47 = .ok (.return_, 1) := by decide +kernel
theorem dX9_cut_0 : decode cX9_cut 0 = .ok (.iload_n 2, 1) := by decide +kernel
theorem dX9_cut_1 : decode cX9_cut 1 = .ok (.iload_n 1, 1) := by decide +kernel
theorem dX9_cut_2 : decode cX9_cut 2 = .ok (.isub, 1) := by decide +kernel
theorem dX9_cut_3 : decode cX9_cut 3 = .ok (.istore_n 3, 1) := by decide +kernel
theorem dX9_cut_4 : decode cX9_cut 4 = .ok (.iload_n 3, 1) := by decide +kernel
theorem dX9_cut_5 : decode cX9_cut 5 = .ok (.ifCond .le 15, 3) := by decide +kernel
theorem dX9_cut_8 : decode cX9_cut 8 = .ok (.iload_n 1, 1) := by decide +kernel
theorem dX9_cut_9 : decode cX9_cut 9 = .ok (.ifCond .lt 11, 3) := by decide +kernel
theorem dX9_cut_12 : decode cX9_cut 12 = .ok (.iload_n 2, 1) := by decide +kernel
theorem dX9_cut_13 : decode cX9_cut 13 = .ok (.aload_n 0, 1) := by decide +kernel
theorem dX9_cut_14 : decode cX9_cut 14 = .ok (.getfield 33, 3) := by decide +kernel
theorem dX9_cut_17 : decode cX9_cut 17 = .ok (.if_icmp .le 4, 3) := by decide +kernel
theorem dX9_cut_20 : decode cX9_cut 20 = .ok (.return_, 1) := by decide +kernel
theorem dX9_cut_21 : decode cX9_cut 21 = .ok (.iload_n 2, 1) := by decide +kernel
theorem dX9_cut_22 : decode cX9_cut 22 = .ok (.istore 4, 2) := by decide +kernel
theorem dX9_cut_24 : decode cX9_cut 24 = .ok (.iload 4, 2) := by decide +kernel
theorem dX9_cut_26 : decode cX9_cut 26 = .ok (.aload_n 0, 1) := by decide +kernel
theorem dX9_cut_27 : decode cX9_cut 27 = .ok (.getfield 33, 3) := by decide +kernel
theorem dX9_cut_30 : decode cX9_cut 30 = .ok (.if_icmp .ge 73, 3) := by decide +kernel
theorem dX9_cut_33 : decode cX9_cut 33 = .ok (.aload_n 0, 1) := by decide +kernel
theorem dX9_cut_34 : decode cX9_cut 34 = .ok (.getfield 11, 3) := by decide +kernel
theorem dX9_cut_37 : decode cX9_cut 37 = .ok (.iload 4, 2) := by decide +kernel
theorem dX9_cut_39 : decode cX9_cut 39 = .ok (.iload_n 3, 1) := by decide +kernel
theorem dX9_cut_40 : decode cX9_cut 40 = .ok (.isub, 1) := by decide +kernel
theorem dX9_cut_41 : decode cX9_cut 41 = .ok (.aload_n 0, 1) := by decide +kernel
theorem dX9_cut_42 : decode cX9_cut 42 = .ok (.getfield 11, 3) := by decide +kernel
theorem dX9_cut_45 : decode cX9_cut 45 = .ok (.iload 4, 2) := by decide +kernel
theorem dX9_cut_47 : decode cX9_cut 47 = .ok (.iaload, 1) := by decide +kernel
theorem dX9_cut_48 : decode cX9_cut 48 = .ok (.iastore, 1) := by decide +kernel
theorem dX9_cut_49 : decode cX9_cut 49 = .ok (.aload_n 0, 1) := by decide +kernel
theorem dX9_cut_50 : decode cX9_cut 50 = .ok (.getfield 15, 3) := by decide +kernel
theorem dX9_cut_53 : decode cX9_cut 53 = .ok (.iload 4, 2) := by decide +kernel
theorem dX9_cut_55 : decode cX9_cut 55 = .ok (.iload_n 3, 1) := by decide +kernel
theorem dX9_cut_56 : decode cX9_cut 56 = .ok (.isub, 1) := by decide +kernel
theorem dX9_cut_57 : decode cX9_cut 57 = .ok (.aload_n 0, 1) := by decide +kernel
theorem dX9_cut_58 : decode cX9_cut 58 = .ok (.getfield 15, 3) := by decide +kernel
theorem dX9_cut_61 : decode cX9_cut 61 = .ok (.iload 4, 2) := by decide +kernel
theorem dX9_cut_63 : decode cX9_cut 63 = .ok (.iaload, 1) := by decide +kernel
theorem dX9_cut_64 : decode cX9_cut 64 = .ok (.iastore, 1) := by decide +kernel
theorem dX9_cut_65 : decode cX9_cut 65 = .ok (.aload_n 0, 1) := by decide +kernel
theorem dX9_cut_66 : decode cX9_cut 66 = .ok (.getfield 18, 3) := by decide +kernel
theorem dX9_cut_69 : decode cX9_cut 69 = .ok (.iload 4, 2) := by decide +kernel
theorem dX9_cut_71 : decode cX9_cut 71 = .ok (.iload_n 3, 1) := by decide +kernel
theorem dX9_cut_72 : decode cX9_cut 72 = .ok (.isub, 1) := by decide +kernel
theorem dX9_cut_73 : decode cX9_cut 73 = .ok (.aload_n 0, 1) := by decide +kernel
theorem dX9_cut_74 : decode cX9_cut 74 = .ok (.getfield 18, 3) := by decide +kernel
theorem dX9_cut_77 : decode cX9_cut 77 = .ok (.iload 4, 2) := by decide +kernel
theorem dX9_cut_79 : decode cX9_cut 79 = .ok (.iaload, 1) := by decide +kernel
theorem dX9_cut_80 : decode cX9_cut 80 = .ok (.iastore, 1) := by decide +kernel
theorem dX9_cut_81 : decode cX9_cut 81 = .ok (.aload_n 0, 1) := by decide +kernel
theorem dX9_cut_82 : decode cX9_cut 82 = .ok (.getfield 21, 3) := by decide +kernel
theorem dX9_cut_85 : decode cX9_cut 85 = .ok (.iload 4, 2) := by decide +kernel
theorem dX9_cut_87 : decode cX9_cut 87 = .ok (.iload_n 3, 1) := by decide +kernel
theorem dX9_cut_88 : decode cX9_cut 88 = .ok (.isub, 1) := by decide +kernel
theorem dX9_cut_89 : decode cX9_cut 89 = .ok (.aload_n 0, 1) := by decide +kernel
theorem dX9_cut_90 : decode cX9_cut 90 = .ok (.getfield 21, 3) := by decide +kernel
theorem dX9_cut_93 : decode cX9_cut 93 = .ok (.iload 4, 2) := by decide +kernel
theorem dX9_cut_95 : decode cX9_cut 95 = .ok (.iaload, 1) := by decide +kernel
theorem dX9_cut_96 : decode cX9_cut 96 = .ok (.iastore, 1) := by decide +kernel
theorem dX9_cut_97 : decode cX9_cut 97 = .ok (.iinc 4 1, 3) := by decide +kernel
theorem dX9_cut_100 : decode cX9_cut 100 = .ok (.goto (-76), 3) := by decide +kernel
theorem dX9_cut_103 : decode cX9_cut 103 = .ok (.aload_n 0, 1) := by decide +kernel
theorem dX9_cut_104 : decode cX9_cut 104 = .ok (.dup, 1) := by decide +kernel
theorem dX9_cut_105 : decode cX9_cut 105 = .ok (.getfield 33, 3) := by decide +kernel
theorem dX9_cut_108 : decode cX9_cut 108 = .ok (.iload_n 3, 1) := by decide +kernel
theorem dX9_cut_109 : decode cX9_cut 109 = .ok (.isub, 1) := by decide +kernel
theorem dX9_cut_110 : decode cX9_cut 110 = .ok (.putfield 33, 3) := by decide +kernel
theorem dX9_cut_113 : decode cX9_cut 113 = .ok (.return_, 1) := by decide +kernel
theorem dX9_child_0 : decode cX9_child 0 = .ok (.iload_n 1, 1) := by decide +kernel
theorem dX9_child_1 : decode cX9_child 1 = .ok (.iconst 1, 1) := by decide +kernel
theorem dX9_child_2 : decode cX9_child 2 = .ok (.iadd, 1) := by decide +kernel
theorem dX9_child_3 : decode cX9_child 3 = .ok (.istore_n 3, 1) := by decide +kernel
theorem dX9_child_4 : decode cX9_child 4 = .ok (.iconst 0, 1) := by decide +kernel
theorem dX9_child_5 : decode cX9_child 5 = .ok (.istore 4, 2) := by decide +kernel
theorem dX9_child_7 : decode cX9_child 7 = .ok (.iload 4, 2) := by decide +kernel
theorem dX9_child_9 : decode cX9_child 9 = .ok (.iload_n 2, 1) := by decide +kernel
theorem dX9_child_10 : decode cX9_child 10 = .ok (.if_icmp .ge 26, 3) := by decide +kernel
theorem dX9_child_13 : decode cX9_child 13 = .ok (.iload_n 3, 1) := by decide +kernel
theorem dX9_child_14 : decode cX9_child 14 = .ok (.aload_n 0, 1) := by decide +kernel
theorem dX9_child_15 : decode cX9_child 15 = .ok (.getfield 33, 3) := by decide +kernel
theorem dX9_child_18 : decode cX9_child 18 = .ok (.if_icmp .ge 18, 3) := by decide +kernel
theorem dX9_child_21 : decode cX9_child 21 = .ok (.iload_n 3, 1) := by decide +kernel
theorem dX9_child_22 : decode cX9_child 22 = .ok (.aload_n 0, 1) := by decide +kernel
theorem dX9_child_23 : decode cX9_child 23 = .ok (.getfield 24, 3) := by decide +kernel
theorem dX9_child_26 : decode cX9_child 26 = .ok (.iload_n 3, 1) := by decide +kernel
theorem dX9_child_27 : decode cX9_child 27 = .ok (.iaload, 1) := by decide +kernel
theorem dX9_child_28 : decode cX9_child 28 = .ok (.iadd, 1) := by decide +kernel
theorem dX9_child_29 : decode cX9_child 29 = .ok (.istore_n 3, 1) := by decide +kernel
theorem dX9_child_30 : decode cX9_child 30 = .ok (.iinc 4 1, 3) := by decide +kernel
theorem dX9_child_33 : decode cX9_child 33 = .ok (.goto (-26), 3) := by decide +kernel
theorem dX9_child_36 : decode cX9_child 36 = .ok (.iload_n 3, 1) := by decide +kernel
theorem dX9_child_37 : decode cX9_child 37 = .ok (.aload_n 0, 1) := by decide +kernel
theorem dX9_child_38 : decode cX9_child 38 = .ok (.getfield 33, 3) := by decide +kernel
theorem dX9_child_41 : decode cX9_child 41 = .ok (.iconst 1, 1) := by decide +kernel
theorem dX9_child_42 : decode cX9_child 42 = .ok (.isub, 1) := by decide +kernel
theorem dX9_child_43 : decode cX9_child 43 = .ok (.invokestatic 41, 3) := by decide +kernel
theorem dX9_child_46 : decode cX9_child 46 = .ok (.ireturn, 1) := by decide +kernel
theorem dX9_parentOf_0 : decode cX9_parentOf 0 = .ok (.iload_n 1, 1) := by decide +kernel
theorem dX9_parentOf_1 : decode cX9_parentOf 1 = .ok (.iconst 1, 1) := by decide +kernel
theorem dX9_parentOf_2 : decode cX9_parentOf 2 = .ok (.isub, 1) := by decide +kernel
theorem dX9_parentOf_3 : decode cX9_parentOf 3 = .ok (.istore_n 2, 1) := by decide +kernel
theorem dX9_parentOf_4 : decode cX9_parentOf 4 = .ok (.iload_n 2, 1) := by decide +kernel
theorem dX9_parentOf_5 : decode cX9_parentOf 5 = .ok (.ifCond .lt 23, 3) := by decide +kernel
theorem dX9_parentOf_8 : decode cX9_parentOf 8 = .ok (.iload_n 2, 1) := by decide +kernel
theorem dX9_parentOf_9 : decode cX9_parentOf 9 = .ok (.aload_n 0, 1) := by decide +kernel
theorem dX9_parentOf_10 : decode cX9_parentOf 10 = .ok (.getfield 24, 3) := by decide +kernel
theorem dX9_parentOf_13 : decode cX9_parentOf 13 = .ok (.iload_n 2, 1) := by decide +kernel
theorem dX9_parentOf_14 : decode cX9_parentOf 14 = .ok (.iaload, 1) := by decide +kernel
theorem dX9_parentOf_15 : decode cX9_parentOf 15 = .ok (.iadd, 1) := by decide +kernel
theorem dX9_parentOf_16 : decode cX9_parentOf 16 = .ok (.iload_n 1, 1) := by decide +kernel
theorem dX9_parentOf_17 : decode cX9_parentOf 17 = .ok (.if_icmp .le 5, 3) := by decide +kernel
theorem dX9_parentOf_20 : decode cX9_parentOf 20 = .ok (.iload_n 2, 1) := by decide +kernel
theorem dX9_parentOf_21 : decode cX9_parentOf 21 = .ok (.ireturn, 1) := by decide +kernel
theorem dX9_parentOf_22 : decode cX9_parentOf 22 = .ok (.iinc 2 (-1), 3) := by decide +kernel
theorem dX9_parentOf_25 : decode cX9_parentOf 25 = .ok (.goto (-21), 3) := by decide +kernel
theorem dX9_parentOf_28 : decode cX9_parentOf 28 = .ok (.iconst (-1), 1) := by decide +kernel
theorem dX9_parentOf_29 : decode cX9_parentOf 29 = .ok (.ireturn, 1) := by decide +kernel
theorem dX9_nodeAt_0 : decode cX9_nodeAt 0 = .ok (.iload_n 1, 1) := by decide +kernel
theorem dX9_nodeAt_1 : decode cX9_nodeAt 1 = .ok (.ifCond .lt 20, 3) := by decide +kernel
theorem dX9_nodeAt_4 : decode cX9_nodeAt 4 = .ok (.iload_n 1, 1) := by decide +kernel
theorem dX9_nodeAt_5 : decode cX9_nodeAt 5 = .ok (.aload_n 0, 1) := by decide +kernel
theorem dX9_nodeAt_6 : decode cX9_nodeAt 6 = .ok (.getfield 33, 3) := by decide +kernel
theorem dX9_nodeAt_9 : decode cX9_nodeAt 9 = .ok (.if_icmp .ge 12, 3) := by decide +kernel
theorem dX9_nodeAt_12 : decode cX9_nodeAt 12 = .ok (.aload_n 0, 1) := by decide +kernel
theorem dX9_nodeAt_13 : decode cX9_nodeAt 13 = .ok (.getfield 30, 3) := by decide +kernel
theorem dX9_nodeAt_16 : decode cX9_nodeAt 16 = .ok (.iload_n 1, 1) := by decide +kernel
theorem dX9_nodeAt_17 : decode cX9_nodeAt 17 = .ok (.iaload, 1) := by decide +kernel
theorem dX9_nodeAt_18 : decode cX9_nodeAt 18 = .ok (.goto 4, 3) := by decide +kernel
theorem dX9_nodeAt_21 : decode cX9_nodeAt 21 = .ok (.iconst 0, 1) := by decide +kernel
theorem dX9_nodeAt_22 : decode cX9_nodeAt 22 = .ok (.ireturn, 1) := by decide +kernel
theorem dX9_isCallOf_0 : decode cX9_isCallOf 0 = .ok (.aload_n 0, 1) := by decide +kernel
theorem dX9_isCallOf_1 : decode cX9_isCallOf 1 = .ok (.getfield 11, 3) := by decide +kernel
theorem dX9_isCallOf_4 : decode cX9_isCallOf 4 = .ok (.iload_n 1, 1) := by decide +kernel
theorem dX9_isCallOf_5 : decode cX9_isCallOf 5 = .ok (.iaload, 1) := by decide +kernel
theorem dX9_isCallOf_6 : decode cX9_isCallOf 6 = .ok (.iconst 2, 1) := by decide +kernel
theorem dX9_isCallOf_7 : decode cX9_isCallOf 7 = .ok (.if_icmp .ne 17, 3) := by decide +kernel
theorem dX9_isCallOf_10 : decode cX9_isCallOf 10 = .ok (.aload_n 0, 1) := by decide +kernel
theorem dX9_isCallOf_11 : decode cX9_isCallOf 11 = .ok (.getfield 15, 3) := by decide +kernel
theorem dX9_isCallOf_14 : decode cX9_isCallOf 14 = .ok (.iload_n 1, 1) := by decide +kernel
theorem dX9_isCallOf_15 : decode cX9_isCallOf 15 = .ok (.iaload, 1) := by decide +kernel
theorem dX9_isCallOf_16 : decode cX9_isCallOf 16 = .ok (.iload_n 2, 1) := by decide +kernel
theorem dX9_isCallOf_17 : decode cX9_isCallOf 17 = .ok (.if_icmp .ne 7, 3) := by decide +kernel
theorem dX9_isCallOf_20 : decode cX9_isCallOf 20 = .ok (.iconst 1, 1) := by decide +kernel
theorem dX9_isCallOf_21 : decode cX9_isCallOf 21 = .ok (.goto 4, 3) := by decide +kernel
theorem dX9_isCallOf_24 : decode cX9_isCallOf 24 = .ok (.iconst 0, 1) := by decide +kernel
theorem dX9_isCallOf_25 : decode cX9_isCallOf 25 = .ok (.ireturn, 1) := by decide +kernel
theorem dX9_hasLazyCall_0 : decode cX9_hasLazyCall 0 = .ok (.iconst 0, 1) := by decide +kernel
theorem dX9_hasLazyCall_1 : decode cX9_hasLazyCall 1 = .ok (.istore_n 1, 1) := by decide +kernel
theorem dX9_hasLazyCall_2 : decode cX9_hasLazyCall 2 = .ok (.iload_n 1, 1) := by decide +kernel
theorem dX9_hasLazyCall_3 : decode cX9_hasLazyCall 3 = .ok (.aload_n 0, 1) := by decide +kernel
theorem dX9_hasLazyCall_4 : decode cX9_hasLazyCall 4 = .ok (.getfield 33, 3) := by decide +kernel
theorem dX9_hasLazyCall_7 : decode cX9_hasLazyCall 7 = .ok (.if_icmp .ge 31, 3) := by decide +kernel
theorem dX9_hasLazyCall_10 : decode cX9_hasLazyCall 10 = .ok (.aload_n 0, 1) := by decide +kernel
theorem dX9_hasLazyCall_11 : decode cX9_hasLazyCall 11 = .ok (.iload_n 1, 1) := by decide +kernel
theorem dX9_hasLazyCall_12 : decode cX9_hasLazyCall 12 = .ok (.bipush 105, 2) := by decide +kernel
theorem dX9_hasLazyCall_14 : decode cX9_hasLazyCall 14 = .ok (.invokevirtual 67, 3) := by decide +kernel
theorem dX9_hasLazyCall_17 : decode cX9_hasLazyCall 17 = .ok (.ifCond .ne 13, 3) := by decide +kernel
theorem dX9_hasLazyCall_20 : decode cX9_hasLazyCall 20 = .ok (.aload_n 0, 1) := by decide +kernel
theorem dX9_hasLazyCall_21 : decode cX9_hasLazyCall 21 = .ok (.iload_n 1, 1) := by decide +kernel
theorem dX9_hasLazyCall_22 : decode cX9_hasLazyCall 22 = .ok (.bipush 115, 2) := by decide +kernel
theorem dX9_hasLazyCall_24 : decode cX9_hasLazyCall 24 = .ok (.invokevirtual 67, 3) := by decide +kernel
theorem dX9_hasLazyCall_27 : decode cX9_hasLazyCall 27 = .ok (.ifCond .eq 5, 3) := by decide +kernel
theorem dX9_hasLazyCall_30 : decode cX9_hasLazyCall 30 = .ok (.iconst 1, 1) := by decide +kernel
theorem dX9_hasLazyCall_31 : decode cX9_hasLazyCall 31 = .ok (.ireturn, 1) := by decide +kernel
theorem dX9_hasLazyCall_32 : decode cX9_hasLazyCall 32 = .ok (.iinc 1 1, 3) := by decide +kernel
theorem dX9_hasLazyCall_35 : decode cX9_hasLazyCall 35 = .ok (.goto (-33), 3) := by decide +kernel
theorem dX9_hasLazyCall_38 : decode cX9_hasLazyCall 38 = .ok (.iconst 0, 1) := by decide +kernel
theorem dX9_hasLazyCall_39 : decode cX9_hasLazyCall 39 = .ok (.ireturn, 1) := by decide +kernel
theorem dX9_isNumber_0 : decode cX9_isNumber 0 = .ok (.aload_n 0, 1) := by decide +kernel
theorem dX9_isNumber_1 : decode cX9_isNumber 1 = .ok (.getfield 11, 3) := by decide +kernel
theorem dX9_isNumber_4 : decode cX9_isNumber 4 = .ok (.iload_n 1, 1) := by decide +kernel
theorem dX9_isNumber_5 : decode cX9_isNumber 5 = .ok (.iaload, 1) := by decide +kernel
theorem dX9_isNumber_6 : decode cX9_isNumber 6 = .ok (.ifCond .ne 17, 3) := by decide +kernel
theorem dX9_isNumber_9 : decode cX9_isNumber 9 = .ok (.aload_n 0, 1) := by decide +kernel
theorem dX9_isNumber_10 : decode cX9_isNumber 10 = .ok (.getfield 15, 3) := by decide +kernel
theorem dX9_isNumber_13 : decode cX9_isNumber 13 = .ok (.iload_n 1, 1) := by decide +kernel
theorem dX9_isNumber_14 : decode cX9_isNumber 14 = .ok (.iaload, 1) := by decide +kernel
theorem dX9_isNumber_15 : decode cX9_isNumber 15 = .ok (.iload_n 2, 1) := by decide +kernel
theorem dX9_isNumber_16 : decode cX9_isNumber 16 = .ok (.if_icmp .ne 7, 3) := by decide +kernel
theorem dX9_isNumber_19 : decode cX9_isNumber 19 = .ok (.iconst 1, 1) := by decide +kernel
theorem dX9_isNumber_20 : decode cX9_isNumber 20 = .ok (.goto 4, 3) := by decide +kernel
theorem dX9_isNumber_23 : decode cX9_isNumber 23 = .ok (.iconst 0, 1) := by decide +kernel
theorem dX9_isNumber_24 : decode cX9_isNumber 24 = .ok (.ireturn, 1) := by decide +kernel
theorem dX9_sameAs_0 : decode cX9_sameAs 0 = .ok (.aload_n 0, 1) := by decide +kernel
theorem dX9_sameAs_1 : decode cX9_sameAs 1 = .ok (.getfield 33, 3) := by decide +kernel
theorem dX9_sameAs_4 : decode cX9_sameAs 4 = .ok (.aload_n 1, 1) := by decide +kernel
theorem dX9_sameAs_5 : decode cX9_sameAs 5 = .ok (.getfield 33, 3) := by decide +kernel
theorem dX9_sameAs_8 : decode cX9_sameAs 8 = .ok (.if_icmp .eq 5, 3) := by decide +kernel
theorem dX9_sameAs_11 : decode cX9_sameAs 11 = .ok (.iconst 0, 1) := by decide +kernel
theorem dX9_sameAs_12 : decode cX9_sameAs 12 = .ok (.ireturn, 1) := by decide +kernel
theorem dX9_sameAs_13 : decode cX9_sameAs 13 = .ok (.iconst 0, 1) := by decide +kernel
theorem dX9_sameAs_14 : decode cX9_sameAs 14 = .ok (.istore_n 2, 1) := by decide +kernel
theorem dX9_sameAs_15 : decode cX9_sameAs 15 = .ok (.iload_n 2, 1) := by decide +kernel
theorem dX9_sameAs_16 : decode cX9_sameAs 16 = .ok (.aload_n 0, 1) := by decide +kernel
theorem dX9_sameAs_17 : decode cX9_sameAs 17 = .ok (.getfield 33, 3) := by decide +kernel
theorem dX9_sameAs_20 : decode cX9_sameAs 20 = .ok (.if_icmp .ge 21, 3) := by decide +kernel
theorem dX9_sameAs_23 : decode cX9_sameAs 23 = .ok (.aload_n 0, 1) := by decide +kernel
theorem dX9_sameAs_24 : decode cX9_sameAs 24 = .ok (.iload_n 2, 1) := by decide +kernel
theorem dX9_sameAs_25 : decode cX9_sameAs 25 = .ok (.aload_n 1, 1) := by decide +kernel
theorem dX9_sameAs_26 : decode cX9_sameAs 26 = .ok (.iload_n 2, 1) := by decide +kernel
theorem dX9_sameAs_27 : decode cX9_sameAs 27 = .ok (.invokevirtual 75, 3) := by decide +kernel
theorem dX9_sameAs_30 : decode cX9_sameAs 30 = .ok (.ifCond .ne 5, 3) := by decide +kernel
theorem dX9_sameAs_33 : decode cX9_sameAs 33 = .ok (.iconst 0, 1) := by decide +kernel
theorem dX9_sameAs_34 : decode cX9_sameAs 34 = .ok (.ireturn, 1) := by decide +kernel
theorem dX9_sameAs_35 : decode cX9_sameAs 35 = .ok (.iinc 2 1, 3) := by decide +kernel
theorem dX9_sameAs_38 : decode cX9_sameAs 38 = .ok (.goto (-23), 3) := by decide +kernel
theorem dX9_sameAs_41 : decode cX9_sameAs 41 = .ok (.iconst 1, 1) := by decide +kernel
theorem dX9_sameAs_42 : decode cX9_sameAs 42 = .ok (.ireturn, 1) := by decide +kernel
theorem dX9_hasLine_0 : decode cX9_hasLine 0 = .ok (.aload_n 0, 1) := by decide +kernel
theorem dX9_hasLine_1 : decode cX9_hasLine 1 = .ok (.getfield 33, 3) := by decide +kernel
theorem dX9_hasLine_4 : decode cX9_hasLine 4 = .ok (.aload_n 1, 1) := by decide +kernel
theorem dX9_hasLine_5 : decode cX9_hasLine 5 = .ok (.getfield 33, 3) := by decide +kernel
theorem dX9_hasLine_8 : decode cX9_hasLine 8 = .ok (.if_icmp .eq 5, 3) := by decide +kernel
theorem dX9_hasLine_11 : decode cX9_hasLine 11 = .ok (.iconst 0, 1) := by decide +kernel
theorem dX9_hasLine_12 : decode cX9_hasLine 12 = .ok (.ireturn, 1) := by decide +kernel
theorem dX9_hasLine_13 : decode cX9_hasLine 13 = .ok (.iconst 0, 1) := by decide +kernel
theorem dX9_hasLine_14 : decode cX9_hasLine 14 = .ok (.istore_n 2, 1) := by decide +kernel
theorem dX9_hasLine_15 : decode cX9_hasLine 15 = .ok (.iload_n 2, 1) := by decide +kernel
theorem dX9_hasLine_16 : decode cX9_hasLine 16 = .ok (.aload_n 0, 1) := by decide +kernel
theorem dX9_hasLine_17 : decode cX9_hasLine 17 = .ok (.getfield 33, 3) := by decide +kernel
theorem dX9_hasLine_20 : decode cX9_hasLine 20 = .ok (.if_icmp .ge 25, 3) := by decide +kernel
theorem dX9_hasLine_23 : decode cX9_hasLine 23 = .ok (.aload_n 0, 1) := by decide +kernel
theorem dX9_hasLine_24 : decode cX9_hasLine 24 = .ok (.aload_n 0, 1) := by decide +kernel
theorem dX9_hasLine_25 : decode cX9_hasLine 25 = .ok (.iload_n 2, 1) := by decide +kernel
theorem dX9_hasLine_26 : decode cX9_hasLine 26 = .ok (.invokevirtual 79, 3) := by decide +kernel
theorem dX9_hasLine_29 : decode cX9_hasLine 29 = .ok (.aload_n 1, 1) := by decide +kernel
theorem dX9_hasLine_30 : decode cX9_hasLine 30 = .ok (.iload_n 2, 1) := by decide +kernel
theorem dX9_hasLine_31 : decode cX9_hasLine 31 = .ok (.invokevirtual 75, 3) := by decide +kernel
theorem dX9_hasLine_34 : decode cX9_hasLine 34 = .ok (.ifCond .ne 5, 3) := by decide +kernel
theorem dX9_hasLine_37 : decode cX9_hasLine 37 = .ok (.iconst 0, 1) := by decide +kernel
theorem dX9_hasLine_38 : decode cX9_hasLine 38 = .ok (.ireturn, 1) := by decide +kernel
theorem dX9_hasLine_39 : decode cX9_hasLine 39 = .ok (.iinc 2 1, 3) := by decide +kernel
theorem dX9_hasLine_42 : decode cX9_hasLine 42 = .ok (.goto (-27), 3) := by decide +kernel
theorem dX9_hasLine_45 : decode cX9_hasLine 45 = .ok (.iconst 1, 1) := by decide +kernel
theorem dX9_hasLine_46 : decode cX9_hasLine 46 = .ok (.ireturn, 1) := by decide +kernel
theorem dX9_sameParts_0 : decode cX9_sameParts 0 = .ok (.aload_n 0, 1) := by decide +kernel
theorem dX9_sameParts_1 : decode cX9_sameParts 1 = .ok (.getfield 24, 3) := by decide +kernel
theorem dX9_sameParts_4 : decode cX9_sameParts 4 = .ok (.iload_n 1, 1) := by decide +kernel
theorem dX9_sameParts_5 : decode cX9_sameParts 5 = .ok (.iaload, 1) := by decide +kernel
theorem dX9_sameParts_6 : decode cX9_sameParts 6 = .ok (.istore_n 3, 1) := by decide +kernel
theorem dX9_sameParts_7 : decode cX9_sameParts 7 = .ok (.iload_n 3, 1) := by decide +kernel
theorem dX9_sameParts_8 : decode cX9_sameParts 8 = .ok (.aload_n 0, 1) := by decide +kernel
theorem dX9_sameParts_9 : decode cX9_sameParts 9 = .ok (.getfield 24, 3) := by decide +kernel
theorem dX9_sameParts_12 : decode cX9_sameParts 12 = .ok (.iload_n 2, 1) := by decide +kernel
theorem dX9_sameParts_13 : decode cX9_sameParts 13 = .ok (.iaload, 1) := by decide +kernel
theorem dX9_sameParts_14 : decode cX9_sameParts 14 = .ok (.if_icmp .eq 5, 3) := by decide +kernel
theorem dX9_sameParts_17 : decode cX9_sameParts 17 = .ok (.iconst 0, 1) := by decide +kernel
theorem dX9_sameParts_18 : decode cX9_sameParts 18 = .ok (.ireturn, 1) := by decide +kernel
theorem dX9_sameParts_19 : decode cX9_sameParts 19 = .ok (.iconst 0, 1) := by decide +kernel
theorem dX9_sameParts_20 : decode cX9_sameParts 20 = .ok (.istore 4, 2) := by decide +kernel
theorem dX9_sameParts_22 : decode cX9_sameParts 22 = .ok (.iload 4, 2) := by decide +kernel
theorem dX9_sameParts_24 : decode cX9_sameParts 24 = .ok (.iload_n 3, 1) := by decide +kernel
theorem dX9_sameParts_25 : decode cX9_sameParts 25 = .ok (.if_icmp .ge 49, 3) := by decide +kernel
theorem dX9_sameParts_28 : decode cX9_sameParts 28 = .ok (.iload_n 1, 1) := by decide +kernel
theorem dX9_sameParts_29 : decode cX9_sameParts 29 = .ok (.iload 4, 2) := by decide +kernel
theorem dX9_sameParts_31 : decode cX9_sameParts 31 = .ok (.iadd, 1) := by decide +kernel
theorem dX9_sameParts_32 : decode cX9_sameParts 32 = .ok (.aload_n 0, 1) := by decide +kernel
theorem dX9_sameParts_33 : decode cX9_sameParts 33 = .ok (.getfield 33, 3) := by decide +kernel
theorem dX9_sameParts_36 : decode cX9_sameParts 36 = .ok (.if_icmp .ge 38, 3) := by decide +kernel
theorem dX9_sameParts_39 : decode cX9_sameParts 39 = .ok (.iload_n 2, 1) := by decide +kernel
theorem dX9_sameParts_40 : decode cX9_sameParts 40 = .ok (.iload 4, 2) := by decide +kernel
theorem dX9_sameParts_42 : decode cX9_sameParts 42 = .ok (.iadd, 1) := by decide +kernel
theorem dX9_sameParts_43 : decode cX9_sameParts 43 = .ok (.aload_n 0, 1) := by decide +kernel
theorem dX9_sameParts_44 : decode cX9_sameParts 44 = .ok (.getfield 33, 3) := by decide +kernel
theorem dX9_sameParts_47 : decode cX9_sameParts 47 = .ok (.if_icmp .ge 27, 3) := by decide +kernel
theorem dX9_sameParts_50 : decode cX9_sameParts 50 = .ok (.aload_n 0, 1) := by decide +kernel
theorem dX9_sameParts_51 : decode cX9_sameParts 51 = .ok (.iload_n 1, 1) := by decide +kernel
theorem dX9_sameParts_52 : decode cX9_sameParts 52 = .ok (.iload 4, 2) := by decide +kernel
theorem dX9_sameParts_54 : decode cX9_sameParts 54 = .ok (.iadd, 1) := by decide +kernel
theorem dX9_sameParts_55 : decode cX9_sameParts 55 = .ok (.aload_n 0, 1) := by decide +kernel
theorem dX9_sameParts_56 : decode cX9_sameParts 56 = .ok (.iload_n 2, 1) := by decide +kernel
theorem dX9_sameParts_57 : decode cX9_sameParts 57 = .ok (.iload 4, 2) := by decide +kernel
theorem dX9_sameParts_59 : decode cX9_sameParts 59 = .ok (.iadd, 1) := by decide +kernel
theorem dX9_sameParts_60 : decode cX9_sameParts 60 = .ok (.invokevirtual 75, 3) := by decide +kernel
theorem dX9_sameParts_63 : decode cX9_sameParts 63 = .ok (.ifCond .ne 5, 3) := by decide +kernel
theorem dX9_sameParts_66 : decode cX9_sameParts 66 = .ok (.iconst 0, 1) := by decide +kernel
theorem dX9_sameParts_67 : decode cX9_sameParts 67 = .ok (.ireturn, 1) := by decide +kernel
theorem dX9_sameParts_68 : decode cX9_sameParts 68 = .ok (.iinc 4 1, 3) := by decide +kernel
theorem dX9_sameParts_71 : decode cX9_sameParts 71 = .ok (.goto (-49), 3) := by decide +kernel
theorem dX9_sameParts_74 : decode cX9_sameParts 74 = .ok (.iconst 1, 1) := by decide +kernel
theorem dX9_sameParts_75 : decode cX9_sameParts 75 = .ok (.ireturn, 1) := by decide +kernel
theorem dX9_sameNode_0 : decode cX9_sameNode 0 = .ok (.aload_n 0, 1) := by decide +kernel
theorem dX9_sameNode_1 : decode cX9_sameNode 1 = .ok (.getfield 11, 3) := by decide +kernel
theorem dX9_sameNode_4 : decode cX9_sameNode 4 = .ok (.iload_n 1, 1) := by decide +kernel
theorem dX9_sameNode_5 : decode cX9_sameNode 5 = .ok (.iaload, 1) := by decide +kernel
theorem dX9_sameNode_6 : decode cX9_sameNode 6 = .ok (.aload_n 2, 1) := by decide +kernel
theorem dX9_sameNode_7 : decode cX9_sameNode 7 = .ok (.getfield 11, 3) := by decide +kernel
theorem dX9_sameNode_10 : decode cX9_sameNode 10 = .ok (.iload_n 3, 1) := by decide +kernel
theorem dX9_sameNode_11 : decode cX9_sameNode 11 = .ok (.iaload, 1) := by decide +kernel
theorem dX9_sameNode_12 : decode cX9_sameNode 12 = .ok (.if_icmp .ne 52, 3) := by decide +kernel
theorem dX9_sameNode_15 : decode cX9_sameNode 15 = .ok (.aload_n 0, 1) := by decide +kernel
theorem dX9_sameNode_16 : decode cX9_sameNode 16 = .ok (.getfield 15, 3) := by decide +kernel
theorem dX9_sameNode_19 : decode cX9_sameNode 19 = .ok (.iload_n 1, 1) := by decide +kernel
theorem dX9_sameNode_20 : decode cX9_sameNode 20 = .ok (.iaload, 1) := by decide +kernel
theorem dX9_sameNode_21 : decode cX9_sameNode 21 = .ok (.aload_n 2, 1) := by decide +kernel
theorem dX9_sameNode_22 : decode cX9_sameNode 22 = .ok (.getfield 15, 3) := by decide +kernel
theorem dX9_sameNode_25 : decode cX9_sameNode 25 = .ok (.iload_n 3, 1) := by decide +kernel
theorem dX9_sameNode_26 : decode cX9_sameNode 26 = .ok (.iaload, 1) := by decide +kernel
theorem dX9_sameNode_27 : decode cX9_sameNode 27 = .ok (.if_icmp .ne 37, 3) := by decide +kernel
theorem dX9_sameNode_30 : decode cX9_sameNode 30 = .ok (.aload_n 0, 1) := by decide +kernel
theorem dX9_sameNode_31 : decode cX9_sameNode 31 = .ok (.getfield 18, 3) := by decide +kernel
theorem dX9_sameNode_34 : decode cX9_sameNode 34 = .ok (.iload_n 1, 1) := by decide +kernel
theorem dX9_sameNode_35 : decode cX9_sameNode 35 = .ok (.iaload, 1) := by decide +kernel
theorem dX9_sameNode_36 : decode cX9_sameNode 36 = .ok (.aload_n 2, 1) := by decide +kernel
theorem dX9_sameNode_37 : decode cX9_sameNode 37 = .ok (.getfield 18, 3) := by decide +kernel
theorem dX9_sameNode_40 : decode cX9_sameNode 40 = .ok (.iload_n 3, 1) := by decide +kernel
theorem dX9_sameNode_41 : decode cX9_sameNode 41 = .ok (.iaload, 1) := by decide +kernel
theorem dX9_sameNode_42 : decode cX9_sameNode 42 = .ok (.if_icmp .ne 22, 3) := by decide +kernel
theorem dX9_sameNode_45 : decode cX9_sameNode 45 = .ok (.aload_n 0, 1) := by decide +kernel
theorem dX9_sameNode_46 : decode cX9_sameNode 46 = .ok (.getfield 21, 3) := by decide +kernel
theorem dX9_sameNode_49 : decode cX9_sameNode 49 = .ok (.iload_n 1, 1) := by decide +kernel
theorem dX9_sameNode_50 : decode cX9_sameNode 50 = .ok (.iaload, 1) := by decide +kernel
theorem dX9_sameNode_51 : decode cX9_sameNode 51 = .ok (.aload_n 2, 1) := by decide +kernel
theorem dX9_sameNode_52 : decode cX9_sameNode 52 = .ok (.getfield 21, 3) := by decide +kernel
theorem dX9_sameNode_55 : decode cX9_sameNode 55 = .ok (.iload_n 3, 1) := by decide +kernel
theorem dX9_sameNode_56 : decode cX9_sameNode 56 = .ok (.iaload, 1) := by decide +kernel
theorem dX9_sameNode_57 : decode cX9_sameNode 57 = .ok (.if_icmp .ne 7, 3) := by decide +kernel
theorem dX9_sameNode_60 : decode cX9_sameNode 60 = .ok (.iconst 1, 1) := by decide +kernel
theorem dX9_sameNode_61 : decode cX9_sameNode 61 = .ok (.goto 4, 3) := by decide +kernel
theorem dX9_sameNode_64 : decode cX9_sameNode 64 = .ok (.iconst 0, 1) := by decide +kernel
theorem dX9_sameNode_65 : decode cX9_sameNode 65 = .ok (.ireturn, 1) := by decide +kernel
theorem dX10_init_0 : decode cX10_init 0 = .ok (.aload_n 0, 1) := by decide +kernel
theorem dX10_init_1 : decode cX10_init 1 = .ok (.invokespecial 3, 3) := by decide +kernel
theorem dX10_init_4 : decode cX10_init 4 = .ok (.aload_n 0, 1) := by decide +kernel
theorem dX10_init_5 : decode cX10_init 5 = .ok (.iload_n 1, 1) := by decide +kernel
theorem dX10_init_6 : decode cX10_init 6 = .ok (.bipush 7, 2) := by decide +kernel
theorem dX10_init_8 : decode cX10_init 8 = .ok (.if_icmp .le 7, 3) := by decide +kernel
theorem dX10_init_11 : decode cX10_init 11 = .ok (.iload_n 1, 1) := by decide +kernel
theorem dX10_init_12 : decode cX10_init 12 = .ok (.goto 5, 3) := by decide +kernel
theorem dX10_init_15 : decode cX10_init 15 = .ok (.bipush 7, 2) := by decide +kernel
theorem dX10_init_17 : decode cX10_init 17 = .ok (.newarray .int, 2) := by decide +kernel
theorem dX10_init_19 : decode cX10_init 19 = .ok (.putfield 9, 3) := by decide +kernel
theorem dX10_init_22 : decode cX10_init 22 = .ok (.return_, 1) := by decide +kernel
theorem dX10_set_0 : decode cX10_set 0 = .ok (.aload_n 0, 1) := by decide +kernel
theorem dX10_set_1 : decode cX10_set 1 = .ok (.lload_n 1, 1) := by decide +kernel
theorem dX10_set_2 : decode cX10_set 2 = .ok (.lconst 0, 1) := by decide +kernel
theorem dX10_set_3 : decode cX10_set 3 = .ok (.lcmp, 1) := by decide +kernel
theorem dX10_set_4 : decode cX10_set 4 = .ok (.ifCond .ge 7, 3) := by decide +kernel
theorem dX10_set_7 : decode cX10_set 7 = .ok (.iconst 1, 1) := by decide +kernel
theorem dX10_set_8 : decode cX10_set 8 = .ok (.goto 4, 3) := by decide +kernel
theorem dX10_set_11 : decode cX10_set 11 = .ok (.iconst 0, 1) := by decide +kernel
theorem dX10_set_12 : decode cX10_set 12 = .ok (.putfield 13, 3) := by decide +kernel
theorem dX10_set_15 : decode cX10_set 15 = .ok (.aload_n 0, 1) := by decide +kernel
theorem dX10_set_16 : decode cX10_set 16 = .ok (.iconst 0, 1) := by decide +kernel
theorem dX10_set_17 : decode cX10_set 17 = .ok (.putfield 17, 3) := by decide +kernel
theorem dX10_set_20 : decode cX10_set 20 = .ok (.aload_n 0, 1) := by decide +kernel
theorem dX10_set_21 : decode cX10_set 21 = .ok (.getfield 13, 3) := by decide +kernel
theorem dX10_set_24 : decode cX10_set 24 = .ok (.ifCond .eq 8, 3) := by decide +kernel
theorem dX10_set_27 : decode cX10_set 27 = .ok (.lload_n 1, 1) := by decide +kernel
theorem dX10_set_28 : decode cX10_set 28 = .ok (.lneg, 1) := by decide +kernel
theorem dX10_set_29 : decode cX10_set 29 = .ok (.goto 4, 3) := by decide +kernel
theorem dX10_set_32 : decode cX10_set 32 = .ok (.lload_n 1, 1) := by decide +kernel
theorem dX10_set_33 : decode cX10_set 33 = .ok (.lstore_n 3, 1) := by decide +kernel
theorem dX10_set_34 : decode cX10_set 34 = .ok (.iconst 0, 1) := by decide +kernel
theorem dX10_set_35 : decode cX10_set 35 = .ok (.istore 5, 2) := by decide +kernel
theorem dX10_set_37 : decode cX10_set 37 = .ok (.iload 5, 2) := by decide +kernel
theorem dX10_set_39 : decode cX10_set 39 = .ok (.aload_n 0, 1) := by decide +kernel
theorem dX10_set_40 : decode cX10_set 40 = .ok (.getfield 9, 3) := by decide +kernel
theorem dX10_set_43 : decode cX10_set 43 = .ok (.arraylength, 1) := by decide +kernel
theorem dX10_set_44 : decode cX10_set 44 = .ok (.if_icmp .ge 41, 3) := by decide +kernel
theorem dX10_set_47 : decode cX10_set 47 = .ok (.lload_n 3, 1) := by decide +kernel
theorem dX10_set_48 : decode cX10_set 48 = .ok (.lconst 0, 1) := by decide +kernel
theorem dX10_set_49 : decode cX10_set 49 = .ok (.lcmp, 1) := by decide +kernel
theorem dX10_set_50 : decode cX10_set 50 = .ok (.ifCond .le 35, 3) := by decide +kernel
theorem dX10_set_53 : decode cX10_set 53 = .ok (.aload_n 0, 1) := by decide +kernel
theorem dX10_set_54 : decode cX10_set 54 = .ok (.getfield 9, 3) := by decide +kernel
theorem dX10_set_57 : decode cX10_set 57 = .ok (.iload 5, 2) := by decide +kernel
theorem dX10_set_59 : decode cX10_set 59 = .ok (.lload_n 3, 1) := by decide +kernel
theorem dX10_set_60 : decode cX10_set 60 = .ok (.ldc2_w 21, 3) := by decide +kernel
theorem dX10_set_63 : decode cX10_set 63 = .ok (.land, 1) := by decide +kernel
theorem dX10_set_64 : decode cX10_set 64 = .ok (.l2i, 1) := by decide +kernel
theorem dX10_set_65 : decode cX10_set 65 = .ok (.iastore, 1) := by decide +kernel
theorem dX10_set_66 : decode cX10_set 66 = .ok (.lload_n 3, 1) := by decide +kernel
theorem dX10_set_67 : decode cX10_set 67 = .ok (.bipush 30, 2) := by decide +kernel
theorem dX10_set_69 : decode cX10_set 69 = .ok (.lshr, 1) := by decide +kernel
theorem dX10_set_70 : decode cX10_set 70 = .ok (.lstore_n 3, 1) := by decide +kernel
theorem dX10_set_71 : decode cX10_set 71 = .ok (.aload_n 0, 1) := by decide +kernel
theorem dX10_set_72 : decode cX10_set 72 = .ok (.iload 5, 2) := by decide +kernel
theorem dX10_set_74 : decode cX10_set 74 = .ok (.iconst 1, 1) := by decide +kernel
theorem dX10_set_75 : decode cX10_set 75 = .ok (.iadd, 1) := by decide +kernel
theorem dX10_set_76 : decode cX10_set 76 = .ok (.putfield 17, 3) := by decide +kernel
theorem dX10_set_79 : decode cX10_set 79 = .ok (.iinc 5 1, 3) := by decide +kernel
theorem dX10_set_82 : decode cX10_set 82 = .ok (.goto (-45), 3) := by decide +kernel
theorem dX10_set_85 : decode cX10_set 85 = .ok (.return_, 1) := by decide +kernel
theorem dX10_copy_0 : decode cX10_copy 0 = .ok (.aload_n 0, 1) := by decide +kernel
theorem dX10_copy_1 : decode cX10_copy 1 = .ok (.aload_n 1, 1) := by decide +kernel
theorem dX10_copy_2 : decode cX10_copy 2 = .ok (.getfield 13, 3) := by decide +kernel
theorem dX10_copy_5 : decode cX10_copy 5 = .ok (.putfield 13, 3) := by decide +kernel
theorem dX10_copy_8 : decode cX10_copy 8 = .ok (.aload_n 0, 1) := by decide +kernel
theorem dX10_copy_9 : decode cX10_copy 9 = .ok (.aload_n 1, 1) := by decide +kernel
theorem dX10_copy_10 : decode cX10_copy 10 = .ok (.invokevirtual 23, 3) := by decide +kernel
theorem dX10_copy_13 : decode cX10_copy 13 = .ok (.return_, 1) := by decide +kernel
theorem dX10_copySize_0 : decode cX10_copySize 0 = .ok (.aload_n 0, 1) := by decide +kernel
theorem dX10_copySize_1 : decode cX10_copySize 1 = .ok (.aload_n 1, 1) := by decide +kernel
theorem dX10_copySize_2 : decode cX10_copySize 2 = .ok (.getfield 17, 3) := by decide +kernel
theorem dX10_copySize_5 : decode cX10_copySize 5 = .ok (.aload_n 0, 1) := by decide +kernel
theorem dX10_copySize_6 : decode cX10_copySize 6 = .ok (.getfield 9, 3) := by decide +kernel
theorem dX10_copySize_9 : decode cX10_copySize 9 = .ok (.arraylength, 1) := by decide +kernel
theorem dX10_copySize_10 : decode cX10_copySize 10 = .ok (.if_icmp .ge 10, 3) := by decide +kernel
theorem dX10_copySize_13 : decode cX10_copySize 13 = .ok (.aload_n 1, 1) := by decide +kernel
theorem dX10_copySize_14 : decode cX10_copySize 14 = .ok (.getfield 17, 3) := by decide +kernel
theorem dX10_copySize_17 : decode cX10_copySize 17 = .ok (.goto 8, 3) := by decide +kernel
theorem dX10_copySize_20 : decode cX10_copySize 20 = .ok (.aload_n 0, 1) := by decide +kernel
theorem dX10_copySize_21 : decode cX10_copySize 21 = .ok (.getfield 9, 3) := by decide +kernel
theorem dX10_copySize_24 : decode cX10_copySize 24 = .ok (.arraylength, 1) := by decide +kernel
theorem dX10_copySize_25 : decode cX10_copySize 25 = .ok (.putfield 17, 3) := by decide +kernel
theorem dX10_copySize_28 : decode cX10_copySize 28 = .ok (.iconst 0, 1) := by decide +kernel
theorem dX10_copySize_29 : decode cX10_copySize 29 = .ok (.istore_n 2, 1) := by decide +kernel
theorem dX10_copySize_30 : decode cX10_copySize 30 = .ok (.iload_n 2, 1) := by decide +kernel
theorem dX10_copySize_31 : decode cX10_copySize 31 = .ok (.aload_n 0, 1) := by decide +kernel
theorem dX10_copySize_32 : decode cX10_copySize 32 = .ok (.getfield 17, 3) := by decide +kernel
theorem dX10_copySize_35 : decode cX10_copySize 35 = .ok (.if_icmp .ge 21, 3) := by decide +kernel
theorem dX10_copySize_38 : decode cX10_copySize 38 = .ok (.aload_n 0, 1) := by decide +kernel
theorem dX10_copySize_39 : decode cX10_copySize 39 = .ok (.getfield 9, 3) := by decide +kernel
theorem dX10_copySize_42 : decode cX10_copySize 42 = .ok (.iload_n 2, 1) := by decide +kernel
theorem dX10_copySize_43 : decode cX10_copySize 43 = .ok (.aload_n 1, 1) := by decide +kernel
theorem dX10_copySize_44 : decode cX10_copySize 44 = .ok (.getfield 9, 3) := by decide +kernel
theorem dX10_copySize_47 : decode cX10_copySize 47 = .ok (.iload_n 2, 1) := by decide +kernel
theorem dX10_copySize_48 : decode cX10_copySize 48 = .ok (.iaload, 1) := by decide +kernel
theorem dX10_copySize_49 : decode cX10_copySize 49 = .ok (.iastore, 1) := by decide +kernel
theorem dX10_copySize_50 : decode cX10_copySize 50 = .ok (.iinc 2 1, 3) := by decide +kernel
theorem dX10_copySize_53 : decode cX10_copySize 53 = .ok (.goto (-23), 3) := by decide +kernel
theorem dX10_copySize_56 : decode cX10_copySize 56 = .ok (.return_, 1) := by decide +kernel
theorem dX10_isZero_0 : decode cX10_isZero 0 = .ok (.aload_n 0, 1) := by decide +kernel
theorem dX10_isZero_1 : decode cX10_isZero 1 = .ok (.getfield 17, 3) := by decide +kernel
theorem dX10_isZero_4 : decode cX10_isZero 4 = .ok (.ifCond .ne 7, 3) := by decide +kernel
theorem dX10_isZero_7 : decode cX10_isZero 7 = .ok (.iconst 1, 1) := by decide +kernel
theorem dX10_isZero_8 : decode cX10_isZero 8 = .ok (.goto 4, 3) := by decide +kernel
theorem dX10_isZero_11 : decode cX10_isZero 11 = .ok (.iconst 0, 1) := by decide +kernel
theorem dX10_isZero_12 : decode cX10_isZero 12 = .ok (.ireturn, 1) := by decide +kernel
theorem dX10_isOne_0 : decode cX10_isOne 0 = .ok (.aload_n 0, 1) := by decide +kernel
theorem dX10_isOne_1 : decode cX10_isOne 1 = .ok (.getfield 17, 3) := by decide +kernel
theorem dX10_isOne_4 : decode cX10_isOne 4 = .ok (.iconst 1, 1) := by decide +kernel
theorem dX10_isOne_5 : decode cX10_isOne 5 = .ok (.if_icmp .ne 24, 3) := by decide +kernel
theorem dX10_isOne_8 : decode cX10_isOne 8 = .ok (.aload_n 0, 1) := by decide +kernel
theorem dX10_isOne_9 : decode cX10_isOne 9 = .ok (.getfield 9, 3) := by decide +kernel
theorem dX10_isOne_12 : decode cX10_isOne 12 = .ok (.iconst 0, 1) := by decide +kernel
theorem dX10_isOne_13 : decode cX10_isOne 13 = .ok (.iaload, 1) := by decide +kernel
theorem dX10_isOne_14 : decode cX10_isOne 14 = .ok (.iconst 1, 1) := by decide +kernel
theorem dX10_isOne_15 : decode cX10_isOne 15 = .ok (.if_icmp .ne 14, 3) := by decide +kernel
theorem dX10_isOne_18 : decode cX10_isOne 18 = .ok (.aload_n 0, 1) := by decide +kernel
theorem dX10_isOne_19 : decode cX10_isOne 19 = .ok (.getfield 13, 3) := by decide +kernel
theorem dX10_isOne_22 : decode cX10_isOne 22 = .ok (.ifCond .ne 7, 3) := by decide +kernel
theorem dX10_isOne_25 : decode cX10_isOne 25 = .ok (.iconst 1, 1) := by decide +kernel
theorem dX10_isOne_26 : decode cX10_isOne 26 = .ok (.goto 4, 3) := by decide +kernel
theorem dX10_isOne_29 : decode cX10_isOne 29 = .ok (.iconst 0, 1) := by decide +kernel
theorem dX10_isOne_30 : decode cX10_isOne 30 = .ok (.ireturn, 1) := by decide +kernel
theorem dX10_flip_0 : decode cX10_flip 0 = .ok (.aload_n 0, 1) := by decide +kernel
theorem dX10_flip_1 : decode cX10_flip 1 = .ok (.aload_n 0, 1) := by decide +kernel
theorem dX10_flip_2 : decode cX10_flip 2 = .ok (.getfield 13, 3) := by decide +kernel
theorem dX10_flip_5 : decode cX10_flip 5 = .ok (.ifCond .ne 14, 3) := by decide +kernel
theorem dX10_flip_8 : decode cX10_flip 8 = .ok (.aload_n 0, 1) := by decide +kernel
theorem dX10_flip_9 : decode cX10_flip 9 = .ok (.getfield 17, 3) := by decide +kernel
theorem dX10_flip_12 : decode cX10_flip 12 = .ok (.ifCond .le 7, 3) := by decide +kernel
theorem dX10_flip_15 : decode cX10_flip 15 = .ok (.iconst 1, 1) := by decide +kernel
theorem dX10_flip_16 : decode cX10_flip 16 = .ok (.goto 4, 3) := by decide +kernel
theorem dX10_flip_19 : decode cX10_flip 19 = .ok (.iconst 0, 1) := by decide +kernel
theorem dX10_flip_20 : decode cX10_flip 20 = .ok (.putfield 13, 3) := by decide +kernel
theorem dX10_flip_23 : decode cX10_flip 23 = .ok (.return_, 1) := by decide +kernel
theorem dX10_bits_0 : decode cX10_bits 0 = .ok (.aload_n 0, 1) := by decide +kernel
theorem dX10_bits_1 : decode cX10_bits 1 = .ok (.getfield 17, 3) := by decide +kernel
theorem dX10_bits_4 : decode cX10_bits 4 = .ok (.ifCond .ne 5, 3) := by decide +kernel
theorem dX10_bits_7 : decode cX10_bits 7 = .ok (.iconst 0, 1) := by decide +kernel
theorem dX10_bits_8 : decode cX10_bits 8 = .ok (.ireturn, 1) := by decide +kernel
theorem dX10_bits_9 : decode cX10_bits 9 = .ok (.aload_n 0, 1) := by decide +kernel
theorem dX10_bits_10 : decode cX10_bits 10 = .ok (.getfield 17, 3) := by decide +kernel
theorem dX10_bits_13 : decode cX10_bits 13 = .ok (.iconst 1, 1) := by decide +kernel
theorem dX10_bits_14 : decode cX10_bits 14 = .ok (.isub, 1) := by decide +kernel
theorem dX10_bits_15 : decode cX10_bits 15 = .ok (.bipush 30, 2) := by decide +kernel
theorem dX10_bits_17 : decode cX10_bits 17 = .ok (.imul, 1) := by decide +kernel
theorem dX10_bits_18 : decode cX10_bits 18 = .ok (.istore_n 1, 1) := by decide +kernel
theorem dX10_bits_19 : decode cX10_bits 19 = .ok (.aload_n 0, 1) := by decide +kernel
theorem dX10_bits_20 : decode cX10_bits 20 = .ok (.getfield 9, 3) := by decide +kernel
theorem dX10_bits_23 : decode cX10_bits 23 = .ok (.aload_n 0, 1) := by decide +kernel
theorem dX10_bits_24 : decode cX10_bits 24 = .ok (.getfield 17, 3) := by decide +kernel
theorem dX10_bits_27 : decode cX10_bits 27 = .ok (.iconst 1, 1) := by decide +kernel
theorem dX10_bits_28 : decode cX10_bits 28 = .ok (.isub, 1) := by decide +kernel
theorem dX10_bits_29 : decode cX10_bits 29 = .ok (.iaload, 1) := by decide +kernel
theorem dX10_bits_30 : decode cX10_bits 30 = .ok (.istore_n 2, 1) := by decide +kernel
theorem dX10_bits_31 : decode cX10_bits 31 = .ok (.iload_n 2, 1) := by decide +kernel
theorem dX10_bits_32 : decode cX10_bits 32 = .ok (.ifCond .le 13, 3) := by decide +kernel
theorem dX10_bits_35 : decode cX10_bits 35 = .ok (.iinc 1 1, 3) := by decide +kernel
theorem dX10_bits_38 : decode cX10_bits 38 = .ok (.iload_n 2, 1) := by decide +kernel
theorem dX10_bits_39 : decode cX10_bits 39 = .ok (.iconst 1, 1) := by decide +kernel
theorem dX10_bits_40 : decode cX10_bits 40 = .ok (.ishr, 1) := by decide +kernel
theorem dX10_bits_41 : decode cX10_bits 41 = .ok (.istore_n 2, 1) := by decide +kernel
theorem dX10_bits_42 : decode cX10_bits 42 = .ok (.goto (-11), 3) := by decide +kernel
theorem dX10_bits_45 : decode cX10_bits 45 = .ok (.iload_n 1, 1) := by decide +kernel
theorem dX10_bits_46 : decode cX10_bits 46 = .ok (.ireturn, 1) := by decide +kernel
theorem dX10_clamped_0 : decode cX10_clamped 0 = .ok (.aload_n 0, 1) := by decide +kernel
theorem dX10_clamped_1 : decode cX10_clamped 1 = .ok (.getfield 17, 3) := by decide +kernel
theorem dX10_clamped_4 : decode cX10_clamped 4 = .ok (.ifCond .ne 7, 3) := by decide +kernel
theorem dX10_clamped_7 : decode cX10_clamped 7 = .ok (.iconst 0, 1) := by decide +kernel
theorem dX10_clamped_8 : decode cX10_clamped 8 = .ok (.goto 22, 3) := by decide +kernel
theorem dX10_clamped_11 : decode cX10_clamped 11 = .ok (.aload_n 0, 1) := by decide +kernel
theorem dX10_clamped_12 : decode cX10_clamped 12 = .ok (.getfield 17, 3) := by decide +kernel
theorem dX10_clamped_15 : decode cX10_clamped 15 = .ok (.iconst 1, 1) := by decide +kernel
theorem dX10_clamped_16 : decode cX10_clamped 16 = .ok (.if_icmp .ne 12, 3) := by decide +kernel
theorem dX10_clamped_19 : decode cX10_clamped 19 = .ok (.aload_n 0, 1) := by decide +kernel
theorem dX10_clamped_20 : decode cX10_clamped 20 = .ok (.getfield 9, 3) := by decide +kernel
theorem dX10_clamped_23 : decode cX10_clamped 23 = .ok (.iconst 0, 1) := by decide +kernel
theorem dX10_clamped_24 : decode cX10_clamped 24 = .ok (.iaload, 1) := by decide +kernel
theorem dX10_clamped_25 : decode cX10_clamped 25 = .ok (.goto 5, 3) := by decide +kernel
theorem dX10_clamped_28 : decode cX10_clamped 28 = .ok (.ldc 27, 2) := by decide +kernel
theorem dX10_clamped_30 : decode cX10_clamped 30 = .ok (.istore_n 1, 1) := by decide +kernel
theorem dX10_clamped_31 : decode cX10_clamped 31 = .ok (.aload_n 0, 1) := by decide +kernel
theorem dX10_clamped_32 : decode cX10_clamped 32 = .ok (.getfield 13, 3) := by decide +kernel
theorem dX10_clamped_35 : decode cX10_clamped 35 = .ok (.ifCond .eq 8, 3) := by decide +kernel
theorem dX10_clamped_38 : decode cX10_clamped 38 = .ok (.iload_n 1, 1) := by decide +kernel
theorem dX10_clamped_39 : decode cX10_clamped 39 = .ok (.ineg, 1) := by decide +kernel
theorem dX10_clamped_40 : decode cX10_clamped 40 = .ok (.goto 4, 3) := by decide +kernel
theorem dX10_clamped_43 : decode cX10_clamped 43 = .ok (.iload_n 1, 1) := by decide +kernel
theorem dX10_clamped_44 : decode cX10_clamped 44 = .ok (.ireturn, 1) := by decide +kernel
theorem dX10_compareSizes_0 : decode cX10_compareSizes 0 = .ok (.aload_n 0, 1) := by decide +kernel
theorem dX10_compareSizes_1 : decode cX10_compareSizes 1 = .ok (.getfield 17, 3) := by decide +kernel
theorem dX10_compareSizes_4 : decode cX10_compareSizes 4 = .ok (.aload_n 1, 1) := by decide +kernel
theorem dX10_compareSizes_5 : decode cX10_compareSizes 5 = .ok (.getfield 17, 3) := by decide +kernel
theorem dX10_compareSizes_8 : decode cX10_compareSizes 8 = .ok (.if_icmp .eq 20, 3) := by decide +kernel
theorem dX10_compareSizes_11 : decode cX10_compareSizes 11 = .ok (.aload_n 0, 1) := by decide +kernel
theorem dX10_compareSizes_12 : decode cX10_compareSizes 12 = .ok (.getfield 17, 3) := by decide +kernel
theorem dX10_compareSizes_15 : decode cX10_compareSizes 15 = .ok (.aload_n 1, 1) := by decide +kernel
theorem dX10_compareSizes_16 : decode cX10_compareSizes 16 = .ok (.getfield 17, 3) := by decide +kernel
theorem dX10_compareSizes_19 : decode cX10_compareSizes 19 = .ok (.if_icmp .ge 7, 3) := by decide +kernel
theorem dX10_compareSizes_22 : decode cX10_compareSizes 22 = .ok (.iconst (-1), 1) := by decide +kernel
theorem dX10_compareSizes_23 : decode cX10_compareSizes 23 = .ok (.goto 4, 3) := by decide +kernel
theorem dX10_compareSizes_26 : decode cX10_compareSizes 26 = .ok (.iconst 1, 1) := by decide +kernel
theorem dX10_compareSizes_27 : decode cX10_compareSizes 27 = .ok (.ireturn, 1) := by decide +kernel
theorem dX10_compareSizes_28 : decode cX10_compareSizes 28 = .ok (.aload_n 0, 1) := by decide +kernel
theorem dX10_compareSizes_29 : decode cX10_compareSizes 29 = .ok (.getfield 17, 3) := by decide +kernel
theorem dX10_compareSizes_32 : decode cX10_compareSizes 32 = .ok (.iconst 1, 1) := by decide +kernel
theorem dX10_compareSizes_33 : decode cX10_compareSizes 33 = .ok (.isub, 1) := by decide +kernel
theorem dX10_compareSizes_34 : decode cX10_compareSizes 34 = .ok (.istore_n 2, 1) := by decide +kernel
theorem dX10_compareSizes_35 : decode cX10_compareSizes 35 = .ok (.iload_n 2, 1) := by decide +kernel
theorem dX10_compareSizes_36 : decode cX10_compareSizes 36 = .ok (.ifCond .lt 45, 3) := by decide +kernel
theorem dX10_compareSizes_39 : decode cX10_compareSizes 39 = .ok (.aload_n 0, 1) := by decide +kernel
theorem dX10_compareSizes_40 : decode cX10_compareSizes 40 = .ok (.getfield 9, 3) := by decide +kernel
theorem dX10_compareSizes_43 : decode cX10_compareSizes 43 = .ok (.iload_n 2, 1) := by decide +kernel
theorem dX10_compareSizes_44 : decode cX10_compareSizes 44 = .ok (.iaload, 1) := by decide +kernel
theorem dX10_compareSizes_45 : decode cX10_compareSizes 45 = .ok (.aload_n 1, 1) := by decide +kernel
theorem dX10_compareSizes_46 : decode cX10_compareSizes 46 = .ok (.getfield 9, 3) := by decide +kernel
theorem dX10_compareSizes_49 : decode cX10_compareSizes 49 = .ok (.iload_n 2, 1) := by decide +kernel
theorem dX10_compareSizes_50 : decode cX10_compareSizes 50 = .ok (.iaload, 1) := by decide +kernel
theorem dX10_compareSizes_51 : decode cX10_compareSizes 51 = .ok (.if_icmp .eq 24, 3) := by decide +kernel
theorem dX10_compareSizes_54 : decode cX10_compareSizes 54 = .ok (.aload_n 0, 1) := by decide +kernel
theorem dX10_compareSizes_55 : decode cX10_compareSizes 55 = .ok (.getfield 9, 3) := by decide +kernel
theorem dX10_compareSizes_58 : decode cX10_compareSizes 58 = .ok (.iload_n 2, 1) := by decide +kernel
theorem dX10_compareSizes_59 : decode cX10_compareSizes 59 = .ok (.iaload, 1) := by decide +kernel
theorem dX10_compareSizes_60 : decode cX10_compareSizes 60 = .ok (.aload_n 1, 1) := by decide +kernel
theorem dX10_compareSizes_61 : decode cX10_compareSizes 61 = .ok (.getfield 9, 3) := by decide +kernel
theorem dX10_compareSizes_64 : decode cX10_compareSizes 64 = .ok (.iload_n 2, 1) := by decide +kernel
theorem dX10_compareSizes_65 : decode cX10_compareSizes 65 = .ok (.iaload, 1) := by decide +kernel
theorem dX10_compareSizes_66 : decode cX10_compareSizes 66 = .ok (.if_icmp .ge 7, 3) := by decide +kernel
theorem dX10_compareSizes_69 : decode cX10_compareSizes 69 = .ok (.iconst (-1), 1) := by decide +kernel
theorem dX10_compareSizes_70 : decode cX10_compareSizes 70 = .ok (.goto 4, 3) := by decide +kernel
theorem dX10_compareSizes_73 : decode cX10_compareSizes 73 = .ok (.iconst 1, 1) := by decide +kernel
theorem dX10_compareSizes_74 : decode cX10_compareSizes 74 = .ok (.ireturn, 1) := by decide +kernel
theorem dX10_compareSizes_75 : decode cX10_compareSizes 75 = .ok (.iinc 2 (-1), 3) := by decide +kernel
theorem dX10_compareSizes_78 : decode cX10_compareSizes 78 = .ok (.goto (-43), 3) := by decide +kernel
theorem dX10_compareSizes_81 : decode cX10_compareSizes 81 = .ok (.iconst 0, 1) := by decide +kernel
theorem dX10_compareSizes_82 : decode cX10_compareSizes 82 = .ok (.ireturn, 1) := by decide +kernel
theorem dX10_compareSigned_0 : decode cX10_compareSigned 0 = .ok (.aload_n 0, 1) := by decide +kernel
theorem dX10_compareSigned_1 : decode cX10_compareSigned 1 = .ok (.getfield 13, 3) := by decide +kernel
theorem dX10_compareSigned_4 : decode cX10_compareSigned 4 = .ok (.aload_n 1, 1) := by decide +kernel
theorem dX10_compareSigned_5 : decode cX10_compareSigned 5 = .ok (.getfield 13, 3) := by decide +kernel
theorem dX10_compareSigned_8 : decode cX10_compareSigned 8 = .ok (.if_icmp .eq 16, 3) := by decide +kernel
theorem dX10_compareSigned_11 : decode cX10_compareSigned 11 = .ok (.aload_n 0, 1) := by decide +kernel
theorem dX10_compareSigned_12 : decode cX10_compareSigned 12 = .ok (.getfield 13, 3) := by decide +kernel
theorem dX10_compareSigned_15 : decode cX10_compareSigned 15 = .ok (.ifCond .eq 7, 3) := by decide +kernel
theorem dX10_compareSigned_18 : decode cX10_compareSigned 18 = .ok (.iconst (-1), 1) := by decide +kernel
theorem dX10_compareSigned_19 : decode cX10_compareSigned 19 = .ok (.goto 4, 3) := by decide +kernel
theorem dX10_compareSigned_22 : decode cX10_compareSigned 22 = .ok (.iconst 1, 1) := by decide +kernel
theorem dX10_compareSigned_23 : decode cX10_compareSigned 23 = .ok (.ireturn, 1) := by decide +kernel
theorem dX10_compareSigned_24 : decode cX10_compareSigned 24 = .ok (.aload_n 0, 1) := by decide +kernel
theorem dX10_compareSigned_25 : decode cX10_compareSigned 25 = .ok (.getfield 13, 3) := by decide +kernel
theorem dX10_compareSigned_28 : decode cX10_compareSigned 28 = .ok (.ifCond .eq 11, 3) := by decide +kernel
theorem dX10_compareSigned_31 : decode cX10_compareSigned 31 = .ok (.aload_n 1, 1) := by decide +kernel
theorem dX10_compareSigned_32 : decode cX10_compareSigned 32 = .ok (.aload_n 0, 1) := by decide +kernel
theorem dX10_compareSigned_33 : decode cX10_compareSigned 33 = .ok (.invokestatic 28, 3) := by decide +kernel
theorem dX10_compareSigned_36 : decode cX10_compareSigned 36 = .ok (.goto 8, 3) := by decide +kernel
theorem dX10_compareSigned_39 : decode cX10_compareSigned 39 = .ok (.aload_n 0, 1) := by decide +kernel
theorem dX10_compareSigned_40 : decode cX10_compareSigned 40 = .ok (.aload_n 1, 1) := by decide +kernel
theorem dX10_compareSigned_41 : decode cX10_compareSigned 41 = .ok (.invokestatic 28, 3) := by decide +kernel
theorem dX10_compareSigned_44 : decode cX10_compareSigned 44 = .ok (.ireturn, 1) := by decide +kernel
theorem dX10_sum_0 : decode cX10_sum 0 = .ok (.aload_n 2, 1) := by decide +kernel
theorem dX10_sum_1 : decode cX10_sum 1 = .ok (.getfield 13, 3) := by decide +kernel
theorem dX10_sum_4 : decode cX10_sum 4 = .ok (.iload_n 3, 1) := by decide +kernel
theorem dX10_sum_5 : decode cX10_sum 5 = .ok (.if_icmp .eq 7, 3) := by decide +kernel
theorem dX10_sum_8 : decode cX10_sum 8 = .ok (.iconst 1, 1) := by decide +kernel
theorem dX10_sum_9 : decode cX10_sum 9 = .ok (.goto 4, 3) := by decide +kernel
theorem dX10_sum_12 : decode cX10_sum 12 = .ok (.iconst 0, 1) := by decide +kernel
theorem dX10_sum_13 : decode cX10_sum 13 = .ok (.istore 4, 2) := by decide +kernel
theorem dX10_sum_15 : decode cX10_sum 15 = .ok (.aload_n 1, 1) := by decide +kernel
theorem dX10_sum_16 : decode cX10_sum 16 = .ok (.aload_n 2, 1) := by decide +kernel
theorem dX10_sum_17 : decode cX10_sum 17 = .ok (.invokestatic 28, 3) := by decide +kernel
theorem dX10_sum_20 : decode cX10_sum 20 = .ok (.ifCond .ge 7, 3) := by decide +kernel
theorem dX10_sum_23 : decode cX10_sum 23 = .ok (.iconst 1, 1) := by decide +kernel
theorem dX10_sum_24 : decode cX10_sum 24 = .ok (.goto 4, 3) := by decide +kernel
theorem dX10_sum_27 : decode cX10_sum 27 = .ok (.iconst 0, 1) := by decide +kernel
theorem dX10_sum_28 : decode cX10_sum 28 = .ok (.istore 5, 2) := by decide +kernel
theorem dX10_sum_30 : decode cX10_sum 30 = .ok (.iload 5, 2) := by decide +kernel
theorem dX10_sum_32 : decode cX10_sum 32 = .ok (.ifCond .eq 7, 3) := by decide +kernel
theorem dX10_sum_35 : decode cX10_sum 35 = .ok (.aload_n 2, 1) := by decide +kernel
theorem dX10_sum_36 : decode cX10_sum 36 = .ok (.goto 4, 3) := by decide +kernel
theorem dX10_sum_39 : decode cX10_sum 39 = .ok (.aload_n 1, 1) := by decide +kernel
theorem dX10_sum_40 : decode cX10_sum 40 = .ok (.astore 6, 2) := by decide +kernel
theorem dX10_sum_42 : decode cX10_sum 42 = .ok (.iload 5, 2) := by decide +kernel
theorem dX10_sum_44 : decode cX10_sum 44 = .ok (.ifCond .eq 7, 3) := by decide +kernel
theorem dX10_sum_47 : decode cX10_sum 47 = .ok (.aload_n 1, 1) := by decide +kernel
theorem dX10_sum_48 : decode cX10_sum 48 = .ok (.goto 4, 3) := by decide +kernel
theorem dX10_sum_51 : decode cX10_sum 51 = .ok (.aload_n 2, 1) := by decide +kernel
theorem dX10_sum_52 : decode cX10_sum 52 = .ok (.astore 7, 2) := by decide +kernel
theorem dX10_sum_54 : decode cX10_sum 54 = .ok (.aload_n 1, 1) := by decide +kernel
theorem dX10_sum_55 : decode cX10_sum 55 = .ok (.getfield 13, 3) := by decide +kernel
theorem dX10_sum_58 : decode cX10_sum 58 = .ok (.iload 4, 2) := by decide +kernel
theorem dX10_sum_60 : decode cX10_sum 60 = .ok (.if_icmp .ne 7, 3) := by decide +kernel
theorem dX10_sum_63 : decode cX10_sum 63 = .ok (.iconst 1, 1) := by decide +kernel
theorem dX10_sum_64 : decode cX10_sum 64 = .ok (.goto 4, 3) := by decide +kernel
theorem dX10_sum_67 : decode cX10_sum 67 = .ok (.iconst (-1), 1) := by decide +kernel
theorem dX10_sum_68 : decode cX10_sum 68 = .ok (.istore 8, 2) := by decide +kernel
theorem dX10_sum_70 : decode cX10_sum 70 = .ok (.aload 6, 2) := by decide +kernel
theorem dX10_sum_72 : decode cX10_sum 72 = .ok (.getfield 17, 3) := by decide +kernel
theorem dX10_sum_75 : decode cX10_sum 75 = .ok (.iconst 1, 1) := by decide +kernel
theorem dX10_sum_76 : decode cX10_sum 76 = .ok (.iadd, 1) := by decide +kernel
theorem dX10_sum_77 : decode cX10_sum 77 = .ok (.aload_n 0, 1) := by decide +kernel
theorem dX10_sum_78 : decode cX10_sum 78 = .ok (.getfield 9, 3) := by decide +kernel
theorem dX10_sum_81 : decode cX10_sum 81 = .ok (.arraylength, 1) := by decide +kernel
theorem dX10_sum_82 : decode cX10_sum 82 = .ok (.invokestatic 32, 3) := by decide +kernel
theorem dX10_sum_85 : decode cX10_sum 85 = .ok (.istore 9, 2) := by decide +kernel
theorem dX10_sum_87 : decode cX10_sum 87 = .ok (.lconst 0, 1) := by decide +kernel
theorem dX10_sum_88 : decode cX10_sum 88 = .ok (.lstore 10, 2) := by decide +kernel
theorem dX10_sum_90 : decode cX10_sum 90 = .ok (.iconst 0, 1) := by decide +kernel
theorem dX10_sum_91 : decode cX10_sum 91 = .ok (.istore 12, 2) := by decide +kernel
theorem dX10_sum_93 : decode cX10_sum 93 = .ok (.iload 12, 2) := by decide +kernel
theorem dX10_sum_95 : decode cX10_sum 95 = .ok (.iload 9, 2) := by decide +kernel
theorem dX10_sum_97 : decode cX10_sum 97 = .ok (.if_icmp .ge 94, 3) := by decide +kernel
theorem dX10_sum_100 : decode cX10_sum 100 = .ok (.iload 12, 2) := by decide +kernel
theorem dX10_sum_102 : decode cX10_sum 102 = .ok (.aload 6, 2) := by decide +kernel
theorem dX10_sum_104 : decode cX10_sum 104 = .ok (.getfield 17, 3) := by decide +kernel
theorem dX10_sum_107 : decode cX10_sum 107 = .ok (.if_icmp .ge 15, 3) := by decide +kernel
theorem dX10_sum_110 : decode cX10_sum 110 = .ok (.aload 6, 2) := by decide +kernel
theorem dX10_sum_112 : decode cX10_sum 112 = .ok (.getfield 9, 3) := by decide +kernel
theorem dX10_sum_115 : decode cX10_sum 115 = .ok (.iload 12, 2) := by decide +kernel
theorem dX10_sum_117 : decode cX10_sum 117 = .ok (.iaload, 1) := by decide +kernel
theorem dX10_sum_118 : decode cX10_sum 118 = .ok (.i2l, 1) := by decide +kernel
theorem dX10_sum_119 : decode cX10_sum 119 = .ok (.goto 4, 3) := by decide +kernel
theorem dX10_sum_122 : decode cX10_sum 122 = .ok (.lconst 0, 1) := by decide +kernel
theorem dX10_sum_123 : decode cX10_sum 123 = .ok (.lstore 13, 2) := by decide +kernel
theorem dX10_sum_125 : decode cX10_sum 125 = .ok (.iload 12, 2) := by decide +kernel
theorem dX10_sum_127 : decode cX10_sum 127 = .ok (.aload 7, 2) := by decide +kernel
theorem dX10_sum_129 : decode cX10_sum 129 = .ok (.getfield 17, 3) := by decide +kernel
theorem dX10_sum_132 : decode cX10_sum 132 = .ok (.if_icmp .ge 15, 3) := by decide +kernel
theorem dX10_sum_135 : decode cX10_sum 135 = .ok (.aload 7, 2) := by decide +kernel
theorem dX10_sum_137 : decode cX10_sum 137 = .ok (.getfield 9, 3) := by decide +kernel
theorem dX10_sum_140 : decode cX10_sum 140 = .ok (.iload 12, 2) := by decide +kernel
theorem dX10_sum_142 : decode cX10_sum 142 = .ok (.iaload, 1) := by decide +kernel
theorem dX10_sum_143 : decode cX10_sum 143 = .ok (.i2l, 1) := by decide +kernel
theorem dX10_sum_144 : decode cX10_sum 144 = .ok (.goto 4, 3) := by decide +kernel
theorem dX10_sum_147 : decode cX10_sum 147 = .ok (.lconst 0, 1) := by decide +kernel
theorem dX10_sum_148 : decode cX10_sum 148 = .ok (.lstore 15, 2) := by decide +kernel
theorem dX10_sum_150 : decode cX10_sum 150 = .ok (.lload 13, 2) := by decide +kernel
theorem dX10_sum_152 : decode cX10_sum 152 = .ok (.iload 8, 2) := by decide +kernel
theorem dX10_sum_154 : decode cX10_sum 154 = .ok (.i2l, 1) := by decide +kernel
theorem dX10_sum_155 : decode cX10_sum 155 = .ok (.lload 15, 2) := by decide +kernel
theorem dX10_sum_157 : decode cX10_sum 157 = .ok (.lmul, 1) := by decide +kernel
theorem dX10_sum_158 : decode cX10_sum 158 = .ok (.ladd, 1) := by decide +kernel
theorem dX10_sum_159 : decode cX10_sum 159 = .ok (.lload 10, 2) := by decide +kernel
theorem dX10_sum_161 : decode cX10_sum 161 = .ok (.ladd, 1) := by decide +kernel
theorem dX10_sum_162 : decode cX10_sum 162 = .ok (.lstore 17, 2) := by decide +kernel
theorem dX10_sum_164 : decode cX10_sum 164 = .ok (.aload_n 0, 1) := by decide +kernel
theorem dX10_sum_165 : decode cX10_sum 165 = .ok (.getfield 9, 3) := by decide +kernel
theorem dX10_sum_168 : decode cX10_sum 168 = .ok (.iload 12, 2) := by decide +kernel
theorem dX10_sum_170 : decode cX10_sum 170 = .ok (.lload 17, 2) := by decide +kernel
theorem dX10_sum_172 : decode cX10_sum 172 = .ok (.ldc2_w 21, 3) := by decide +kernel
theorem dX10_sum_175 : decode cX10_sum 175 = .ok (.land, 1) := by decide +kernel
theorem dX10_sum_176 : decode cX10_sum 176 = .ok (.l2i, 1) := by decide +kernel
theorem dX10_sum_177 : decode cX10_sum 177 = .ok (.iastore, 1) := by decide +kernel
theorem dX10_sum_178 : decode cX10_sum 178 = .ok (.lload 17, 2) := by decide +kernel
theorem dX10_sum_180 : decode cX10_sum 180 = .ok (.bipush 30, 2) := by decide +kernel
theorem dX10_sum_182 : decode cX10_sum 182 = .ok (.lshr, 1) := by decide +kernel
theorem dX10_sum_183 : decode cX10_sum 183 = .ok (.lstore 10, 2) := by decide +kernel
theorem dX10_sum_185 : decode cX10_sum 185 = .ok (.iinc 12 1, 3) := by decide +kernel
theorem dX10_sum_188 : decode cX10_sum 188 = .ok (.goto (-95), 3) := by decide +kernel
theorem dX10_sum_191 : decode cX10_sum 191 = .ok (.aload_n 0, 1) := by decide +kernel
theorem dX10_sum_192 : decode cX10_sum 192 = .ok (.iload 5, 2) := by decide +kernel
theorem dX10_sum_194 : decode cX10_sum 194 = .ok (.ifCond .eq 8, 3) := by decide +kernel
theorem dX10_sum_197 : decode cX10_sum 197 = .ok (.iload 4, 2) := by decide +kernel
theorem dX10_sum_199 : decode cX10_sum 199 = .ok (.goto 7, 3) := by decide +kernel
theorem dX10_sum_202 : decode cX10_sum 202 = .ok (.aload_n 1, 1) := by decide +kernel
theorem dX10_sum_203 : decode cX10_sum 203 = .ok (.getfield 13, 3) := by decide +kernel
theorem dX10_sum_206 : decode cX10_sum 206 = .ok (.putfield 13, 3) := by decide +kernel
theorem dX10_sum_209 : decode cX10_sum 209 = .ok (.aload_n 0, 1) := by decide +kernel
theorem dX10_sum_210 : decode cX10_sum 210 = .ok (.iload 9, 2) := by decide +kernel
theorem dX10_sum_212 : decode cX10_sum 212 = .ok (.invokevirtual 38, 3) := by decide +kernel
theorem dX10_sum_215 : decode cX10_sum 215 = .ok (.return_, 1) := by decide +kernel
theorem dX10_multiply_0 : decode cX10_multiply 0 = .ok (.aload_n 1, 1) := by decide +kernel
theorem dX10_multiply_1 : decode cX10_multiply 1 = .ok (.getfield 17, 3) := by decide +kernel
theorem dX10_multiply_4 : decode cX10_multiply 4 = .ok (.aload_n 2, 1) := by decide +kernel
theorem dX10_multiply_5 : decode cX10_multiply 5 = .ok (.getfield 17, 3) := by decide +kernel
theorem dX10_multiply_8 : decode cX10_multiply 8 = .ok (.iadd, 1) := by decide +kernel
theorem dX10_multiply_9 : decode cX10_multiply 9 = .ok (.aload_n 0, 1) := by decide +kernel
theorem dX10_multiply_10 : decode cX10_multiply 10 = .ok (.getfield 9, 3) := by decide +kernel
theorem dX10_multiply_13 : decode cX10_multiply 13 = .ok (.arraylength, 1) := by decide +kernel
theorem dX10_multiply_14 : decode cX10_multiply 14 = .ok (.invokestatic 32, 3) := by decide +kernel
theorem dX10_multiply_17 : decode cX10_multiply 17 = .ok (.istore_n 3, 1) := by decide +kernel
theorem dX10_multiply_18 : decode cX10_multiply 18 = .ok (.iconst 0, 1) := by decide +kernel
theorem dX10_multiply_19 : decode cX10_multiply 19 = .ok (.istore 4, 2) := by decide +kernel
theorem dX10_multiply_21 : decode cX10_multiply 21 = .ok (.iload 4, 2) := by decide +kernel
theorem dX10_multiply_23 : decode cX10_multiply 23 = .ok (.iload_n 3, 1) := by decide +kernel
theorem dX10_multiply_24 : decode cX10_multiply 24 = .ok (.if_icmp .ge 17, 3) := by decide +kernel
theorem dX10_multiply_27 : decode cX10_multiply 27 = .ok (.aload_n 0, 1) := by decide +kernel
theorem dX10_multiply_28 : decode cX10_multiply 28 = .ok (.getfield 9, 3) := by decide +kernel
theorem dX10_multiply_31 : decode cX10_multiply 31 = .ok (.iload 4, 2) := by decide +kernel
theorem dX10_multiply_33 : decode cX10_multiply 33 = .ok (.iconst 0, 1) := by decide +kernel
theorem dX10_multiply_34 : decode cX10_multiply 34 = .ok (.iastore, 1) := by decide +kernel
theorem dX10_multiply_35 : decode cX10_multiply 35 = .ok (.iinc 4 1, 3) := by decide +kernel
theorem dX10_multiply_38 : decode cX10_multiply 38 = .ok (.goto (-17), 3) := by decide +kernel
theorem dX10_multiply_41 : decode cX10_multiply 41 = .ok (.iconst 0, 1) := by decide +kernel
theorem dX10_multiply_42 : decode cX10_multiply 42 = .ok (.istore 4, 2) := by decide +kernel
theorem dX10_multiply_44 : decode cX10_multiply 44 = .ok (.iload 4, 2) := by decide +kernel
theorem dX10_multiply_46 : decode cX10_multiply 46 = .ok (.aload_n 1, 1) := by decide +kernel
theorem dX10_multiply_47 : decode cX10_multiply 47 = .ok (.getfield 17, 3) := by decide +kernel
theorem dX10_multiply_50 : decode cX10_multiply 50 = .ok (.if_icmp .ge 129, 3) := by decide +kernel
theorem dX10_multiply_53 : decode cX10_multiply 53 = .ok (.iload 4, 2) := by decide +kernel
theorem dX10_multiply_55 : decode cX10_multiply 55 = .ok (.iload_n 3, 1) := by decide +kernel
theorem dX10_multiply_56 : decode cX10_multiply 56 = .ok (.if_icmp .ge 123, 3) := by decide +kernel
theorem dX10_multiply_59 : decode cX10_multiply 59 = .ok (.lconst 0, 1) := by decide +kernel
theorem dX10_multiply_60 : decode cX10_multiply 60 = .ok (.lstore 5, 2) := by decide +kernel
theorem dX10_multiply_62 : decode cX10_multiply 62 = .ok (.iconst 0, 1) := by decide +kernel
theorem dX10_multiply_63 : decode cX10_multiply 63 = .ok (.istore 7, 2) := by decide +kernel
theorem dX10_multiply_65 : decode cX10_multiply 65 = .ok (.iload 7, 2) := by decide +kernel
theorem dX10_multiply_67 : decode cX10_multiply 67 = .ok (.aload_n 2, 1) := by decide +kernel
theorem dX10_multiply_68 : decode cX10_multiply 68 = .ok (.getfield 17, 3) := by decide +kernel
theorem dX10_multiply_71 : decode cX10_multiply 71 = .ok (.if_icmp .ge 76, 3) := by decide +kernel
theorem dX10_multiply_74 : decode cX10_multiply 74 = .ok (.iload 4, 2) := by decide +kernel
theorem dX10_multiply_76 : decode cX10_multiply 76 = .ok (.iload 7, 2) := by decide +kernel
theorem dX10_multiply_78 : decode cX10_multiply 78 = .ok (.iadd, 1) := by decide +kernel
theorem dX10_multiply_79 : decode cX10_multiply 79 = .ok (.iload_n 3, 1) := by decide +kernel
theorem dX10_multiply_80 : decode cX10_multiply 80 = .ok (.if_icmp .ge 67, 3) := by decide +kernel
theorem dX10_multiply_83 : decode cX10_multiply 83 = .ok (.aload_n 0, 1) := by decide +kernel
theorem dX10_multiply_84 : decode cX10_multiply 84 = .ok (.getfield 9, 3) := by decide +kernel
theorem dX10_multiply_87 : decode cX10_multiply 87 = .ok (.iload 4, 2) := by decide +kernel
theorem dX10_multiply_89 : decode cX10_multiply 89 = .ok (.iload 7, 2) := by decide +kernel
theorem dX10_multiply_91 : decode cX10_multiply 91 = .ok (.iadd, 1) := by decide +kernel
theorem dX10_multiply_92 : decode cX10_multiply 92 = .ok (.iaload, 1) := by decide +kernel
theorem dX10_multiply_93 : decode cX10_multiply 93 = .ok (.i2l, 1) := by decide +kernel
theorem dX10_multiply_94 : decode cX10_multiply 94 = .ok (.aload_n 1, 1) := by decide +kernel
theorem dX10_multiply_95 : decode cX10_multiply 95 = .ok (.getfield 9, 3) := by decide +kernel
theorem dX10_multiply_98 : decode cX10_multiply 98 = .ok (.iload 4, 2) := by decide +kernel
theorem dX10_multiply_100 : decode cX10_multiply 100 = .ok (.iaload, 1) := by decide +kernel
theorem dX10_multiply_101 : decode cX10_multiply 101 = .ok (.i2l, 1) := by decide +kernel
theorem dX10_multiply_102 : decode cX10_multiply 102 = .ok (.aload_n 2, 1) := by decide +kernel
theorem dX10_multiply_103 : decode cX10_multiply 103 = .ok (.getfield 9, 3) := by decide +kernel
theorem dX10_multiply_106 : decode cX10_multiply 106 = .ok (.iload 7, 2) := by decide +kernel
theorem dX10_multiply_108 : decode cX10_multiply 108 = .ok (.iaload, 1) := by decide +kernel
theorem dX10_multiply_109 : decode cX10_multiply 109 = .ok (.i2l, 1) := by decide +kernel
theorem dX10_multiply_110 : decode cX10_multiply 110 = .ok (.lmul, 1) := by decide +kernel
theorem dX10_multiply_111 : decode cX10_multiply 111 = .ok (.ladd, 1) := by decide +kernel
theorem dX10_multiply_112 : decode cX10_multiply 112 = .ok (.lload 5, 2) := by decide +kernel
theorem dX10_multiply_114 : decode cX10_multiply 114 = .ok (.ladd, 1) := by decide +kernel
theorem dX10_multiply_115 : decode cX10_multiply 115 = .ok (.lstore 8, 2) := by decide +kernel
theorem dX10_multiply_117 : decode cX10_multiply 117 = .ok (.aload_n 0, 1) := by decide +kernel
theorem dX10_multiply_118 : decode cX10_multiply 118 = .ok (.getfield 9, 3) := by decide +kernel
theorem dX10_multiply_121 : decode cX10_multiply 121 = .ok (.iload 4, 2) := by decide +kernel
theorem dX10_multiply_123 : decode cX10_multiply 123 = .ok (.iload 7, 2) := by decide +kernel
theorem dX10_multiply_125 : decode cX10_multiply 125 = .ok (.iadd, 1) := by decide +kernel
theorem dX10_multiply_126 : decode cX10_multiply 126 = .ok (.lload 8, 2) := by decide +kernel
theorem dX10_multiply_128 : decode cX10_multiply 128 = .ok (.ldc2_w 21, 3) := by decide +kernel
theorem dX10_multiply_131 : decode cX10_multiply 131 = .ok (.land, 1) := by decide +kernel
theorem dX10_multiply_132 : decode cX10_multiply 132 = .ok (.l2i, 1) := by decide +kernel
theorem dX10_multiply_133 : decode cX10_multiply 133 = .ok (.iastore, 1) := by decide +kernel
theorem dX10_multiply_134 : decode cX10_multiply 134 = .ok (.lload 8, 2) := by decide +kernel
theorem dX10_multiply_136 : decode cX10_multiply 136 = .ok (.bipush 30, 2) := by decide +kernel
theorem dX10_multiply_138 : decode cX10_multiply 138 = .ok (.lshr, 1) := by decide +kernel
theorem dX10_multiply_139 : decode cX10_multiply 139 = .ok (.lstore 5, 2) := by decide +kernel
theorem dX10_multiply_141 : decode cX10_multiply 141 = .ok (.iinc 7 1, 3) := by decide +kernel
theorem dX10_multiply_144 : decode cX10_multiply 144 = .ok (.goto (-79), 3) := by decide +kernel
theorem dX10_multiply_147 : decode cX10_multiply 147 = .ok (.iload 4, 2) := by decide +kernel
theorem dX10_multiply_149 : decode cX10_multiply 149 = .ok (.aload_n 2, 1) := by decide +kernel
theorem dX10_multiply_150 : decode cX10_multiply 150 = .ok (.getfield 17, 3) := by decide +kernel
theorem dX10_multiply_153 : decode cX10_multiply 153 = .ok (.iadd, 1) := by decide +kernel
theorem dX10_multiply_154 : decode cX10_multiply 154 = .ok (.iload_n 3, 1) := by decide +kernel
theorem dX10_multiply_155 : decode cX10_multiply 155 = .ok (.if_icmp .ge 18, 3) := by decide +kernel
theorem dX10_multiply_158 : decode cX10_multiply 158 = .ok (.aload_n 0, 1) := by decide +kernel
theorem dX10_multiply_159 : decode cX10_multiply 159 = .ok (.getfield 9, 3) := by decide +kernel
theorem dX10_multiply_162 : decode cX10_multiply 162 = .ok (.iload 4, 2) := by decide +kernel
theorem dX10_multiply_164 : decode cX10_multiply 164 = .ok (.aload_n 2, 1) := by decide +kernel
theorem dX10_multiply_165 : decode cX10_multiply 165 = .ok (.getfield 17, 3) := by decide +kernel
theorem dX10_multiply_168 : decode cX10_multiply 168 = .ok (.iadd, 1) := by decide +kernel
theorem dX10_multiply_169 : decode cX10_multiply 169 = .ok (.lload 5, 2) := by decide +kernel
theorem dX10_multiply_171 : decode cX10_multiply 171 = .ok (.l2i, 1) := by decide +kernel
theorem dX10_multiply_172 : decode cX10_multiply 172 = .ok (.iastore, 1) := by decide +kernel
theorem dX10_multiply_173 : decode cX10_multiply 173 = .ok (.iinc 4 1, 3) := by decide +kernel
theorem dX10_multiply_176 : decode cX10_multiply 176 = .ok (.goto (-132), 3) := by decide +kernel
theorem dX10_multiply_179 : decode cX10_multiply 179 = .ok (.aload_n 0, 1) := by decide +kernel
theorem dX10_multiply_180 : decode cX10_multiply 180 = .ok (.aload_n 1, 1) := by decide +kernel
theorem dX10_multiply_181 : decode cX10_multiply 181 = .ok (.getfield 13, 3) := by decide +kernel
theorem dX10_multiply_184 : decode cX10_multiply 184 = .ok (.aload_n 2, 1) := by decide +kernel
theorem dX10_multiply_185 : decode cX10_multiply 185 = .ok (.getfield 13, 3) := by decide +kernel
theorem dX10_multiply_188 : decode cX10_multiply 188 = .ok (.if_icmp .eq 7, 3) := by decide +kernel
theorem dX10_multiply_191 : decode cX10_multiply 191 = .ok (.iconst 1, 1) := by decide +kernel
theorem dX10_multiply_192 : decode cX10_multiply 192 = .ok (.goto 4, 3) := by decide +kernel
theorem dX10_multiply_195 : decode cX10_multiply 195 = .ok (.iconst 0, 1) := by decide +kernel
theorem dX10_multiply_196 : decode cX10_multiply 196 = .ok (.putfield 13, 3) := by decide +kernel
theorem dX10_multiply_199 : decode cX10_multiply 199 = .ok (.aload_n 0, 1) := by decide +kernel
theorem dX10_multiply_200 : decode cX10_multiply 200 = .ok (.iload_n 3, 1) := by decide +kernel
theorem dX10_multiply_201 : decode cX10_multiply 201 = .ok (.invokevirtual 38, 3) := by decide +kernel
theorem dX10_multiply_204 : decode cX10_multiply 204 = .ok (.return_, 1) := by decide +kernel
theorem dX10_shrink_0 : decode cX10_shrink 0 = .ok (.iload_n 1, 1) := by decide +kernel
theorem dX10_shrink_1 : decode cX10_shrink 1 = .ok (.iconst 1, 1) := by decide +kernel
theorem dX10_shrink_2 : decode cX10_shrink 2 = .ok (.if_icmp .ge 5, 3) := by decide +kernel
theorem dX10_shrink_5 : decode cX10_shrink 5 = .ok (.iconst 0, 1) := by decide +kernel
theorem dX10_shrink_6 : decode cX10_shrink 6 = .ok (.ireturn, 1) := by decide +kernel
theorem dX10_shrink_7 : decode cX10_shrink 7 = .ok (.lconst 0, 1) := by decide +kernel
theorem dX10_shrink_8 : decode cX10_shrink 8 = .ok (.lstore_n 2, 1) := by decide +kernel
theorem dX10_shrink_9 : decode cX10_shrink 9 = .ok (.aload_n 0, 1) := by decide +kernel
theorem dX10_shrink_10 : decode cX10_shrink 10 = .ok (.getfield 17, 3) := by decide +kernel
theorem dX10_shrink_13 : decode cX10_shrink 13 = .ok (.iconst 1, 1) := by decide +kernel
theorem dX10_shrink_14 : decode cX10_shrink 14 = .ok (.isub, 1) := by decide +kernel
theorem dX10_shrink_15 : decode cX10_shrink 15 = .ok (.istore 4, 2) := by decide +kernel
theorem dX10_shrink_17 : decode cX10_shrink 17 = .ok (.iload 4, 2) := by decide +kernel
theorem dX10_shrink_19 : decode cX10_shrink 19 = .ok (.ifCond .lt 43, 3) := by decide +kernel
theorem dX10_shrink_22 : decode cX10_shrink 22 = .ok (.lload_n 2, 1) := by decide +kernel
theorem dX10_shrink_23 : decode cX10_shrink 23 = .ok (.bipush 30, 2) := by decide +kernel
theorem dX10_shrink_25 : decode cX10_shrink 25 = .ok (.lshl, 1) := by decide +kernel
theorem dX10_shrink_26 : decode cX10_shrink 26 = .ok (.aload_n 0, 1) := by decide +kernel
theorem dX10_shrink_27 : decode cX10_shrink 27 = .ok (.getfield 9, 3) := by decide +kernel
theorem dX10_shrink_30 : decode cX10_shrink 30 = .ok (.iload 4, 2) := by decide +kernel
theorem dX10_shrink_32 : decode cX10_shrink 32 = .ok (.iaload, 1) := by decide +kernel
theorem dX10_shrink_33 : decode cX10_shrink 33 = .ok (.i2l, 1) := by decide +kernel
theorem dX10_shrink_34 : decode cX10_shrink 34 = .ok (.lor, 1) := by decide +kernel
theorem dX10_shrink_35 : decode cX10_shrink 35 = .ok (.lstore 5, 2) := by decide +kernel
theorem dX10_shrink_37 : decode cX10_shrink 37 = .ok (.aload_n 0, 1) := by decide +kernel
theorem dX10_shrink_38 : decode cX10_shrink 38 = .ok (.getfield 9, 3) := by decide +kernel
theorem dX10_shrink_41 : decode cX10_shrink 41 = .ok (.iload 4, 2) := by decide +kernel
theorem dX10_shrink_43 : decode cX10_shrink 43 = .ok (.lload 5, 2) := by decide +kernel
theorem dX10_shrink_45 : decode cX10_shrink 45 = .ok (.iload_n 1, 1) := by decide +kernel
theorem dX10_shrink_46 : decode cX10_shrink 46 = .ok (.i2l, 1) := by decide +kernel
theorem dX10_shrink_47 : decode cX10_shrink 47 = .ok (.ldiv, 1) := by decide +kernel
theorem dX10_shrink_48 : decode cX10_shrink 48 = .ok (.l2i, 1) := by decide +kernel
theorem dX10_shrink_49 : decode cX10_shrink 49 = .ok (.iastore, 1) := by decide +kernel
theorem dX10_shrink_50 : decode cX10_shrink 50 = .ok (.lload 5, 2) := by decide +kernel
theorem dX10_shrink_52 : decode cX10_shrink 52 = .ok (.iload_n 1, 1) := by decide +kernel
theorem dX10_shrink_53 : decode cX10_shrink 53 = .ok (.i2l, 1) := by decide +kernel
theorem dX10_shrink_54 : decode cX10_shrink 54 = .ok (.lrem, 1) := by decide +kernel
theorem dX10_shrink_55 : decode cX10_shrink 55 = .ok (.lstore_n 2, 1) := by decide +kernel
theorem dX10_shrink_56 : decode cX10_shrink 56 = .ok (.iinc 4 (-1), 3) := by decide +kernel
theorem dX10_shrink_59 : decode cX10_shrink 59 = .ok (.goto (-42), 3) := by decide +kernel
theorem dX10_shrink_62 : decode cX10_shrink 62 = .ok (.aload_n 0, 1) := by decide +kernel
theorem dX10_shrink_63 : decode cX10_shrink 63 = .ok (.getfield 17, 3) := by decide +kernel
theorem dX10_shrink_66 : decode cX10_shrink 66 = .ok (.ifCond .le 27, 3) := by decide +kernel
theorem dX10_shrink_69 : decode cX10_shrink 69 = .ok (.aload_n 0, 1) := by decide +kernel
theorem dX10_shrink_70 : decode cX10_shrink 70 = .ok (.getfield 9, 3) := by decide +kernel
theorem dX10_shrink_73 : decode cX10_shrink 73 = .ok (.aload_n 0, 1) := by decide +kernel
theorem dX10_shrink_74 : decode cX10_shrink 74 = .ok (.getfield 17, 3) := by decide +kernel
theorem dX10_shrink_77 : decode cX10_shrink 77 = .ok (.iconst 1, 1) := by decide +kernel
theorem dX10_shrink_78 : decode cX10_shrink 78 = .ok (.isub, 1) := by decide +kernel
theorem dX10_shrink_79 : decode cX10_shrink 79 = .ok (.iaload, 1) := by decide +kernel
theorem dX10_shrink_80 : decode cX10_shrink 80 = .ok (.ifCond .ne 13, 3) := by decide +kernel
theorem dX10_shrink_83 : decode cX10_shrink 83 = .ok (.aload_n 0, 1) := by decide +kernel
theorem dX10_shrink_84 : decode cX10_shrink 84 = .ok (.dup, 1) := by decide +kernel
theorem dX10_shrink_85 : decode cX10_shrink 85 = .ok (.getfield 17, 3) := by decide +kernel
theorem dX10_shrink_88 : decode cX10_shrink 88 = .ok (.iconst 1, 1) := by decide +kernel
theorem dX10_shrink_89 : decode cX10_shrink 89 = .ok (.isub, 1) := by decide +kernel
theorem dX10_shrink_90 : decode cX10_shrink 90 = .ok (.putfield 17, 3) := by decide +kernel
theorem dX10_shrink_93 : decode cX10_shrink 93 = .ok (.aload_n 0, 1) := by decide +kernel
theorem dX10_shrink_94 : decode cX10_shrink 94 = .ok (.aload_n 0, 1) := by decide +kernel
theorem dX10_shrink_95 : decode cX10_shrink 95 = .ok (.getfield 13, 3) := by decide +kernel
theorem dX10_shrink_98 : decode cX10_shrink 98 = .ok (.ifCond .eq 14, 3) := by decide +kernel
theorem dX10_shrink_101 : decode cX10_shrink 101 = .ok (.aload_n 0, 1) := by decide +kernel
theorem dX10_shrink_102 : decode cX10_shrink 102 = .ok (.getfield 17, 3) := by decide +kernel
theorem dX10_shrink_105 : decode cX10_shrink 105 = .ok (.ifCond .le 7, 3) := by decide +kernel
theorem dX10_shrink_108 : decode cX10_shrink 108 = .ok (.iconst 1, 1) := by decide +kernel
theorem dX10_shrink_109 : decode cX10_shrink 109 = .ok (.goto 4, 3) := by decide +kernel
theorem dX10_shrink_112 : decode cX10_shrink 112 = .ok (.iconst 0, 1) := by decide +kernel
theorem dX10_shrink_113 : decode cX10_shrink 113 = .ok (.putfield 13, 3) := by decide +kernel
theorem dX10_shrink_116 : decode cX10_shrink 116 = .ok (.lload_n 2, 1) := by decide +kernel
theorem dX10_shrink_117 : decode cX10_shrink 117 = .ok (.l2i, 1) := by decide +kernel
theorem dX10_shrink_118 : decode cX10_shrink 118 = .ok (.ireturn, 1) := by decide +kernel
theorem dX10_divideBy_0 : decode cX10_divideBy 0 = .ok (.aload_n 0, 1) := by decide +kernel
theorem dX10_divideBy_1 : decode cX10_divideBy 1 = .ok (.iconst 0, 1) := by decide +kernel
theorem dX10_divideBy_2 : decode cX10_divideBy 2 = .ok (.putfield 13, 3) := by decide +kernel
theorem dX10_divideBy_5 : decode cX10_divideBy 5 = .ok (.aload_n 2, 1) := by decide +kernel
theorem dX10_divideBy_6 : decode cX10_divideBy 6 = .ok (.lconst 0, 1) := by decide +kernel
theorem dX10_divideBy_7 : decode cX10_divideBy 7 = .ok (.invokevirtual 42, 3) := by decide +kernel
theorem dX10_divideBy_10 : decode cX10_divideBy 10 = .ok (.aload_n 1, 1) := by decide +kernel
theorem dX10_divideBy_11 : decode cX10_divideBy 11 = .ok (.getfield 17, 3) := by decide +kernel
theorem dX10_divideBy_14 : decode cX10_divideBy 14 = .ok (.istore_n 3, 1) := by decide +kernel
theorem dX10_divideBy_15 : decode cX10_divideBy 15 = .ok (.iload_n 3, 1) := by decide +kernel
theorem dX10_divideBy_16 : decode cX10_divideBy 16 = .ok (.ifCond .eq 11, 3) := by decide +kernel
theorem dX10_divideBy_19 : decode cX10_divideBy 19 = .ok (.aload_n 0, 1) := by decide +kernel
theorem dX10_divideBy_20 : decode cX10_divideBy 20 = .ok (.aload_n 1, 1) := by decide +kernel
theorem dX10_divideBy_21 : decode cX10_divideBy 21 = .ok (.invokestatic 28, 3) := by decide +kernel
theorem dX10_divideBy_24 : decode cX10_divideBy 24 = .ok (.ifCond .ge 4, 3) := by decide +kernel
theorem dX10_divideBy_27 : decode cX10_divideBy 27 = .ok (.return_, 1) := by decide +kernel
theorem dX10_divideBy_28 : decode cX10_divideBy 28 = .ok (.iload_n 3, 1) := by decide +kernel
theorem dX10_divideBy_29 : decode cX10_divideBy 29 = .ok (.iconst 1, 1) := by decide +kernel
theorem dX10_divideBy_30 : decode cX10_divideBy 30 = .ok (.if_icmp .ne 24, 3) := by decide +kernel
theorem dX10_divideBy_33 : decode cX10_divideBy 33 = .ok (.aload_n 2, 1) := by decide +kernel
theorem dX10_divideBy_34 : decode cX10_divideBy 34 = .ok (.aload_n 0, 1) := by decide +kernel
theorem dX10_divideBy_35 : decode cX10_divideBy 35 = .ok (.invokevirtual 23, 3) := by decide +kernel
theorem dX10_divideBy_38 : decode cX10_divideBy 38 = .ok (.aload_n 0, 1) := by decide +kernel
theorem dX10_divideBy_39 : decode cX10_divideBy 39 = .ok (.aload_n 2, 1) := by decide +kernel
theorem dX10_divideBy_40 : decode cX10_divideBy 40 = .ok (.aload_n 1, 1) := by decide +kernel
theorem dX10_divideBy_41 : decode cX10_divideBy 41 = .ok (.getfield 9, 3) := by decide +kernel
theorem dX10_divideBy_44 : decode cX10_divideBy 44 = .ok (.iconst 0, 1) := by decide +kernel
theorem dX10_divideBy_45 : decode cX10_divideBy 45 = .ok (.iaload, 1) := by decide +kernel
theorem dX10_divideBy_46 : decode cX10_divideBy 46 = .ok (.invokevirtual 46, 3) := by decide +kernel
theorem dX10_divideBy_49 : decode cX10_divideBy 49 = .ok (.i2l, 1) := by decide +kernel
theorem dX10_divideBy_50 : decode cX10_divideBy 50 = .ok (.invokevirtual 42, 3) := by decide +kernel
theorem dX10_divideBy_53 : decode cX10_divideBy 53 = .ok (.return_, 1) := by decide +kernel
theorem dX10_divideBy_54 : decode cX10_divideBy 54 = .ok (.aload_n 0, 1) := by decide +kernel
theorem dX10_divideBy_55 : decode cX10_divideBy 55 = .ok (.getfield 17, 3) := by decide +kernel
theorem dX10_divideBy_58 : decode cX10_divideBy 58 = .ok (.iload_n 3, 1) := by decide +kernel
theorem dX10_divideBy_59 : decode cX10_divideBy 59 = .ok (.isub, 1) := by decide +kernel
theorem dX10_divideBy_60 : decode cX10_divideBy 60 = .ok (.iconst 1, 1) := by decide +kernel
theorem dX10_divideBy_61 : decode cX10_divideBy 61 = .ok (.iadd, 1) := by decide +kernel
theorem dX10_divideBy_62 : decode cX10_divideBy 62 = .ok (.aload_n 2, 1) := by decide +kernel
theorem dX10_divideBy_63 : decode cX10_divideBy 63 = .ok (.getfield 9, 3) := by decide +kernel
theorem dX10_divideBy_66 : decode cX10_divideBy 66 = .ok (.arraylength, 1) := by decide +kernel
theorem dX10_divideBy_67 : decode cX10_divideBy 67 = .ok (.invokestatic 32, 3) := by decide +kernel
theorem dX10_divideBy_70 : decode cX10_divideBy 70 = .ok (.istore 4, 2) := by decide +kernel
theorem dX10_divideBy_72 : decode cX10_divideBy 72 = .ok (.iload 4, 2) := by decide +kernel
theorem dX10_divideBy_74 : decode cX10_divideBy 74 = .ok (.iconst 1, 1) := by decide +kernel
theorem dX10_divideBy_75 : decode cX10_divideBy 75 = .ok (.isub, 1) := by decide +kernel
theorem dX10_divideBy_76 : decode cX10_divideBy 76 = .ok (.istore 5, 2) := by decide +kernel
theorem dX10_divideBy_78 : decode cX10_divideBy 78 = .ok (.iload 5, 2) := by decide +kernel
theorem dX10_divideBy_80 : decode cX10_divideBy 80 = .ok (.ifCond .lt 37, 3) := by decide +kernel
theorem dX10_divideBy_83 : decode cX10_divideBy 83 = .ok (.aload_n 0, 1) := by decide +kernel
theorem dX10_divideBy_84 : decode cX10_divideBy 84 = .ok (.aload_n 1, 1) := by decide +kernel
theorem dX10_divideBy_85 : decode cX10_divideBy 85 = .ok (.iload 5, 2) := by decide +kernel
theorem dX10_divideBy_87 : decode cX10_divideBy 87 = .ok (.iload_n 3, 1) := by decide +kernel
theorem dX10_divideBy_88 : decode cX10_divideBy 88 = .ok (.iadd, 1) := by decide +kernel
theorem dX10_divideBy_89 : decode cX10_divideBy 89 = .ok (.invokevirtual 50, 3) := by decide +kernel
theorem dX10_divideBy_92 : decode cX10_divideBy 92 = .ok (.lstore 6, 2) := by decide +kernel
theorem dX10_divideBy_94 : decode cX10_divideBy 94 = .ok (.aload_n 2, 1) := by decide +kernel
theorem dX10_divideBy_95 : decode cX10_divideBy 95 = .ok (.getfield 9, 3) := by decide +kernel
theorem dX10_divideBy_98 : decode cX10_divideBy 98 = .ok (.iload 5, 2) := by decide +kernel
theorem dX10_divideBy_100 : decode cX10_divideBy 100 = .ok (.aload_n 0, 1) := by decide +kernel
theorem dX10_divideBy_101 : decode cX10_divideBy 101 = .ok (.aload_n 1, 1) := by decide +kernel
theorem dX10_divideBy_102 : decode cX10_divideBy 102 = .ok (.lload 6, 2) := by decide +kernel
theorem dX10_divideBy_104 : decode cX10_divideBy 104 = .ok (.iload 5, 2) := by decide +kernel
theorem dX10_divideBy_106 : decode cX10_divideBy 106 = .ok (.invokevirtual 54, 3) := by decide +kernel
theorem dX10_divideBy_109 : decode cX10_divideBy 109 = .ok (.l2i, 1) := by decide +kernel
theorem dX10_divideBy_110 : decode cX10_divideBy 110 = .ok (.iastore, 1) := by decide +kernel
theorem dX10_divideBy_111 : decode cX10_divideBy 111 = .ok (.iinc 5 (-1), 3) := by decide +kernel
theorem dX10_divideBy_114 : decode cX10_divideBy 114 = .ok (.goto (-36), 3) := by decide +kernel
theorem dX10_divideBy_117 : decode cX10_divideBy 117 = .ok (.aload_n 2, 1) := by decide +kernel
theorem dX10_divideBy_118 : decode cX10_divideBy 118 = .ok (.iload 4, 2) := by decide +kernel
theorem dX10_divideBy_120 : decode cX10_divideBy 120 = .ok (.invokevirtual 38, 3) := by decide +kernel
theorem dX10_divideBy_123 : decode cX10_divideBy 123 = .ok (.aload_n 0, 1) := by decide +kernel
theorem dX10_divideBy_124 : decode cX10_divideBy 124 = .ok (.aload_n 0, 1) := by decide +kernel
theorem dX10_divideBy_125 : decode cX10_divideBy 125 = .ok (.getfield 17, 3) := by decide +kernel
theorem dX10_divideBy_128 : decode cX10_divideBy 128 = .ok (.invokevirtual 38, 3) := by decide +kernel
theorem dX10_divideBy_131 : decode cX10_divideBy 131 = .ok (.return_, 1) := by decide +kernel
theorem dX10_guess_0 : decode cX10_guess 0 = .ok (.aload_n 1, 1) := by decide +kernel
theorem dX10_guess_1 : decode cX10_guess 1 = .ok (.getfield 17, 3) := by decide +kernel
theorem dX10_guess_4 : decode cX10_guess 4 = .ok (.istore_n 3, 1) := by decide +kernel
theorem dX10_guess_5 : decode cX10_guess 5 = .ok (.iload_n 3, 1) := by decide +kernel
theorem dX10_guess_6 : decode cX10_guess 6 = .ok (.iconst 2, 1) := by decide +kernel
theorem dX10_guess_7 : decode cX10_guess 7 = .ok (.if_icmp .lt 16, 3) := by decide +kernel
theorem dX10_guess_10 : decode cX10_guess 10 = .ok (.iload_n 2, 1) := by decide +kernel
theorem dX10_guess_11 : decode cX10_guess 11 = .ok (.iconst 2, 1) := by decide +kernel
theorem dX10_guess_12 : decode cX10_guess 12 = .ok (.if_icmp .lt 11, 3) := by decide +kernel
theorem dX10_guess_15 : decode cX10_guess 15 = .ok (.iload_n 2, 1) := by decide +kernel
theorem dX10_guess_16 : decode cX10_guess 16 = .ok (.aload_n 0, 1) := by decide +kernel
theorem dX10_guess_17 : decode cX10_guess 17 = .ok (.getfield 17, 3) := by decide +kernel
theorem dX10_guess_20 : decode cX10_guess 20 = .ok (.if_icmp .le 5, 3) := by decide +kernel
theorem dX10_guess_23 : decode cX10_guess 23 = .ok (.lconst 0, 1) := by decide +kernel
theorem dX10_guess_24 : decode cX10_guess 24 = .ok (.lreturn, 1) := by decide +kernel
theorem dX10_guess_25 : decode cX10_guess 25 = .ok (.iconst 0, 1) := by decide +kernel
theorem dX10_guess_26 : decode cX10_guess 26 = .ok (.istore 4, 2) := by decide +kernel
theorem dX10_guess_28 : decode cX10_guess 28 = .ok (.aload_n 1, 1) := by decide +kernel
theorem dX10_guess_29 : decode cX10_guess 29 = .ok (.getfield 9, 3) := by decide +kernel
theorem dX10_guess_32 : decode cX10_guess 32 = .ok (.iload_n 3, 1) := by decide +kernel
theorem dX10_guess_33 : decode cX10_guess 33 = .ok (.iconst 1, 1) := by decide +kernel
theorem dX10_guess_34 : decode cX10_guess 34 = .ok (.isub, 1) := by decide +kernel
theorem dX10_guess_35 : decode cX10_guess 35 = .ok (.iaload, 1) := by decide +kernel
theorem dX10_guess_36 : decode cX10_guess 36 = .ok (.istore 5, 2) := by decide +kernel
theorem dX10_guess_38 : decode cX10_guess 38 = .ok (.iload 4, 2) := by decide +kernel
theorem dX10_guess_40 : decode cX10_guess 40 = .ok (.bipush 29, 2) := by decide +kernel
theorem dX10_guess_42 : decode cX10_guess 42 = .ok (.if_icmp .ge 20, 3) := by decide +kernel
theorem dX10_guess_45 : decode cX10_guess 45 = .ok (.iload 5, 2) := by decide +kernel
theorem dX10_guess_47 : decode cX10_guess 47 = .ok (.bipush 29, 2) := by decide +kernel
theorem dX10_guess_49 : decode cX10_guess 49 = .ok (.iload 4, 2) := by decide +kernel
theorem dX10_guess_51 : decode cX10_guess 51 = .ok (.isub, 1) := by decide +kernel
theorem dX10_guess_52 : decode cX10_guess 52 = .ok (.ishr, 1) := by decide +kernel
theorem dX10_guess_53 : decode cX10_guess 53 = .ok (.ifCond .ne 9, 3) := by decide +kernel
theorem dX10_guess_56 : decode cX10_guess 56 = .ok (.iinc 4 1, 3) := by decide +kernel
theorem dX10_guess_59 : decode cX10_guess 59 = .ok (.goto (-21), 3) := by decide +kernel
theorem dX10_guess_62 : decode cX10_guess 62 = .ok (.bipush 30, 2) := by decide +kernel
theorem dX10_guess_64 : decode cX10_guess 64 = .ok (.iload 4, 2) := by decide +kernel
theorem dX10_guess_66 : decode cX10_guess 66 = .ok (.isub, 1) := by decide +kernel
theorem dX10_guess_67 : decode cX10_guess 67 = .ok (.istore 5, 2) := by decide +kernel
theorem dX10_guess_69 : decode cX10_guess 69 = .ok (.aload_n 1, 1) := by decide +kernel
theorem dX10_guess_70 : decode cX10_guess 70 = .ok (.getfield 9, 3) := by decide +kernel
theorem dX10_guess_73 : decode cX10_guess 73 = .ok (.iload_n 3, 1) := by decide +kernel
theorem dX10_guess_74 : decode cX10_guess 74 = .ok (.iconst 1, 1) := by decide +kernel
theorem dX10_guess_75 : decode cX10_guess 75 = .ok (.isub, 1) := by decide +kernel
theorem dX10_guess_76 : decode cX10_guess 76 = .ok (.iaload, 1) := by decide +kernel
theorem dX10_guess_77 : decode cX10_guess 77 = .ok (.i2l, 1) := by decide +kernel
theorem dX10_guess_78 : decode cX10_guess 78 = .ok (.iload 4, 2) := by decide +kernel
theorem dX10_guess_80 : decode cX10_guess 80 = .ok (.lshl, 1) := by decide +kernel
theorem dX10_guess_81 : decode cX10_guess 81 = .ok (.aload_n 1, 1) := by decide +kernel
theorem dX10_guess_82 : decode cX10_guess 82 = .ok (.getfield 9, 3) := by decide +kernel
theorem dX10_guess_85 : decode cX10_guess 85 = .ok (.iload_n 3, 1) := by decide +kernel
theorem dX10_guess_86 : decode cX10_guess 86 = .ok (.iconst 2, 1) := by decide +kernel
theorem dX10_guess_87 : decode cX10_guess 87 = .ok (.isub, 1) := by decide +kernel
theorem dX10_guess_88 : decode cX10_guess 88 = .ok (.iaload, 1) := by decide +kernel
theorem dX10_guess_89 : decode cX10_guess 89 = .ok (.iload 5, 2) := by decide +kernel
theorem dX10_guess_91 : decode cX10_guess 91 = .ok (.ishr, 1) := by decide +kernel
theorem dX10_guess_92 : decode cX10_guess 92 = .ok (.i2l, 1) := by decide +kernel
theorem dX10_guess_93 : decode cX10_guess 93 = .ok (.lor, 1) := by decide +kernel
theorem dX10_guess_94 : decode cX10_guess 94 = .ok (.lstore 6, 2) := by decide +kernel
theorem dX10_guess_96 : decode cX10_guess 96 = .ok (.aload_n 1, 1) := by decide +kernel
theorem dX10_guess_97 : decode cX10_guess 97 = .ok (.getfield 9, 3) := by decide +kernel
theorem dX10_guess_100 : decode cX10_guess 100 = .ok (.iload_n 3, 1) := by decide +kernel
theorem dX10_guess_101 : decode cX10_guess 101 = .ok (.iconst 2, 1) := by decide +kernel
theorem dX10_guess_102 : decode cX10_guess 102 = .ok (.isub, 1) := by decide +kernel
theorem dX10_guess_103 : decode cX10_guess 103 = .ok (.iaload, 1) := by decide +kernel
theorem dX10_guess_104 : decode cX10_guess 104 = .ok (.i2l, 1) := by decide +kernel
theorem dX10_guess_105 : decode cX10_guess 105 = .ok (.iload 4, 2) := by decide +kernel
theorem dX10_guess_107 : decode cX10_guess 107 = .ok (.lshl, 1) := by decide +kernel
theorem dX10_guess_108 : decode cX10_guess 108 = .ok (.ldc2_w 21, 3) := by decide +kernel
theorem dX10_guess_111 : decode cX10_guess 111 = .ok (.land, 1) := by decide +kernel
theorem dX10_guess_112 : decode cX10_guess 112 = .ok (.iload_n 3, 1) := by decide +kernel
theorem dX10_guess_113 : decode cX10_guess 113 = .ok (.iconst 2, 1) := by decide +kernel
theorem dX10_guess_114 : decode cX10_guess 114 = .ok (.if_icmp .le 17, 3) := by decide +kernel
theorem dX10_guess_117 : decode cX10_guess 117 = .ok (.aload_n 1, 1) := by decide +kernel
theorem dX10_guess_118 : decode cX10_guess 118 = .ok (.getfield 9, 3) := by decide +kernel
theorem dX10_guess_121 : decode cX10_guess 121 = .ok (.iload_n 3, 1) := by decide +kernel
theorem dX10_guess_122 : decode cX10_guess 122 = .ok (.iconst 3, 1) := by decide +kernel
theorem dX10_guess_123 : decode cX10_guess 123 = .ok (.isub, 1) := by decide +kernel
theorem dX10_guess_124 : decode cX10_guess 124 = .ok (.iaload, 1) := by decide +kernel
theorem dX10_guess_125 : decode cX10_guess 125 = .ok (.iload 5, 2) := by decide +kernel
theorem dX10_guess_127 : decode cX10_guess 127 = .ok (.ishr, 1) := by decide +kernel
theorem dX10_guess_128 : decode cX10_guess 128 = .ok (.goto 4, 3) := by decide +kernel
theorem dX10_guess_131 : decode cX10_guess 131 = .ok (.iconst 0, 1) := by decide +kernel
theorem dX10_guess_132 : decode cX10_guess 132 = .ok (.i2l, 1) := by decide +kernel
theorem dX10_guess_133 : decode cX10_guess 133 = .ok (.lor, 1) := by decide +kernel
theorem dX10_guess_134 : decode cX10_guess 134 = .ok (.lstore 8, 2) := by decide +kernel
theorem dX10_guess_136 : decode cX10_guess 136 = .ok (.iload_n 2, 1) := by decide +kernel
theorem dX10_guess_137 : decode cX10_guess 137 = .ok (.aload_n 0, 1) := by decide +kernel
theorem dX10_guess_138 : decode cX10_guess 138 = .ok (.getfield 17, 3) := by decide +kernel
theorem dX10_guess_141 : decode cX10_guess 141 = .ok (.if_icmp .ge 12, 3) := by decide +kernel
theorem dX10_guess_144 : decode cX10_guess 144 = .ok (.aload_n 0, 1) := by decide +kernel
theorem dX10_guess_145 : decode cX10_guess 145 = .ok (.getfield 9, 3) := by decide +kernel
theorem dX10_guess_148 : decode cX10_guess 148 = .ok (.iload_n 2, 1) := by decide +kernel
theorem dX10_guess_149 : decode cX10_guess 149 = .ok (.iaload, 1) := by decide +kernel
theorem dX10_guess_150 : decode cX10_guess 150 = .ok (.goto 4, 3) := by decide +kernel
theorem dX10_guess_153 : decode cX10_guess 153 = .ok (.iconst 0, 1) := by decide +kernel
theorem dX10_guess_154 : decode cX10_guess 154 = .ok (.i2l, 1) := by decide +kernel
theorem dX10_guess_155 : decode cX10_guess 155 = .ok (.iload 4, 2) := by decide +kernel
theorem dX10_guess_157 : decode cX10_guess 157 = .ok (.lshl, 1) := by decide +kernel
theorem dX10_guess_158 : decode cX10_guess 158 = .ok (.aload_n 0, 1) := by decide +kernel
theorem dX10_guess_159 : decode cX10_guess 159 = .ok (.getfield 9, 3) := by decide +kernel
theorem dX10_guess_162 : decode cX10_guess 162 = .ok (.iload_n 2, 1) := by decide +kernel
theorem dX10_guess_163 : decode cX10_guess 163 = .ok (.iconst 1, 1) := by decide +kernel
theorem dX10_guess_164 : decode cX10_guess 164 = .ok (.isub, 1) := by decide +kernel
theorem dX10_guess_165 : decode cX10_guess 165 = .ok (.iaload, 1) := by decide +kernel
theorem dX10_guess_166 : decode cX10_guess 166 = .ok (.iload 5, 2) := by decide +kernel
theorem dX10_guess_168 : decode cX10_guess 168 = .ok (.ishr, 1) := by decide +kernel
theorem dX10_guess_169 : decode cX10_guess 169 = .ok (.i2l, 1) := by decide +kernel
theorem dX10_guess_170 : decode cX10_guess 170 = .ok (.lor, 1) := by decide +kernel
theorem dX10_guess_171 : decode cX10_guess 171 = .ok (.lstore 10, 2) := by decide +kernel
theorem dX10_guess_173 : decode cX10_guess 173 = .ok (.aload_n 0, 1) := by decide +kernel
theorem dX10_guess_174 : decode cX10_guess 174 = .ok (.getfield 9, 3) := by decide +kernel
theorem dX10_guess_177 : decode cX10_guess 177 = .ok (.iload_n 2, 1) := by decide +kernel
theorem dX10_guess_178 : decode cX10_guess 178 = .ok (.iconst 1, 1) := by decide +kernel
theorem dX10_guess_179 : decode cX10_guess 179 = .ok (.isub, 1) := by decide +kernel
theorem dX10_guess_180 : decode cX10_guess 180 = .ok (.iaload, 1) := by decide +kernel
theorem dX10_guess_181 : decode cX10_guess 181 = .ok (.i2l, 1) := by decide +kernel
theorem dX10_guess_182 : decode cX10_guess 182 = .ok (.iload 4, 2) := by decide +kernel
theorem dX10_guess_184 : decode cX10_guess 184 = .ok (.lshl, 1) := by decide +kernel
theorem dX10_guess_185 : decode cX10_guess 185 = .ok (.ldc2_w 21, 3) := by decide +kernel
theorem dX10_guess_188 : decode cX10_guess 188 = .ok (.land, 1) := by decide +kernel
theorem dX10_guess_189 : decode cX10_guess 189 = .ok (.aload_n 0, 1) := by decide +kernel
theorem dX10_guess_190 : decode cX10_guess 190 = .ok (.getfield 9, 3) := by decide +kernel
theorem dX10_guess_193 : decode cX10_guess 193 = .ok (.iload_n 2, 1) := by decide +kernel
theorem dX10_guess_194 : decode cX10_guess 194 = .ok (.iconst 2, 1) := by decide +kernel
theorem dX10_guess_195 : decode cX10_guess 195 = .ok (.isub, 1) := by decide +kernel
theorem dX10_guess_196 : decode cX10_guess 196 = .ok (.iaload, 1) := by decide +kernel
theorem dX10_guess_197 : decode cX10_guess 197 = .ok (.iload 5, 2) := by decide +kernel
theorem dX10_guess_199 : decode cX10_guess 199 = .ok (.ishr, 1) := by decide +kernel
theorem dX10_guess_200 : decode cX10_guess 200 = .ok (.i2l, 1) := by decide +kernel
theorem dX10_guess_201 : decode cX10_guess 201 = .ok (.lor, 1) := by decide +kernel
theorem dX10_guess_202 : decode cX10_guess 202 = .ok (.lstore 12, 2) := by decide +kernel
theorem dX10_guess_204 : decode cX10_guess 204 = .ok (.aload_n 0, 1) := by decide +kernel
theorem dX10_guess_205 : decode cX10_guess 205 = .ok (.getfield 9, 3) := by decide +kernel
theorem dX10_guess_208 : decode cX10_guess 208 = .ok (.iload_n 2, 1) := by decide +kernel
theorem dX10_guess_209 : decode cX10_guess 209 = .ok (.iconst 2, 1) := by decide +kernel
theorem dX10_guess_210 : decode cX10_guess 210 = .ok (.isub, 1) := by decide +kernel
theorem dX10_guess_211 : decode cX10_guess 211 = .ok (.iaload, 1) := by decide +kernel
theorem dX10_guess_212 : decode cX10_guess 212 = .ok (.i2l, 1) := by decide +kernel
theorem dX10_guess_213 : decode cX10_guess 213 = .ok (.iload 4, 2) := by decide +kernel
theorem dX10_guess_215 : decode cX10_guess 215 = .ok (.lshl, 1) := by decide +kernel
theorem dX10_guess_216 : decode cX10_guess 216 = .ok (.ldc2_w 21, 3) := by decide +kernel
theorem dX10_guess_219 : decode cX10_guess 219 = .ok (.land, 1) := by decide +kernel
theorem dX10_guess_220 : decode cX10_guess 220 = .ok (.iload_n 2, 1) := by decide +kernel
theorem dX10_guess_221 : decode cX10_guess 221 = .ok (.iconst 2, 1) := by decide +kernel
theorem dX10_guess_222 : decode cX10_guess 222 = .ok (.if_icmp .le 17, 3) := by decide +kernel
theorem dX10_guess_225 : decode cX10_guess 225 = .ok (.aload_n 0, 1) := by decide +kernel
theorem dX10_guess_226 : decode cX10_guess 226 = .ok (.getfield 9, 3) := by decide +kernel
theorem dX10_guess_229 : decode cX10_guess 229 = .ok (.iload_n 2, 1) := by decide +kernel
theorem dX10_guess_230 : decode cX10_guess 230 = .ok (.iconst 3, 1) := by decide +kernel
theorem dX10_guess_231 : decode cX10_guess 231 = .ok (.isub, 1) := by decide +kernel
theorem dX10_guess_232 : decode cX10_guess 232 = .ok (.iaload, 1) := by decide +kernel
theorem dX10_guess_233 : decode cX10_guess 233 = .ok (.iload 5, 2) := by decide +kernel
theorem dX10_guess_235 : decode cX10_guess 235 = .ok (.ishr, 1) := by decide +kernel
theorem dX10_guess_236 : decode cX10_guess 236 = .ok (.goto 4, 3) := by decide +kernel
theorem dX10_guess_239 : decode cX10_guess 239 = .ok (.iconst 0, 1) := by decide +kernel
theorem dX10_guess_240 : decode cX10_guess 240 = .ok (.i2l, 1) := by decide +kernel
theorem dX10_guess_241 : decode cX10_guess 241 = .ok (.lor, 1) := by decide +kernel
theorem dX10_guess_242 : decode cX10_guess 242 = .ok (.lstore 14, 2) := by decide +kernel
theorem dX10_guess_244 : decode cX10_guess 244 = .ok (.lload 6, 2) := by decide +kernel
theorem dX10_guess_246 : decode cX10_guess 246 = .ok (.lconst 1, 1) := by decide +kernel
theorem dX10_guess_247 : decode cX10_guess 247 = .ok (.lcmp, 1) := by decide +kernel
theorem dX10_guess_248 : decode cX10_guess 248 = .ok (.ifCond .ge 5, 3) := by decide +kernel
theorem dX10_guess_251 : decode cX10_guess 251 = .ok (.lconst 0, 1) := by decide +kernel
theorem dX10_guess_252 : decode cX10_guess 252 = .ok (.lreturn, 1) := by decide +kernel
theorem dX10_guess_253 : decode cX10_guess 253 = .ok (.lload 10, 2) := by decide +kernel
theorem dX10_guess_255 : decode cX10_guess 255 = .ok (.bipush 30, 2) := by decide +kernel
theorem dX10_guess_257 : decode cX10_guess 257 = .ok (.lshl, 1) := by decide +kernel
theorem dX10_guess_258 : decode cX10_guess 258 = .ok (.lload 12, 2) := by decide +kernel
theorem dX10_guess_260 : decode cX10_guess 260 = .ok (.lor, 1) := by decide +kernel
theorem dX10_guess_261 : decode cX10_guess 261 = .ok (.lstore 16, 2) := by decide +kernel
theorem dX10_guess_263 : decode cX10_guess 263 = .ok (.lload 16, 2) := by decide +kernel
theorem dX10_guess_265 : decode cX10_guess 265 = .ok (.lload 6, 2) := by decide +kernel
theorem dX10_guess_267 : decode cX10_guess 267 = .ok (.ldiv, 1) := by decide +kernel
theorem dX10_guess_268 : decode cX10_guess 268 = .ok (.ldc2_w 21, 3) := by decide +kernel
theorem dX10_guess_271 : decode cX10_guess 271 = .ok (.lcmp, 1) := by decide +kernel
theorem dX10_guess_272 : decode cX10_guess 272 = .ok (.ifCond .ge 11, 3) := by decide +kernel
theorem dX10_guess_275 : decode cX10_guess 275 = .ok (.lload 16, 2) := by decide +kernel
theorem dX10_guess_277 : decode cX10_guess 277 = .ok (.lload 6, 2) := by decide +kernel
theorem dX10_guess_279 : decode cX10_guess 279 = .ok (.ldiv, 1) := by decide +kernel
theorem dX10_guess_280 : decode cX10_guess 280 = .ok (.goto 6, 3) := by decide +kernel
theorem dX10_guess_283 : decode cX10_guess 283 = .ok (.ldc2_w 21, 3) := by decide +kernel
theorem dX10_guess_286 : decode cX10_guess 286 = .ok (.lstore 18, 2) := by decide +kernel
theorem dX10_guess_288 : decode cX10_guess 288 = .ok (.lload 16, 2) := by decide +kernel
theorem dX10_guess_290 : decode cX10_guess 290 = .ok (.lload 18, 2) := by decide +kernel
theorem dX10_guess_292 : decode cX10_guess 292 = .ok (.lload 6, 2) := by decide +kernel
theorem dX10_guess_294 : decode cX10_guess 294 = .ok (.lmul, 1) := by decide +kernel
theorem dX10_guess_295 : decode cX10_guess 295 = .ok (.lsub, 1) := by decide +kernel
theorem dX10_guess_296 : decode cX10_guess 296 = .ok (.lstore 20, 2) := by decide +kernel
theorem dX10_guess_298 : decode cX10_guess 298 = .ok (.iconst 0, 1) := by decide +kernel
theorem dX10_guess_299 : decode cX10_guess 299 = .ok (.istore 22, 2) := by decide +kernel
theorem dX10_guess_301 : decode cX10_guess 301 = .ok (.iload 22, 2) := by decide +kernel
theorem dX10_guess_303 : decode cX10_guess 303 = .ok (.iconst 3, 1) := by decide +kernel
theorem dX10_guess_304 : decode cX10_guess 304 = .ok (.if_icmp .ge 48, 3) := by decide +kernel
theorem dX10_guess_307 : decode cX10_guess 307 = .ok (.lload 20, 2) := by decide +kernel
theorem dX10_guess_309 : decode cX10_guess 309 = .ok (.ldc2_w 21, 3) := by decide +kernel
theorem dX10_guess_312 : decode cX10_guess 312 = .ok (.lcmp, 1) := by decide +kernel
theorem dX10_guess_313 : decode cX10_guess 313 = .ok (.ifCond .gt 39, 3) := by decide +kernel
theorem dX10_guess_316 : decode cX10_guess 316 = .ok (.lload 18, 2) := by decide +kernel
theorem dX10_guess_318 : decode cX10_guess 318 = .ok (.lload 8, 2) := by decide +kernel
theorem dX10_guess_320 : decode cX10_guess 320 = .ok (.lmul, 1) := by decide +kernel
theorem dX10_guess_321 : decode cX10_guess 321 = .ok (.lload 20, 2) := by decide +kernel
theorem dX10_guess_323 : decode cX10_guess 323 = .ok (.bipush 30, 2) := by decide +kernel
theorem dX10_guess_325 : decode cX10_guess 325 = .ok (.lshl, 1) := by decide +kernel
theorem dX10_guess_326 : decode cX10_guess 326 = .ok (.lload 14, 2) := by decide +kernel
theorem dX10_guess_328 : decode cX10_guess 328 = .ok (.lor, 1) := by decide +kernel
theorem dX10_guess_329 : decode cX10_guess 329 = .ok (.lcmp, 1) := by decide +kernel
theorem dX10_guess_330 : decode cX10_guess 330 = .ok (.ifCond .le 22, 3) := by decide +kernel
theorem dX10_guess_333 : decode cX10_guess 333 = .ok (.lload 18, 2) := by decide +kernel
theorem dX10_guess_335 : decode cX10_guess 335 = .ok (.lconst 1, 1) := by decide +kernel
theorem dX10_guess_336 : decode cX10_guess 336 = .ok (.lsub, 1) := by decide +kernel
theorem dX10_guess_337 : decode cX10_guess 337 = .ok (.lstore 18, 2) := by decide +kernel
theorem dX10_guess_339 : decode cX10_guess 339 = .ok (.lload 20, 2) := by decide +kernel
theorem dX10_guess_341 : decode cX10_guess 341 = .ok (.lload 6, 2) := by decide +kernel
theorem dX10_guess_343 : decode cX10_guess 343 = .ok (.ladd, 1) := by decide +kernel
theorem dX10_guess_344 : decode cX10_guess 344 = .ok (.lstore 20, 2) := by decide +kernel
theorem dX10_guess_346 : decode cX10_guess 346 = .ok (.iinc 22 1, 3) := by decide +kernel
theorem dX10_guess_349 : decode cX10_guess 349 = .ok (.goto (-48), 3) := by decide +kernel
theorem dX10_guess_352 : decode cX10_guess 352 = .ok (.lload 18, 2) := by decide +kernel
theorem dX10_guess_354 : decode cX10_guess 354 = .ok (.lreturn, 1) := by decide +kernel
theorem dX10_takeTimes_0 : decode cX10_takeTimes 0 = .ok (.lconst 0, 1) := by decide +kernel
theorem dX10_takeTimes_1 : decode cX10_takeTimes 1 = .ok (.lstore 5, 2) := by decide +kernel
theorem dX10_takeTimes_3 : decode cX10_takeTimes 3 = .ok (.iload 4, 2) := by decide +kernel
theorem dX10_takeTimes_5 : decode cX10_takeTimes 5 = .ok (.aload_n 1, 1) := by decide +kernel
theorem dX10_takeTimes_6 : decode cX10_takeTimes 6 = .ok (.getfield 17, 3) := by decide +kernel
theorem dX10_takeTimes_9 : decode cX10_takeTimes 9 = .ok (.iadd, 1) := by decide +kernel
theorem dX10_takeTimes_10 : decode cX10_takeTimes 10 = .ok (.istore 7, 2) := by decide +kernel
theorem dX10_takeTimes_12 : decode cX10_takeTimes 12 = .ok (.iconst 0, 1) := by decide +kernel
theorem dX10_takeTimes_13 : decode cX10_takeTimes 13 = .ok (.istore 8, 2) := by decide +kernel
theorem dX10_takeTimes_15 : decode cX10_takeTimes 15 = .ok (.iload 8, 2) := by decide +kernel
theorem dX10_takeTimes_17 : decode cX10_takeTimes 17 = .ok (.aload_n 1, 1) := by decide +kernel
theorem dX10_takeTimes_18 : decode cX10_takeTimes 18 = .ok (.getfield 17, 3) := by decide +kernel
theorem dX10_takeTimes_21 : decode cX10_takeTimes 21 = .ok (.if_icmp .ge 73, 3) := by decide +kernel
theorem dX10_takeTimes_24 : decode cX10_takeTimes 24 = .ok (.iload 4, 2) := by decide +kernel
theorem dX10_takeTimes_26 : decode cX10_takeTimes 26 = .ok (.iload 8, 2) := by decide +kernel
theorem dX10_takeTimes_28 : decode cX10_takeTimes 28 = .ok (.iadd, 1) := by decide +kernel
theorem dX10_takeTimes_29 : decode cX10_takeTimes 29 = .ok (.aload_n 0, 1) := by decide +kernel
theorem dX10_takeTimes_30 : decode cX10_takeTimes 30 = .ok (.getfield 17, 3) := by decide +kernel
theorem dX10_takeTimes_33 : decode cX10_takeTimes 33 = .ok (.if_icmp .ge 61, 3) := by decide +kernel
theorem dX10_takeTimes_36 : decode cX10_takeTimes 36 = .ok (.aload_n 0, 1) := by decide +kernel
theorem dX10_takeTimes_37 : decode cX10_takeTimes 37 = .ok (.getfield 9, 3) := by decide +kernel
theorem dX10_takeTimes_40 : decode cX10_takeTimes 40 = .ok (.iload 4, 2) := by decide +kernel
theorem dX10_takeTimes_42 : decode cX10_takeTimes 42 = .ok (.iload 8, 2) := by decide +kernel
theorem dX10_takeTimes_44 : decode cX10_takeTimes 44 = .ok (.iadd, 1) := by decide +kernel
theorem dX10_takeTimes_45 : decode cX10_takeTimes 45 = .ok (.iaload, 1) := by decide +kernel
theorem dX10_takeTimes_46 : decode cX10_takeTimes 46 = .ok (.i2l, 1) := by decide +kernel
