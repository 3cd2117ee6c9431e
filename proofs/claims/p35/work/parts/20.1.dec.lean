theorem dX4_advanceCall_132 : decode cX4_advanceCall 132 = .ok (.astore 6, 2) := by decide +kernel
theorem dX4_advanceCall_134 : decode cX4_advanceCall 134 = .ok (.aload 6, 2) := by decide +kernel
theorem dX4_advanceCall_136 : decode cX4_advanceCall 136 = .ok (.ifnonnull 23, 3) := by decide +kernel
theorem dX4_advanceCall_139 : decode cX4_advanceCall 139 = .ok (.aload_n 0, 1) := by decide +kernel
theorem dX4_advanceCall_140 : decode cX4_advanceCall 140 = .ok (.iload_n 1, 1) := by decide +kernel
theorem dX4_advanceCall_141 : decode cX4_advanceCall 141 = .ok (.iload 4, 2) := by decide +kernel
theorem dX4_advanceCall_143 : decode cX4_advanceCall 143 = .ok (.iconst 1, 1) := by decide +kernel
theorem dX4_advanceCall_144 : decode cX4_advanceCall 144 = .ok (.invokevirtual 245, 3) := by decide +kernel
theorem dX4_advanceCall_147 : decode cX4_advanceCall 147 = .ok (.aload_n 0, 1) := by decide +kernel
theorem dX4_advanceCall_148 : decode cX4_advanceCall 148 = .ok (.getfield 39, 3) := by decide +kernel
theorem dX4_advanceCall_151 : decode cX4_advanceCall 151 = .ok (.iload_n 1, 1) := by decide +kernel
theorem dX4_advanceCall_152 : decode cX4_advanceCall 152 = .ok (.dup2, 1) := by decide +kernel
theorem dX4_advanceCall_153 : decode cX4_advanceCall 153 = .ok (.iaload, 1) := by decide +kernel
theorem dX4_advanceCall_154 : decode cX4_advanceCall 154 = .ok (.iconst 1, 1) := by decide +kernel
theorem dX4_advanceCall_155 : decode cX4_advanceCall 155 = .ok (.iadd, 1) := by decide +kernel
theorem dX4_advanceCall_156 : decode cX4_advanceCall 156 = .ok (.iastore, 1) := by decide +kernel
theorem dX4_advanceCall_157 : decode cX4_advanceCall 157 = .ok (.iconst 0, 1) := by decide +kernel
theorem dX4_advanceCall_158 : decode cX4_advanceCall 158 = .ok (.ireturn, 1) := by decide +kernel
theorem dX4_advanceCall_159 : decode cX4_advanceCall 159 = .ok (.aload_n 0, 1) := by decide +kernel
theorem dX4_advanceCall_160 : decode cX4_advanceCall 160 = .ok (.aload 6, 2) := by decide +kernel
theorem dX4_advanceCall_162 : decode cX4_advanceCall 162 = .ok (.iconst 0, 1) := by decide +kernel
theorem dX4_advanceCall_163 : decode cX4_advanceCall 163 = .ok (.iload 5, 2) := by decide +kernel
theorem dX4_advanceCall_165 : decode cX4_advanceCall 165 = .ok (.invokevirtual 87, 3) := by decide +kernel
theorem dX4_advanceCall_168 : decode cX4_advanceCall 168 = .ok (.ireturn, 1) := by decide +kernel
theorem dX4_noteCase_0 : decode cX4_noteCase 0 = .ok (.iload_n 3, 1) := by decide +kernel
theorem dX4_noteCase_1 : decode cX4_noteCase 1 = .ok (.ifCond .eq 25, 3) := by decide +kernel
theorem dX4_noteCase_4 : decode cX4_noteCase 4 = .ok (.aload_n 0, 1) := by decide +kernel
theorem dX4_noteCase_5 : decode cX4_noteCase 5 = .ok (.getfield 45, 3) := by decide +kernel
theorem dX4_noteCase_8 : decode cX4_noteCase 8 = .ok (.iload_n 1, 1) := by decide +kernel
theorem dX4_noteCase_9 : decode cX4_noteCase 9 = .ok (.aload_n 0, 1) := by decide +kernel
theorem dX4_noteCase_10 : decode cX4_noteCase 10 = .ok (.getfield 45, 3) := by decide +kernel
theorem dX4_noteCase_13 : decode cX4_noteCase 13 = .ok (.iload_n 1, 1) := by decide +kernel
theorem dX4_noteCase_14 : decode cX4_noteCase 14 = .ok (.iaload, 1) := by decide +kernel
theorem dX4_noteCase_15 : decode cX4_noteCase 15 = .ok (.iconst (-1), 1) := by decide +kernel
theorem dX4_noteCase_16 : decode cX4_noteCase 16 = .ok (.if_icmp .ne 7, 3) := by decide +kernel
theorem dX4_noteCase_19 : decode cX4_noteCase 19 = .ok (.iload_n 2, 1) := by decide +kernel
theorem dX4_noteCase_20 : decode cX4_noteCase 20 = .ok (.goto 5, 3) := by decide +kernel
theorem dX4_noteCase_23 : decode cX4_noteCase 23 = .ok (.bipush (-2), 2) := by decide +kernel
theorem dX4_noteCase_25 : decode cX4_noteCase 25 = .ok (.iastore, 1) := by decide +kernel
theorem dX4_noteCase_26 : decode cX4_noteCase 26 = .ok (.return_, 1) := by decide +kernel
theorem dX4_beginValue_0 : decode cX4_beginValue 0 = .ok (.aload_n 0, 1) := by decide +kernel
theorem dX4_beginValue_1 : decode cX4_beginValue 1 = .ok (.getfield 45, 3) := by decide +kernel
theorem dX4_beginValue_4 : decode cX4_beginValue 4 = .ok (.iload_n 1, 1) := by decide +kernel
theorem dX4_beginValue_5 : decode cX4_beginValue 5 = .ok (.iaload, 1) := by decide +kernel
theorem dX4_beginValue_6 : decode cX4_beginValue 6 = .ok (.ifCond .ge 22, 3) := by decide +kernel
theorem dX4_beginValue_9 : decode cX4_beginValue 9 = .ok (.aload_n 0, 1) := by decide +kernel
theorem dX4_beginValue_10 : decode cX4_beginValue 10 = .ok (.getfield 45, 3) := by decide +kernel
theorem dX4_beginValue_13 : decode cX4_beginValue 13 = .ok (.iload_n 1, 1) := by decide +kernel
theorem dX4_beginValue_14 : decode cX4_beginValue 14 = .ok (.iaload, 1) := by decide +kernel
theorem dX4_beginValue_15 : decode cX4_beginValue 15 = .ok (.bipush (-2), 2) := by decide +kernel
theorem dX4_beginValue_17 : decode cX4_beginValue 17 = .ok (.if_icmp .ne 8, 3) := by decide +kernel
theorem dX4_beginValue_20 : decode cX4_beginValue 20 = .ok (.bipush 7, 2) := by decide +kernel
theorem dX4_beginValue_22 : decode cX4_beginValue 22 = .ok (.goto 5, 3) := by decide +kernel
theorem dX4_beginValue_25 : decode cX4_beginValue 25 = .ok (.bipush 6, 2) := by decide +kernel
theorem dX4_beginValue_27 : decode cX4_beginValue 27 = .ok (.ireturn, 1) := by decide +kernel
theorem dX4_beginValue_28 : decode cX4_beginValue 28 = .ok (.aload_n 0, 1) := by decide +kernel
theorem dX4_beginValue_29 : decode cX4_beginValue 29 = .ok (.getfield 60, 3) := by decide +kernel
theorem dX4_beginValue_32 : decode cX4_beginValue 32 = .ok (.iload_n 2, 1) := by decide +kernel
theorem dX4_beginValue_33 : decode cX4_beginValue 33 = .ok (.aload_n 0, 1) := by decide +kernel
theorem dX4_beginValue_34 : decode cX4_beginValue 34 = .ok (.getfield 45, 3) := by decide +kernel
theorem dX4_beginValue_37 : decode cX4_beginValue 37 = .ok (.iload_n 1, 1) := by decide +kernel
theorem dX4_beginValue_38 : decode cX4_beginValue 38 = .ok (.iaload, 1) := by decide +kernel
theorem dX4_beginValue_39 : decode cX4_beginValue 39 = .ok (.invokevirtual 253, 3) := by decide +kernel
theorem dX4_beginValue_42 : decode cX4_beginValue 42 = .ok (.astore 4, 2) := by decide +kernel
theorem dX4_beginValue_44 : decode cX4_beginValue 44 = .ok (.aload 4, 2) := by decide +kernel
theorem dX4_beginValue_46 : decode cX4_beginValue 46 = .ok (.ifnonnull 8, 3) := by decide +kernel
theorem dX4_beginValue_49 : decode cX4_beginValue 49 = .ok (.bipush 6, 2) := by decide +kernel
theorem dX4_beginValue_51 : decode cX4_beginValue 51 = .ok (.goto 11, 3) := by decide +kernel
theorem dX4_beginValue_54 : decode cX4_beginValue 54 = .ok (.aload_n 0, 1) := by decide +kernel
theorem dX4_beginValue_55 : decode cX4_beginValue 55 = .ok (.aload 4, 2) := by decide +kernel
theorem dX4_beginValue_57 : decode cX4_beginValue 57 = .ok (.iconst 0, 1) := by decide +kernel
theorem dX4_beginValue_58 : decode cX4_beginValue 58 = .ok (.iload_n 3, 1) := by decide +kernel
theorem dX4_beginValue_59 : decode cX4_beginValue 59 = .ok (.invokevirtual 87, 3) := by decide +kernel
theorem dX4_beginValue_62 : decode cX4_beginValue 62 = .ok (.ireturn, 1) := by decide +kernel
theorem dX4_closeCall_0 : decode cX4_closeCall 0 = .ok (.iload_n 2, 1) := by decide +kernel
theorem dX4_closeCall_1 : decode cX4_closeCall 1 = .ok (.ifCond .lt 19, 3) := by decide +kernel
theorem dX4_closeCall_4 : decode cX4_closeCall 4 = .ok (.iload_n 2, 1) := by decide +kernel
theorem dX4_closeCall_5 : decode cX4_closeCall 5 = .ok (.sipush 240, 3) := by decide +kernel
theorem dX4_closeCall_8 : decode cX4_closeCall 8 = .ok (.if_icmp .ge 12, 3) := by decide +kernel
theorem dX4_closeCall_11 : decode cX4_closeCall 11 = .ok (.aload_n 0, 1) := by decide +kernel
theorem dX4_closeCall_12 : decode cX4_closeCall 12 = .ok (.getfield 54, 3) := by decide +kernel
theorem dX4_closeCall_15 : decode cX4_closeCall 15 = .ok (.iload_n 2, 1) := by decide +kernel
theorem dX4_closeCall_16 : decode cX4_closeCall 16 = .ok (.iaload, 1) := by decide +kernel
theorem dX4_closeCall_17 : decode cX4_closeCall 17 = .ok (.goto 4, 3) := by decide +kernel
theorem dX4_closeCall_20 : decode cX4_closeCall 20 = .ok (.iconst (-1), 1) := by decide +kernel
theorem dX4_closeCall_21 : decode cX4_closeCall 21 = .ok (.istore_n 3, 1) := by decide +kernel
theorem dX4_closeCall_22 : decode cX4_closeCall 22 = .ok (.iload_n 3, 1) := by decide +kernel
theorem dX4_closeCall_23 : decode cX4_closeCall 23 = .ok (.ifCond .lt 11, 3) := by decide +kernel
theorem dX4_closeCall_26 : decode cX4_closeCall 26 = .ok (.iload_n 3, 1) := by decide +kernel
theorem dX4_closeCall_27 : decode cX4_closeCall 27 = .ok (.aload_n 0, 1) := by decide +kernel
theorem dX4_closeCall_28 : decode cX4_closeCall 28 = .ok (.getfield 68, 3) := by decide +kernel
theorem dX4_closeCall_31 : decode cX4_closeCall 31 = .ok (.if_icmp .lt 6, 3) := by decide +kernel
theorem dX4_closeCall_34 : decode cX4_closeCall 34 = .ok (.bipush 6, 2) := by decide +kernel
theorem dX4_closeCall_36 : decode cX4_closeCall 36 = .ok (.ireturn, 1) := by decide +kernel
theorem dX4_closeCall_37 : decode cX4_closeCall 37 = .ok (.aload_n 0, 1) := by decide +kernel
theorem dX4_closeCall_38 : decode cX4_closeCall 38 = .ok (.getfield 13, 3) := by decide +kernel
theorem dX4_closeCall_41 : decode cX4_closeCall 41 = .ok (.iload_n 3, 1) := by decide +kernel
theorem dX4_closeCall_42 : decode cX4_closeCall 42 = .ok (.aaload, 1) := by decide +kernel
theorem dX4_closeCall_43 : decode cX4_closeCall 43 = .ok (.aload_n 0, 1) := by decide +kernel
theorem dX4_closeCall_44 : decode cX4_closeCall 44 = .ok (.getfield 13, 3) := by decide +kernel
theorem dX4_closeCall_47 : decode cX4_closeCall 47 = .ok (.aload_n 0, 1) := by decide +kernel
theorem dX4_closeCall_48 : decode cX4_closeCall 48 = .ok (.getfield 68, 3) := by decide +kernel
theorem dX4_closeCall_51 : decode cX4_closeCall 51 = .ok (.iconst 1, 1) := by decide +kernel
theorem dX4_closeCall_52 : decode cX4_closeCall 52 = .ok (.isub, 1) := by decide +kernel
theorem dX4_closeCall_53 : decode cX4_closeCall 53 = .ok (.aaload, 1) := by decide +kernel
theorem dX4_closeCall_54 : decode cX4_closeCall 54 = .ok (.invokevirtual 164, 3) := by decide +kernel
theorem dX4_closeCall_57 : decode cX4_closeCall 57 = .ok (.aload_n 0, 1) := by decide +kernel
theorem dX4_closeCall_58 : decode cX4_closeCall 58 = .ok (.iload_n 3, 1) := by decide +kernel
theorem dX4_closeCall_59 : decode cX4_closeCall 59 = .ok (.iconst 1, 1) := by decide +kernel
theorem dX4_closeCall_60 : decode cX4_closeCall 60 = .ok (.iadd, 1) := by decide +kernel
theorem dX4_closeCall_61 : decode cX4_closeCall 61 = .ok (.putfield 68, 3) := by decide +kernel
theorem dX4_closeCall_64 : decode cX4_closeCall 64 = .ok (.aload_n 0, 1) := by decide +kernel
theorem dX4_closeCall_65 : decode cX4_closeCall 65 = .ok (.iload_n 2, 1) := by decide +kernel
theorem dX4_closeCall_66 : decode cX4_closeCall 66 = .ok (.putfield 81, 3) := by decide +kernel
theorem dX4_closeCall_69 : decode cX4_closeCall 69 = .ok (.aload_n 0, 1) := by decide +kernel
theorem dX4_closeCall_70 : decode cX4_closeCall 70 = .ok (.dup, 1) := by decide +kernel
theorem dX4_closeCall_71 : decode cX4_closeCall 71 = .ok (.getfield 78, 3) := by decide +kernel
theorem dX4_closeCall_74 : decode cX4_closeCall 74 = .ok (.iconst 1, 1) := by decide +kernel
theorem dX4_closeCall_75 : decode cX4_closeCall 75 = .ok (.isub, 1) := by decide +kernel
theorem dX4_closeCall_76 : decode cX4_closeCall 76 = .ok (.putfield 78, 3) := by decide +kernel
theorem dX4_closeCall_79 : decode cX4_closeCall 79 = .ok (.aload_n 0, 1) := by decide +kernel
theorem dX4_closeCall_80 : decode cX4_closeCall 80 = .ok (.iload_n 1, 1) := by decide +kernel
theorem dX4_closeCall_81 : decode cX4_closeCall 81 = .ok (.putfield 75, 3) := by decide +kernel
theorem dX4_closeCall_84 : decode cX4_closeCall 84 = .ok (.iconst 0, 1) := by decide +kernel
theorem dX4_closeCall_85 : decode cX4_closeCall 85 = .ok (.ireturn, 1) := by decide +kernel
theorem dX4_advanceChoice_0 : decode cX4_advanceChoice 0 = .ok (.aload_n 0, 1) := by decide +kernel
theorem dX4_advanceChoice_1 : decode cX4_advanceChoice 1 = .ok (.getfield 39, 3) := by decide +kernel
theorem dX4_advanceChoice_4 : decode cX4_advanceChoice 4 = .ok (.iload_n 1, 1) := by decide +kernel
theorem dX4_advanceChoice_5 : decode cX4_advanceChoice 5 = .ok (.iaload, 1) := by decide +kernel
theorem dX4_advanceChoice_6 : decode cX4_advanceChoice 6 = .ok (.istore 4, 2) := by decide +kernel
theorem dX4_advanceChoice_8 : decode cX4_advanceChoice 8 = .ok (.iload 4, 2) := by decide +kernel
theorem dX4_advanceChoice_10 : decode cX4_advanceChoice 10 = .ok (.ifCond .ne 44, 3) := by decide +kernel
theorem dX4_advanceChoice_13 : decode cX4_advanceChoice 13 = .ok (.aload_n 0, 1) := by decide +kernel
theorem dX4_advanceChoice_14 : decode cX4_advanceChoice 14 = .ok (.invokevirtual 256, 3) := by decide +kernel
theorem dX4_advanceChoice_17 : decode cX4_advanceChoice 17 = .ok (.istore 5, 2) := by decide +kernel
theorem dX4_advanceChoice_19 : decode cX4_advanceChoice 19 = .ok (.iload 5, 2) := by decide +kernel
theorem dX4_advanceChoice_21 : decode cX4_advanceChoice 21 = .ok (.ifCond .ne 13, 3) := by decide +kernel
theorem dX4_advanceChoice_24 : decode cX4_advanceChoice 24 = .ok (.aload_n 2, 1) := by decide +kernel
theorem dX4_advanceChoice_25 : decode cX4_advanceChoice 25 = .ok (.getfield 121, 3) := by decide +kernel
theorem dX4_advanceChoice_28 : decode cX4_advanceChoice 28 = .ok (.iload_n 3, 1) := by decide +kernel
theorem dX4_advanceChoice_29 : decode cX4_advanceChoice 29 = .ok (.iaload, 1) := by decide +kernel
theorem dX4_advanceChoice_30 : decode cX4_advanceChoice 30 = .ok (.iconst 3, 1) := by decide +kernel
theorem dX4_advanceChoice_31 : decode cX4_advanceChoice 31 = .ok (.if_icmp .eq 15, 3) := by decide +kernel
theorem dX4_advanceChoice_34 : decode cX4_advanceChoice 34 = .ok (.iload 5, 2) := by decide +kernel
theorem dX4_advanceChoice_36 : decode cX4_advanceChoice 36 = .ok (.ifCond .eq 8, 3) := by decide +kernel
theorem dX4_advanceChoice_39 : decode cX4_advanceChoice 39 = .ok (.iload 5, 2) := by decide +kernel
theorem dX4_advanceChoice_41 : decode cX4_advanceChoice 41 = .ok (.goto 4, 3) := by decide +kernel
theorem dX4_advanceChoice_44 : decode cX4_advanceChoice 44 = .ok (.iconst 5, 1) := by decide +kernel
theorem dX4_advanceChoice_45 : decode cX4_advanceChoice 45 = .ok (.ireturn, 1) := by decide +kernel
theorem dX4_advanceChoice_46 : decode cX4_advanceChoice 46 = .ok (.aload_n 0, 1) := by decide +kernel
theorem dX4_advanceChoice_47 : decode cX4_advanceChoice 47 = .ok (.iload_n 1, 1) := by decide +kernel
theorem dX4_advanceChoice_48 : decode cX4_advanceChoice 48 = .ok (.aload_n 2, 1) := by decide +kernel
theorem dX4_advanceChoice_49 : decode cX4_advanceChoice 49 = .ok (.iload_n 3, 1) := by decide +kernel
theorem dX4_advanceChoice_50 : decode cX4_advanceChoice 50 = .ok (.invokevirtual 124, 3) := by decide +kernel
theorem dX4_advanceChoice_53 : decode cX4_advanceChoice 53 = .ok (.ireturn, 1) := by decide +kernel
theorem dX4_advanceChoice_54 : decode cX4_advanceChoice 54 = .ok (.iload 4, 2) := by decide +kernel
theorem dX4_advanceChoice_56 : decode cX4_advanceChoice 56 = .ok (.iconst 1, 1) := by decide +kernel
theorem dX4_advanceChoice_57 : decode cX4_advanceChoice 57 = .ok (.if_icmp .ne 64, 3) := by decide +kernel
theorem dX4_advanceChoice_60 : decode cX4_advanceChoice 60 = .ok (.aload_n 0, 1) := by decide +kernel
theorem dX4_advanceChoice_61 : decode cX4_advanceChoice 61 = .ok (.getfield 68, 3) := by decide +kernel
theorem dX4_advanceChoice_64 : decode cX4_advanceChoice 64 = .ok (.ifCond .le 57, 3) := by decide +kernel
theorem dX4_advanceChoice_67 : decode cX4_advanceChoice 67 = .ok (.aload_n 0, 1) := by decide +kernel
theorem dX4_advanceChoice_68 : decode cX4_advanceChoice 68 = .ok (.dup, 1) := by decide +kernel
theorem dX4_advanceChoice_69 : decode cX4_advanceChoice 69 = .ok (.getfield 68, 3) := by decide +kernel
theorem dX4_advanceChoice_72 : decode cX4_advanceChoice 72 = .ok (.iconst 1, 1) := by decide +kernel
theorem dX4_advanceChoice_73 : decode cX4_advanceChoice 73 = .ok (.isub, 1) := by decide +kernel
theorem dX4_advanceChoice_74 : decode cX4_advanceChoice 74 = .ok (.putfield 68, 3) := by decide +kernel
theorem dX4_advanceChoice_77 : decode cX4_advanceChoice 77 = .ok (.aload_n 0, 1) := by decide +kernel
theorem dX4_advanceChoice_78 : decode cX4_advanceChoice 78 = .ok (.getfield 39, 3) := by decide +kernel
theorem dX4_advanceChoice_81 : decode cX4_advanceChoice 81 = .ok (.iload_n 1, 1) := by decide +kernel
theorem dX4_advanceChoice_82 : decode cX4_advanceChoice 82 = .ok (.iconst 2, 1) := by decide +kernel
theorem dX4_advanceChoice_83 : decode cX4_advanceChoice 83 = .ok (.iastore, 1) := by decide +kernel
theorem dX4_advanceChoice_84 : decode cX4_advanceChoice 84 = .ok (.aload_n 0, 1) := by decide +kernel
theorem dX4_advanceChoice_85 : decode cX4_advanceChoice 85 = .ok (.aload_n 2, 1) := by decide +kernel
theorem dX4_advanceChoice_86 : decode cX4_advanceChoice 86 = .ok (.aload_n 2, 1) := by decide +kernel
theorem dX4_advanceChoice_87 : decode cX4_advanceChoice 87 = .ok (.iload_n 3, 1) := by decide +kernel
theorem dX4_advanceChoice_88 : decode cX4_advanceChoice 88 = .ok (.aload_n 0, 1) := by decide +kernel
theorem dX4_advanceChoice_89 : decode cX4_advanceChoice 89 = .ok (.getfield 13, 3) := by decide +kernel
theorem dX4_advanceChoice_92 : decode cX4_advanceChoice 92 = .ok (.aload_n 0, 1) := by decide +kernel
theorem dX4_advanceChoice_93 : decode cX4_advanceChoice 93 = .ok (.getfield 68, 3) := by decide +kernel
theorem dX4_advanceChoice_96 : decode cX4_advanceChoice 96 = .ok (.aaload, 1) := by decide +kernel
theorem dX4_advanceChoice_97 : decode cX4_advanceChoice 97 = .ok (.invokevirtual 208, 3) := by decide +kernel
theorem dX4_advanceChoice_100 : decode cX4_advanceChoice 100 = .ok (.ifCond .eq 7, 3) := by decide +kernel
theorem dX4_advanceChoice_103 : decode cX4_advanceChoice 103 = .ok (.iconst 2, 1) := by decide +kernel
theorem dX4_advanceChoice_104 : decode cX4_advanceChoice 104 = .ok (.goto 4, 3) := by decide +kernel
theorem dX4_advanceChoice_107 : decode cX4_advanceChoice 107 = .ok (.iconst 1, 1) := by decide +kernel
theorem dX4_advanceChoice_108 : decode cX4_advanceChoice 108 = .ok (.invokevirtual 127, 3) := by decide +kernel
theorem dX4_advanceChoice_111 : decode cX4_advanceChoice 111 = .ok (.aload_n 0, 1) := by decide +kernel
theorem dX4_advanceChoice_112 : decode cX4_advanceChoice 112 = .ok (.getfield 42, 3) := by decide +kernel
theorem dX4_advanceChoice_115 : decode cX4_advanceChoice 115 = .ok (.iload_n 1, 1) := by decide +kernel
theorem dX4_advanceChoice_116 : decode cX4_advanceChoice 116 = .ok (.iaload, 1) := by decide +kernel
theorem dX4_advanceChoice_117 : decode cX4_advanceChoice 117 = .ok (.invokevirtual 87, 3) := by decide +kernel
theorem dX4_advanceChoice_120 : decode cX4_advanceChoice 120 = .ok (.ireturn, 1) := by decide +kernel
theorem dX4_advanceChoice_121 : decode cX4_advanceChoice 121 = .ok (.aload_n 0, 1) := by decide +kernel
theorem dX4_advanceChoice_122 : decode cX4_advanceChoice 122 = .ok (.iload_n 1, 1) := by decide +kernel
theorem dX4_advanceChoice_123 : decode cX4_advanceChoice 123 = .ok (.putfield 75, 3) := by decide +kernel
theorem dX4_advanceChoice_126 : decode cX4_advanceChoice 126 = .ok (.iconst 0, 1) := by decide +kernel
theorem dX4_advanceChoice_127 : decode cX4_advanceChoice 127 = .ok (.ireturn, 1) := by decide +kernel
theorem dX4_advanceSum_0 : decode cX4_advanceSum 0 = .ok (.aload_n 0, 1) := by decide +kernel
theorem dX4_advanceSum_1 : decode cX4_advanceSum 1 = .ok (.getfield 39, 3) := by decide +kernel
theorem dX4_advanceSum_4 : decode cX4_advanceSum 4 = .ok (.iload_n 1, 1) := by decide +kernel
theorem dX4_advanceSum_5 : decode cX4_advanceSum 5 = .ok (.iaload, 1) := by decide +kernel
theorem dX4_advanceSum_6 : decode cX4_advanceSum 6 = .ok (.tableswitch 133 0 4 #[34, 133, 100, 108, 125], 34) := by decide +kernel
theorem dX4_advanceSum_40 : decode cX4_advanceSum 40 = .ok (.aload_n 0, 1) := by decide +kernel
theorem dX4_advanceSum_41 : decode cX4_advanceSum 41 = .ok (.invokevirtual 256, 3) := by decide +kernel
theorem dX4_advanceSum_44 : decode cX4_advanceSum 44 = .ok (.istore 4, 2) := by decide +kernel
theorem dX4_advanceSum_46 : decode cX4_advanceSum 46 = .ok (.iload 4, 2) := by decide +kernel
theorem dX4_advanceSum_48 : decode cX4_advanceSum 48 = .ok (.ifCond .ne 13, 3) := by decide +kernel
theorem dX4_advanceSum_51 : decode cX4_advanceSum 51 = .ok (.aload_n 2, 1) := by decide +kernel
theorem dX4_advanceSum_52 : decode cX4_advanceSum 52 = .ok (.getfield 121, 3) := by decide +kernel
theorem dX4_advanceSum_55 : decode cX4_advanceSum 55 = .ok (.iload_n 3, 1) := by decide +kernel
theorem dX4_advanceSum_56 : decode cX4_advanceSum 56 = .ok (.iaload, 1) := by decide +kernel
theorem dX4_advanceSum_57 : decode cX4_advanceSum 57 = .ok (.iconst 4, 1) := by decide +kernel
theorem dX4_advanceSum_58 : decode cX4_advanceSum 58 = .ok (.if_icmp .eq 15, 3) := by decide +kernel
theorem dX4_advanceSum_61 : decode cX4_advanceSum 61 = .ok (.iload 4, 2) := by decide +kernel
theorem dX4_advanceSum_63 : decode cX4_advanceSum 63 = .ok (.ifCond .eq 8, 3) := by decide +kernel
theorem dX4_advanceSum_66 : decode cX4_advanceSum 66 = .ok (.iload 4, 2) := by decide +kernel
theorem dX4_advanceSum_68 : decode cX4_advanceSum 68 = .ok (.goto 4, 3) := by decide +kernel
theorem dX4_advanceSum_71 : decode cX4_advanceSum 71 = .ok (.iconst 5, 1) := by decide +kernel
theorem dX4_advanceSum_72 : decode cX4_advanceSum 72 = .ok (.ireturn, 1) := by decide +kernel
theorem dX4_advanceSum_73 : decode cX4_advanceSum 73 = .ok (.aload_n 2, 1) := by decide +kernel
theorem dX4_advanceSum_74 : decode cX4_advanceSum 74 = .ok (.getfield 133, 3) := by decide +kernel
theorem dX4_advanceSum_77 : decode cX4_advanceSum 77 = .ok (.aload_n 2, 1) := by decide +kernel
theorem dX4_advanceSum_78 : decode cX4_advanceSum 78 = .ok (.iload_n 3, 1) := by decide +kernel
theorem dX4_advanceSum_79 : decode cX4_advanceSum 79 = .ok (.iconst 0, 1) := by decide +kernel
theorem dX4_advanceSum_80 : decode cX4_advanceSum 80 = .ok (.invokevirtual 127, 3) := by decide +kernel
theorem dX4_advanceSum_83 : decode cX4_advanceSum 83 = .ok (.iaload, 1) := by decide +kernel
theorem dX4_advanceSum_84 : decode cX4_advanceSum 84 = .ok (.iconst 1, 1) := by decide +kernel
theorem dX4_advanceSum_85 : decode cX4_advanceSum 85 = .ok (.if_icmp .eq 6, 3) := by decide +kernel
theorem dX4_advanceSum_88 : decode cX4_advanceSum 88 = .ok (.bipush 10, 2) := by decide +kernel
theorem dX4_advanceSum_90 : decode cX4_advanceSum 90 = .ok (.ireturn, 1) := by decide +kernel
theorem dX4_advanceSum_91 : decode cX4_advanceSum 91 = .ok (.aload_n 0, 1) := by decide +kernel
theorem dX4_advanceSum_92 : decode cX4_advanceSum 92 = .ok (.getfield 39, 3) := by decide +kernel
theorem dX4_advanceSum_95 : decode cX4_advanceSum 95 = .ok (.iload_n 1, 1) := by decide +kernel
theorem dX4_advanceSum_96 : decode cX4_advanceSum 96 = .ok (.iconst 1, 1) := by decide +kernel
theorem dX4_advanceSum_97 : decode cX4_advanceSum 97 = .ok (.iastore, 1) := by decide +kernel
theorem dX4_advanceSum_98 : decode cX4_advanceSum 98 = .ok (.aload_n 0, 1) := by decide +kernel
theorem dX4_advanceSum_99 : decode cX4_advanceSum 99 = .ok (.iload_n 1, 1) := by decide +kernel
theorem dX4_advanceSum_100 : decode cX4_advanceSum 100 = .ok (.aload_n 2, 1) := by decide +kernel
theorem dX4_advanceSum_101 : decode cX4_advanceSum 101 = .ok (.iload_n 3, 1) := by decide +kernel
theorem dX4_advanceSum_102 : decode cX4_advanceSum 102 = .ok (.invokevirtual 124, 3) := by decide +kernel
theorem dX4_advanceSum_105 : decode cX4_advanceSum 105 = .ok (.ireturn, 1) := by decide +kernel
theorem dX4_advanceSum_106 : decode cX4_advanceSum 106 = .ok (.aload_n 0, 1) := by decide +kernel
theorem dX4_advanceSum_107 : decode cX4_advanceSum 107 = .ok (.iload_n 1, 1) := by decide +kernel
theorem dX4_advanceSum_108 : decode cX4_advanceSum 108 = .ok (.aload_n 2, 1) := by decide +kernel
theorem dX4_advanceSum_109 : decode cX4_advanceSum 109 = .ok (.iload_n 3, 1) := by decide +kernel
theorem dX4_advanceSum_110 : decode cX4_advanceSum 110 = .ok (.invokevirtual 124, 3) := by decide +kernel
theorem dX4_advanceSum_113 : decode cX4_advanceSum 113 = .ok (.ireturn, 1) := by decide +kernel
theorem dX4_advanceSum_114 : decode cX4_advanceSum 114 = .ok (.aload_n 0, 1) := by decide +kernel
theorem dX4_advanceSum_115 : decode cX4_advanceSum 115 = .ok (.iload_n 1, 1) := by decide +kernel
theorem dX4_advanceSum_116 : decode cX4_advanceSum 116 = .ok (.aload_n 2, 1) := by decide +kernel
theorem dX4_advanceSum_117 : decode cX4_advanceSum 117 = .ok (.getfield 130, 3) := by decide +kernel
theorem dX4_advanceSum_120 : decode cX4_advanceSum 120 = .ok (.aload_n 2, 1) := by decide +kernel
theorem dX4_advanceSum_121 : decode cX4_advanceSum 121 = .ok (.iload_n 3, 1) := by decide +kernel
theorem dX4_advanceSum_122 : decode cX4_advanceSum 122 = .ok (.iconst 0, 1) := by decide +kernel
theorem dX4_advanceSum_123 : decode cX4_advanceSum 123 = .ok (.invokevirtual 127, 3) := by decide +kernel
theorem dX4_advanceSum_126 : decode cX4_advanceSum 126 = .ok (.iaload, 1) := by decide +kernel
theorem dX4_advanceSum_127 : decode cX4_advanceSum 127 = .ok (.invokevirtual 259, 3) := by decide +kernel
theorem dX4_advanceSum_130 : decode cX4_advanceSum 130 = .ok (.ireturn, 1) := by decide +kernel
theorem dX4_advanceSum_131 : decode cX4_advanceSum 131 = .ok (.aload_n 0, 1) := by decide +kernel
theorem dX4_advanceSum_132 : decode cX4_advanceSum 132 = .ok (.iload_n 1, 1) := by decide +kernel
theorem dX4_advanceSum_133 : decode cX4_advanceSum 133 = .ok (.aload_n 2, 1) := by decide +kernel
theorem dX4_advanceSum_134 : decode cX4_advanceSum 134 = .ok (.iload_n 3, 1) := by decide +kernel
theorem dX4_advanceSum_135 : decode cX4_advanceSum 135 = .ok (.invokevirtual 262, 3) := by decide +kernel
theorem dX4_advanceSum_138 : decode cX4_advanceSum 138 = .ok (.ireturn, 1) := by decide +kernel
theorem dX4_advanceSum_139 : decode cX4_advanceSum 139 = .ok (.aload_n 0, 1) := by decide +kernel
theorem dX4_advanceSum_140 : decode cX4_advanceSum 140 = .ok (.iload_n 1, 1) := by decide +kernel
theorem dX4_advanceSum_141 : decode cX4_advanceSum 141 = .ok (.invokevirtual 265, 3) := by decide +kernel
theorem dX4_advanceSum_144 : decode cX4_advanceSum 144 = .ok (.ireturn, 1) := by decide +kernel
theorem dX4_openSum_0 : decode cX4_openSum 0 = .ok (.aload_n 0, 1) := by decide +kernel
theorem dX4_openSum_1 : decode cX4_openSum 1 = .ok (.getfield 68, 3) := by decide +kernel
theorem dX4_openSum_4 : decode cX4_openSum 4 = .ok (.iconst 2, 1) := by decide +kernel
theorem dX4_openSum_5 : decode cX4_openSum 5 = .ok (.if_icmp .ge 6, 3) := by decide +kernel
theorem dX4_openSum_8 : decode cX4_openSum 8 = .ok (.bipush 10, 2) := by decide +kernel
theorem dX4_openSum_10 : decode cX4_openSum 10 = .ok (.ireturn, 1) := by decide +kernel
theorem dX4_openSum_11 : decode cX4_openSum 11 = .ok (.aload_n 0, 1) := by decide +kernel
theorem dX4_openSum_12 : decode cX4_openSum 12 = .ok (.getfield 13, 3) := by decide +kernel
theorem dX4_openSum_15 : decode cX4_openSum 15 = .ok (.aload_n 0, 1) := by decide +kernel
theorem dX4_openSum_16 : decode cX4_openSum 16 = .ok (.getfield 68, 3) := by decide +kernel
theorem dX4_openSum_19 : decode cX4_openSum 19 = .ok (.iconst 2, 1) := by decide +kernel
theorem dX4_openSum_20 : decode cX4_openSum 20 = .ok (.isub, 1) := by decide +kernel
theorem dX4_openSum_21 : decode cX4_openSum 21 = .ok (.aaload, 1) := by decide +kernel
theorem dX4_openSum_22 : decode cX4_openSum 22 = .ok (.astore_n 3, 1) := by decide +kernel
theorem dX4_openSum_23 : decode cX4_openSum 23 = .ok (.aload_n 0, 1) := by decide +kernel
theorem dX4_openSum_24 : decode cX4_openSum 24 = .ok (.getfield 13, 3) := by decide +kernel
theorem dX4_openSum_27 : decode cX4_openSum 27 = .ok (.aload_n 0, 1) := by decide +kernel
theorem dX4_openSum_28 : decode cX4_openSum 28 = .ok (.getfield 68, 3) := by decide +kernel
theorem dX4_openSum_31 : decode cX4_openSum 31 = .ok (.iconst 1, 1) := by decide +kernel
theorem dX4_openSum_32 : decode cX4_openSum 32 = .ok (.isub, 1) := by decide +kernel
theorem dX4_openSum_33 : decode cX4_openSum 33 = .ok (.aaload, 1) := by decide +kernel
theorem dX4_openSum_34 : decode cX4_openSum 34 = .ok (.astore 4, 2) := by decide +kernel
theorem dX4_openSum_36 : decode cX4_openSum 36 = .ok (.aload_n 3, 1) := by decide +kernel
theorem dX4_openSum_37 : decode cX4_openSum 37 = .ok (.invokevirtual 225, 3) := by decide +kernel
theorem dX4_openSum_40 : decode cX4_openSum 40 = .ok (.ifCond .eq 11, 3) := by decide +kernel
theorem dX4_openSum_43 : decode cX4_openSum 43 = .ok (.aload 4, 2) := by decide +kernel
theorem dX4_openSum_45 : decode cX4_openSum 45 = .ok (.invokevirtual 225, 3) := by decide +kernel
theorem dX4_openSum_48 : decode cX4_openSum 48 = .ok (.ifCond .ne 5, 3) := by decide +kernel
theorem dX4_openSum_51 : decode cX4_openSum 51 = .ok (.iconst 2, 1) := by decide +kernel
theorem dX4_openSum_52 : decode cX4_openSum 52 = .ok (.ireturn, 1) := by decide +kernel
theorem dX4_openSum_53 : decode cX4_openSum 53 = .ok (.aload_n 0, 1) := by decide +kernel
theorem dX4_openSum_54 : decode cX4_openSum 54 = .ok (.getfield 64, 3) := by decide +kernel
theorem dX4_openSum_57 : decode cX4_openSum 57 = .ok (.aload_n 0, 1) := by decide +kernel
theorem dX4_openSum_58 : decode cX4_openSum 58 = .ok (.getfield 22, 3) := by decide +kernel
theorem dX4_openSum_61 : decode cX4_openSum 61 = .ok (.aload 4, 2) := by decide +kernel
theorem dX4_openSum_63 : decode cX4_openSum 63 = .ok (.aload_n 3, 1) := by decide +kernel
theorem dX4_openSum_64 : decode cX4_openSum 64 = .ok (.iconst 1, 1) := by decide +kernel
theorem dX4_openSum_65 : decode cX4_openSum 65 = .ok (.invokevirtual 172, 3) := by decide +kernel
theorem dX4_openSum_68 : decode cX4_openSum 68 = .ok (.aload_n 0, 1) := by decide +kernel
theorem dX4_openSum_69 : decode cX4_openSum 69 = .ok (.getfield 22, 3) := by decide +kernel
theorem dX4_openSum_72 : decode cX4_openSum 72 = .ok (.getfield 188, 3) := by decide +kernel
theorem dX4_openSum_75 : decode cX4_openSum 75 = .ok (.invokevirtual 192, 3) := by decide +kernel
theorem dX4_openSum_78 : decode cX4_openSum 78 = .ok (.istore 5, 2) := by decide +kernel
theorem dX4_openSum_80 : decode cX4_openSum 80 = .ok (.iload 5, 2) := by decide +kernel
theorem dX4_openSum_82 : decode cX4_openSum 82 = .ok (.bipush 30, 2) := by decide +kernel
theorem dX4_openSum_84 : decode cX4_openSum 84 = .ok (.if_icmp .lt 5, 3) := by decide +kernel
theorem dX4_openSum_87 : decode cX4_openSum 87 = .ok (.iconst 3, 1) := by decide +kernel
theorem dX4_openSum_88 : decode cX4_openSum 88 = .ok (.ireturn, 1) := by decide +kernel
theorem dX4_openSum_89 : decode cX4_openSum 89 = .ok (.aload_n 0, 1) := by decide +kernel
theorem dX4_openSum_90 : decode cX4_openSum 90 = .ok (.iload_n 2, 1) := by decide +kernel
theorem dX4_openSum_91 : decode cX4_openSum 91 = .ok (.iconst 0, 1) := by decide +kernel
theorem dX4_openSum_92 : decode cX4_openSum 92 = .ok (.aload_n 0, 1) := by decide +kernel
theorem dX4_openSum_93 : decode cX4_openSum 93 = .ok (.getfield 68, 3) := by decide +kernel
theorem dX4_openSum_96 : decode cX4_openSum 96 = .ok (.iconst 2, 1) := by decide +kernel
theorem dX4_openSum_97 : decode cX4_openSum 97 = .ok (.isub, 1) := by decide +kernel
theorem dX4_openSum_98 : decode cX4_openSum 98 = .ok (.aload_n 0, 1) := by decide +kernel
theorem dX4_openSum_99 : decode cX4_openSum 99 = .ok (.getfield 42, 3) := by decide +kernel
theorem dX4_openSum_102 : decode cX4_openSum 102 = .ok (.iload_n 1, 1) := by decide +kernel
theorem dX4_openSum_103 : decode cX4_openSum 103 = .ok (.iaload, 1) := by decide +kernel
theorem dX4_openSum_104 : decode cX4_openSum 104 = .ok (.invokevirtual 231, 3) := by decide +kernel
theorem dX4_openSum_107 : decode cX4_openSum 107 = .ok (.ifCond .ne 6, 3) := by decide +kernel
theorem dX4_openSum_110 : decode cX4_openSum 110 = .ok (.bipush 9, 2) := by decide +kernel
theorem dX4_openSum_112 : decode cX4_openSum 112 = .ok (.ireturn, 1) := by decide +kernel
theorem dX4_openSum_113 : decode cX4_openSum 113 = .ok (.aload 4, 2) := by decide +kernel
theorem dX4_openSum_115 : decode cX4_openSum 115 = .ok (.lconst 0, 1) := by decide +kernel
theorem dX4_openSum_116 : decode cX4_openSum 116 = .ok (.invokevirtual 136, 3) := by decide +kernel
theorem dX4_openSum_119 : decode cX4_openSum 119 = .ok (.aload_n 0, 1) := by decide +kernel
theorem dX4_openSum_120 : decode cX4_openSum 120 = .ok (.getfield 45, 3) := by decide +kernel
theorem dX4_openSum_123 : decode cX4_openSum 123 = .ok (.iload_n 1, 1) := by decide +kernel
theorem dX4_openSum_124 : decode cX4_openSum 124 = .ok (.iload 5, 2) := by decide +kernel
theorem dX4_openSum_126 : decode cX4_openSum 126 = .ok (.ifCond .ge 7, 3) := by decide +kernel
theorem dX4_openSum_129 : decode cX4_openSum 129 = .ok (.iconst 0, 1) := by decide +kernel
theorem dX4_openSum_130 : decode cX4_openSum 130 = .ok (.goto 7, 3) := by decide +kernel
theorem dX4_openSum_133 : decode cX4_openSum 133 = .ok (.iload 5, 2) := by decide +kernel
theorem dX4_openSum_135 : decode cX4_openSum 135 = .ok (.iconst 1, 1) := by decide +kernel
theorem dX4_openSum_136 : decode cX4_openSum 136 = .ok (.iadd, 1) := by decide +kernel
theorem dX4_openSum_137 : decode cX4_openSum 137 = .ok (.iastore, 1) := by decide +kernel
theorem dX4_openSum_138 : decode cX4_openSum 138 = .ok (.aload_n 0, 1) := by decide +kernel
theorem dX4_openSum_139 : decode cX4_openSum 139 = .ok (.getfield 39, 3) := by decide +kernel
theorem dX4_openSum_142 : decode cX4_openSum 142 = .ok (.iload_n 1, 1) := by decide +kernel
theorem dX4_openSum_143 : decode cX4_openSum 143 = .ok (.iconst 4, 1) := by decide +kernel
theorem dX4_openSum_144 : decode cX4_openSum 144 = .ok (.iastore, 1) := by decide +kernel
theorem dX4_openSum_145 : decode cX4_openSum 145 = .ok (.iconst 0, 1) := by decide +kernel
theorem dX4_openSum_146 : decode cX4_openSum 146 = .ok (.ireturn, 1) := by decide +kernel
theorem dX4_nextOfSum_0 : decode cX4_nextOfSum 0 = .ok (.aload_n 0, 1) := by decide +kernel
theorem dX4_nextOfSum_1 : decode cX4_nextOfSum 1 = .ok (.getfield 45, 3) := by decide +kernel
theorem dX4_nextOfSum_4 : decode cX4_nextOfSum 4 = .ok (.iload_n 1, 1) := by decide +kernel
theorem dX4_nextOfSum_5 : decode cX4_nextOfSum 5 = .ok (.iaload, 1) := by decide +kernel
theorem dX4_nextOfSum_6 : decode cX4_nextOfSum 6 = .ok (.ifCond .le 28, 3) := by decide +kernel
theorem dX4_nextOfSum_9 : decode cX4_nextOfSum 9 = .ok (.aload_n 0, 1) := by decide +kernel
theorem dX4_nextOfSum_10 : decode cX4_nextOfSum 10 = .ok (.getfield 39, 3) := by decide +kernel
theorem dX4_nextOfSum_13 : decode cX4_nextOfSum 13 = .ok (.iload_n 1, 1) := by decide +kernel
theorem dX4_nextOfSum_14 : decode cX4_nextOfSum 14 = .ok (.iconst 5, 1) := by decide +kernel
theorem dX4_nextOfSum_15 : decode cX4_nextOfSum 15 = .ok (.iastore, 1) := by decide +kernel
theorem dX4_nextOfSum_16 : decode cX4_nextOfSum 16 = .ok (.aload_n 0, 1) := by decide +kernel
theorem dX4_nextOfSum_17 : decode cX4_nextOfSum 17 = .ok (.aload_n 2, 1) := by decide +kernel
theorem dX4_nextOfSum_18 : decode cX4_nextOfSum 18 = .ok (.aload_n 2, 1) := by decide +kernel
theorem dX4_nextOfSum_19 : decode cX4_nextOfSum 19 = .ok (.iload_n 3, 1) := by decide +kernel
theorem dX4_nextOfSum_20 : decode cX4_nextOfSum 20 = .ok (.iconst 3, 1) := by decide +kernel
theorem dX4_nextOfSum_21 : decode cX4_nextOfSum 21 = .ok (.invokevirtual 127, 3) := by decide +kernel
theorem dX4_nextOfSum_24 : decode cX4_nextOfSum 24 = .ok (.aload_n 0, 1) := by decide +kernel
theorem dX4_nextOfSum_25 : decode cX4_nextOfSum 25 = .ok (.getfield 81, 3) := by decide +kernel
theorem dX4_nextOfSum_28 : decode cX4_nextOfSum 28 = .ok (.iconst 1, 1) := by decide +kernel
theorem dX4_nextOfSum_29 : decode cX4_nextOfSum 29 = .ok (.isub, 1) := by decide +kernel
theorem dX4_nextOfSum_30 : decode cX4_nextOfSum 30 = .ok (.invokevirtual 87, 3) := by decide +kernel
theorem dX4_nextOfSum_33 : decode cX4_nextOfSum 33 = .ok (.ireturn, 1) := by decide +kernel
theorem dX4_nextOfSum_34 : decode cX4_nextOfSum 34 = .ok (.aload_n 0, 1) := by decide +kernel
theorem dX4_nextOfSum_35 : decode cX4_nextOfSum 35 = .ok (.getfield 68, 3) := by decide +kernel
theorem dX4_nextOfSum_38 : decode cX4_nextOfSum 38 = .ok (.iconst 1, 1) := by decide +kernel
theorem dX4_nextOfSum_39 : decode cX4_nextOfSum 39 = .ok (.if_icmp .le 38, 3) := by decide +kernel
theorem dX4_nextOfSum_42 : decode cX4_nextOfSum 42 = .ok (.aload_n 0, 1) := by decide +kernel
theorem dX4_nextOfSum_43 : decode cX4_nextOfSum 43 = .ok (.getfield 13, 3) := by decide +kernel
theorem dX4_nextOfSum_46 : decode cX4_nextOfSum 46 = .ok (.aload_n 0, 1) := by decide +kernel
theorem dX4_nextOfSum_47 : decode cX4_nextOfSum 47 = .ok (.getfield 68, 3) := by decide +kernel
theorem dX4_nextOfSum_50 : decode cX4_nextOfSum 50 = .ok (.iconst 2, 1) := by decide +kernel
theorem dX4_nextOfSum_51 : decode cX4_nextOfSum 51 = .ok (.isub, 1) := by decide +kernel
theorem dX4_nextOfSum_52 : decode cX4_nextOfSum 52 = .ok (.aaload, 1) := by decide +kernel
theorem dX4_nextOfSum_53 : decode cX4_nextOfSum 53 = .ok (.aload_n 0, 1) := by decide +kernel
theorem dX4_nextOfSum_54 : decode cX4_nextOfSum 54 = .ok (.getfield 13, 3) := by decide +kernel
theorem dX4_nextOfSum_57 : decode cX4_nextOfSum 57 = .ok (.aload_n 0, 1) := by decide +kernel
theorem dX4_nextOfSum_58 : decode cX4_nextOfSum 58 = .ok (.getfield 68, 3) := by decide +kernel
theorem dX4_nextOfSum_61 : decode cX4_nextOfSum 61 = .ok (.iconst 1, 1) := by decide +kernel
theorem dX4_nextOfSum_62 : decode cX4_nextOfSum 62 = .ok (.isub, 1) := by decide +kernel
theorem dX4_nextOfSum_63 : decode cX4_nextOfSum 63 = .ok (.aaload, 1) := by decide +kernel
theorem dX4_nextOfSum_64 : decode cX4_nextOfSum 64 = .ok (.invokevirtual 164, 3) := by decide +kernel
theorem dX4_nextOfSum_67 : decode cX4_nextOfSum 67 = .ok (.aload_n 0, 1) := by decide +kernel
theorem dX4_nextOfSum_68 : decode cX4_nextOfSum 68 = .ok (.dup, 1) := by decide +kernel
theorem dX4_nextOfSum_69 : decode cX4_nextOfSum 69 = .ok (.getfield 68, 3) := by decide +kernel
theorem dX4_nextOfSum_72 : decode cX4_nextOfSum 72 = .ok (.iconst 1, 1) := by decide +kernel
theorem dX4_nextOfSum_73 : decode cX4_nextOfSum 73 = .ok (.isub, 1) := by decide +kernel
theorem dX4_nextOfSum_74 : decode cX4_nextOfSum 74 = .ok (.putfield 68, 3) := by decide +kernel
theorem dX4_nextOfSum_77 : decode cX4_nextOfSum 77 = .ok (.aload_n 0, 1) := by decide +kernel
theorem dX4_nextOfSum_78 : decode cX4_nextOfSum 78 = .ok (.dup, 1) := by decide +kernel
theorem dX4_nextOfSum_79 : decode cX4_nextOfSum 79 = .ok (.getfield 81, 3) := by decide +kernel
theorem dX4_nextOfSum_82 : decode cX4_nextOfSum 82 = .ok (.iconst 1, 1) := by decide +kernel
theorem dX4_nextOfSum_83 : decode cX4_nextOfSum 83 = .ok (.isub, 1) := by decide +kernel
theorem dX4_nextOfSum_84 : decode cX4_nextOfSum 84 = .ok (.putfield 81, 3) := by decide +kernel
theorem dX4_nextOfSum_87 : decode cX4_nextOfSum 87 = .ok (.aload_n 0, 1) := by decide +kernel
theorem dX4_nextOfSum_88 : decode cX4_nextOfSum 88 = .ok (.iload_n 1, 1) := by decide +kernel
theorem dX4_nextOfSum_89 : decode cX4_nextOfSum 89 = .ok (.putfield 75, 3) := by decide +kernel
theorem dX4_nextOfSum_92 : decode cX4_nextOfSum 92 = .ok (.iconst 0, 1) := by decide +kernel
theorem dX4_nextOfSum_93 : decode cX4_nextOfSum 93 = .ok (.ireturn, 1) := by decide +kernel
theorem dX4_addToSum_0 : decode cX4_addToSum 0 = .ok (.aload_n 0, 1) := by decide +kernel
theorem dX4_addToSum_1 : decode cX4_addToSum 1 = .ok (.getfield 68, 3) := by decide +kernel
theorem dX4_addToSum_4 : decode cX4_addToSum 4 = .ok (.iconst 3, 1) := by decide +kernel
theorem dX4_addToSum_5 : decode cX4_addToSum 5 = .ok (.if_icmp .ge 6, 3) := by decide +kernel
theorem dX4_addToSum_8 : decode cX4_addToSum 8 = .ok (.bipush 10, 2) := by decide +kernel
theorem dX4_addToSum_10 : decode cX4_addToSum 10 = .ok (.ireturn, 1) := by decide +kernel
theorem dX4_addToSum_11 : decode cX4_addToSum 11 = .ok (.aload_n 0, 1) := by decide +kernel
theorem dX4_addToSum_12 : decode cX4_addToSum 12 = .ok (.getfield 13, 3) := by decide +kernel
theorem dX4_addToSum_15 : decode cX4_addToSum 15 = .ok (.aload_n 0, 1) := by decide +kernel
theorem dX4_addToSum_16 : decode cX4_addToSum 16 = .ok (.getfield 68, 3) := by decide +kernel
theorem dX4_addToSum_19 : decode cX4_addToSum 19 = .ok (.iconst 3, 1) := by decide +kernel
theorem dX4_addToSum_20 : decode cX4_addToSum 20 = .ok (.isub, 1) := by decide +kernel
theorem dX4_addToSum_21 : decode cX4_addToSum 21 = .ok (.aaload, 1) := by decide +kernel
theorem dX4_addToSum_22 : decode cX4_addToSum 22 = .ok (.astore_n 2, 1) := by decide +kernel
theorem dX4_addToSum_23 : decode cX4_addToSum 23 = .ok (.aload_n 0, 1) := by decide +kernel
theorem dX4_addToSum_24 : decode cX4_addToSum 24 = .ok (.getfield 13, 3) := by decide +kernel
theorem dX4_addToSum_27 : decode cX4_addToSum 27 = .ok (.aload_n 0, 1) := by decide +kernel
theorem dX4_addToSum_28 : decode cX4_addToSum 28 = .ok (.getfield 68, 3) := by decide +kernel
theorem dX4_addToSum_31 : decode cX4_addToSum 31 = .ok (.iconst 2, 1) := by decide +kernel
theorem dX4_addToSum_32 : decode cX4_addToSum 32 = .ok (.isub, 1) := by decide +kernel
theorem dX4_addToSum_33 : decode cX4_addToSum 33 = .ok (.aaload, 1) := by decide +kernel
theorem dX4_addToSum_34 : decode cX4_addToSum 34 = .ok (.astore_n 3, 1) := by decide +kernel
theorem dX4_addToSum_35 : decode cX4_addToSum 35 = .ok (.aload_n 0, 1) := by decide +kernel
theorem dX4_addToSum_36 : decode cX4_addToSum 36 = .ok (.getfield 64, 3) := by decide +kernel
theorem dX4_addToSum_39 : decode cX4_addToSum 39 = .ok (.aload_n 0, 1) := by decide +kernel
theorem dX4_addToSum_40 : decode cX4_addToSum 40 = .ok (.getfield 22, 3) := by decide +kernel
theorem dX4_addToSum_43 : decode cX4_addToSum 43 = .ok (.aload_n 3, 1) := by decide +kernel
theorem dX4_addToSum_44 : decode cX4_addToSum 44 = .ok (.aload_n 0, 1) := by decide +kernel
theorem dX4_addToSum_45 : decode cX4_addToSum 45 = .ok (.getfield 13, 3) := by decide +kernel
theorem dX4_addToSum_48 : decode cX4_addToSum 48 = .ok (.aload_n 0, 1) := by decide +kernel
theorem dX4_addToSum_49 : decode cX4_addToSum 49 = .ok (.getfield 68, 3) := by decide +kernel
theorem dX4_addToSum_52 : decode cX4_addToSum 52 = .ok (.iconst 1, 1) := by decide +kernel
theorem dX4_addToSum_53 : decode cX4_addToSum 53 = .ok (.isub, 1) := by decide +kernel
theorem dX4_addToSum_54 : decode cX4_addToSum 54 = .ok (.aaload, 1) := by decide +kernel
theorem dX4_addToSum_55 : decode cX4_addToSum 55 = .ok (.iconst 0, 1) := by decide +kernel
theorem dX4_addToSum_56 : decode cX4_addToSum 56 = .ok (.invokevirtual 172, 3) := by decide +kernel
theorem dX4_addToSum_59 : decode cX4_addToSum 59 = .ok (.aload_n 0, 1) := by decide +kernel
theorem dX4_addToSum_60 : decode cX4_addToSum 60 = .ok (.getfield 64, 3) := by decide +kernel
theorem dX4_addToSum_63 : decode cX4_addToSum 63 = .ok (.aload_n 0, 1) := by decide +kernel
theorem dX4_addToSum_64 : decode cX4_addToSum 64 = .ok (.getfield 22, 3) := by decide +kernel
theorem dX4_addToSum_67 : decode cX4_addToSum 67 = .ok (.invokevirtual 219, 3) := by decide +kernel
theorem dX4_addToSum_70 : decode cX4_addToSum 70 = .ok (.aload_n 0, 1) := by decide +kernel
theorem dX4_addToSum_71 : decode cX4_addToSum 71 = .ok (.getfield 22, 3) := by decide +kernel
theorem dX4_addToSum_74 : decode cX4_addToSum 74 = .ok (.invokevirtual 222, 3) := by decide +kernel
theorem dX4_addToSum_77 : decode cX4_addToSum 77 = .ok (.ifCond .ne 5, 3) := by decide +kernel
theorem dX4_addToSum_80 : decode cX4_addToSum 80 = .ok (.iconst 3, 1) := by decide +kernel
theorem dX4_addToSum_81 : decode cX4_addToSum 81 = .ok (.ireturn, 1) := by decide +kernel
theorem dX4_addToSum_82 : decode cX4_addToSum 82 = .ok (.aload_n 3, 1) := by decide +kernel
theorem dX4_addToSum_83 : decode cX4_addToSum 83 = .ok (.aload_n 0, 1) := by decide +kernel
theorem dX4_addToSum_84 : decode cX4_addToSum 84 = .ok (.getfield 22, 3) := by decide +kernel
theorem dX4_addToSum_87 : decode cX4_addToSum 87 = .ok (.invokevirtual 164, 3) := by decide +kernel
theorem dX4_addToSum_90 : decode cX4_addToSum 90 = .ok (.aload_n 0, 1) := by decide +kernel
theorem dX4_addToSum_91 : decode cX4_addToSum 91 = .ok (.dup, 1) := by decide +kernel
theorem dX4_addToSum_92 : decode cX4_addToSum 92 = .ok (.getfield 68, 3) := by decide +kernel
theorem dX4_addToSum_95 : decode cX4_addToSum 95 = .ok (.iconst 1, 1) := by decide +kernel
theorem dX4_addToSum_96 : decode cX4_addToSum 96 = .ok (.isub, 1) := by decide +kernel
theorem dX4_addToSum_97 : decode cX4_addToSum 97 = .ok (.putfield 68, 3) := by decide +kernel
theorem dX4_addToSum_100 : decode cX4_addToSum 100 = .ok (.aload_n 0, 1) := by decide +kernel
theorem dX4_addToSum_101 : decode cX4_addToSum 101 = .ok (.getfield 13, 3) := by decide +kernel
theorem dX4_addToSum_104 : decode cX4_addToSum 104 = .ok (.aload_n 0, 1) := by decide +kernel
theorem dX4_addToSum_105 : decode cX4_addToSum 105 = .ok (.getfield 68, 3) := by decide +kernel
theorem dX4_addToSum_108 : decode cX4_addToSum 108 = .ok (.aaload, 1) := by decide +kernel
theorem dX4_addToSum_109 : decode cX4_addToSum 109 = .ok (.lconst 1, 1) := by decide +kernel
theorem dX4_addToSum_110 : decode cX4_addToSum 110 = .ok (.invokevirtual 136, 3) := by decide +kernel
theorem dX4_addToSum_113 : decode cX4_addToSum 113 = .ok (.aload_n 0, 1) := by decide +kernel
theorem dX4_addToSum_114 : decode cX4_addToSum 114 = .ok (.getfield 64, 3) := by decide +kernel
theorem dX4_addToSum_117 : decode cX4_addToSum 117 = .ok (.aload_n 0, 1) := by decide +kernel
theorem dX4_addToSum_118 : decode cX4_addToSum 118 = .ok (.getfield 22, 3) := by decide +kernel
theorem dX4_addToSum_121 : decode cX4_addToSum 121 = .ok (.aload_n 2, 1) := by decide +kernel
theorem dX4_addToSum_122 : decode cX4_addToSum 122 = .ok (.aload_n 0, 1) := by decide +kernel
theorem dX4_addToSum_123 : decode cX4_addToSum 123 = .ok (.getfield 13, 3) := by decide +kernel
theorem dX4_addToSum_126 : decode cX4_addToSum 126 = .ok (.aload_n 0, 1) := by decide +kernel
theorem dX4_addToSum_127 : decode cX4_addToSum 127 = .ok (.getfield 68, 3) := by decide +kernel
theorem dX4_addToSum_130 : decode cX4_addToSum 130 = .ok (.aaload, 1) := by decide +kernel
theorem dX4_addToSum_131 : decode cX4_addToSum 131 = .ok (.iconst 0, 1) := by decide +kernel
theorem dX4_addToSum_132 : decode cX4_addToSum 132 = .ok (.invokevirtual 172, 3) := by decide +kernel
theorem dX4_addToSum_135 : decode cX4_addToSum 135 = .ok (.aload_n 2, 1) := by decide +kernel
theorem dX4_addToSum_136 : decode cX4_addToSum 136 = .ok (.aload_n 0, 1) := by decide +kernel
theorem dX4_addToSum_137 : decode cX4_addToSum 137 = .ok (.getfield 22, 3) := by decide +kernel
theorem dX4_addToSum_140 : decode cX4_addToSum 140 = .ok (.invokevirtual 164, 3) := by decide +kernel
theorem dX4_addToSum_143 : decode cX4_addToSum 143 = .ok (.aload_n 0, 1) := by decide +kernel
theorem dX4_addToSum_144 : decode cX4_addToSum 144 = .ok (.getfield 45, 3) := by decide +kernel
theorem dX4_addToSum_147 : decode cX4_addToSum 147 = .ok (.iload_n 1, 1) := by decide +kernel
theorem dX4_addToSum_148 : decode cX4_addToSum 148 = .ok (.dup2, 1) := by decide +kernel
theorem dX4_addToSum_149 : decode cX4_addToSum 149 = .ok (.iaload, 1) := by decide +kernel
theorem dX4_addToSum_150 : decode cX4_addToSum 150 = .ok (.iconst 1, 1) := by decide +kernel
theorem dX4_addToSum_151 : decode cX4_addToSum 151 = .ok (.isub, 1) := by decide +kernel
theorem dX4_addToSum_152 : decode cX4_addToSum 152 = .ok (.iastore, 1) := by decide +kernel
theorem dX4_addToSum_153 : decode cX4_addToSum 153 = .ok (.aload_n 0, 1) := by decide +kernel
theorem dX4_addToSum_154 : decode cX4_addToSum 154 = .ok (.getfield 39, 3) := by decide +kernel
theorem dX4_addToSum_157 : decode cX4_addToSum 157 = .ok (.iload_n 1, 1) := by decide +kernel
theorem dX4_addToSum_158 : decode cX4_addToSum 158 = .ok (.iconst 4, 1) := by decide +kernel
theorem dX4_addToSum_159 : decode cX4_addToSum 159 = .ok (.iastore, 1) := by decide +kernel
theorem dX4_addToSum_160 : decode cX4_addToSum 160 = .ok (.iconst 0, 1) := by decide +kernel
theorem dX4_addToSum_161 : decode cX4_addToSum 161 = .ok (.ireturn, 1) := by decide +kernel
theorem dX5_init_0 : decode cX5_init 0 = .ok (.aload_n 0, 1) := by decide +kernel
theorem dX5_init_1 : decode cX5_init 1 = .ok (.invokespecial 3, 3) := by decide +kernel
theorem dX5_init_4 : decode cX5_init 4 = .ok (.aload_n 0, 1) := by decide +kernel
theorem dX5_init_5 : decode cX5_init 5 = .ok (.new 9, 3) := by decide +kernel
theorem dX5_init_8 : decode cX5_init 8 = .ok (.dup, 1) := by decide +kernel
theorem dX5_init_9 : decode cX5_init 9 = .ok (.bipush 7, 2) := by decide +kernel
theorem dX5_init_11 : decode cX5_init 11 = .ok (.invokespecial 11, 3) := by decide +kernel
theorem dX5_init_14 : decode cX5_init 14 = .ok (.putfield 14, 3) := by decide +kernel
theorem dX5_init_17 : decode cX5_init 17 = .ok (.aload_n 0, 1) := by decide +kernel
theorem dX5_init_18 : decode cX5_init 18 = .ok (.sipush 1000, 3) := by decide +kernel
theorem dX5_init_21 : decode cX5_init 21 = .ok (.newarray .char, 2) := by decide +kernel
theorem dX5_init_23 : decode cX5_init 23 = .ok (.putfield 20, 3) := by decide +kernel
theorem dX5_init_26 : decode cX5_init 26 = .ok (.aload_n 0, 1) := by decide +kernel
theorem dX5_init_27 : decode cX5_init 27 = .ok (.aload_n 1, 1) := by decide +kernel
theorem dX5_init_28 : decode cX5_init 28 = .ok (.putfield 24, 3) := by decide +kernel
theorem dX5_init_31 : decode cX5_init 31 = .ok (.return_, 1) := by decide +kernel
theorem dX5_put_0 : decode cX5_put 0 = .ok (.aload_n 0, 1) := by decide +kernel
theorem dX5_put_1 : decode cX5_put 1 = .ok (.getfield 28, 3) := by decide +kernel
theorem dX5_put_4 : decode cX5_put 4 = .ok (.sipush 1000, 3) := by decide +kernel
theorem dX5_put_7 : decode cX5_put 7 = .ok (.if_icmp .ge 24, 3) := by decide +kernel
theorem dX5_put_10 : decode cX5_put 10 = .ok (.aload_n 0, 1) := by decide +kernel
theorem dX5_put_11 : decode cX5_put 11 = .ok (.getfield 20, 3) := by decide +kernel
theorem dX5_put_14 : decode cX5_put 14 = .ok (.aload_n 0, 1) := by decide +kernel
theorem dX5_put_15 : decode cX5_put 15 = .ok (.getfield 28, 3) := by decide +kernel
theorem dX5_put_18 : decode cX5_put 18 = .ok (.iload_n 1, 1) := by decide +kernel
theorem dX5_put_19 : decode cX5_put 19 = .ok (.i2c, 1) := by decide +kernel
theorem dX5_put_20 : decode cX5_put 20 = .ok (.castore, 1) := by decide +kernel
theorem dX5_put_21 : decode cX5_put 21 = .ok (.aload_n 0, 1) := by decide +kernel
theorem dX5_put_22 : decode cX5_put 22 = .ok (.dup, 1) := by decide +kernel
theorem dX5_put_23 : decode cX5_put 23 = .ok (.getfield 28, 3) := by decide +kernel
theorem dX5_put_26 : decode cX5_put 26 = .ok (.iconst 1, 1) := by decide +kernel
theorem dX5_put_27 : decode cX5_put 27 = .ok (.iadd, 1) := by decide +kernel
theorem dX5_put_28 : decode cX5_put 28 = .ok (.putfield 28, 3) := by decide +kernel
theorem dX5_put_31 : decode cX5_put 31 = .ok (.return_, 1) := by decide +kernel
theorem dX5_putNumber_0 : decode cX5_putNumber 0 = .ok (.iconst 1, 1) := by decide +kernel
theorem dX5_putNumber_1 : decode cX5_putNumber 1 = .ok (.istore_n 2, 1) := by decide +kernel
theorem dX5_putNumber_2 : decode cX5_putNumber 2 = .ok (.iconst 0, 1) := by decide +kernel
theorem dX5_putNumber_3 : decode cX5_putNumber 3 = .ok (.istore_n 3, 1) := by decide +kernel
theorem dX5_putNumber_4 : decode cX5_putNumber 4 = .ok (.iload_n 3, 1) := by decide +kernel
theorem dX5_putNumber_5 : decode cX5_putNumber 5 = .ok (.bipush 8, 2) := by decide +kernel
theorem dX5_putNumber_7 : decode cX5_putNumber 7 = .ok (.if_icmp .ge 22, 3) := by decide +kernel
theorem dX5_putNumber_10 : decode cX5_putNumber 10 = .ok (.iload_n 1, 1) := by decide +kernel
theorem dX5_putNumber_11 : decode cX5_putNumber 11 = .ok (.iload_n 2, 1) := by decide +kernel
theorem dX5_putNumber_12 : decode cX5_putNumber 12 = .ok (.idiv, 1) := by decide +kernel
theorem dX5_putNumber_13 : decode cX5_putNumber 13 = .ok (.bipush 9, 2) := by decide +kernel
theorem dX5_putNumber_15 : decode cX5_putNumber 15 = .ok (.if_icmp .le 14, 3) := by decide +kernel
theorem dX5_putNumber_18 : decode cX5_putNumber 18 = .ok (.iload_n 2, 1) := by decide +kernel
theorem dX5_putNumber_19 : decode cX5_putNumber 19 = .ok (.bipush 10, 2) := by decide +kernel
theorem dX5_putNumber_21 : decode cX5_putNumber 21 = .ok (.imul, 1) := by decide +kernel
theorem dX5_putNumber_22 : decode cX5_putNumber 22 = .ok (.istore_n 2, 1) := by decide +kernel
theorem dX5_putNumber_23 : decode cX5_putNumber 23 = .ok (.iinc 3 1, 3) := by decide +kernel
theorem dX5_putNumber_26 : decode cX5_putNumber 26 = .ok (.goto (-22), 3) := by decide +kernel
theorem dX5_putNumber_29 : decode cX5_putNumber 29 = .ok (.iload_n 2, 1) := by decide +kernel
theorem dX5_putNumber_30 : decode cX5_putNumber 30 = .ok (.ifCond .le 24, 3) := by decide +kernel
theorem dX5_putNumber_33 : decode cX5_putNumber 33 = .ok (.aload_n 0, 1) := by decide +kernel
theorem dX5_putNumber_34 : decode cX5_putNumber 34 = .ok (.bipush 48, 2) := by decide +kernel
theorem dX5_putNumber_36 : decode cX5_putNumber 36 = .ok (.iload_n 1, 1) := by decide +kernel
theorem dX5_putNumber_37 : decode cX5_putNumber 37 = .ok (.iload_n 2, 1) := by decide +kernel
theorem dX5_putNumber_38 : decode cX5_putNumber 38 = .ok (.idiv, 1) := by decide +kernel
theorem dX5_putNumber_39 : decode cX5_putNumber 39 = .ok (.bipush 10, 2) := by decide +kernel
theorem dX5_putNumber_41 : decode cX5_putNumber 41 = .ok (.irem, 1) := by decide +kernel
theorem dX5_putNumber_42 : decode cX5_putNumber 42 = .ok (.iadd, 1) := by decide +kernel
theorem dX5_putNumber_43 : decode cX5_putNumber 43 = .ok (.invokevirtual 32, 3) := by decide +kernel
theorem dX5_putNumber_46 : decode cX5_putNumber 46 = .ok (.iload_n 2, 1) := by decide +kernel
theorem dX5_putNumber_47 : decode cX5_putNumber 47 = .ok (.bipush 10, 2) := by decide +kernel
theorem dX5_putNumber_49 : decode cX5_putNumber 49 = .ok (.idiv, 1) := by decide +kernel
theorem dX5_putNumber_50 : decode cX5_putNumber 50 = .ok (.istore_n 2, 1) := by decide +kernel
theorem dX5_putNumber_51 : decode cX5_putNumber 51 = .ok (.goto (-22), 3) := by decide +kernel
theorem dX5_putNumber_54 : decode cX5_putNumber 54 = .ok (.return_, 1) := by decide +kernel
theorem dX5_putValue_0 : decode cX5_putValue 0 = .ok (.iload_n 1, 1) := by decide +kernel
theorem dX5_putValue_1 : decode cX5_putValue 1 = .ok (.ifCond .ne 11, 3) := by decide +kernel
theorem dX5_putValue_4 : decode cX5_putValue 4 = .ok (.aload_n 0, 1) := by decide +kernel
theorem dX5_putValue_5 : decode cX5_putValue 5 = .ok (.iload_n 2, 1) := by decide +kernel
theorem dX5_putValue_6 : decode cX5_putValue 6 = .ok (.invokevirtual 35, 3) := by decide +kernel
theorem dX5_putValue_9 : decode cX5_putValue 9 = .ok (.goto 8, 3) := by decide +kernel
theorem dX5_putValue_12 : decode cX5_putValue 12 = .ok (.aload_n 0, 1) := by decide +kernel
theorem dX5_putValue_13 : decode cX5_putValue 13 = .ok (.iload_n 2, 1) := by decide +kernel
theorem dX5_putValue_14 : decode cX5_putValue 14 = .ok (.invokevirtual 32, 3) := by decide +kernel
theorem dX5_putValue_17 : decode cX5_putValue 17 = .ok (.return_, 1) := by decide +kernel
theorem dX5_fewest_0 : decode cX5_fewest 0 = .ok (.aload_n 0, 1) := by decide +kernel
theorem dX5_fewest_1 : decode cX5_fewest 1 = .ok (.getfield 24, 3) := by decide +kernel
theorem dX5_fewest_4 : decode cX5_fewest 4 = .ok (.invokevirtual 38, 3) := by decide +kernel
theorem dX5_fewest_7 : decode cX5_fewest 7 = .ok (.aload_n 0, 1) := by decide +kernel
theorem dX5_fewest_8 : decode cX5_fewest 8 = .ok (.aload_n 1, 1) := by decide +kernel
theorem dX5_fewest_9 : decode cX5_fewest 9 = .ok (.iconst 0, 1) := by decide +kernel
theorem dX5_fewest_10 : decode cX5_fewest 10 = .ok (.iconst 0, 1) := by decide +kernel
theorem dX5_fewest_11 : decode cX5_fewest 11 = .ok (.invokevirtual 43, 3) := by decide +kernel
theorem dX5_fewest_14 : decode cX5_fewest 14 = .ok (.aload_n 0, 1) := by decide +kernel
theorem dX5_fewest_15 : decode cX5_fewest 15 = .ok (.getfield 24, 3) := by decide +kernel
theorem dX5_fewest_18 : decode cX5_fewest 18 = .ok (.aload_n 1, 1) := by decide +kernel
theorem dX5_fewest_19 : decode cX5_fewest 19 = .ok (.invokevirtual 47, 3) := by decide +kernel
theorem dX5_fewest_22 : decode cX5_fewest 22 = .ok (.aload_n 0, 1) := by decide +kernel
theorem dX5_fewest_23 : decode cX5_fewest 23 = .ok (.iconst 0, 1) := by decide +kernel
theorem dX5_fewest_24 : decode cX5_fewest 24 = .ok (.putfield 28, 3) := by decide +kernel
theorem dX5_fewest_27 : decode cX5_fewest 27 = .ok (.iconst 0, 1) := by decide +kernel
theorem dX5_fewest_28 : decode cX5_fewest 28 = .ok (.istore_n 2, 1) := by decide +kernel
theorem dX5_fewest_29 : decode cX5_fewest 29 = .ok (.iload_n 2, 1) := by decide +kernel
theorem dX5_fewest_30 : decode cX5_fewest 30 = .ok (.aload_n 0, 1) := by decide +kernel
theorem dX5_fewest_31 : decode cX5_fewest 31 = .ok (.getfield 24, 3) := by decide +kernel
theorem dX5_fewest_34 : decode cX5_fewest 34 = .ok (.getfield 51, 3) := by decide +kernel
theorem dX5_fewest_37 : decode cX5_fewest 37 = .ok (.if_icmp .ge 43, 3) := by decide +kernel
theorem dX5_fewest_40 : decode cX5_fewest 40 = .ok (.aload_n 0, 1) := by decide +kernel
theorem dX5_fewest_41 : decode cX5_fewest 41 = .ok (.getfield 24, 3) := by decide +kernel
theorem dX5_fewest_44 : decode cX5_fewest 44 = .ok (.getfield 52, 3) := by decide +kernel
theorem dX5_fewest_47 : decode cX5_fewest 47 = .ok (.iload_n 2, 1) := by decide +kernel
theorem dX5_fewest_48 : decode cX5_fewest 48 = .ok (.baload, 1) := by decide +kernel
theorem dX5_fewest_49 : decode cX5_fewest 49 = .ok (.ifCond .ne 25, 3) := by decide +kernel
theorem dX5_fewest_52 : decode cX5_fewest 52 = .ok (.aload_n 0, 1) := by decide +kernel
theorem dX5_fewest_53 : decode cX5_fewest 53 = .ok (.aload_n 0, 1) := by decide +kernel
theorem dX5_fewest_54 : decode cX5_fewest 54 = .ok (.getfield 24, 3) := by decide +kernel
theorem dX5_fewest_57 : decode cX5_fewest 57 = .ok (.getfield 56, 3) := by decide +kernel
theorem dX5_fewest_60 : decode cX5_fewest 60 = .ok (.iload_n 2, 1) := by decide +kernel
theorem dX5_fewest_61 : decode cX5_fewest 61 = .ok (.iaload, 1) := by decide +kernel
theorem dX5_fewest_62 : decode cX5_fewest 62 = .ok (.aload_n 0, 1) := by decide +kernel
theorem dX5_fewest_63 : decode cX5_fewest 63 = .ok (.getfield 24, 3) := by decide +kernel
theorem dX5_fewest_66 : decode cX5_fewest 66 = .ok (.getfield 60, 3) := by decide +kernel
theorem dX5_fewest_69 : decode cX5_fewest 69 = .ok (.iload_n 2, 1) := by decide +kernel
theorem dX5_fewest_70 : decode cX5_fewest 70 = .ok (.iaload, 1) := by decide +kernel
theorem dX5_fewest_71 : decode cX5_fewest 71 = .ok (.invokevirtual 63, 3) := by decide +kernel
theorem dX5_fewest_74 : decode cX5_fewest 74 = .ok (.iinc 2 1, 3) := by decide +kernel
theorem dX5_fewest_77 : decode cX5_fewest 77 = .ok (.goto (-48), 3) := by decide +kernel
theorem dX5_fewest_80 : decode cX5_fewest 80 = .ok (.return_, 1) := by decide +kernel
theorem dX5_spell_0 : decode cX5_spell 0 = .ok (.iload_n 3, 1) := by decide +kernel
theorem dX5_spell_1 : decode cX5_spell 1 = .ok (.bipush 80, 2) := by decide +kernel
theorem dX5_spell_3 : decode cX5_spell 3 = .ok (.if_icmp .le 4, 3) := by decide +kernel
theorem dX5_spell_6 : decode cX5_spell 6 = .ok (.return_, 1) := by decide +kernel
theorem dX5_spell_7 : decode cX5_spell 7 = .ok (.aload_n 1, 1) := by decide +kernel
theorem dX5_spell_8 : decode cX5_spell 8 = .ok (.getfield 69, 3) := by decide +kernel
theorem dX5_spell_11 : decode cX5_spell 11 = .ok (.iload_n 2, 1) := by decide +kernel
theorem dX5_spell_12 : decode cX5_spell 12 = .ok (.iaload, 1) := by decide +kernel
theorem dX5_spell_13 : decode cX5_spell 13 = .ok (.istore 4, 2) := by decide +kernel
theorem dX5_spell_15 : decode cX5_spell 15 = .ok (.aload_n 1, 1) := by decide +kernel
theorem dX5_spell_16 : decode cX5_spell 16 = .ok (.getfield 70, 3) := by decide +kernel
theorem dX5_spell_19 : decode cX5_spell 19 = .ok (.iload_n 2, 1) := by decide +kernel
theorem dX5_spell_20 : decode cX5_spell 20 = .ok (.iaload, 1) := by decide +kernel
theorem dX5_spell_21 : decode cX5_spell 21 = .ok (.istore 5, 2) := by decide +kernel
theorem dX5_spell_23 : decode cX5_spell 23 = .ok (.iload 4, 2) := by decide +kernel
theorem dX5_spell_25 : decode cX5_spell 25 = .ok (.iconst 2, 1) := by decide +kernel
theorem dX5_spell_26 : decode cX5_spell 26 = .ok (.if_icmp .ne 7, 3) := by decide +kernel
theorem dX5_spell_29 : decode cX5_spell 29 = .ok (.iconst 1, 1) := by decide +kernel
theorem dX5_spell_30 : decode cX5_spell 30 = .ok (.goto 4, 3) := by decide +kernel
theorem dX5_spell_33 : decode cX5_spell 33 = .ok (.iconst 0, 1) := by decide +kernel
theorem dX5_spell_34 : decode cX5_spell 34 = .ok (.istore 6, 2) := by decide +kernel
theorem dX5_spell_36 : decode cX5_spell 36 = .ok (.iload 4, 2) := by decide +kernel
theorem dX5_spell_38 : decode cX5_spell 38 = .ok (.iconst 3, 1) := by decide +kernel
theorem dX5_spell_39 : decode cX5_spell 39 = .ok (.if_icmp .ne 12, 3) := by decide +kernel
theorem dX5_spell_42 : decode cX5_spell 42 = .ok (.aload_n 1, 1) := by decide +kernel
theorem dX5_spell_43 : decode cX5_spell 43 = .ok (.getfield 71, 3) := by decide +kernel
theorem dX5_spell_46 : decode cX5_spell 46 = .ok (.iload_n 2, 1) := by decide +kernel
theorem dX5_spell_47 : decode cX5_spell 47 = .ok (.iaload, 1) := by decide +kernel
theorem dX5_spell_48 : decode cX5_spell 48 = .ok (.ifCond .ne 24, 3) := by decide +kernel
theorem dX5_spell_51 : decode cX5_spell 51 = .ok (.aload_n 0, 1) := by decide +kernel
theorem dX5_spell_52 : decode cX5_spell 52 = .ok (.getfield 24, 3) := by decide +kernel
theorem dX5_spell_55 : decode cX5_spell 55 = .ok (.iload 6, 2) := by decide +kernel
theorem dX5_spell_57 : decode cX5_spell 57 = .ok (.ifCond .eq 7, 3) := by decide +kernel
theorem dX5_spell_60 : decode cX5_spell 60 = .ok (.iconst 1, 1) := by decide +kernel
theorem dX5_spell_61 : decode cX5_spell 61 = .ok (.goto 5, 3) := by decide +kernel
theorem dX5_spell_64 : decode cX5_spell 64 = .ok (.iload 4, 2) := by decide +kernel
theorem dX5_spell_66 : decode cX5_spell 66 = .ok (.iload 5, 2) := by decide +kernel
theorem dX5_spell_68 : decode cX5_spell 68 = .ok (.iconst 0, 1) := by decide +kernel
theorem dX5_spell_69 : decode cX5_spell 69 = .ok (.invokevirtual 74, 3) := by decide +kernel
theorem dX5_spell_72 : decode cX5_spell 72 = .ok (.iload 6, 2) := by decide +kernel
theorem dX5_spell_74 : decode cX5_spell 74 = .ok (.ifCond .eq 14, 3) := by decide +kernel
theorem dX5_spell_77 : decode cX5_spell 77 = .ok (.aload_n 0, 1) := by decide +kernel
theorem dX5_spell_78 : decode cX5_spell 78 = .ok (.getfield 24, 3) := by decide +kernel
theorem dX5_spell_81 : decode cX5_spell 81 = .ok (.iconst 4, 1) := by decide +kernel
theorem dX5_spell_82 : decode cX5_spell 82 = .ok (.bipush 40, 2) := by decide +kernel
theorem dX5_spell_84 : decode cX5_spell 84 = .ok (.iconst 0, 1) := by decide +kernel
theorem dX5_spell_85 : decode cX5_spell 85 = .ok (.invokevirtual 74, 3) := by decide +kernel
theorem dX5_spell_88 : decode cX5_spell 88 = .ok (.iload_n 2, 1) := by decide +kernel
theorem dX5_spell_89 : decode cX5_spell 89 = .ok (.iconst 1, 1) := by decide +kernel
theorem dX5_spell_90 : decode cX5_spell 90 = .ok (.iadd, 1) := by decide +kernel
theorem dX5_spell_91 : decode cX5_spell 91 = .ok (.istore 7, 2) := by decide +kernel
theorem dX5_spell_93 : decode cX5_spell 93 = .ok (.iconst 0, 1) := by decide +kernel
theorem dX5_spell_94 : decode cX5_spell 94 = .ok (.istore 8, 2) := by decide +kernel
theorem dX5_spell_96 : decode cX5_spell 96 = .ok (.iload 8, 2) := by decide +kernel
theorem dX5_spell_98 : decode cX5_spell 98 = .ok (.aload_n 1, 1) := by decide +kernel
theorem dX5_spell_99 : decode cX5_spell 99 = .ok (.getfield 78, 3) := by decide +kernel
theorem dX5_spell_102 : decode cX5_spell 102 = .ok (.iload_n 2, 1) := by decide +kernel
theorem dX5_spell_103 : decode cX5_spell 103 = .ok (.iaload, 1) := by decide +kernel
theorem dX5_spell_104 : decode cX5_spell 104 = .ok (.if_icmp .ge 132, 3) := by decide +kernel
theorem dX5_spell_107 : decode cX5_spell 107 = .ok (.iload 7, 2) := by decide +kernel
theorem dX5_spell_109 : decode cX5_spell 109 = .ok (.aload_n 1, 1) := by decide +kernel
theorem dX5_spell_110 : decode cX5_spell 110 = .ok (.getfield 81, 3) := by decide +kernel
theorem dX5_spell_113 : decode cX5_spell 113 = .ok (.if_icmp .ge 123, 3) := by decide +kernel
theorem dX5_spell_116 : decode cX5_spell 116 = .ok (.iload 8, 2) := by decide +kernel
theorem dX5_spell_118 : decode cX5_spell 118 = .ok (.ifCond .le 34, 3) := by decide +kernel
theorem dX5_spell_121 : decode cX5_spell 121 = .ok (.aload_n 0, 1) := by decide +kernel
theorem dX5_spell_122 : decode cX5_spell 122 = .ok (.getfield 24, 3) := by decide +kernel
theorem dX5_spell_125 : decode cX5_spell 125 = .ok (.iload 6, 2) := by decide +kernel
theorem dX5_spell_127 : decode cX5_spell 127 = .ok (.ifCond .eq 8, 3) := by decide +kernel
theorem dX5_spell_130 : decode cX5_spell 130 = .ok (.bipush 6, 2) := by decide +kernel
theorem dX5_spell_132 : decode cX5_spell 132 = .ok (.goto 4, 3) := by decide +kernel
theorem dX5_spell_135 : decode cX5_spell 135 = .ok (.iconst 3, 1) := by decide +kernel
theorem dX5_spell_136 : decode cX5_spell 136 = .ok (.iload 6, 2) := by decide +kernel
theorem dX5_spell_138 : decode cX5_spell 138 = .ok (.ifCond .eq 8, 3) := by decide +kernel
theorem dX5_spell_141 : decode cX5_spell 141 = .ok (.bipush 44, 2) := by decide +kernel
theorem dX5_spell_143 : decode cX5_spell 143 = .ok (.goto 5, 3) := by decide +kernel
theorem dX5_spell_146 : decode cX5_spell 146 = .ok (.iload 5, 2) := by decide +kernel
theorem dX5_spell_148 : decode cX5_spell 148 = .ok (.iconst 0, 1) := by decide +kernel
theorem dX5_spell_149 : decode cX5_spell 149 = .ok (.invokevirtual 74, 3) := by decide +kernel
theorem dX5_spell_152 : decode cX5_spell 152 = .ok (.iload 4, 2) := by decide +kernel
theorem dX5_spell_154 : decode cX5_spell 154 = .ok (.iconst 3, 1) := by decide +kernel
theorem dX5_spell_155 : decode cX5_spell 155 = .ok (.if_icmp .ne 18, 3) := by decide +kernel
theorem dX5_spell_158 : decode cX5_spell 158 = .ok (.aload_n 1, 1) := by decide +kernel
theorem dX5_spell_159 : decode cX5_spell 159 = .ok (.getfield 69, 3) := by decide +kernel
theorem dX5_spell_162 : decode cX5_spell 162 = .ok (.iload 7, 2) := by decide +kernel
theorem dX5_spell_164 : decode cX5_spell 164 = .ok (.iaload, 1) := by decide +kernel
theorem dX5_spell_165 : decode cX5_spell 165 = .ok (.iconst 3, 1) := by decide +kernel
theorem dX5_spell_166 : decode cX5_spell 166 = .ok (.if_icmp .ne 7, 3) := by decide +kernel
theorem dX5_spell_169 : decode cX5_spell 169 = .ok (.iconst 1, 1) := by decide +kernel
theorem dX5_spell_170 : decode cX5_spell 170 = .ok (.goto 4, 3) := by decide +kernel
theorem dX5_spell_173 : decode cX5_spell 173 = .ok (.iconst 0, 1) := by decide +kernel
theorem dX5_spell_174 : decode cX5_spell 174 = .ok (.istore 9, 2) := by decide +kernel
theorem dX5_spell_176 : decode cX5_spell 176 = .ok (.iload 9, 2) := by decide +kernel
theorem dX5_spell_178 : decode cX5_spell 178 = .ok (.ifCond .eq 14, 3) := by decide +kernel
theorem dX5_spell_181 : decode cX5_spell 181 = .ok (.aload_n 0, 1) := by decide +kernel
theorem dX5_spell_182 : decode cX5_spell 182 = .ok (.getfield 24, 3) := by decide +kernel
theorem dX5_spell_185 : decode cX5_spell 185 = .ok (.iconst 4, 1) := by decide +kernel
theorem dX5_spell_186 : decode cX5_spell 186 = .ok (.bipush 40, 2) := by decide +kernel
theorem dX5_spell_188 : decode cX5_spell 188 = .ok (.iconst 0, 1) := by decide +kernel
theorem dX5_spell_189 : decode cX5_spell 189 = .ok (.invokevirtual 74, 3) := by decide +kernel
theorem dX5_spell_192 : decode cX5_spell 192 = .ok (.aload_n 0, 1) := by decide +kernel
theorem dX5_spell_193 : decode cX5_spell 193 = .ok (.aload_n 1, 1) := by decide +kernel
theorem dX5_spell_194 : decode cX5_spell 194 = .ok (.iload 7, 2) := by decide +kernel
theorem dX5_spell_196 : decode cX5_spell 196 = .ok (.iload_n 3, 1) := by decide +kernel
theorem dX5_spell_197 : decode cX5_spell 197 = .ok (.iconst 1, 1) := by decide +kernel
theorem dX5_spell_198 : decode cX5_spell 198 = .ok (.iadd, 1) := by decide +kernel
theorem dX5_spell_199 : decode cX5_spell 199 = .ok (.invokevirtual 43, 3) := by decide +kernel
theorem dX5_spell_202 : decode cX5_spell 202 = .ok (.iload 9, 2) := by decide +kernel
theorem dX5_spell_204 : decode cX5_spell 204 = .ok (.ifCond .eq 14, 3) := by decide +kernel
theorem dX5_spell_207 : decode cX5_spell 207 = .ok (.aload_n 0, 1) := by decide +kernel
theorem dX5_spell_208 : decode cX5_spell 208 = .ok (.getfield 24, 3) := by decide +kernel
theorem dX5_spell_211 : decode cX5_spell 211 = .ok (.iconst 5, 1) := by decide +kernel
theorem dX5_spell_212 : decode cX5_spell 212 = .ok (.bipush 41, 2) := by decide +kernel
theorem dX5_spell_214 : decode cX5_spell 214 = .ok (.iconst 0, 1) := by decide +kernel
theorem dX5_spell_215 : decode cX5_spell 215 = .ok (.invokevirtual 74, 3) := by decide +kernel
theorem dX5_spell_218 : decode cX5_spell 218 = .ok (.iload 7, 2) := by decide +kernel
theorem dX5_spell_220 : decode cX5_spell 220 = .ok (.aload_n 1, 1) := by decide +kernel
theorem dX5_spell_221 : decode cX5_spell 221 = .ok (.getfield 82, 3) := by decide +kernel
theorem dX5_spell_224 : decode cX5_spell 224 = .ok (.iload 7, 2) := by decide +kernel
theorem dX5_spell_226 : decode cX5_spell 226 = .ok (.iaload, 1) := by decide +kernel
theorem dX5_spell_227 : decode cX5_spell 227 = .ok (.iadd, 1) := by decide +kernel
theorem dX5_spell_228 : decode cX5_spell 228 = .ok (.istore 7, 2) := by decide +kernel
theorem dX5_spell_230 : decode cX5_spell 230 = .ok (.iinc 8 1, 3) := by decide +kernel
theorem dX5_spell_233 : decode cX5_spell 233 = .ok (.goto (-137), 3) := by decide +kernel
theorem dX5_spell_236 : decode cX5_spell 236 = .ok (.iload 6, 2) := by decide +kernel
theorem dX5_spell_238 : decode cX5_spell 238 = .ok (.ifCond .eq 14, 3) := by decide +kernel
theorem dX5_spell_241 : decode cX5_spell 241 = .ok (.aload_n 0, 1) := by decide +kernel
theorem dX5_spell_242 : decode cX5_spell 242 = .ok (.getfield 24, 3) := by decide +kernel
theorem dX5_spell_245 : decode cX5_spell 245 = .ok (.iconst 5, 1) := by decide +kernel
theorem dX5_spell_246 : decode cX5_spell 246 = .ok (.bipush 41, 2) := by decide +kernel
theorem dX5_spell_248 : decode cX5_spell 248 = .ok (.iconst 0, 1) := by decide +kernel
theorem dX5_spell_249 : decode cX5_spell 249 = .ok (.invokevirtual 74, 3) := by decide +kernel
theorem dX5_spell_252 : decode cX5_spell 252 = .ok (.iload 4, 2) := by decide +kernel
theorem dX5_spell_254 : decode cX5_spell 254 = .ok (.iconst 3, 1) := by decide +kernel
theorem dX5_spell_255 : decode cX5_spell 255 = .ok (.if_icmp .ne 24, 3) := by decide +kernel
theorem dX5_spell_258 : decode cX5_spell 258 = .ok (.aload_n 1, 1) := by decide +kernel
theorem dX5_spell_259 : decode cX5_spell 259 = .ok (.getfield 71, 3) := by decide +kernel
theorem dX5_spell_262 : decode cX5_spell 262 = .ok (.iload_n 2, 1) := by decide +kernel
theorem dX5_spell_263 : decode cX5_spell 263 = .ok (.iaload, 1) := by decide +kernel
theorem dX5_spell_264 : decode cX5_spell 264 = .ok (.iconst 1, 1) := by decide +kernel
theorem dX5_spell_265 : decode cX5_spell 265 = .ok (.if_icmp .ne 14, 3) := by decide +kernel
theorem dX5_spell_268 : decode cX5_spell 268 = .ok (.aload_n 0, 1) := by decide +kernel
theorem dX5_spell_269 : decode cX5_spell 269 = .ok (.getfield 24, 3) := by decide +kernel
theorem dX5_spell_272 : decode cX5_spell 272 = .ok (.iconst 3, 1) := by decide +kernel
theorem dX5_spell_273 : decode cX5_spell 273 = .ok (.iload 5, 2) := by decide +kernel
theorem dX5_spell_275 : decode cX5_spell 275 = .ok (.iconst 0, 1) := by decide +kernel
theorem dX5_spell_276 : decode cX5_spell 276 = .ok (.invokevirtual 74, 3) := by decide +kernel
theorem dX5_spell_279 : decode cX5_spell 279 = .ok (.return_, 1) := by decide +kernel
theorem dX5_line_0 : decode cX5_line 0 = .ok (.aload_n 0, 1) := by decide +kernel
theorem dX5_line_1 : decode cX5_line 1 = .ok (.iconst 0, 1) := by decide +kernel
theorem dX5_line_2 : decode cX5_line 2 = .ok (.putfield 28, 3) := by decide +kernel
theorem dX5_line_5 : decode cX5_line 5 = .ok (.iconst 0, 1) := by decide +kernel
theorem dX5_line_6 : decode cX5_line 6 = .ok (.istore_n 2, 1) := by decide +kernel
theorem dX5_line_7 : decode cX5_line 7 = .ok (.iload_n 2, 1) := by decide +kernel
theorem dX5_line_8 : decode cX5_line 8 = .ok (.aload_n 1, 1) := by decide +kernel
theorem dX5_line_9 : decode cX5_line 9 = .ok (.getfield 81, 3) := by decide +kernel
theorem dX5_line_12 : decode cX5_line 12 = .ok (.if_icmp .ge 79, 3) := by decide +kernel
theorem dX5_line_15 : decode cX5_line 15 = .ok (.aload_n 1, 1) := by decide +kernel
theorem dX5_line_16 : decode cX5_line 16 = .ok (.iload_n 2, 1) := by decide +kernel
theorem dX5_line_17 : decode cX5_line 17 = .ok (.invokevirtual 85, 3) := by decide +kernel
theorem dX5_line_20 : decode cX5_line 20 = .ok (.istore_n 3, 1) := by decide +kernel
theorem dX5_line_21 : decode cX5_line 21 = .ok (.iload_n 2, 1) := by decide +kernel
theorem dX5_line_22 : decode cX5_line 22 = .ok (.ifCond .le 9, 3) := by decide +kernel
theorem dX5_line_25 : decode cX5_line 25 = .ok (.aload_n 0, 1) := by decide +kernel
theorem dX5_line_26 : decode cX5_line 26 = .ok (.bipush 32, 2) := by decide +kernel
theorem dX5_line_28 : decode cX5_line 28 = .ok (.invokevirtual 32, 3) := by decide +kernel
theorem dX5_line_31 : decode cX5_line 31 = .ok (.aload_n 0, 1) := by decide +kernel
theorem dX5_line_32 : decode cX5_line 32 = .ok (.aload_n 1, 1) := by decide +kernel
theorem dX5_line_33 : decode cX5_line 33 = .ok (.getfield 69, 3) := by decide +kernel
theorem dX5_line_36 : decode cX5_line 36 = .ok (.iload_n 3, 1) := by decide +kernel
theorem dX5_line_37 : decode cX5_line 37 = .ok (.iaload, 1) := by decide +kernel
theorem dX5_line_38 : decode cX5_line 38 = .ok (.aload_n 1, 1) := by decide +kernel
theorem dX5_line_39 : decode cX5_line 39 = .ok (.getfield 70, 3) := by decide +kernel
theorem dX5_line_42 : decode cX5_line 42 = .ok (.iload_n 3, 1) := by decide +kernel
theorem dX5_line_43 : decode cX5_line 43 = .ok (.iaload, 1) := by decide +kernel
theorem dX5_line_44 : decode cX5_line 44 = .ok (.invokevirtual 63, 3) := by decide +kernel
theorem dX5_line_47 : decode cX5_line 47 = .ok (.aload_n 1, 1) := by decide +kernel
theorem dX5_line_48 : decode cX5_line 48 = .ok (.getfield 69, 3) := by decide +kernel
theorem dX5_line_51 : decode cX5_line 51 = .ok (.iload_n 3, 1) := by decide +kernel
theorem dX5_line_52 : decode cX5_line 52 = .ok (.iaload, 1) := by decide +kernel
theorem dX5_line_53 : decode cX5_line 53 = .ok (.iconst 2, 1) := by decide +kernel
theorem dX5_line_54 : decode cX5_line 54 = .ok (.if_icmp .ne 16, 3) := by decide +kernel
theorem dX5_line_57 : decode cX5_line 57 = .ok (.aload_n 0, 1) := by decide +kernel
theorem dX5_line_58 : decode cX5_line 58 = .ok (.aload_n 1, 1) := by decide +kernel
theorem dX5_line_59 : decode cX5_line 59 = .ok (.getfield 78, 3) := by decide +kernel
theorem dX5_line_62 : decode cX5_line 62 = .ok (.iload_n 3, 1) := by decide +kernel
theorem dX5_line_63 : decode cX5_line 63 = .ok (.iaload, 1) := by decide +kernel
theorem dX5_line_64 : decode cX5_line 64 = .ok (.invokevirtual 35, 3) := by decide +kernel
theorem dX5_line_67 : decode cX5_line 67 = .ok (.goto 18, 3) := by decide +kernel
theorem dX5_line_70 : decode cX5_line 70 = .ok (.aload_n 1, 1) := by decide +kernel
theorem dX5_line_71 : decode cX5_line 71 = .ok (.getfield 71, 3) := by decide +kernel
theorem dX5_line_74 : decode cX5_line 74 = .ok (.iload_n 3, 1) := by decide +kernel
theorem dX5_line_75 : decode cX5_line 75 = .ok (.iaload, 1) := by decide +kernel
theorem dX5_line_76 : decode cX5_line 76 = .ok (.ifCond .ne 9, 3) := by decide +kernel
theorem dX5_line_79 : decode cX5_line 79 = .ok (.aload_n 0, 1) := by decide +kernel
theorem dX5_line_80 : decode cX5_line 80 = .ok (.bipush 39, 2) := by decide +kernel
theorem dX5_line_82 : decode cX5_line 82 = .ok (.invokevirtual 32, 3) := by decide +kernel
theorem dX5_line_85 : decode cX5_line 85 = .ok (.iinc 2 1, 3) := by decide +kernel
theorem dX5_line_88 : decode cX5_line 88 = .ok (.goto (-81), 3) := by decide +kernel
theorem dX5_line_91 : decode cX5_line 91 = .ok (.return_, 1) := by decide +kernel
theorem dX5_digits_0 : decode cX5_digits 0 = .ok (.aload_n 0, 1) := by decide +kernel
theorem dX5_digits_1 : decode cX5_digits 1 = .ok (.iconst 0, 1) := by decide +kernel
theorem dX5_digits_2 : decode cX5_digits 2 = .ok (.putfield 28, 3) := by decide +kernel
theorem dX5_digits_5 : decode cX5_digits 5 = .ok (.aload_n 1, 1) := by decide +kernel
theorem dX5_digits_6 : decode cX5_digits 6 = .ok (.getfield 89, 3) := by decide +kernel
theorem dX5_digits_9 : decode cX5_digits 9 = .ok (.ifCond .eq 9, 3) := by decide +kernel
theorem dX5_digits_12 : decode cX5_digits 12 = .ok (.aload_n 0, 1) := by decide +kernel
theorem dX5_digits_13 : decode cX5_digits 13 = .ok (.bipush 45, 2) := by decide +kernel
theorem dX5_digits_15 : decode cX5_digits 15 = .ok (.invokevirtual 32, 3) := by decide +kernel
theorem dX5_digits_18 : decode cX5_digits 18 = .ok (.aload_n 0, 1) := by decide +kernel
theorem dX5_digits_19 : decode cX5_digits 19 = .ok (.getfield 28, 3) := by decide +kernel
theorem dX5_digits_22 : decode cX5_digits 22 = .ok (.istore_n 3, 1) := by decide +kernel
theorem dX5_digits_23 : decode cX5_digits 23 = .ok (.aload_n 0, 1) := by decide +kernel
theorem dX5_digits_24 : decode cX5_digits 24 = .ok (.getfield 14, 3) := by decide +kernel
theorem dX5_digits_27 : decode cX5_digits 27 = .ok (.aload_n 1, 1) := by decide +kernel
theorem dX5_digits_28 : decode cX5_digits 28 = .ok (.invokevirtual 93, 3) := by decide +kernel
theorem dX5_digits_31 : decode cX5_digits 31 = .ok (.iconst 0, 1) := by decide +kernel
theorem dX5_digits_32 : decode cX5_digits 32 = .ok (.istore 4, 2) := by decide +kernel
theorem dX5_digits_34 : decode cX5_digits 34 = .ok (.iload 4, 2) := by decide +kernel
theorem dX5_digits_36 : decode cX5_digits 36 = .ok (.sipush 1000, 3) := by decide +kernel
theorem dX5_digits_39 : decode cX5_digits 39 = .ok (.if_icmp .ge 61, 3) := by decide +kernel
theorem dX5_digits_42 : decode cX5_digits 42 = .ok (.iload 4, 2) := by decide +kernel
theorem dX5_digits_44 : decode cX5_digits 44 = .ok (.ifCond .eq 13, 3) := by decide +kernel
theorem dX5_digits_47 : decode cX5_digits 47 = .ok (.aload_n 0, 1) := by decide +kernel
theorem dX5_digits_48 : decode cX5_digits 48 = .ok (.getfield 14, 3) := by decide +kernel
theorem dX5_digits_51 : decode cX5_digits 51 = .ok (.invokevirtual 97, 3) := by decide +kernel
theorem dX5_digits_54 : decode cX5_digits 54 = .ok (.ifCond .ne 46, 3) := by decide +kernel
theorem dX5_digits_57 : decode cX5_digits 57 = .ok (.aload_n 0, 1) := by decide +kernel
theorem dX5_digits_58 : decode cX5_digits 58 = .ok (.getfield 14, 3) := by decide +kernel
theorem dX5_digits_61 : decode cX5_digits 61 = .ok (.iload_n 2, 1) := by decide +kernel
theorem dX5_digits_62 : decode cX5_digits 62 = .ok (.invokevirtual 101, 3) := by decide +kernel
theorem dX5_digits_65 : decode cX5_digits 65 = .ok (.istore 5, 2) := by decide +kernel
theorem dX5_digits_67 : decode cX5_digits 67 = .ok (.aload_n 0, 1) := by decide +kernel
theorem dX5_digits_68 : decode cX5_digits 68 = .ok (.iload 5, 2) := by decide +kernel
theorem dX5_digits_70 : decode cX5_digits 70 = .ok (.bipush 10, 2) := by decide +kernel
theorem dX5_digits_72 : decode cX5_digits 72 = .ok (.if_icmp .ge 11, 3) := by decide +kernel
theorem dX5_digits_75 : decode cX5_digits 75 = .ok (.bipush 48, 2) := by decide +kernel
theorem dX5_digits_77 : decode cX5_digits 77 = .ok (.iload 5, 2) := by decide +kernel
theorem dX5_digits_79 : decode cX5_digits 79 = .ok (.iadd, 1) := by decide +kernel
theorem dX5_digits_80 : decode cX5_digits 80 = .ok (.goto 11, 3) := by decide +kernel
theorem dX5_digits_83 : decode cX5_digits 83 = .ok (.bipush 97, 2) := by decide +kernel
theorem dX5_digits_85 : decode cX5_digits 85 = .ok (.iload 5, 2) := by decide +kernel
theorem dX5_digits_87 : decode cX5_digits 87 = .ok (.iadd, 1) := by decide +kernel
theorem dX5_digits_88 : decode cX5_digits 88 = .ok (.bipush 10, 2) := by decide +kernel
theorem dX5_digits_90 : decode cX5_digits 90 = .ok (.isub, 1) := by decide +kernel
theorem dX5_digits_91 : decode cX5_digits 91 = .ok (.invokevirtual 32, 3) := by decide +kernel
theorem dX5_digits_94 : decode cX5_digits 94 = .ok (.iinc 4 1, 3) := by decide +kernel
theorem dX5_digits_97 : decode cX5_digits 97 = .ok (.goto (-63), 3) := by decide +kernel
theorem dX5_digits_100 : decode cX5_digits 100 = .ok (.iload_n 3, 1) := by decide +kernel
theorem dX5_digits_101 : decode cX5_digits 101 = .ok (.istore 4, 2) := by decide +kernel
theorem dX5_digits_103 : decode cX5_digits 103 = .ok (.aload_n 0, 1) := by decide +kernel
theorem dX5_digits_104 : decode cX5_digits 104 = .ok (.getfield 28, 3) := by decide +kernel
theorem dX5_digits_107 : decode cX5_digits 107 = .ok (.iconst 1, 1) := by decide +kernel
theorem dX5_digits_108 : decode cX5_digits 108 = .ok (.isub, 1) := by decide +kernel
theorem dX5_digits_109 : decode cX5_digits 109 = .ok (.istore 5, 2) := by decide +kernel
theorem dX5_digits_111 : decode cX5_digits 111 = .ok (.iload 4, 2) := by decide +kernel
theorem dX5_digits_113 : decode cX5_digits 113 = .ok (.iload 5, 2) := by decide +kernel
theorem dX5_digits_115 : decode cX5_digits 115 = .ok (.if_icmp .ge 44, 3) := by decide +kernel
theorem dX5_digits_118 : decode cX5_digits 118 = .ok (.aload_n 0, 1) := by decide +kernel
theorem dX5_digits_119 : decode cX5_digits 119 = .ok (.getfield 20, 3) := by decide +kernel
theorem dX5_digits_122 : decode cX5_digits 122 = .ok (.iload 4, 2) := by decide +kernel
theorem dX5_digits_124 : decode cX5_digits 124 = .ok (.caload, 1) := by decide +kernel
theorem dX5_digits_125 : decode cX5_digits 125 = .ok (.istore 6, 2) := by decide +kernel
theorem dX5_digits_127 : decode cX5_digits 127 = .ok (.aload_n 0, 1) := by decide +kernel
theorem dX5_digits_128 : decode cX5_digits 128 = .ok (.getfield 20, 3) := by decide +kernel
theorem dX5_digits_131 : decode cX5_digits 131 = .ok (.iload 4, 2) := by decide +kernel
theorem dX5_digits_133 : decode cX5_digits 133 = .ok (.aload_n 0, 1) := by decide +kernel
theorem dX5_digits_134 : decode cX5_digits 134 = .ok (.getfield 20, 3) := by decide +kernel
theorem dX5_digits_137 : decode cX5_digits 137 = .ok (.iload 5, 2) := by decide +kernel
theorem dX5_digits_139 : decode cX5_digits 139 = .ok (.caload, 1) := by decide +kernel
theorem dX5_digits_140 : decode cX5_digits 140 = .ok (.castore, 1) := by decide +kernel
theorem dX5_digits_141 : decode cX5_digits 141 = .ok (.aload_n 0, 1) := by decide +kernel
theorem dX5_digits_142 : decode cX5_digits 142 = .ok (.getfield 20, 3) := by decide +kernel
theorem dX5_digits_145 : decode cX5_digits 145 = .ok (.iload 5, 2) := by decide +kernel
theorem dX5_digits_147 : decode cX5_digits 147 = .ok (.iload 6, 2) := by decide +kernel
theorem dX5_digits_149 : decode cX5_digits 149 = .ok (.castore, 1) := by decide +kernel
theorem dX5_digits_150 : decode cX5_digits 150 = .ok (.iinc 4 1, 3) := by decide +kernel
theorem dX5_digits_153 : decode cX5_digits 153 = .ok (.iinc 5 (-1), 3) := by decide +kernel
theorem dX5_digits_156 : decode cX5_digits 156 = .ok (.goto (-45), 3) := by decide +kernel
theorem dX5_digits_159 : decode cX5_digits 159 = .ok (.return_, 1) := by decide +kernel
theorem dX6_init_0 : decode cX6_init 0 = .ok (.aload_n 0, 1) := by decide +kernel
theorem dX6_init_1 : decode cX6_init 1 = .ok (.invokespecial 3, 3) := by decide +kernel
theorem dX6_init_4 : decode cX6_init 4 = .ok (.aload_n 0, 1) := by decide +kernel
theorem dX6_init_5 : decode cX6_init 5 = .ok (.sipush 300, 3) := by decide +kernel
theorem dX6_init_8 : decode cX6_init 8 = .ok (.newarray .int, 2) := by decide +kernel
theorem dX6_init_10 : decode cX6_init 10 = .ok (.putfield 11, 3) := by decide +kernel
theorem dX6_init_13 : decode cX6_init 13 = .ok (.aload_n 0, 1) := by decide +kernel
theorem dX6_init_14 : decode cX6_init 14 = .ok (.sipush 300, 3) := by decide +kernel
theorem dX6_init_17 : decode cX6_init 17 = .ok (.newarray .int, 2) := by decide +kernel
theorem dX6_init_19 : decode cX6_init 19 = .ok (.putfield 15, 3) := by decide +kernel
theorem dX6_init_22 : decode cX6_init 22 = .ok (.aload_n 0, 1) := by decide +kernel
theorem dX6_init_23 : decode cX6_init 23 = .ok (.sipush 300, 3) := by decide +kernel
theorem dX6_init_26 : decode cX6_init 26 = .ok (.newarray .int, 2) := by decide +kernel
theorem dX6_init_28 : decode cX6_init 28 = .ok (.putfield 18, 3) := by decide +kernel
theorem dX6_init_31 : decode cX6_init 31 = .ok (.aload_n 0, 1) := by decide +kernel
theorem dX6_init_32 : decode cX6_init 32 = .ok (.sipush 300, 3) := by decide +kernel
theorem dX6_init_35 : decode cX6_init 35 = .ok (.newarray .boolean, 2) := by decide +kernel
theorem dX6_init_37 : decode cX6_init 37 = .ok (.putfield 21, 3) := by decide +kernel
theorem dX6_init_40 : decode cX6_init 40 = .ok (.aload_n 0, 1) := by decide +kernel
theorem dX6_init_41 : decode cX6_init 41 = .ok (.sipush 300, 3) := by decide +kernel
theorem dX6_init_44 : decode cX6_init 44 = .ok (.newarray .int, 2) := by decide +kernel
theorem dX6_init_46 : decode cX6_init 46 = .ok (.putfield 25, 3) := by decide +kernel
theorem dX6_init_49 : decode cX6_init 49 = .ok (.aload_n 0, 1) := by decide +kernel
theorem dX6_init_50 : decode cX6_init 50 = .ok (.sipush 300, 3) := by decide +kernel
theorem dX6_init_53 : decode cX6_init 53 = .ok (.newarray .int, 2) := by decide +kernel
theorem dX6_init_55 : decode cX6_init 55 = .ok (.putfield 28, 3) := by decide +kernel
theorem dX6_init_58 : decode cX6_init 58 = .ok (.aload_n 0, 1) := by decide +kernel
theorem dX6_init_59 : decode cX6_init 59 = .ok (.sipush 300, 3) := by decide +kernel
theorem dX6_init_62 : decode cX6_init 62 = .ok (.newarray .int, 2) := by decide +kernel
theorem dX6_init_64 : decode cX6_init 64 = .ok (.putfield 31, 3) := by decide +kernel
theorem dX6_init_67 : decode cX6_init 67 = .ok (.aload_n 0, 1) := by decide +kernel
theorem dX6_init_68 : decode cX6_init 68 = .ok (.sipush 300, 3) := by decide +kernel
theorem dX6_init_71 : decode cX6_init 71 = .ok (.newarray .int, 2) := by decide +kernel
theorem dX6_init_73 : decode cX6_init 73 = .ok (.putfield 34, 3) := by decide +kernel
theorem dX6_init_76 : decode cX6_init 76 = .ok (.aload_n 0, 1) := by decide +kernel
theorem dX6_init_77 : decode cX6_init 77 = .ok (.sipush 300, 3) := by decide +kernel
theorem dX6_init_80 : decode cX6_init 80 = .ok (.newarray .int, 2) := by decide +kernel
theorem dX6_init_82 : decode cX6_init 82 = .ok (.putfield 37, 3) := by decide +kernel
theorem dX6_init_85 : decode cX6_init 85 = .ok (.aload_n 0, 1) := by decide +kernel
theorem dX6_init_86 : decode cX6_init 86 = .ok (.sipush 300, 3) := by decide +kernel
theorem dX6_init_89 : decode cX6_init 89 = .ok (.newarray .int, 2) := by decide +kernel
theorem dX6_init_91 : decode cX6_init 91 = .ok (.putfield 40, 3) := by decide +kernel
theorem dX6_init_94 : decode cX6_init 94 = .ok (.aload_n 0, 1) := by decide +kernel
theorem dX6_init_95 : decode cX6_init 95 = .ok (.new 43, 3) := by decide +kernel
theorem dX6_init_98 : decode cX6_init 98 = .ok (.dup, 1) := by decide +kernel
theorem dX6_init_99 : decode cX6_init 99 = .ok (.invokespecial 45, 3) := by decide +kernel
theorem dX6_init_102 : decode cX6_init 102 = .ok (.putfield 46, 3) := by decide +kernel
theorem dX6_init_105 : decode cX6_init 105 = .ok (.aload_n 0, 1) := by decide +kernel
theorem dX6_init_106 : decode cX6_init 106 = .ok (.aload_n 1, 1) := by decide +kernel
theorem dX6_init_107 : decode cX6_init 107 = .ok (.putfield 50, 3) := by decide +kernel
theorem dX6_init_110 : decode cX6_init 110 = .ok (.return_, 1) := by decide +kernel
theorem dX6_startWords_0 : decode cX6_startWords 0 = .ok (.aload_n 0, 1) := by decide +kernel
theorem dX6_startWords_1 : decode cX6_startWords 1 = .ok (.iconst 0, 1) := by decide +kernel
theorem dX6_startWords_2 : decode cX6_startWords 2 = .ok (.putfield 54, 3) := by decide +kernel
theorem dX6_startWords_5 : decode cX6_startWords 5 = .ok (.aload_n 0, 1) := by decide +kernel
theorem dX6_startWords_6 : decode cX6_startWords 6 = .ok (.iconst 0, 1) := by decide +kernel
theorem dX6_startWords_7 : decode cX6_startWords 7 = .ok (.putfield 58, 3) := by decide +kernel
theorem dX6_startWords_10 : decode cX6_startWords 10 = .ok (.return_, 1) := by decide +kernel
theorem dX6_addWord_0 : decode cX6_addWord 0 = .ok (.aload_n 0, 1) := by decide +kernel
theorem dX6_addWord_1 : decode cX6_addWord 1 = .ok (.getfield 54, 3) := by decide +kernel
theorem dX6_addWord_4 : decode cX6_addWord 4 = .ok (.sipush 300, 3) := by decide +kernel
theorem dX6_addWord_7 : decode cX6_addWord 7 = .ok (.if_icmp .ge 53, 3) := by decide +kernel
theorem dX6_addWord_10 : decode cX6_addWord 10 = .ok (.aload_n 0, 1) := by decide +kernel
theorem dX6_addWord_11 : decode cX6_addWord 11 = .ok (.getfield 11, 3) := by decide +kernel
theorem dX6_addWord_14 : decode cX6_addWord 14 = .ok (.aload_n 0, 1) := by decide +kernel
theorem dX6_addWord_15 : decode cX6_addWord 15 = .ok (.getfield 54, 3) := by decide +kernel
theorem dX6_addWord_18 : decode cX6_addWord 18 = .ok (.iload_n 1, 1) := by decide +kernel
theorem dX6_addWord_19 : decode cX6_addWord 19 = .ok (.iastore, 1) := by decide +kernel
theorem dX6_addWord_20 : decode cX6_addWord 20 = .ok (.aload_n 0, 1) := by decide +kernel
theorem dX6_addWord_21 : decode cX6_addWord 21 = .ok (.getfield 15, 3) := by decide +kernel
theorem dX6_addWord_24 : decode cX6_addWord 24 = .ok (.aload_n 0, 1) := by decide +kernel
theorem dX6_addWord_25 : decode cX6_addWord 25 = .ok (.getfield 54, 3) := by decide +kernel
theorem dX6_addWord_28 : decode cX6_addWord 28 = .ok (.iload_n 2, 1) := by decide +kernel
theorem dX6_addWord_29 : decode cX6_addWord 29 = .ok (.iastore, 1) := by decide +kernel
theorem dX6_addWord_30 : decode cX6_addWord 30 = .ok (.aload_n 0, 1) := by decide +kernel
theorem dX6_addWord_31 : decode cX6_addWord 31 = .ok (.getfield 18, 3) := by decide +kernel
theorem dX6_addWord_34 : decode cX6_addWord 34 = .ok (.aload_n 0, 1) := by decide +kernel
theorem dX6_addWord_35 : decode cX6_addWord 35 = .ok (.getfield 54, 3) := by decide +kernel
theorem dX6_addWord_38 : decode cX6_addWord 38 = .ok (.iload_n 3, 1) := by decide +kernel
theorem dX6_addWord_39 : decode cX6_addWord 39 = .ok (.iastore, 1) := by decide +kernel
theorem dX6_addWord_40 : decode cX6_addWord 40 = .ok (.aload_n 0, 1) := by decide +kernel
theorem dX6_addWord_41 : decode cX6_addWord 41 = .ok (.getfield 21, 3) := by decide +kernel
theorem dX6_addWord_44 : decode cX6_addWord 44 = .ok (.aload_n 0, 1) := by decide +kernel
theorem dX6_addWord_45 : decode cX6_addWord 45 = .ok (.getfield 54, 3) := by decide +kernel
theorem dX6_addWord_48 : decode cX6_addWord 48 = .ok (.iconst 0, 1) := by decide +kernel
theorem dX6_addWord_49 : decode cX6_addWord 49 = .ok (.bastore, 1) := by decide +kernel
theorem dX6_addWord_50 : decode cX6_addWord 50 = .ok (.aload_n 0, 1) := by decide +kernel
theorem dX6_addWord_51 : decode cX6_addWord 51 = .ok (.dup, 1) := by decide +kernel
theorem dX6_addWord_52 : decode cX6_addWord 52 = .ok (.getfield 54, 3) := by decide +kernel
theorem dX6_addWord_55 : decode cX6_addWord 55 = .ok (.iconst 1, 1) := by decide +kernel
theorem dX6_addWord_56 : decode cX6_addWord 56 = .ok (.iadd, 1) := by decide +kernel
theorem dX6_addWord_57 : decode cX6_addWord 57 = .ok (.putfield 54, 3) := by decide +kernel
theorem dX6_addWord_60 : decode cX6_addWord 60 = .ok (.return_, 1) := by decide +kernel
theorem dX6_split_0 : decode cX6_split 0 = .ok (.aload_n 0, 1) := by decide +kernel
theorem dX6_split_1 : decode cX6_split 1 = .ok (.invokevirtual 61, 3) := by decide +kernel
theorem dX6_split_4 : decode cX6_split 4 = .ok (.aload_n 0, 1) := by decide +kernel
theorem dX6_split_5 : decode cX6_split 5 = .ok (.iload_n 2, 1) := by decide +kernel
theorem dX6_split_6 : decode cX6_split 6 = .ok (.aload_n 1, 1) := by decide +kernel
theorem dX6_split_7 : decode cX6_split 7 = .ok (.arraylength, 1) := by decide +kernel
theorem dX6_split_8 : decode cX6_split 8 = .ok (.invokestatic 64, 3) := by decide +kernel
theorem dX6_split_11 : decode cX6_split 11 = .ok (.putfield 58, 3) := by decide +kernel
theorem dX6_split_14 : decode cX6_split 14 = .ok (.iconst 0, 1) := by decide +kernel
theorem dX6_split_15 : decode cX6_split 15 = .ok (.istore_n 3, 1) := by decide +kernel
theorem dX6_split_16 : decode cX6_split 16 = .ok (.iconst 0, 1) := by decide +kernel
theorem dX6_split_17 : decode cX6_split 17 = .ok (.istore 4, 2) := by decide +kernel
theorem dX6_split_19 : decode cX6_split 19 = .ok (.iload 4, 2) := by decide +kernel
theorem dX6_split_21 : decode cX6_split 21 = .ok (.aload_n 0, 1) := by decide +kernel
theorem dX6_split_22 : decode cX6_split 22 = .ok (.getfield 58, 3) := by decide +kernel
theorem dX6_split_25 : decode cX6_split 25 = .ok (.if_icmp .ge 65, 3) := by decide +kernel
theorem dX6_split_28 : decode cX6_split 28 = .ok (.iload_n 3, 1) := by decide +kernel
theorem dX6_split_29 : decode cX6_split 29 = .ok (.aload_n 0, 1) := by decide +kernel
theorem dX6_split_30 : decode cX6_split 30 = .ok (.getfield 58, 3) := by decide +kernel
theorem dX6_split_33 : decode cX6_split 33 = .ok (.if_icmp .ge 57, 3) := by decide +kernel
theorem dX6_split_36 : decode cX6_split 36 = .ok (.aload_n 1, 1) := by decide +kernel
theorem dX6_split_37 : decode cX6_split 37 = .ok (.iload_n 3, 1) := by decide +kernel
theorem dX6_split_38 : decode cX6_split 38 = .ok (.caload, 1) := by decide +kernel
theorem dX6_split_39 : decode cX6_split 39 = .ok (.bipush 32, 2) := by decide +kernel
theorem dX6_split_41 : decode cX6_split 41 = .ok (.if_icmp .ne 9, 3) := by decide +kernel
theorem dX6_split_44 : decode cX6_split 44 = .ok (.iinc 3 1, 3) := by decide +kernel
theorem dX6_split_47 : decode cX6_split 47 = .ok (.goto 37, 3) := by decide +kernel
theorem dX6_split_50 : decode cX6_split 50 = .ok (.aload_n 1, 1) := by decide +kernel
theorem dX6_split_51 : decode cX6_split 51 = .ok (.iload_n 3, 1) := by decide +kernel
theorem dX6_split_52 : decode cX6_split 52 = .ok (.caload, 1) := by decide +kernel
theorem dX6_split_53 : decode cX6_split 53 = .ok (.bipush 48, 2) := by decide +kernel
theorem dX6_split_55 : decode cX6_split 55 = .ok (.if_icmp .lt 20, 3) := by decide +kernel
theorem dX6_split_58 : decode cX6_split 58 = .ok (.aload_n 1, 1) := by decide +kernel
theorem dX6_split_59 : decode cX6_split 59 = .ok (.iload_n 3, 1) := by decide +kernel
theorem dX6_split_60 : decode cX6_split 60 = .ok (.caload, 1) := by decide +kernel
theorem dX6_split_61 : decode cX6_split 61 = .ok (.bipush 57, 2) := by decide +kernel
theorem dX6_split_63 : decode cX6_split 63 = .ok (.if_icmp .gt 12, 3) := by decide +kernel
theorem dX6_split_66 : decode cX6_split 66 = .ok (.aload_n 0, 1) := by decide +kernel
theorem dX6_split_67 : decode cX6_split 67 = .ok (.aload_n 1, 1) := by decide +kernel
theorem dX6_split_68 : decode cX6_split 68 = .ok (.iload_n 3, 1) := by decide +kernel
theorem dX6_split_69 : decode cX6_split 69 = .ok (.invokevirtual 70, 3) := by decide +kernel
theorem dX6_split_72 : decode cX6_split 72 = .ok (.goto 11, 3) := by decide +kernel
theorem dX6_split_75 : decode cX6_split 75 = .ok (.aload_n 0, 1) := by decide +kernel
theorem dX6_split_76 : decode cX6_split 76 = .ok (.aload_n 1, 1) := by decide +kernel
theorem dX6_split_77 : decode cX6_split 77 = .ok (.iload_n 3, 1) := by decide +kernel
theorem dX6_split_78 : decode cX6_split 78 = .ok (.caload, 1) := by decide +kernel
theorem dX6_split_79 : decode cX6_split 79 = .ok (.iload_n 3, 1) := by decide +kernel
theorem dX6_split_80 : decode cX6_split 80 = .ok (.invokevirtual 74, 3) := by decide +kernel
theorem dX6_split_83 : decode cX6_split 83 = .ok (.istore_n 3, 1) := by decide +kernel
theorem dX6_split_84 : decode cX6_split 84 = .ok (.iinc 4 1, 3) := by decide +kernel
theorem dX6_split_87 : decode cX6_split 87 = .ok (.goto (-68), 3) := by decide +kernel
theorem dX6_split_90 : decode cX6_split 90 = .ok (.return_, 1) := by decide +kernel
theorem dX6_splitOther_0 : decode cX6_splitOther 0 = .ok (.bipush 8, 2) := by decide +kernel
theorem dX6_splitOther_2 : decode cX6_splitOther 2 = .ok (.istore_n 3, 1) := by decide +kernel
theorem dX6_splitOther_3 : decode cX6_splitOther 3 = .ok (.iload_n 1, 1) := by decide +kernel
theorem dX6_splitOther_4 : decode cX6_splitOther 4 = .ok (.bipush 97, 2) := by decide +kernel
theorem dX6_splitOther_6 : decode cX6_splitOther 6 = .ok (.if_icmp .lt 14, 3) := by decide +kernel
theorem dX6_splitOther_9 : decode cX6_splitOther 9 = .ok (.iload_n 1, 1) := by decide +kernel
theorem dX6_splitOther_10 : decode cX6_splitOther 10 = .ok (.bipush 122, 2) := by decide +kernel
theorem dX6_splitOther_12 : decode cX6_splitOther 12 = .ok (.if_icmp .gt 8, 3) := by decide +kernel
theorem dX6_splitOther_15 : decode cX6_splitOther 15 = .ok (.iconst 1, 1) := by decide +kernel
theorem dX6_splitOther_16 : decode cX6_splitOther 16 = .ok (.istore_n 3, 1) := by decide +kernel
theorem dX6_splitOther_17 : decode cX6_splitOther 17 = .ok (.goto 50, 3) := by decide +kernel
theorem dX6_splitOther_20 : decode cX6_splitOther 20 = .ok (.iload_n 1, 1) := by decide +kernel
theorem dX6_splitOther_21 : decode cX6_splitOther 21 = .ok (.bipush 40, 2) := by decide +kernel
theorem dX6_splitOther_23 : decode cX6_splitOther 23 = .ok (.if_icmp .ne 8, 3) := by decide +kernel
theorem dX6_splitOther_26 : decode cX6_splitOther 26 = .ok (.iconst 4, 1) := by decide +kernel
theorem dX6_splitOther_27 : decode cX6_splitOther 27 = .ok (.istore_n 3, 1) := by decide +kernel
theorem dX6_splitOther_28 : decode cX6_splitOther 28 = .ok (.goto 39, 3) := by decide +kernel
theorem dX6_splitOther_31 : decode cX6_splitOther 31 = .ok (.iload_n 1, 1) := by decide +kernel
theorem dX6_splitOther_32 : decode cX6_splitOther 32 = .ok (.bipush 41, 2) := by decide +kernel
theorem dX6_splitOther_34 : decode cX6_splitOther 34 = .ok (.if_icmp .ne 8, 3) := by decide +kernel
theorem dX6_splitOther_37 : decode cX6_splitOther 37 = .ok (.iconst 5, 1) := by decide +kernel
theorem dX6_splitOther_38 : decode cX6_splitOther 38 = .ok (.istore_n 3, 1) := by decide +kernel
theorem dX6_splitOther_39 : decode cX6_splitOther 39 = .ok (.goto 28, 3) := by decide +kernel
theorem dX6_splitOther_42 : decode cX6_splitOther 42 = .ok (.iload_n 1, 1) := by decide +kernel
theorem dX6_splitOther_43 : decode cX6_splitOther 43 = .ok (.bipush 44, 2) := by decide +kernel
theorem dX6_splitOther_45 : decode cX6_splitOther 45 = .ok (.if_icmp .ne 9, 3) := by decide +kernel
theorem dX6_splitOther_48 : decode cX6_splitOther 48 = .ok (.bipush 6, 2) := by decide +kernel
theorem dX6_splitOther_50 : decode cX6_splitOther 50 = .ok (.istore_n 3, 1) := by decide +kernel
theorem dX6_splitOther_51 : decode cX6_splitOther 51 = .ok (.goto 16, 3) := by decide +kernel
theorem dX6_splitOther_54 : decode cX6_splitOther 54 = .ok (.aload_n 0, 1) := by decide +kernel
theorem dX6_splitOther_55 : decode cX6_splitOther 55 = .ok (.getfield 50, 3) := by decide +kernel
theorem dX6_splitOther_58 : decode cX6_splitOther 58 = .ok (.iload_n 1, 1) := by decide +kernel
theorem dX6_splitOther_59 : decode cX6_splitOther 59 = .ok (.invokevirtual 78, 3) := by decide +kernel
theorem dX6_splitOther_62 : decode cX6_splitOther 62 = .ok (.ifCond .eq 5, 3) := by decide +kernel
theorem dX6_splitOther_65 : decode cX6_splitOther 65 = .ok (.iconst 3, 1) := by decide +kernel
theorem dX6_splitOther_66 : decode cX6_splitOther 66 = .ok (.istore_n 3, 1) := by decide +kernel
theorem dX6_splitOther_67 : decode cX6_splitOther 67 = .ok (.aload_n 0, 1) := by decide +kernel
theorem dX6_splitOther_68 : decode cX6_splitOther 68 = .ok (.iload_n 3, 1) := by decide +kernel
theorem dX6_splitOther_69 : decode cX6_splitOther 69 = .ok (.iload_n 1, 1) := by decide +kernel
theorem dX6_splitOther_70 : decode cX6_splitOther 70 = .ok (.iload_n 2, 1) := by decide +kernel
theorem dX6_splitOther_71 : decode cX6_splitOther 71 = .ok (.invokevirtual 84, 3) := by decide +kernel
theorem dX6_splitOther_74 : decode cX6_splitOther 74 = .ok (.iload_n 3, 1) := by decide +kernel
theorem dX6_splitOther_75 : decode cX6_splitOther 75 = .ok (.bipush 8, 2) := by decide +kernel
theorem dX6_splitOther_77 : decode cX6_splitOther 77 = .ok (.if_icmp .ne 10, 3) := by decide +kernel
theorem dX6_splitOther_80 : decode cX6_splitOther 80 = .ok (.aload_n 0, 1) := by decide +kernel
theorem dX6_splitOther_81 : decode cX6_splitOther 81 = .ok (.getfield 58, 3) := by decide +kernel
theorem dX6_splitOther_84 : decode cX6_splitOther 84 = .ok (.goto 6, 3) := by decide +kernel
theorem dX6_splitOther_87 : decode cX6_splitOther 87 = .ok (.iload_n 2, 1) := by decide +kernel
theorem dX6_splitOther_88 : decode cX6_splitOther 88 = .ok (.iconst 1, 1) := by decide +kernel
theorem dX6_splitOther_89 : decode cX6_splitOther 89 = .ok (.iadd, 1) := by decide +kernel
theorem dX6_splitOther_90 : decode cX6_splitOther 90 = .ok (.ireturn, 1) := by decide +kernel
theorem dX6_splitNumber_0 : decode cX6_splitNumber 0 = .ok (.aload_n 1, 1) := by decide +kernel
theorem dX6_splitNumber_1 : decode cX6_splitNumber 1 = .ok (.iload_n 2, 1) := by decide +kernel
theorem dX6_splitNumber_2 : decode cX6_splitNumber 2 = .ok (.caload, 1) := by decide +kernel
theorem dX6_splitNumber_3 : decode cX6_splitNumber 3 = .ok (.bipush 48, 2) := by decide +kernel
theorem dX6_splitNumber_5 : decode cX6_splitNumber 5 = .ok (.if_icmp .ne 21, 3) := by decide +kernel
theorem dX6_splitNumber_8 : decode cX6_splitNumber 8 = .ok (.iload_n 2, 1) := by decide +kernel
theorem dX6_splitNumber_9 : decode cX6_splitNumber 9 = .ok (.iconst 1, 1) := by decide +kernel
theorem dX6_splitNumber_10 : decode cX6_splitNumber 10 = .ok (.iadd, 1) := by decide +kernel
theorem dX6_splitNumber_11 : decode cX6_splitNumber 11 = .ok (.aload_n 0, 1) := by decide +kernel
theorem dX6_splitNumber_12 : decode cX6_splitNumber 12 = .ok (.getfield 58, 3) := by decide +kernel
theorem dX6_splitNumber_15 : decode cX6_splitNumber 15 = .ok (.if_icmp .ge 11, 3) := by decide +kernel
theorem dX6_splitNumber_18 : decode cX6_splitNumber 18 = .ok (.aload_n 1, 1) := by decide +kernel
theorem dX6_splitNumber_19 : decode cX6_splitNumber 19 = .ok (.iload_n 2, 1) := by decide +kernel
theorem dX6_splitNumber_20 : decode cX6_splitNumber 20 = .ok (.iconst 1, 1) := by decide +kernel
theorem dX6_splitNumber_21 : decode cX6_splitNumber 21 = .ok (.iadd, 1) := by decide +kernel
theorem dX6_splitNumber_22 : decode cX6_splitNumber 22 = .ok (.caload, 1) := by decide +kernel
theorem dX6_splitNumber_23 : decode cX6_splitNumber 23 = .ok (.goto 5, 3) := by decide +kernel
theorem dX6_splitNumber_26 : decode cX6_splitNumber 26 = .ok (.bipush 32, 2) := by decide +kernel
theorem dX6_splitNumber_28 : decode cX6_splitNumber 28 = .ok (.istore_n 3, 1) := by decide +kernel
theorem dX6_splitNumber_29 : decode cX6_splitNumber 29 = .ok (.iload_n 3, 1) := by decide +kernel
theorem dX6_splitNumber_30 : decode cX6_splitNumber 30 = .ok (.bipush 120, 2) := by decide +kernel
theorem dX6_splitNumber_32 : decode cX6_splitNumber 32 = .ok (.if_icmp .ne 8, 3) := by decide +kernel
theorem dX6_splitNumber_35 : decode cX6_splitNumber 35 = .ok (.bipush 16, 2) := by decide +kernel
theorem dX6_splitNumber_37 : decode cX6_splitNumber 37 = .ok (.goto 26, 3) := by decide +kernel
theorem dX6_splitNumber_40 : decode cX6_splitNumber 40 = .ok (.iload_n 3, 1) := by decide +kernel
theorem dX6_splitNumber_41 : decode cX6_splitNumber 41 = .ok (.bipush 111, 2) := by decide +kernel
theorem dX6_splitNumber_43 : decode cX6_splitNumber 43 = .ok (.if_icmp .ne 8, 3) := by decide +kernel
theorem dX6_splitNumber_46 : decode cX6_splitNumber 46 = .ok (.bipush 8, 2) := by decide +kernel
theorem dX6_splitNumber_48 : decode cX6_splitNumber 48 = .ok (.goto 15, 3) := by decide +kernel
theorem dX6_splitNumber_51 : decode cX6_splitNumber 51 = .ok (.iload_n 3, 1) := by decide +kernel
theorem dX6_splitNumber_52 : decode cX6_splitNumber 52 = .ok (.bipush 98, 2) := by decide +kernel
theorem dX6_splitNumber_54 : decode cX6_splitNumber 54 = .ok (.if_icmp .ne 7, 3) := by decide +kernel
theorem dX6_splitNumber_57 : decode cX6_splitNumber 57 = .ok (.iconst 2, 1) := by decide +kernel
theorem dX6_splitNumber_58 : decode cX6_splitNumber 58 = .ok (.goto 5, 3) := by decide +kernel
theorem dX6_splitNumber_61 : decode cX6_splitNumber 61 = .ok (.bipush 10, 2) := by decide +kernel
theorem dX6_splitNumber_63 : decode cX6_splitNumber 63 = .ok (.istore 4, 2) := by decide +kernel
theorem dX6_splitNumber_65 : decode cX6_splitNumber 65 = .ok (.iload 4, 2) := by decide +kernel
theorem dX6_splitNumber_67 : decode cX6_splitNumber 67 = .ok (.bipush 10, 2) := by decide +kernel
theorem dX6_splitNumber_69 : decode cX6_splitNumber 69 = .ok (.if_icmp .ne 7, 3) := by decide +kernel
theorem dX6_splitNumber_72 : decode cX6_splitNumber 72 = .ok (.iload_n 2, 1) := by decide +kernel
theorem dX6_splitNumber_73 : decode cX6_splitNumber 73 = .ok (.goto 6, 3) := by decide +kernel
theorem dX6_splitNumber_76 : decode cX6_splitNumber 76 = .ok (.iload_n 2, 1) := by decide +kernel
theorem dX6_splitNumber_77 : decode cX6_splitNumber 77 = .ok (.iconst 2, 1) := by decide +kernel
theorem dX6_splitNumber_78 : decode cX6_splitNumber 78 = .ok (.iadd, 1) := by decide +kernel
theorem dX6_splitNumber_79 : decode cX6_splitNumber 79 = .ok (.istore 5, 2) := by decide +kernel
theorem dX6_splitNumber_81 : decode cX6_splitNumber 81 = .ok (.aload_n 0, 1) := by decide +kernel
theorem dX6_splitNumber_82 : decode cX6_splitNumber 82 = .ok (.getfield 58, 3) := by decide +kernel
theorem dX6_splitNumber_85 : decode cX6_splitNumber 85 = .ok (.iload 5, 2) := by decide +kernel
theorem dX6_splitNumber_87 : decode cX6_splitNumber 87 = .ok (.iload 4, 2) := by decide +kernel
theorem dX6_splitNumber_89 : decode cX6_splitNumber 89 = .ok (.bipush 10, 2) := by decide +kernel
theorem dX6_splitNumber_91 : decode cX6_splitNumber 91 = .ok (.if_icmp .ne 8, 3) := by decide +kernel
theorem dX6_splitNumber_94 : decode cX6_splitNumber 94 = .ok (.bipush 9, 2) := by decide +kernel
theorem dX6_splitNumber_96 : decode cX6_splitNumber 96 = .ok (.goto 5, 3) := by decide +kernel
theorem dX6_splitNumber_99 : decode cX6_splitNumber 99 = .ok (.bipush 7, 2) := by decide +kernel
theorem dX6_splitNumber_101 : decode cX6_splitNumber 101 = .ok (.iadd, 1) := by decide +kernel
theorem dX6_splitNumber_102 : decode cX6_splitNumber 102 = .ok (.invokestatic 64, 3) := by decide +kernel
theorem dX6_splitNumber_105 : decode cX6_splitNumber 105 = .ok (.istore 6, 2) := by decide +kernel
theorem dX6_splitNumber_107 : decode cX6_splitNumber 107 = .ok (.iconst 0, 1) := by decide +kernel
theorem dX6_splitNumber_108 : decode cX6_splitNumber 108 = .ok (.istore 7, 2) := by decide +kernel
theorem dX6_splitNumber_110 : decode cX6_splitNumber 110 = .ok (.iload 5, 2) := by decide +kernel
theorem dX6_splitNumber_112 : decode cX6_splitNumber 112 = .ok (.istore 8, 2) := by decide +kernel
theorem dX6_splitNumber_114 : decode cX6_splitNumber 114 = .ok (.iload 8, 2) := by decide +kernel
theorem dX6_splitNumber_116 : decode cX6_splitNumber 116 = .ok (.iload 6, 2) := by decide +kernel
theorem dX6_splitNumber_118 : decode cX6_splitNumber 118 = .ok (.if_icmp .ge 36, 3) := by decide +kernel
theorem dX6_splitNumber_121 : decode cX6_splitNumber 121 = .ok (.aload_n 1, 1) := by decide +kernel
theorem dX6_splitNumber_122 : decode cX6_splitNumber 122 = .ok (.iload 8, 2) := by decide +kernel
theorem dX6_splitNumber_124 : decode cX6_splitNumber 124 = .ok (.caload, 1) := by decide +kernel
theorem dX6_splitNumber_125 : decode cX6_splitNumber 125 = .ok (.invokestatic 88, 3) := by decide +kernel
theorem dX6_splitNumber_128 : decode cX6_splitNumber 128 = .ok (.iload 4, 2) := by decide +kernel
theorem dX6_splitNumber_130 : decode cX6_splitNumber 130 = .ok (.if_icmp .ge 24, 3) := by decide +kernel
theorem dX6_splitNumber_133 : decode cX6_splitNumber 133 = .ok (.iload 7, 2) := by decide +kernel
theorem dX6_splitNumber_135 : decode cX6_splitNumber 135 = .ok (.iload 4, 2) := by decide +kernel
theorem dX6_splitNumber_137 : decode cX6_splitNumber 137 = .ok (.imul, 1) := by decide +kernel
theorem dX6_splitNumber_138 : decode cX6_splitNumber 138 = .ok (.aload_n 1, 1) := by decide +kernel
theorem dX6_splitNumber_139 : decode cX6_splitNumber 139 = .ok (.iload 8, 2) := by decide +kernel
theorem dX6_splitNumber_141 : decode cX6_splitNumber 141 = .ok (.caload, 1) := by decide +kernel
theorem dX6_splitNumber_142 : decode cX6_splitNumber 142 = .ok (.invokestatic 88, 3) := by decide +kernel
theorem dX6_splitNumber_145 : decode cX6_splitNumber 145 = .ok (.iadd, 1) := by decide +kernel
theorem dX6_splitNumber_146 : decode cX6_splitNumber 146 = .ok (.istore 7, 2) := by decide +kernel
theorem dX6_splitNumber_148 : decode cX6_splitNumber 148 = .ok (.iinc 8 1, 3) := by decide +kernel
theorem dX6_splitNumber_151 : decode cX6_splitNumber 151 = .ok (.goto (-37), 3) := by decide +kernel
theorem dX6_splitNumber_154 : decode cX6_splitNumber 154 = .ok (.iload 8, 2) := by decide +kernel
theorem dX6_splitNumber_156 : decode cX6_splitNumber 156 = .ok (.iload 5, 2) := by decide +kernel
theorem dX6_splitNumber_158 : decode cX6_splitNumber 158 = .ok (.if_icmp .ne 17, 3) := by decide +kernel
theorem dX6_splitNumber_161 : decode cX6_splitNumber 161 = .ok (.aload_n 0, 1) := by decide +kernel
theorem dX6_splitNumber_162 : decode cX6_splitNumber 162 = .ok (.bipush 7, 2) := by decide +kernel
theorem dX6_splitNumber_164 : decode cX6_splitNumber 164 = .ok (.iload 8, 2) := by decide +kernel
theorem dX6_splitNumber_166 : decode cX6_splitNumber 166 = .ok (.iload_n 2, 1) := by decide +kernel
theorem dX6_splitNumber_167 : decode cX6_splitNumber 167 = .ok (.invokevirtual 84, 3) := by decide +kernel
theorem dX6_splitNumber_170 : decode cX6_splitNumber 170 = .ok (.aload_n 0, 1) := by decide +kernel
theorem dX6_splitNumber_171 : decode cX6_splitNumber 171 = .ok (.getfield 58, 3) := by decide +kernel
theorem dX6_splitNumber_174 : decode cX6_splitNumber 174 = .ok (.ireturn, 1) := by decide +kernel
theorem dX6_splitNumber_175 : decode cX6_splitNumber 175 = .ok (.aload_n 0, 1) := by decide +kernel
theorem dX6_splitNumber_176 : decode cX6_splitNumber 176 = .ok (.iconst 0, 1) := by decide +kernel
theorem dX6_splitNumber_177 : decode cX6_splitNumber 177 = .ok (.iload 7, 2) := by decide +kernel
theorem dX6_splitNumber_179 : decode cX6_splitNumber 179 = .ok (.iload_n 2, 1) := by decide +kernel
theorem dX6_splitNumber_180 : decode cX6_splitNumber 180 = .ok (.invokevirtual 84, 3) := by decide +kernel
theorem dX6_splitNumber_183 : decode cX6_splitNumber 183 = .ok (.iload 8, 2) := by decide +kernel
theorem dX6_splitNumber_185 : decode cX6_splitNumber 185 = .ok (.ireturn, 1) := by decide +kernel
theorem dX6_digit_0 : decode cX6_digit 0 = .ok (.iload_n 0, 1) := by decide +kernel
theorem dX6_digit_1 : decode cX6_digit 1 = .ok (.bipush 48, 2) := by decide +kernel
theorem dX6_digit_3 : decode cX6_digit 3 = .ok (.if_icmp .lt 14, 3) := by decide +kernel
theorem dX6_digit_6 : decode cX6_digit 6 = .ok (.iload_n 0, 1) := by decide +kernel
theorem dX6_digit_7 : decode cX6_digit 7 = .ok (.bipush 57, 2) := by decide +kernel
theorem dX6_digit_9 : decode cX6_digit 9 = .ok (.if_icmp .gt 8, 3) := by decide +kernel
theorem dX6_digit_12 : decode cX6_digit 12 = .ok (.iload_n 0, 1) := by decide +kernel
theorem dX6_digit_13 : decode cX6_digit 13 = .ok (.bipush 48, 2) := by decide +kernel
theorem dX6_digit_15 : decode cX6_digit 15 = .ok (.isub, 1) := by decide +kernel
theorem dX6_digit_16 : decode cX6_digit 16 = .ok (.ireturn, 1) := by decide +kernel
theorem dX6_digit_17 : decode cX6_digit 17 = .ok (.iload_n 0, 1) := by decide +kernel
theorem dX6_digit_18 : decode cX6_digit 18 = .ok (.bipush 97, 2) := by decide +kernel
theorem dX6_digit_20 : decode cX6_digit 20 = .ok (.if_icmp .lt 19, 3) := by decide +kernel
theorem dX6_digit_23 : decode cX6_digit 23 = .ok (.iload_n 0, 1) := by decide +kernel
theorem dX6_digit_24 : decode cX6_digit 24 = .ok (.bipush 102, 2) := by decide +kernel
theorem dX6_digit_26 : decode cX6_digit 26 = .ok (.if_icmp .gt 13, 3) := by decide +kernel
theorem dX6_digit_29 : decode cX6_digit 29 = .ok (.iload_n 0, 1) := by decide +kernel
theorem dX6_digit_30 : decode cX6_digit 30 = .ok (.bipush 97, 2) := by decide +kernel
theorem dX6_digit_32 : decode cX6_digit 32 = .ok (.isub, 1) := by decide +kernel
theorem dX6_digit_33 : decode cX6_digit 33 = .ok (.bipush 10, 2) := by decide +kernel
theorem dX6_digit_35 : decode cX6_digit 35 = .ok (.iadd, 1) := by decide +kernel
theorem dX6_digit_36 : decode cX6_digit 36 = .ok (.goto 5, 3) := by decide +kernel
theorem dX6_digit_39 : decode cX6_digit 39 = .ok (.bipush 16, 2) := by decide +kernel
theorem dX6_digit_41 : decode cX6_digit 41 = .ok (.ireturn, 1) := by decide +kernel
theorem dX6_nextWord_0 : decode cX6_nextWord 0 = .ok (.aload_n 0, 1) := by decide +kernel
theorem dX6_nextWord_1 : decode cX6_nextWord 1 = .ok (.getfield 92, 3) := by decide +kernel
theorem dX6_nextWord_4 : decode cX6_nextWord 4 = .ok (.istore_n 1, 1) := by decide +kernel
theorem dX6_nextWord_5 : decode cX6_nextWord 5 = .ok (.iconst 0, 1) := by decide +kernel
theorem dX6_nextWord_6 : decode cX6_nextWord 6 = .ok (.istore_n 2, 1) := by decide +kernel
theorem dX6_nextWord_7 : decode cX6_nextWord 7 = .ok (.iload_n 2, 1) := by decide +kernel
theorem dX6_nextWord_8 : decode cX6_nextWord 8 = .ok (.aload_n 0, 1) := by decide +kernel
theorem dX6_nextWord_9 : decode cX6_nextWord 9 = .ok (.getfield 54, 3) := by decide +kernel
theorem dX6_nextWord_12 : decode cX6_nextWord 12 = .ok (.if_icmp .ge 29, 3) := by decide +kernel
theorem dX6_nextWord_15 : decode cX6_nextWord 15 = .ok (.iload_n 1, 1) := by decide +kernel
theorem dX6_nextWord_16 : decode cX6_nextWord 16 = .ok (.aload_n 0, 1) := by decide +kernel
theorem dX6_nextWord_17 : decode cX6_nextWord 17 = .ok (.getfield 54, 3) := by decide +kernel
theorem dX6_nextWord_20 : decode cX6_nextWord 20 = .ok (.if_icmp .ge 21, 3) := by decide +kernel
theorem dX6_nextWord_23 : decode cX6_nextWord 23 = .ok (.aload_n 0, 1) := by decide +kernel
theorem dX6_nextWord_24 : decode cX6_nextWord 24 = .ok (.getfield 21, 3) := by decide +kernel
theorem dX6_nextWord_27 : decode cX6_nextWord 27 = .ok (.iload_n 1, 1) := by decide +kernel
theorem dX6_nextWord_28 : decode cX6_nextWord 28 = .ok (.baload, 1) := by decide +kernel
theorem dX6_nextWord_29 : decode cX6_nextWord 29 = .ok (.ifCond .eq 12, 3) := by decide +kernel
theorem dX6_nextWord_32 : decode cX6_nextWord 32 = .ok (.iinc 1 1, 3) := by decide +kernel
theorem dX6_nextWord_35 : decode cX6_nextWord 35 = .ok (.iinc 2 1, 3) := by decide +kernel
theorem dX6_nextWord_38 : decode cX6_nextWord 38 = .ok (.goto (-31), 3) := by decide +kernel
theorem dX6_nextWord_41 : decode cX6_nextWord 41 = .ok (.iload_n 1, 1) := by decide +kernel
theorem dX6_nextWord_42 : decode cX6_nextWord 42 = .ok (.ireturn, 1) := by decide +kernel
theorem dX6_kindAt_0 : decode cX6_kindAt 0 = .ok (.iload_n 1, 1) := by decide +kernel
theorem dX6_kindAt_1 : decode cX6_kindAt 1 = .ok (.ifCond .lt 20, 3) := by decide +kernel
theorem dX6_kindAt_4 : decode cX6_kindAt 4 = .ok (.iload_n 1, 1) := by decide +kernel
theorem dX6_kindAt_5 : decode cX6_kindAt 5 = .ok (.aload_n 0, 1) := by decide +kernel
theorem dX6_kindAt_6 : decode cX6_kindAt 6 = .ok (.getfield 54, 3) := by decide +kernel
theorem dX6_kindAt_9 : decode cX6_kindAt 9 = .ok (.if_icmp .ge 12, 3) := by decide +kernel
theorem dX6_kindAt_12 : decode cX6_kindAt 12 = .ok (.aload_n 0, 1) := by decide +kernel
theorem dX6_kindAt_13 : decode cX6_kindAt 13 = .ok (.getfield 11, 3) := by decide +kernel
theorem dX6_kindAt_16 : decode cX6_kindAt 16 = .ok (.iload_n 1, 1) := by decide +kernel
theorem dX6_kindAt_17 : decode cX6_kindAt 17 = .ok (.iaload, 1) := by decide +kernel
theorem dX6_kindAt_18 : decode cX6_kindAt 18 = .ok (.goto 5, 3) := by decide +kernel
theorem dX6_kindAt_21 : decode cX6_kindAt 21 = .ok (.bipush 9, 2) := by decide +kernel
theorem dX6_kindAt_23 : decode cX6_kindAt 23 = .ok (.ireturn, 1) := by decide +kernel
theorem dX6_byStacks_0 : decode cX6_byStacks 0 = .ok (.aload_n 0, 1) := by decide +kernel
theorem dX6_byStacks_1 : decode cX6_byStacks 1 = .ok (.iconst 0, 1) := by decide +kernel
theorem dX6_byStacks_2 : decode cX6_byStacks 2 = .ok (.putfield 92, 3) := by decide +kernel
theorem dX6_byStacks_5 : decode cX6_byStacks 5 = .ok (.aload_n 0, 1) := by decide +kernel
theorem dX6_byStacks_6 : decode cX6_byStacks 6 = .ok (.iconst 0, 1) := by decide +kernel
theorem dX6_byStacks_7 : decode cX6_byStacks 7 = .ok (.putfield 95, 3) := by decide +kernel
theorem dX6_byStacks_10 : decode cX6_byStacks 10 = .ok (.aload_n 0, 1) := by decide +kernel
theorem dX6_byStacks_11 : decode cX6_byStacks 11 = .ok (.iconst 0, 1) := by decide +kernel
theorem dX6_byStacks_12 : decode cX6_byStacks 12 = .ok (.putfield 98, 3) := by decide +kernel
theorem dX6_byStacks_15 : decode cX6_byStacks 15 = .ok (.aload_n 0, 1) := by decide +kernel
theorem dX6_byStacks_16 : decode cX6_byStacks 16 = .ok (.iconst 1, 1) := by decide +kernel
theorem dX6_byStacks_17 : decode cX6_byStacks 17 = .ok (.putfield 101, 3) := by decide +kernel
theorem dX6_byStacks_20 : decode cX6_byStacks 20 = .ok (.aload_n 0, 1) := by decide +kernel
theorem dX6_byStacks_21 : decode cX6_byStacks 21 = .ok (.getfield 46, 3) := by decide +kernel
theorem dX6_byStacks_24 : decode cX6_byStacks 24 = .ok (.invokevirtual 105, 3) := by decide +kernel
theorem dX6_byStacks_27 : decode cX6_byStacks 27 = .ok (.iconst 0, 1) := by decide +kernel
theorem dX6_byStacks_28 : decode cX6_byStacks 28 = .ok (.istore_n 1, 1) := by decide +kernel
theorem dX6_byStacks_29 : decode cX6_byStacks 29 = .ok (.iload_n 1, 1) := by decide +kernel
theorem dX6_byStacks_30 : decode cX6_byStacks 30 = .ok (.aload_n 0, 1) := by decide +kernel
theorem dX6_byStacks_31 : decode cX6_byStacks 31 = .ok (.getfield 54, 3) := by decide +kernel
theorem dX6_byStacks_34 : decode cX6_byStacks 34 = .ok (.if_icmp .ge 120, 3) := by decide +kernel
theorem dX6_byStacks_37 : decode cX6_byStacks 37 = .ok (.aload_n 0, 1) := by decide +kernel
theorem dX6_byStacks_38 : decode cX6_byStacks 38 = .ok (.invokevirtual 108, 3) := by decide +kernel
theorem dX6_byStacks_41 : decode cX6_byStacks 41 = .ok (.istore_n 2, 1) := by decide +kernel
theorem dX6_byStacks_42 : decode cX6_byStacks 42 = .ok (.iload_n 2, 1) := by decide +kernel
theorem dX6_byStacks_43 : decode cX6_byStacks 43 = .ok (.aload_n 0, 1) := by decide +kernel
theorem dX6_byStacks_44 : decode cX6_byStacks 44 = .ok (.getfield 54, 3) := by decide +kernel
theorem dX6_byStacks_47 : decode cX6_byStacks 47 = .ok (.if_icmp .lt 6, 3) := by decide +kernel
theorem dX6_byStacks_50 : decode cX6_byStacks 50 = .ok (.goto 104, 3) := by decide +kernel
theorem dX6_byStacks_53 : decode cX6_byStacks 53 = .ok (.aload_n 0, 1) := by decide +kernel
theorem dX6_byStacks_54 : decode cX6_byStacks 54 = .ok (.iload_n 2, 1) := by decide +kernel
theorem dX6_byStacks_55 : decode cX6_byStacks 55 = .ok (.iconst 1, 1) := by decide +kernel
theorem dX6_byStacks_56 : decode cX6_byStacks 56 = .ok (.iadd, 1) := by decide +kernel
theorem dX6_byStacks_57 : decode cX6_byStacks 57 = .ok (.putfield 92, 3) := by decide +kernel
theorem dX6_byStacks_60 : decode cX6_byStacks 60 = .ok (.aload_n 0, 1) := by decide +kernel
theorem dX6_byStacks_61 : decode cX6_byStacks 61 = .ok (.getfield 101, 3) := by decide +kernel
theorem dX6_byStacks_64 : decode cX6_byStacks 64 = .ok (.ifCond .eq 12, 3) := by decide +kernel
theorem dX6_byStacks_67 : decode cX6_byStacks 67 = .ok (.aload_n 0, 1) := by decide +kernel
theorem dX6_byStacks_68 : decode cX6_byStacks 68 = .ok (.iload_n 2, 1) := by decide +kernel
theorem dX6_byStacks_69 : decode cX6_byStacks 69 = .ok (.invokevirtual 112, 3) := by decide +kernel
theorem dX6_byStacks_72 : decode cX6_byStacks 72 = .ok (.istore_n 3, 1) := by decide +kernel
theorem dX6_byStacks_73 : decode cX6_byStacks 73 = .ok (.goto 37, 3) := by decide +kernel
theorem dX6_byStacks_76 : decode cX6_byStacks 76 = .ok (.aload_n 0, 1) := by decide +kernel
theorem dX6_byStacks_77 : decode cX6_byStacks 77 = .ok (.getfield 11, 3) := by decide +kernel
theorem dX6_byStacks_80 : decode cX6_byStacks 80 = .ok (.iload_n 2, 1) := by decide +kernel
theorem dX6_byStacks_81 : decode cX6_byStacks 81 = .ok (.iaload, 1) := by decide +kernel
theorem dX6_byStacks_82 : decode cX6_byStacks 82 = .ok (.iconst 3, 1) := by decide +kernel
theorem dX6_byStacks_83 : decode cX6_byStacks 83 = .ok (.if_icmp .ne 16, 3) := by decide +kernel
theorem dX6_byStacks_86 : decode cX6_byStacks 86 = .ok (.aload_n 0, 1) := by decide +kernel
theorem dX6_byStacks_87 : decode cX6_byStacks 87 = .ok (.aload_n 0, 1) := by decide +kernel
theorem dX6_byStacks_88 : decode cX6_byStacks 88 = .ok (.getfield 15, 3) := by decide +kernel
theorem dX6_byStacks_91 : decode cX6_byStacks 91 = .ok (.iload_n 2, 1) := by decide +kernel
theorem dX6_byStacks_92 : decode cX6_byStacks 92 = .ok (.iaload, 1) := by decide +kernel
theorem dX6_byStacks_93 : decode cX6_byStacks 93 = .ok (.invokevirtual 115, 3) := by decide +kernel
theorem dX6_byStacks_96 : decode cX6_byStacks 96 = .ok (.goto 13, 3) := by decide +kernel
theorem dX6_byStacks_99 : decode cX6_byStacks 99 = .ok (.aload_n 0, 1) := by decide +kernel
theorem dX6_byStacks_100 : decode cX6_byStacks 100 = .ok (.aload_n 0, 1) := by decide +kernel
theorem dX6_byStacks_101 : decode cX6_byStacks 101 = .ok (.getfield 11, 3) := by decide +kernel
theorem dX6_byStacks_104 : decode cX6_byStacks 104 = .ok (.iload_n 2, 1) := by decide +kernel
theorem dX6_byStacks_105 : decode cX6_byStacks 105 = .ok (.iaload, 1) := by decide +kernel
theorem dX6_byStacks_106 : decode cX6_byStacks 106 = .ok (.invokevirtual 118, 3) := by decide +kernel
theorem dX6_byStacks_109 : decode cX6_byStacks 109 = .ok (.istore_n 3, 1) := by decide +kernel
theorem dX6_byStacks_110 : decode cX6_byStacks 110 = .ok (.iload_n 3, 1) := by decide +kernel
theorem dX6_byStacks_111 : decode cX6_byStacks 111 = .ok (.ifCond .ne 37, 3) := by decide +kernel
theorem dX6_byStacks_114 : decode cX6_byStacks 114 = .ok (.aload_n 0, 1) := by decide +kernel
theorem dX6_byStacks_115 : decode cX6_byStacks 115 = .ok (.getfield 101, 3) := by decide +kernel
theorem dX6_byStacks_118 : decode cX6_byStacks 118 = .ok (.ifCond .eq 23, 3) := by decide +kernel
theorem dX6_byStacks_121 : decode cX6_byStacks 121 = .ok (.aload_n 0, 1) := by decide +kernel
theorem dX6_byStacks_122 : decode cX6_byStacks 122 = .ok (.getfield 11, 3) := by decide +kernel
theorem dX6_byStacks_125 : decode cX6_byStacks 125 = .ok (.iload_n 2, 1) := by decide +kernel
theorem dX6_byStacks_126 : decode cX6_byStacks 126 = .ok (.iaload, 1) := by decide +kernel
theorem dX6_byStacks_127 : decode cX6_byStacks 127 = .ok (.bipush 7, 2) := by decide +kernel
theorem dX6_byStacks_129 : decode cX6_byStacks 129 = .ok (.if_icmp .ne 12, 3) := by decide +kernel
theorem dX6_byStacks_132 : decode cX6_byStacks 132 = .ok (.aload_n 0, 1) := by decide +kernel
theorem dX6_byStacks_133 : decode cX6_byStacks 133 = .ok (.getfield 15, 3) := by decide +kernel
theorem dX6_byStacks_136 : decode cX6_byStacks 136 = .ok (.iload_n 2, 1) := by decide +kernel
theorem dX6_byStacks_137 : decode cX6_byStacks 137 = .ok (.iaload, 1) := by decide +kernel
theorem dX6_byStacks_138 : decode cX6_byStacks 138 = .ok (.goto 9, 3) := by decide +kernel
theorem dX6_byStacks_141 : decode cX6_byStacks 141 = .ok (.aload_n 0, 1) := by decide +kernel
theorem dX6_byStacks_142 : decode cX6_byStacks 142 = .ok (.getfield 18, 3) := by decide +kernel
theorem dX6_byStacks_145 : decode cX6_byStacks 145 = .ok (.iload_n 2, 1) := by decide +kernel
theorem dX6_byStacks_146 : decode cX6_byStacks 146 = .ok (.iaload, 1) := by decide +kernel
theorem dX6_byStacks_147 : decode cX6_byStacks 147 = .ok (.ireturn, 1) := by decide +kernel
theorem dX6_byStacks_148 : decode cX6_byStacks 148 = .ok (.iinc 1 1, 3) := by decide +kernel
theorem dX6_byStacks_151 : decode cX6_byStacks 151 = .ok (.goto (-122), 3) := by decide +kernel
theorem dX6_byStacks_154 : decode cX6_byStacks 154 = .ok (.aload_n 0, 1) := by decide +kernel
theorem dX6_byStacks_155 : decode cX6_byStacks 155 = .ok (.iconst 0, 1) := by decide +kernel
theorem dX6_byStacks_156 : decode cX6_byStacks 156 = .ok (.invokevirtual 121, 3) := by decide +kernel
theorem dX6_byStacks_159 : decode cX6_byStacks 159 = .ok (.aload_n 0, 1) := by decide +kernel
theorem dX6_byStacks_160 : decode cX6_byStacks 160 = .ok (.getfield 101, 3) := by decide +kernel
theorem dX6_byStacks_163 : decode cX6_byStacks 163 = .ok (.ifCond .ne 10, 3) := by decide +kernel
theorem dX6_byStacks_166 : decode cX6_byStacks 166 = .ok (.aload_n 0, 1) := by decide +kernel
theorem dX6_byStacks_167 : decode cX6_byStacks 167 = .ok (.getfield 95, 3) := by decide +kernel
theorem dX6_byStacks_170 : decode cX6_byStacks 170 = .ok (.ifCond .le 10, 3) := by decide +kernel
theorem dX6_byStacks_173 : decode cX6_byStacks 173 = .ok (.aload_n 0, 1) := by decide +kernel
theorem dX6_byStacks_174 : decode cX6_byStacks 174 = .ok (.getfield 58, 3) := by decide +kernel
theorem dX6_byStacks_177 : decode cX6_byStacks 177 = .ok (.goto 4, 3) := by decide +kernel
theorem dX6_byStacks_180 : decode cX6_byStacks 180 = .ok (.iconst (-1), 1) := by decide +kernel
theorem dX6_byStacks_181 : decode cX6_byStacks 181 = .ok (.ireturn, 1) := by decide +kernel
theorem dX6_takeOperand_0 : decode cX6_takeOperand 0 = .ok (.aload_n 0, 1) := by decide +kernel
theorem dX6_takeOperand_1 : decode cX6_takeOperand 1 = .ok (.getfield 15, 3) := by decide +kernel
theorem dX6_takeOperand_4 : decode cX6_takeOperand 4 = .ok (.iload_n 1, 1) := by decide +kernel
theorem dX6_takeOperand_5 : decode cX6_takeOperand 5 = .ok (.iaload, 1) := by decide +kernel
theorem dX6_takeOperand_6 : decode cX6_takeOperand 6 = .ok (.istore_n 2, 1) := by decide +kernel
theorem dX6_takeOperand_7 : decode cX6_takeOperand 7 = .ok (.aload_n 0, 1) := by decide +kernel
theorem dX6_takeOperand_8 : decode cX6_takeOperand 8 = .ok (.getfield 11, 3) := by decide +kernel
theorem dX6_takeOperand_11 : decode cX6_takeOperand 11 = .ok (.iload_n 1, 1) := by decide +kernel
theorem dX6_takeOperand_12 : decode cX6_takeOperand 12 = .ok (.iaload, 1) := by decide +kernel
theorem dX6_takeOperand_13 : decode cX6_takeOperand 13 = .ok (.tableswitch 127 0 4 #[35, 42, 127, 90, 80], 35) := by decide +kernel
theorem dX6_takeOperand_48 : decode cX6_takeOperand 48 = .ok (.aload_n 0, 1) := by decide +kernel
theorem dX6_takeOperand_49 : decode cX6_takeOperand 49 = .ok (.iconst 0, 1) := by decide +kernel
theorem dX6_takeOperand_50 : decode cX6_takeOperand 50 = .ok (.iload_n 2, 1) := by decide +kernel
theorem dX6_takeOperand_51 : decode cX6_takeOperand 51 = .ok (.invokevirtual 125, 3) := by decide +kernel
theorem dX6_takeOperand_54 : decode cX6_takeOperand 54 = .ok (.ireturn, 1) := by decide +kernel
theorem dX6_takeOperand_55 : decode cX6_takeOperand 55 = .ok (.aload_n 0, 1) := by decide +kernel
theorem dX6_takeOperand_56 : decode cX6_takeOperand 56 = .ok (.invokevirtual 108, 3) := by decide +kernel
theorem dX6_takeOperand_59 : decode cX6_takeOperand 59 = .ok (.istore_n 3, 1) := by decide +kernel
theorem dX6_takeOperand_60 : decode cX6_takeOperand 60 = .ok (.aload_n 0, 1) := by decide +kernel
theorem dX6_takeOperand_61 : decode cX6_takeOperand 61 = .ok (.iload_n 3, 1) := by decide +kernel
theorem dX6_takeOperand_62 : decode cX6_takeOperand 62 = .ok (.invokevirtual 129, 3) := by decide +kernel
theorem dX6_takeOperand_65 : decode cX6_takeOperand 65 = .ok (.iconst 4, 1) := by decide +kernel
theorem dX6_takeOperand_66 : decode cX6_takeOperand 66 = .ok (.if_icmp .eq 10, 3) := by decide +kernel
theorem dX6_takeOperand_69 : decode cX6_takeOperand 69 = .ok (.aload_n 0, 1) := by decide +kernel
theorem dX6_takeOperand_70 : decode cX6_takeOperand 70 = .ok (.iconst 1, 1) := by decide +kernel
theorem dX6_takeOperand_71 : decode cX6_takeOperand 71 = .ok (.iload_n 2, 1) := by decide +kernel
theorem dX6_takeOperand_72 : decode cX6_takeOperand 72 = .ok (.invokevirtual 125, 3) := by decide +kernel
theorem dX6_takeOperand_75 : decode cX6_takeOperand 75 = .ok (.ireturn, 1) := by decide +kernel
theorem dX6_takeOperand_76 : decode cX6_takeOperand 76 = .ok (.aload_n 0, 1) := by decide +kernel
theorem dX6_takeOperand_77 : decode cX6_takeOperand 77 = .ok (.iload_n 3, 1) := by decide +kernel
theorem dX6_takeOperand_78 : decode cX6_takeOperand 78 = .ok (.iconst 1, 1) := by decide +kernel
theorem dX6_takeOperand_79 : decode cX6_takeOperand 79 = .ok (.iadd, 1) := by decide +kernel
theorem dX6_takeOperand_80 : decode cX6_takeOperand 80 = .ok (.putfield 92, 3) := by decide +kernel
theorem dX6_takeOperand_83 : decode cX6_takeOperand 83 = .ok (.aload_n 0, 1) := by decide +kernel
theorem dX6_takeOperand_84 : decode cX6_takeOperand 84 = .ok (.iconst 2, 1) := by decide +kernel
theorem dX6_takeOperand_85 : decode cX6_takeOperand 85 = .ok (.iload_n 2, 1) := by decide +kernel
theorem dX6_takeOperand_86 : decode cX6_takeOperand 86 = .ok (.iconst (-1), 1) := by decide +kernel
theorem dX6_takeOperand_87 : decode cX6_takeOperand 87 = .ok (.iconst 0, 1) := by decide +kernel
theorem dX6_takeOperand_88 : decode cX6_takeOperand 88 = .ok (.iconst 1, 1) := by decide +kernel
theorem dX6_takeOperand_89 : decode cX6_takeOperand 89 = .ok (.invokevirtual 133, 3) := by decide +kernel
theorem dX6_takeOperand_92 : decode cX6_takeOperand 92 = .ok (.ireturn, 1) := by decide +kernel
theorem dX6_takeOperand_93 : decode cX6_takeOperand 93 = .ok (.aload_n 0, 1) := by decide +kernel
theorem dX6_takeOperand_94 : decode cX6_takeOperand 94 = .ok (.iconst 4, 1) := by decide +kernel
theorem dX6_takeOperand_95 : decode cX6_takeOperand 95 = .ok (.iload_n 2, 1) := by decide +kernel
theorem dX6_takeOperand_96 : decode cX6_takeOperand 96 = .ok (.iconst (-1), 1) := by decide +kernel
theorem dX6_takeOperand_97 : decode cX6_takeOperand 97 = .ok (.iconst 0, 1) := by decide +kernel
theorem dX6_takeOperand_98 : decode cX6_takeOperand 98 = .ok (.iconst 0, 1) := by decide +kernel
theorem dX6_takeOperand_99 : decode cX6_takeOperand 99 = .ok (.invokevirtual 133, 3) := by decide +kernel
theorem dX6_takeOperand_102 : decode cX6_takeOperand 102 = .ok (.ireturn, 1) := by decide +kernel
theorem dX6_takeOperand_103 : decode cX6_takeOperand 103 = .ok (.aload_n 0, 1) := by decide +kernel
theorem dX6_takeOperand_104 : decode cX6_takeOperand 104 = .ok (.getfield 50, 3) := by decide +kernel
theorem dX6_takeOperand_107 : decode cX6_takeOperand 107 = .ok (.iload_n 2, 1) := by decide +kernel
theorem dX6_takeOperand_108 : decode cX6_takeOperand 108 = .ok (.iconst 0, 1) := by decide +kernel
theorem dX6_takeOperand_109 : decode cX6_takeOperand 109 = .ok (.invokevirtual 137, 3) := by decide +kernel
theorem dX6_takeOperand_112 : decode cX6_takeOperand 112 = .ok (.istore 4, 2) := by decide +kernel
theorem dX6_takeOperand_114 : decode cX6_takeOperand 114 = .ok (.iload 4, 2) := by decide +kernel
theorem dX6_takeOperand_116 : decode cX6_takeOperand 116 = .ok (.ifCond .le 22, 3) := by decide +kernel
theorem dX6_takeOperand_119 : decode cX6_takeOperand 119 = .ok (.aload_n 0, 1) := by decide +kernel
theorem dX6_takeOperand_120 : decode cX6_takeOperand 120 = .ok (.iconst 3, 1) := by decide +kernel
theorem dX6_takeOperand_121 : decode cX6_takeOperand 121 = .ok (.iload_n 2, 1) := by decide +kernel
theorem dX6_takeOperand_122 : decode cX6_takeOperand 122 = .ok (.iconst 0, 1) := by decide +kernel
theorem dX6_takeOperand_123 : decode cX6_takeOperand 123 = .ok (.iload 4, 2) := by decide +kernel
theorem dX6_takeOperand_125 : decode cX6_takeOperand 125 = .ok (.iconst 1, 1) := by decide +kernel
theorem dX6_takeOperand_126 : decode cX6_takeOperand 126 = .ok (.iadd, 1) := by decide +kernel
theorem dX6_takeOperand_127 : decode cX6_takeOperand 127 = .ok (.iconst 0, 1) := by decide +kernel
theorem dX6_takeOperand_128 : decode cX6_takeOperand 128 = .ok (.invokevirtual 133, 3) := by decide +kernel
theorem dX6_takeOperand_131 : decode cX6_takeOperand 131 = .ok (.ifCond .eq 7, 3) := by decide +kernel
theorem dX6_takeOperand_134 : decode cX6_takeOperand 134 = .ok (.iconst 1, 1) := by decide +kernel
theorem dX6_takeOperand_135 : decode cX6_takeOperand 135 = .ok (.goto 4, 3) := by decide +kernel
theorem dX6_takeOperand_138 : decode cX6_takeOperand 138 = .ok (.iconst 0, 1) := by decide +kernel
theorem dX6_takeOperand_139 : decode cX6_takeOperand 139 = .ok (.ireturn, 1) := by decide +kernel
theorem dX6_takeOperand_140 : decode cX6_takeOperand 140 = .ok (.iconst 0, 1) := by decide +kernel
theorem dX6_takeOperand_141 : decode cX6_takeOperand 141 = .ok (.ireturn, 1) := by decide +kernel
theorem dX6_addLeaf_0 : decode cX6_addLeaf 0 = .ok (.aload_n 0, 1) := by decide +kernel
theorem dX6_addLeaf_1 : decode cX6_addLeaf 1 = .ok (.iconst 0, 1) := by decide +kernel
theorem dX6_addLeaf_2 : decode cX6_addLeaf 2 = .ok (.putfield 101, 3) := by decide +kernel
theorem dX6_addLeaf_5 : decode cX6_addLeaf 5 = .ok (.aload_n 0, 1) := by decide +kernel
theorem dX6_addLeaf_6 : decode cX6_addLeaf 6 = .ok (.iconst 0, 1) := by decide +kernel
theorem dX6_addLeaf_7 : decode cX6_addLeaf 7 = .ok (.invokevirtual 140, 3) := by decide +kernel
theorem dX6_addLeaf_10 : decode cX6_addLeaf 10 = .ok (.ifCond .eq 21, 3) := by decide +kernel
theorem dX6_addLeaf_13 : decode cX6_addLeaf 13 = .ok (.aload_n 0, 1) := by decide +kernel
theorem dX6_addLeaf_14 : decode cX6_addLeaf 14 = .ok (.getfield 46, 3) := by decide +kernel
theorem dX6_addLeaf_17 : decode cX6_addLeaf 17 = .ok (.iload_n 1, 1) := by decide +kernel
theorem dX6_addLeaf_18 : decode cX6_addLeaf 18 = .ok (.iload_n 2, 1) := by decide +kernel
theorem dX6_addLeaf_19 : decode cX6_addLeaf 19 = .ok (.iconst (-1), 1) := by decide +kernel
theorem dX6_addLeaf_20 : decode cX6_addLeaf 20 = .ok (.iconst 0, 1) := by decide +kernel
theorem dX6_addLeaf_21 : decode cX6_addLeaf 21 = .ok (.invokevirtual 143, 3) := by decide +kernel
theorem dX6_addLeaf_24 : decode cX6_addLeaf 24 = .ok (.ifCond .eq 7, 3) := by decide +kernel
theorem dX6_addLeaf_27 : decode cX6_addLeaf 27 = .ok (.iconst 1, 1) := by decide +kernel
theorem dX6_addLeaf_28 : decode cX6_addLeaf 28 = .ok (.goto 4, 3) := by decide +kernel
theorem dX6_addLeaf_31 : decode cX6_addLeaf 31 = .ok (.iconst 0, 1) := by decide +kernel
theorem dX6_addLeaf_32 : decode cX6_addLeaf 32 = .ok (.ireturn, 1) := by decide +kernel
theorem dX6_pushOperand_0 : decode cX6_pushOperand 0 = .ok (.aload_n 0, 1) := by decide +kernel
theorem dX6_pushOperand_1 : decode cX6_pushOperand 1 = .ok (.getfield 98, 3) := by decide +kernel
theorem dX6_pushOperand_4 : decode cX6_pushOperand 4 = .ok (.sipush 300, 3) := by decide +kernel
theorem dX6_pushOperand_7 : decode cX6_pushOperand 7 = .ok (.if_icmp .lt 5, 3) := by decide +kernel
theorem dX6_pushOperand_10 : decode cX6_pushOperand 10 = .ok (.iconst 0, 1) := by decide +kernel
theorem dX6_pushOperand_11 : decode cX6_pushOperand 11 = .ok (.ireturn, 1) := by decide +kernel
theorem dX6_pushOperand_12 : decode cX6_pushOperand 12 = .ok (.aload_n 0, 1) := by decide +kernel
theorem dX6_pushOperand_13 : decode cX6_pushOperand 13 = .ok (.getfield 40, 3) := by decide +kernel
theorem dX6_pushOperand_16 : decode cX6_pushOperand 16 = .ok (.aload_n 0, 1) := by decide +kernel
theorem dX6_pushOperand_17 : decode cX6_pushOperand 17 = .ok (.getfield 98, 3) := by decide +kernel
theorem dX6_pushOperand_20 : decode cX6_pushOperand 20 = .ok (.iload_n 1, 1) := by decide +kernel
theorem dX6_pushOperand_21 : decode cX6_pushOperand 21 = .ok (.iastore, 1) := by decide +kernel
theorem dX6_pushOperand_22 : decode cX6_pushOperand 22 = .ok (.aload_n 0, 1) := by decide +kernel
theorem dX6_pushOperand_23 : decode cX6_pushOperand 23 = .ok (.dup, 1) := by decide +kernel
theorem dX6_pushOperand_24 : decode cX6_pushOperand 24 = .ok (.getfield 98, 3) := by decide +kernel
theorem dX6_pushOperand_27 : decode cX6_pushOperand 27 = .ok (.iconst 1, 1) := by decide +kernel
theorem dX6_pushOperand_28 : decode cX6_pushOperand 28 = .ok (.iadd, 1) := by decide +kernel
theorem dX6_pushOperand_29 : decode cX6_pushOperand 29 = .ok (.putfield 98, 3) := by decide +kernel
theorem dX6_pushOperand_32 : decode cX6_pushOperand 32 = .ok (.iconst 1, 1) := by decide +kernel
theorem dX6_pushOperand_33 : decode cX6_pushOperand 33 = .ok (.ireturn, 1) := by decide +kernel
theorem dX6_hold_0 : decode cX6_hold 0 = .ok (.aload_n 0, 1) := by decide +kernel
theorem dX6_hold_1 : decode cX6_hold 1 = .ok (.getfield 95, 3) := by decide +kernel
theorem dX6_hold_4 : decode cX6_hold 4 = .ok (.sipush 300, 3) := by decide +kernel
theorem dX6_hold_7 : decode cX6_hold 7 = .ok (.if_icmp .lt 5, 3) := by decide +kernel
theorem dX6_hold_10 : decode cX6_hold 10 = .ok (.iconst 0, 1) := by decide +kernel
theorem dX6_hold_11 : decode cX6_hold 11 = .ok (.ireturn, 1) := by decide +kernel
theorem dX6_hold_12 : decode cX6_hold 12 = .ok (.aload_n 0, 1) := by decide +kernel
theorem dX6_hold_13 : decode cX6_hold 13 = .ok (.getfield 25, 3) := by decide +kernel
theorem dX6_hold_16 : decode cX6_hold 16 = .ok (.aload_n 0, 1) := by decide +kernel
theorem dX6_hold_17 : decode cX6_hold 17 = .ok (.getfield 95, 3) := by decide +kernel
theorem dX6_hold_20 : decode cX6_hold 20 = .ok (.iload_n 1, 1) := by decide +kernel
theorem dX6_hold_21 : decode cX6_hold 21 = .ok (.iastore, 1) := by decide +kernel
theorem dX6_hold_22 : decode cX6_hold 22 = .ok (.aload_n 0, 1) := by decide +kernel
theorem dX6_hold_23 : decode cX6_hold 23 = .ok (.getfield 28, 3) := by decide +kernel
theorem dX6_hold_26 : decode cX6_hold 26 = .ok (.aload_n 0, 1) := by decide +kernel
theorem dX6_hold_27 : decode cX6_hold 27 = .ok (.getfield 95, 3) := by decide +kernel
theorem dX6_hold_30 : decode cX6_hold 30 = .ok (.iload_n 2, 1) := by decide +kernel
theorem dX6_hold_31 : decode cX6_hold 31 = .ok (.iastore, 1) := by decide +kernel
theorem dX6_hold_32 : decode cX6_hold 32 = .ok (.aload_n 0, 1) := by decide +kernel
theorem dX6_hold_33 : decode cX6_hold 33 = .ok (.getfield 31, 3) := by decide +kernel
theorem dX6_hold_36 : decode cX6_hold 36 = .ok (.aload_n 0, 1) := by decide +kernel
theorem dX6_hold_37 : decode cX6_hold 37 = .ok (.getfield 95, 3) := by decide +kernel
theorem dX6_hold_40 : decode cX6_hold 40 = .ok (.iload_n 3, 1) := by decide +kernel
theorem dX6_hold_41 : decode cX6_hold 41 = .ok (.iastore, 1) := by decide +kernel
theorem dX6_hold_42 : decode cX6_hold 42 = .ok (.aload_n 0, 1) := by decide +kernel
theorem dX6_hold_43 : decode cX6_hold 43 = .ok (.getfield 34, 3) := by decide +kernel
theorem dX6_hold_46 : decode cX6_hold 46 = .ok (.aload_n 0, 1) := by decide +kernel
theorem dX6_hold_47 : decode cX6_hold 47 = .ok (.getfield 95, 3) := by decide +kernel
theorem dX6_hold_50 : decode cX6_hold 50 = .ok (.iload 4, 2) := by decide +kernel
theorem dX6_hold_52 : decode cX6_hold 52 = .ok (.iastore, 1) := by decide +kernel
theorem dX6_hold_53 : decode cX6_hold 53 = .ok (.aload_n 0, 1) := by decide +kernel
theorem dX6_hold_54 : decode cX6_hold 54 = .ok (.getfield 37, 3) := by decide +kernel
theorem dX6_hold_57 : decode cX6_hold 57 = .ok (.aload_n 0, 1) := by decide +kernel
theorem dX6_hold_58 : decode cX6_hold 58 = .ok (.getfield 95, 3) := by decide +kernel
theorem dX6_hold_61 : decode cX6_hold 61 = .ok (.iload 5, 2) := by decide +kernel
theorem dX6_hold_63 : decode cX6_hold 63 = .ok (.iastore, 1) := by decide +kernel
theorem dX6_hold_64 : decode cX6_hold 64 = .ok (.aload_n 0, 1) := by decide +kernel
theorem dX6_hold_65 : decode cX6_hold 65 = .ok (.dup, 1) := by decide +kernel
theorem dX6_hold_66 : decode cX6_hold 66 = .ok (.getfield 95, 3) := by decide +kernel
theorem dX6_hold_69 : decode cX6_hold 69 = .ok (.iconst 1, 1) := by decide +kernel
theorem dX6_hold_70 : decode cX6_hold 70 = .ok (.iadd, 1) := by decide +kernel
theorem dX6_hold_71 : decode cX6_hold 71 = .ok (.putfield 95, 3) := by decide +kernel
theorem dX6_hold_74 : decode cX6_hold 74 = .ok (.iconst 1, 1) := by decide +kernel
theorem dX6_hold_75 : decode cX6_hold 75 = .ok (.ireturn, 1) := by decide +kernel
theorem dX6_takeSign_0 : decode cX6_takeSign 0 = .ok (.aload_n 0, 1) := by decide +kernel
theorem dX6_takeSign_1 : decode cX6_takeSign 1 = .ok (.getfield 50, 3) := by decide +kernel
theorem dX6_takeSign_4 : decode cX6_takeSign 4 = .ok (.iload_n 1, 1) := by decide +kernel
theorem dX6_takeSign_5 : decode cX6_takeSign 5 = .ok (.iconst 1, 1) := by decide +kernel
theorem dX6_takeSign_6 : decode cX6_takeSign 6 = .ok (.invokevirtual 137, 3) := by decide +kernel
theorem dX6_takeSign_9 : decode cX6_takeSign 9 = .ok (.ifCond .le 7, 3) := by decide +kernel
theorem dX6_takeSign_12 : decode cX6_takeSign 12 = .ok (.iconst 1, 1) := by decide +kernel
theorem dX6_takeSign_13 : decode cX6_takeSign 13 = .ok (.goto 4, 3) := by decide +kernel
theorem dX6_takeSign_16 : decode cX6_takeSign 16 = .ok (.iconst 2, 1) := by decide +kernel
theorem dX6_takeSign_17 : decode cX6_takeSign 17 = .ok (.istore_n 2, 1) := by decide +kernel
theorem dX6_takeSign_18 : decode cX6_takeSign 18 = .ok (.aload_n 0, 1) := by decide +kernel
theorem dX6_takeSign_19 : decode cX6_takeSign 19 = .ok (.getfield 50, 3) := by decide +kernel
theorem dX6_takeSign_22 : decode cX6_takeSign 22 = .ok (.iload_n 1, 1) := by decide +kernel
theorem dX6_takeSign_23 : decode cX6_takeSign 23 = .ok (.iload_n 2, 1) := by decide +kernel
theorem dX6_takeSign_24 : decode cX6_takeSign 24 = .ok (.invokevirtual 137, 3) := by decide +kernel
theorem dX6_takeSign_27 : decode cX6_takeSign 27 = .ok (.istore_n 3, 1) := by decide +kernel
theorem dX6_takeSign_28 : decode cX6_takeSign 28 = .ok (.iload_n 3, 1) := by decide +kernel
theorem dX6_takeSign_29 : decode cX6_takeSign 29 = .ok (.ifCond .ne 5, 3) := by decide +kernel
theorem dX6_takeSign_32 : decode cX6_takeSign 32 = .ok (.iconst 0, 1) := by decide +kernel
theorem dX6_takeSign_33 : decode cX6_takeSign 33 = .ok (.ireturn, 1) := by decide +kernel
theorem dX6_takeSign_34 : decode cX6_takeSign 34 = .ok (.aload_n 0, 1) := by decide +kernel
theorem dX6_takeSign_35 : decode cX6_takeSign 35 = .ok (.iload_n 3, 1) := by decide +kernel
theorem dX6_takeSign_36 : decode cX6_takeSign 36 = .ok (.invokevirtual 121, 3) := by decide +kernel
theorem dX6_takeSign_39 : decode cX6_takeSign 39 = .ok (.aload_n 0, 1) := by decide +kernel
theorem dX6_takeSign_40 : decode cX6_takeSign 40 = .ok (.getfield 98, 3) := by decide +kernel
theorem dX6_takeSign_43 : decode cX6_takeSign 43 = .ok (.iconst 1, 1) := by decide +kernel
theorem dX6_takeSign_44 : decode cX6_takeSign 44 = .ok (.isub, 1) := by decide +kernel
theorem dX6_takeSign_45 : decode cX6_takeSign 45 = .ok (.istore 4, 2) := by decide +kernel
theorem dX6_takeSign_47 : decode cX6_takeSign 47 = .ok (.iload 4, 2) := by decide +kernel
theorem dX6_takeSign_49 : decode cX6_takeSign 49 = .ok (.ifCond .ge 5, 3) := by decide +kernel
theorem dX6_takeSign_52 : decode cX6_takeSign 52 = .ok (.iconst 0, 1) := by decide +kernel
theorem dX6_takeSign_53 : decode cX6_takeSign 53 = .ok (.ireturn, 1) := by decide +kernel
theorem dX6_takeSign_54 : decode cX6_takeSign 54 = .ok (.iload_n 2, 1) := by decide +kernel
theorem dX6_takeSign_55 : decode cX6_takeSign 55 = .ok (.iconst 1, 1) := by decide +kernel
theorem dX6_takeSign_56 : decode cX6_takeSign 56 = .ok (.if_icmp .ne 23, 3) := by decide +kernel
theorem dX6_takeSign_59 : decode cX6_takeSign 59 = .ok (.aload_n 0, 1) := by decide +kernel
theorem dX6_takeSign_60 : decode cX6_takeSign 60 = .ok (.getfield 40, 3) := by decide +kernel
theorem dX6_takeSign_63 : decode cX6_takeSign 63 = .ok (.iload 4, 2) := by decide +kernel
theorem dX6_takeSign_65 : decode cX6_takeSign 65 = .ok (.iconst 0, 1) := by decide +kernel
theorem dX6_takeSign_66 : decode cX6_takeSign 66 = .ok (.iastore, 1) := by decide +kernel
theorem dX6_takeSign_67 : decode cX6_takeSign 67 = .ok (.aload_n 0, 1) := by decide +kernel
theorem dX6_takeSign_68 : decode cX6_takeSign 68 = .ok (.getfield 46, 3) := by decide +kernel
theorem dX6_takeSign_71 : decode cX6_takeSign 71 = .ok (.iconst 3, 1) := by decide +kernel
theorem dX6_takeSign_72 : decode cX6_takeSign 72 = .ok (.iload_n 1, 1) := by decide +kernel
theorem dX6_takeSign_73 : decode cX6_takeSign 73 = .ok (.iconst 1, 1) := by decide +kernel
theorem dX6_takeSign_74 : decode cX6_takeSign 74 = .ok (.iconst 1, 1) := by decide +kernel
theorem dX6_takeSign_75 : decode cX6_takeSign 75 = .ok (.invokevirtual 143, 3) := by decide +kernel
theorem dX6_takeSign_78 : decode cX6_takeSign 78 = .ok (.ireturn, 1) := by decide +kernel
theorem dX6_takeSign_79 : decode cX6_takeSign 79 = .ok (.aload_n 0, 1) := by decide +kernel
theorem dX6_takeSign_80 : decode cX6_takeSign 80 = .ok (.getfield 40, 3) := by decide +kernel
theorem dX6_takeSign_83 : decode cX6_takeSign 83 = .ok (.iload 4, 2) := by decide +kernel
theorem dX6_takeSign_85 : decode cX6_takeSign 85 = .ok (.iaload, 1) := by decide +kernel
theorem dX6_takeSign_86 : decode cX6_takeSign 86 = .ok (.iload_n 3, 1) := by decide +kernel
theorem dX6_takeSign_87 : decode cX6_takeSign 87 = .ok (.if_icmp .ne 5, 3) := by decide +kernel
theorem dX6_takeSign_90 : decode cX6_takeSign 90 = .ok (.iconst 0, 1) := by decide +kernel
theorem dX6_takeSign_91 : decode cX6_takeSign 91 = .ok (.ireturn, 1) := by decide +kernel
theorem dX6_takeSign_92 : decode cX6_takeSign 92 = .ok (.aload_n 0, 1) := by decide +kernel
theorem dX6_takeSign_93 : decode cX6_takeSign 93 = .ok (.getfield 50, 3) := by decide +kernel
theorem dX6_takeSign_96 : decode cX6_takeSign 96 = .ok (.iload_n 1, 1) := by decide +kernel
theorem dX6_takeSign_97 : decode cX6_takeSign 97 = .ok (.iconst 2, 1) := by decide +kernel
theorem dX6_takeSign_98 : decode cX6_takeSign 98 = .ok (.invokevirtual 147, 3) := by decide +kernel
theorem dX6_takeSign_101 : decode cX6_takeSign 101 = .ok (.istore 5, 2) := by decide +kernel
theorem dX6_takeSign_103 : decode cX6_takeSign 103 = .ok (.aload_n 0, 1) := by decide +kernel
theorem dX6_takeSign_104 : decode cX6_takeSign 104 = .ok (.iconst 1, 1) := by decide +kernel
theorem dX6_takeSign_105 : decode cX6_takeSign 105 = .ok (.putfield 101, 3) := by decide +kernel
theorem dX6_takeSign_108 : decode cX6_takeSign 108 = .ok (.aload_n 0, 1) := by decide +kernel
theorem dX6_takeSign_109 : decode cX6_takeSign 109 = .ok (.iconst 3, 1) := by decide +kernel
theorem dX6_takeSign_110 : decode cX6_takeSign 110 = .ok (.iload_n 1, 1) := by decide +kernel
theorem dX6_takeSign_111 : decode cX6_takeSign 111 = .ok (.iconst 2, 1) := by decide +kernel
theorem dX6_takeSign_112 : decode cX6_takeSign 112 = .ok (.iload 5, 2) := by decide +kernel
theorem dX6_takeSign_114 : decode cX6_takeSign 114 = .ok (.iconst 1, 1) := by decide +kernel
theorem dX6_takeSign_115 : decode cX6_takeSign 115 = .ok (.if_icmp .ne 7, 3) := by decide +kernel
theorem dX6_takeSign_118 : decode cX6_takeSign 118 = .ok (.iload_n 3, 1) := by decide +kernel
theorem dX6_takeSign_119 : decode cX6_takeSign 119 = .ok (.goto 6, 3) := by decide +kernel
theorem dX6_takeSign_122 : decode cX6_takeSign 122 = .ok (.iload_n 3, 1) := by decide +kernel
theorem dX6_takeSign_123 : decode cX6_takeSign 123 = .ok (.iconst 1, 1) := by decide +kernel
theorem dX6_takeSign_124 : decode cX6_takeSign 124 = .ok (.iadd, 1) := by decide +kernel
theorem dX6_takeSign_125 : decode cX6_takeSign 125 = .ok (.iload 5, 2) := by decide +kernel
theorem dX6_takeSign_127 : decode cX6_takeSign 127 = .ok (.iconst 2, 1) := by decide +kernel
theorem dX6_takeSign_128 : decode cX6_takeSign 128 = .ok (.if_icmp .ne 7, 3) := by decide +kernel
theorem dX6_takeSign_131 : decode cX6_takeSign 131 = .ok (.iload_n 3, 1) := by decide +kernel
theorem dX6_takeSign_132 : decode cX6_takeSign 132 = .ok (.goto 4, 3) := by decide +kernel
theorem dX6_takeSign_135 : decode cX6_takeSign 135 = .ok (.iconst 0, 1) := by decide +kernel
theorem dX6_takeSign_136 : decode cX6_takeSign 136 = .ok (.invokevirtual 133, 3) := by decide +kernel
theorem dX6_takeSign_139 : decode cX6_takeSign 139 = .ok (.ireturn, 1) := by decide +kernel
theorem dX6_takeClosing_0 : decode cX6_takeClosing 0 = .ok (.iload_n 1, 1) := by decide +kernel
theorem dX6_takeClosing_1 : decode cX6_takeClosing 1 = .ok (.iconst 5, 1) := by decide +kernel
theorem dX6_takeClosing_2 : decode cX6_takeClosing 2 = .ok (.if_icmp .eq 11, 3) := by decide +kernel
theorem dX6_takeClosing_5 : decode cX6_takeClosing 5 = .ok (.iload_n 1, 1) := by decide +kernel
theorem dX6_takeClosing_6 : decode cX6_takeClosing 6 = .ok (.bipush 6, 2) := by decide +kernel
theorem dX6_takeClosing_8 : decode cX6_takeClosing 8 = .ok (.if_icmp .eq 5, 3) := by decide +kernel
theorem dX6_takeClosing_11 : decode cX6_takeClosing 11 = .ok (.iconst 0, 1) := by decide +kernel
theorem dX6_takeClosing_12 : decode cX6_takeClosing 12 = .ok (.ireturn, 1) := by decide +kernel
theorem dX6_takeClosing_13 : decode cX6_takeClosing 13 = .ok (.aload_n 0, 1) := by decide +kernel
theorem dX6_takeClosing_14 : decode cX6_takeClosing 14 = .ok (.iconst 0, 1) := by decide +kernel
theorem dX6_takeClosing_15 : decode cX6_takeClosing 15 = .ok (.invokevirtual 121, 3) := by decide +kernel
theorem dX6_takeClosing_18 : decode cX6_takeClosing 18 = .ok (.aload_n 0, 1) := by decide +kernel
theorem dX6_takeClosing_19 : decode cX6_takeClosing 19 = .ok (.getfield 95, 3) := by decide +kernel
theorem dX6_takeClosing_22 : decode cX6_takeClosing 22 = .ok (.iconst 1, 1) := by decide +kernel
theorem dX6_takeClosing_23 : decode cX6_takeClosing 23 = .ok (.isub, 1) := by decide +kernel
theorem dX6_takeClosing_24 : decode cX6_takeClosing 24 = .ok (.istore_n 2, 1) := by decide +kernel
theorem dX6_takeClosing_25 : decode cX6_takeClosing 25 = .ok (.iload_n 2, 1) := by decide +kernel
theorem dX6_takeClosing_26 : decode cX6_takeClosing 26 = .ok (.ifCond .ge 5, 3) := by decide +kernel
theorem dX6_takeClosing_29 : decode cX6_takeClosing 29 = .ok (.iconst 0, 1) := by decide +kernel
theorem dX6_takeClosing_30 : decode cX6_takeClosing 30 = .ok (.ireturn, 1) := by decide +kernel
theorem dX6_takeClosing_31 : decode cX6_takeClosing 31 = .ok (.aload_n 0, 1) := by decide +kernel
theorem dX6_takeClosing_32 : decode cX6_takeClosing 32 = .ok (.getfield 25, 3) := by decide +kernel
theorem dX6_takeClosing_35 : decode cX6_takeClosing 35 = .ok (.iload_n 2, 1) := by decide +kernel
theorem dX6_takeClosing_36 : decode cX6_takeClosing 36 = .ok (.iaload, 1) := by decide +kernel
theorem dX6_takeClosing_37 : decode cX6_takeClosing 37 = .ok (.iconst 2, 1) := by decide +kernel
theorem dX6_takeClosing_38 : decode cX6_takeClosing 38 = .ok (.if_icmp .ne 7, 3) := by decide +kernel
theorem dX6_takeClosing_41 : decode cX6_takeClosing 41 = .ok (.iconst 1, 1) := by decide +kernel
theorem dX6_takeClosing_42 : decode cX6_takeClosing 42 = .ok (.goto 4, 3) := by decide +kernel
theorem dX6_takeClosing_45 : decode cX6_takeClosing 45 = .ok (.iconst 0, 1) := by decide +kernel
theorem dX6_takeClosing_46 : decode cX6_takeClosing 46 = .ok (.istore_n 3, 1) := by decide +kernel
theorem dX6_takeClosing_47 : decode cX6_takeClosing 47 = .ok (.iload_n 1, 1) := by decide +kernel
theorem dX6_takeClosing_48 : decode cX6_takeClosing 48 = .ok (.bipush 6, 2) := by decide +kernel
theorem dX6_takeClosing_50 : decode cX6_takeClosing 50 = .ok (.if_icmp .ne 36, 3) := by decide +kernel
theorem dX6_takeClosing_53 : decode cX6_takeClosing 53 = .ok (.iload_n 3, 1) := by decide +kernel
theorem dX6_takeClosing_54 : decode cX6_takeClosing 54 = .ok (.ifCond .eq 13, 3) := by decide +kernel
theorem dX6_takeClosing_57 : decode cX6_takeClosing 57 = .ok (.aload_n 0, 1) := by decide +kernel
theorem dX6_takeClosing_58 : decode cX6_takeClosing 58 = .ok (.getfield 37, 3) := by decide +kernel
theorem dX6_takeClosing_61 : decode cX6_takeClosing 61 = .ok (.iload_n 2, 1) := by decide +kernel
theorem dX6_takeClosing_62 : decode cX6_takeClosing 62 = .ok (.iaload, 1) := by decide +kernel
theorem dX6_takeClosing_63 : decode cX6_takeClosing 63 = .ok (.iconst 4, 1) := by decide +kernel
theorem dX6_takeClosing_64 : decode cX6_takeClosing 64 = .ok (.if_icmp .lt 5, 3) := by decide +kernel
theorem dX6_takeClosing_67 : decode cX6_takeClosing 67 = .ok (.iconst 0, 1) := by decide +kernel
theorem dX6_takeClosing_68 : decode cX6_takeClosing 68 = .ok (.ireturn, 1) := by decide +kernel
theorem dX6_takeClosing_69 : decode cX6_takeClosing 69 = .ok (.aload_n 0, 1) := by decide +kernel
theorem dX6_takeClosing_70 : decode cX6_takeClosing 70 = .ok (.getfield 37, 3) := by decide +kernel
theorem dX6_takeClosing_73 : decode cX6_takeClosing 73 = .ok (.iload_n 2, 1) := by decide +kernel
theorem dX6_takeClosing_74 : decode cX6_takeClosing 74 = .ok (.dup2, 1) := by decide +kernel
theorem dX6_takeClosing_75 : decode cX6_takeClosing 75 = .ok (.iaload, 1) := by decide +kernel
theorem dX6_takeClosing_76 : decode cX6_takeClosing 76 = .ok (.iconst 1, 1) := by decide +kernel
theorem dX6_takeClosing_77 : decode cX6_takeClosing 77 = .ok (.iadd, 1) := by decide +kernel
theorem dX6_takeClosing_78 : decode cX6_takeClosing 78 = .ok (.iastore, 1) := by decide +kernel
theorem dX6_takeClosing_79 : decode cX6_takeClosing 79 = .ok (.aload_n 0, 1) := by decide +kernel
theorem dX6_takeClosing_80 : decode cX6_takeClosing 80 = .ok (.iconst 1, 1) := by decide +kernel
theorem dX6_takeClosing_81 : decode cX6_takeClosing 81 = .ok (.putfield 101, 3) := by decide +kernel
theorem dX6_takeClosing_84 : decode cX6_takeClosing 84 = .ok (.iconst 1, 1) := by decide +kernel
theorem dX6_takeClosing_85 : decode cX6_takeClosing 85 = .ok (.ireturn, 1) := by decide +kernel
theorem dX6_takeClosing_86 : decode cX6_takeClosing 86 = .ok (.aload_n 0, 1) := by decide +kernel
theorem dX6_takeClosing_87 : decode cX6_takeClosing 87 = .ok (.iload_n 2, 1) := by decide +kernel
theorem dX6_takeClosing_88 : decode cX6_takeClosing 88 = .ok (.putfield 95, 3) := by decide +kernel
theorem dX6_takeClosing_91 : decode cX6_takeClosing 91 = .ok (.iload_n 3, 1) := by decide +kernel
theorem dX6_takeClosing_92 : decode cX6_takeClosing 92 = .ok (.ifCond .eq 60, 3) := by decide +kernel
theorem dX6_takeClosing_95 : decode cX6_takeClosing 95 = .ok (.aload_n 0, 1) := by decide +kernel
theorem dX6_takeClosing_96 : decode cX6_takeClosing 96 = .ok (.aload_n 0, 1) := by decide +kernel
theorem dX6_takeClosing_97 : decode cX6_takeClosing 97 = .ok (.getfield 98, 3) := by decide +kernel
theorem dX6_takeClosing_100 : decode cX6_takeClosing 100 = .ok (.aload_n 0, 1) := by decide +kernel
theorem dX6_takeClosing_101 : decode cX6_takeClosing 101 = .ok (.getfield 37, 3) := by decide +kernel
theorem dX6_takeClosing_104 : decode cX6_takeClosing 104 = .ok (.iload_n 2, 1) := by decide +kernel
theorem dX6_takeClosing_105 : decode cX6_takeClosing 105 = .ok (.iaload, 1) := by decide +kernel
theorem dX6_takeClosing_106 : decode cX6_takeClosing 106 = .ok (.isub, 1) := by decide +kernel
theorem dX6_takeClosing_107 : decode cX6_takeClosing 107 = .ok (.iconst 0, 1) := by decide +kernel
theorem dX6_takeClosing_108 : decode cX6_takeClosing 108 = .ok (.invokestatic 150, 3) := by decide +kernel
theorem dX6_takeClosing_111 : decode cX6_takeClosing 111 = .ok (.putfield 98, 3) := by decide +kernel
theorem dX6_takeClosing_114 : decode cX6_takeClosing 114 = .ok (.aload_n 0, 1) := by decide +kernel
theorem dX6_takeClosing_115 : decode cX6_takeClosing 115 = .ok (.iconst 0, 1) := by decide +kernel
theorem dX6_takeClosing_116 : decode cX6_takeClosing 116 = .ok (.invokevirtual 140, 3) := by decide +kernel
theorem dX6_takeClosing_119 : decode cX6_takeClosing 119 = .ok (.ifCond .eq 31, 3) := by decide +kernel
theorem dX6_takeClosing_122 : decode cX6_takeClosing 122 = .ok (.aload_n 0, 1) := by decide +kernel
theorem dX6_takeClosing_123 : decode cX6_takeClosing 123 = .ok (.getfield 46, 3) := by decide +kernel
theorem dX6_takeClosing_126 : decode cX6_takeClosing 126 = .ok (.iconst 2, 1) := by decide +kernel
theorem dX6_takeClosing_127 : decode cX6_takeClosing 127 = .ok (.aload_n 0, 1) := by decide +kernel
theorem dX6_takeClosing_128 : decode cX6_takeClosing 128 = .ok (.getfield 28, 3) := by decide +kernel
theorem dX6_takeClosing_131 : decode cX6_takeClosing 131 = .ok (.iload_n 2, 1) := by decide +kernel
theorem dX6_takeClosing_132 : decode cX6_takeClosing 132 = .ok (.iaload, 1) := by decide +kernel
theorem dX6_takeClosing_133 : decode cX6_takeClosing 133 = .ok (.iconst (-1), 1) := by decide +kernel
theorem dX6_takeClosing_134 : decode cX6_takeClosing 134 = .ok (.aload_n 0, 1) := by decide +kernel
theorem dX6_takeClosing_135 : decode cX6_takeClosing 135 = .ok (.getfield 37, 3) := by decide +kernel
theorem dX6_takeClosing_138 : decode cX6_takeClosing 138 = .ok (.iload_n 2, 1) := by decide +kernel
theorem dX6_takeClosing_139 : decode cX6_takeClosing 139 = .ok (.iaload, 1) := by decide +kernel
theorem dX6_takeClosing_140 : decode cX6_takeClosing 140 = .ok (.invokevirtual 143, 3) := by decide +kernel
theorem dX6_takeClosing_143 : decode cX6_takeClosing 143 = .ok (.ifCond .eq 7, 3) := by decide +kernel
theorem dX6_takeClosing_146 : decode cX6_takeClosing 146 = .ok (.iconst 1, 1) := by decide +kernel
theorem dX6_takeClosing_147 : decode cX6_takeClosing 147 = .ok (.goto 4, 3) := by decide +kernel
theorem dX6_takeClosing_150 : decode cX6_takeClosing 150 = .ok (.iconst 0, 1) := by decide +kernel
theorem dX6_takeClosing_151 : decode cX6_takeClosing 151 = .ok (.ireturn, 1) := by decide +kernel
theorem dX6_takeClosing_152 : decode cX6_takeClosing 152 = .ok (.aload_n 0, 1) := by decide +kernel
theorem dX6_takeClosing_153 : decode cX6_takeClosing 153 = .ok (.aload_n 0, 1) := by decide +kernel
theorem dX6_takeClosing_154 : decode cX6_takeClosing 154 = .ok (.getfield 98, 3) := by decide +kernel
theorem dX6_takeClosing_157 : decode cX6_takeClosing 157 = .ok (.iconst 1, 1) := by decide +kernel
theorem dX6_takeClosing_158 : decode cX6_takeClosing 158 = .ok (.isub, 1) := by decide +kernel
theorem dX6_takeClosing_159 : decode cX6_takeClosing 159 = .ok (.iconst 0, 1) := by decide +kernel
theorem dX6_takeClosing_160 : decode cX6_takeClosing 160 = .ok (.invokestatic 150, 3) := by decide +kernel
theorem dX6_takeClosing_163 : decode cX6_takeClosing 163 = .ok (.putfield 98, 3) := by decide +kernel
theorem dX6_takeClosing_166 : decode cX6_takeClosing 166 = .ok (.aload_n 0, 1) := by decide +kernel
theorem dX6_takeClosing_167 : decode cX6_takeClosing 167 = .ok (.iconst 0, 1) := by decide +kernel
theorem dX6_takeClosing_168 : decode cX6_takeClosing 168 = .ok (.invokevirtual 140, 3) := by decide +kernel
theorem dX6_takeClosing_171 : decode cX6_takeClosing 171 = .ok (.ireturn, 1) := by decide +kernel
theorem dX6_reduce_0 : decode cX6_reduce 0 = .ok (.aload_n 0, 1) := by decide +kernel
theorem dX6_reduce_1 : decode cX6_reduce 1 = .ok (.getfield 95, 3) := by decide +kernel
theorem dX6_reduce_4 : decode cX6_reduce 4 = .ok (.iconst 1, 1) := by decide +kernel
theorem dX6_reduce_5 : decode cX6_reduce 5 = .ok (.isub, 1) := by decide +kernel
theorem dX6_reduce_6 : decode cX6_reduce 6 = .ok (.istore_n 2, 1) := by decide +kernel
theorem dX6_reduce_7 : decode cX6_reduce 7 = .ok (.iload_n 2, 1) := by decide +kernel
theorem dX6_reduce_8 : decode cX6_reduce 8 = .ok (.ifCond .lt 87, 3) := by decide +kernel
theorem dX6_reduce_11 : decode cX6_reduce 11 = .ok (.aload_n 0, 1) := by decide +kernel
theorem dX6_reduce_12 : decode cX6_reduce 12 = .ok (.getfield 34, 3) := by decide +kernel
theorem dX6_reduce_15 : decode cX6_reduce 15 = .ok (.iload_n 2, 1) := by decide +kernel
theorem dX6_reduce_16 : decode cX6_reduce 16 = .ok (.iaload, 1) := by decide +kernel
theorem dX6_reduce_17 : decode cX6_reduce 17 = .ok (.iload_n 1, 1) := by decide +kernel
theorem dX6_reduce_18 : decode cX6_reduce 18 = .ok (.if_icmp .le 77, 3) := by decide +kernel
theorem dX6_reduce_21 : decode cX6_reduce 21 = .ok (.aload_n 0, 1) := by decide +kernel
theorem dX6_reduce_22 : decode cX6_reduce 22 = .ok (.getfield 31, 3) := by decide +kernel
theorem dX6_reduce_25 : decode cX6_reduce 25 = .ok (.iload_n 2, 1) := by decide +kernel
theorem dX6_reduce_26 : decode cX6_reduce 26 = .ok (.iaload, 1) := by decide +kernel
theorem dX6_reduce_27 : decode cX6_reduce 27 = .ok (.iconst 2, 1) := by decide +kernel
theorem dX6_reduce_28 : decode cX6_reduce 28 = .ok (.if_icmp .ne 7, 3) := by decide +kernel
theorem dX6_reduce_31 : decode cX6_reduce 31 = .ok (.iconst 2, 1) := by decide +kernel
theorem dX6_reduce_32 : decode cX6_reduce 32 = .ok (.goto 4, 3) := by decide +kernel
theorem dX6_reduce_35 : decode cX6_reduce 35 = .ok (.iconst 1, 1) := by decide +kernel
theorem dX6_reduce_36 : decode cX6_reduce 36 = .ok (.istore_n 3, 1) := by decide +kernel
theorem dX6_reduce_37 : decode cX6_reduce 37 = .ok (.aload_n 0, 1) := by decide +kernel
theorem dX6_reduce_38 : decode cX6_reduce 38 = .ok (.getfield 46, 3) := by decide +kernel
theorem dX6_reduce_41 : decode cX6_reduce 41 = .ok (.iconst 3, 1) := by decide +kernel
theorem dX6_reduce_42 : decode cX6_reduce 42 = .ok (.aload_n 0, 1) := by decide +kernel
theorem dX6_reduce_43 : decode cX6_reduce 43 = .ok (.getfield 28, 3) := by decide +kernel
theorem dX6_reduce_46 : decode cX6_reduce 46 = .ok (.iload_n 2, 1) := by decide +kernel
theorem dX6_reduce_47 : decode cX6_reduce 47 = .ok (.iaload, 1) := by decide +kernel
theorem dX6_reduce_48 : decode cX6_reduce 48 = .ok (.aload_n 0, 1) := by decide +kernel
theorem dX6_reduce_49 : decode cX6_reduce 49 = .ok (.getfield 31, 3) := by decide +kernel
theorem dX6_reduce_52 : decode cX6_reduce 52 = .ok (.iload_n 2, 1) := by decide +kernel
theorem dX6_reduce_53 : decode cX6_reduce 53 = .ok (.iaload, 1) := by decide +kernel
theorem dX6_reduce_54 : decode cX6_reduce 54 = .ok (.iload_n 3, 1) := by decide +kernel
theorem dX6_reduce_55 : decode cX6_reduce 55 = .ok (.invokevirtual 143, 3) := by decide +kernel
theorem dX6_reduce_58 : decode cX6_reduce 58 = .ok (.pop, 1) := by decide +kernel
theorem dX6_reduce_59 : decode cX6_reduce 59 = .ok (.aload_n 0, 1) := by decide +kernel
theorem dX6_reduce_60 : decode cX6_reduce 60 = .ok (.aload_n 0, 1) := by decide +kernel
theorem dX6_reduce_61 : decode cX6_reduce 61 = .ok (.getfield 98, 3) := by decide +kernel
theorem dX6_reduce_64 : decode cX6_reduce 64 = .ok (.iload_n 3, 1) := by decide +kernel
theorem dX6_reduce_65 : decode cX6_reduce 65 = .ok (.isub, 1) := by decide +kernel
theorem dX6_reduce_66 : decode cX6_reduce 66 = .ok (.iconst 0, 1) := by decide +kernel
theorem dX6_reduce_67 : decode cX6_reduce 67 = .ok (.invokestatic 150, 3) := by decide +kernel
theorem dX6_reduce_70 : decode cX6_reduce 70 = .ok (.putfield 98, 3) := by decide +kernel
theorem dX6_reduce_73 : decode cX6_reduce 73 = .ok (.aload_n 0, 1) := by decide +kernel
theorem dX6_reduce_74 : decode cX6_reduce 74 = .ok (.aload_n 0, 1) := by decide +kernel
theorem dX6_reduce_75 : decode cX6_reduce 75 = .ok (.getfield 37, 3) := by decide +kernel
theorem dX6_reduce_78 : decode cX6_reduce 78 = .ok (.iload_n 2, 1) := by decide +kernel
theorem dX6_reduce_79 : decode cX6_reduce 79 = .ok (.iaload, 1) := by decide +kernel
theorem dX6_reduce_80 : decode cX6_reduce 80 = .ok (.invokevirtual 140, 3) := by decide +kernel
theorem dX6_reduce_83 : decode cX6_reduce 83 = .ok (.pop, 1) := by decide +kernel
theorem dX6_reduce_84 : decode cX6_reduce 84 = .ok (.aload_n 0, 1) := by decide +kernel
theorem dX6_reduce_85 : decode cX6_reduce 85 = .ok (.iload_n 2, 1) := by decide +kernel
theorem dX6_reduce_86 : decode cX6_reduce 86 = .ok (.putfield 95, 3) := by decide +kernel
theorem dX6_reduce_89 : decode cX6_reduce 89 = .ok (.iinc 2 (-1), 3) := by decide +kernel
theorem dX6_reduce_92 : decode cX6_reduce 92 = .ok (.goto (-85), 3) := by decide +kernel
theorem dX6_reduce_95 : decode cX6_reduce 95 = .ok (.return_, 1) := by decide +kernel
theorem dX6_stacksGive_0 : decode cX6_stacksGive 0 = .ok (.aload_n 0, 1) := by decide +kernel
theorem dX6_stacksGive_1 : decode cX6_stacksGive 1 = .ok (.invokevirtual 153, 3) := by decide +kernel
theorem dX6_stacksGive_4 : decode cX6_stacksGive 4 = .ok (.iconst (-1), 1) := by decide +kernel
theorem dX6_stacksGive_5 : decode cX6_stacksGive 5 = .ok (.if_icmp .ne 18, 3) := by decide +kernel
theorem dX6_stacksGive_8 : decode cX6_stacksGive 8 = .ok (.aload_n 1, 1) := by decide +kernel
theorem dX6_stacksGive_9 : decode cX6_stacksGive 9 = .ok (.aload_n 0, 1) := by decide +kernel
theorem dX6_stacksGive_10 : decode cX6_stacksGive 10 = .ok (.getfield 46, 3) := by decide +kernel
theorem dX6_stacksGive_13 : decode cX6_stacksGive 13 = .ok (.invokevirtual 156, 3) := by decide +kernel
theorem dX6_stacksGive_16 : decode cX6_stacksGive 16 = .ok (.ifCond .eq 7, 3) := by decide +kernel
theorem dX6_stacksGive_19 : decode cX6_stacksGive 19 = .ok (.iconst 1, 1) := by decide +kernel
theorem dX6_stacksGive_20 : decode cX6_stacksGive 20 = .ok (.goto 4, 3) := by decide +kernel
theorem dX6_stacksGive_23 : decode cX6_stacksGive 23 = .ok (.iconst 0, 1) := by decide +kernel
theorem dX6_stacksGive_24 : decode cX6_stacksGive 24 = .ok (.ireturn, 1) := by decide +kernel
theorem dX6_climbingGives_0 : decode cX6_climbingGives 0 = .ok (.aload_n 0, 1) := by decide +kernel
theorem dX6_climbingGives_1 : decode cX6_climbingGives 1 = .ok (.iconst 0, 1) := by decide +kernel
theorem dX6_climbingGives_2 : decode cX6_climbingGives 2 = .ok (.putfield 92, 3) := by decide +kernel
theorem dX6_climbingGives_5 : decode cX6_climbingGives 5 = .ok (.aload_n 0, 1) := by decide +kernel
theorem dX6_climbingGives_6 : decode cX6_climbingGives 6 = .ok (.getfield 46, 3) := by decide +kernel
theorem dX6_climbingGives_9 : decode cX6_climbingGives 9 = .ok (.invokevirtual 105, 3) := by decide +kernel
theorem dX6_climbingGives_12 : decode cX6_climbingGives 12 = .ok (.aload_n 0, 1) := by decide +kernel
theorem dX6_climbingGives_13 : decode cX6_climbingGives 13 = .ok (.iconst 1, 1) := by decide +kernel
theorem dX6_climbingGives_14 : decode cX6_climbingGives 14 = .ok (.iconst 0, 1) := by decide +kernel
theorem dX6_climbingGives_15 : decode cX6_climbingGives 15 = .ok (.invokevirtual 160, 3) := by decide +kernel
theorem dX6_climbingGives_18 : decode cX6_climbingGives 18 = .ok (.ifCond .eq 29, 3) := by decide +kernel
theorem dX6_climbingGives_21 : decode cX6_climbingGives 21 = .ok (.aload_n 0, 1) := by decide +kernel
theorem dX6_climbingGives_22 : decode cX6_climbingGives 22 = .ok (.invokevirtual 108, 3) := by decide +kernel
theorem dX6_climbingGives_25 : decode cX6_climbingGives 25 = .ok (.aload_n 0, 1) := by decide +kernel
theorem dX6_climbingGives_26 : decode cX6_climbingGives 26 = .ok (.getfield 54, 3) := by decide +kernel
theorem dX6_climbingGives_29 : decode cX6_climbingGives 29 = .ok (.if_icmp .lt 18, 3) := by decide +kernel
theorem dX6_climbingGives_32 : decode cX6_climbingGives 32 = .ok (.aload_n 1, 1) := by decide +kernel
theorem dX6_climbingGives_33 : decode cX6_climbingGives 33 = .ok (.aload_n 0, 1) := by decide +kernel
theorem dX6_climbingGives_34 : decode cX6_climbingGives 34 = .ok (.getfield 46, 3) := by decide +kernel
theorem dX6_climbingGives_37 : decode cX6_climbingGives 37 = .ok (.invokevirtual 156, 3) := by decide +kernel
theorem dX6_climbingGives_40 : decode cX6_climbingGives 40 = .ok (.ifCond .eq 7, 3) := by decide +kernel
theorem dX6_climbingGives_43 : decode cX6_climbingGives 43 = .ok (.iconst 1, 1) := by decide +kernel
theorem dX6_climbingGives_44 : decode cX6_climbingGives 44 = .ok (.goto 4, 3) := by decide +kernel
theorem dX6_climbingGives_47 : decode cX6_climbingGives 47 = .ok (.iconst 0, 1) := by decide +kernel
theorem dX6_climbingGives_48 : decode cX6_climbingGives 48 = .ok (.ireturn, 1) := by decide +kernel
theorem dX6_takeWord_0 : decode cX6_takeWord 0 = .ok (.aload_n 0, 1) := by decide +kernel
theorem dX6_takeWord_1 : decode cX6_takeWord 1 = .ok (.invokevirtual 108, 3) := by decide +kernel
theorem dX6_takeWord_4 : decode cX6_takeWord 4 = .ok (.istore_n 1, 1) := by decide +kernel
theorem dX6_takeWord_5 : decode cX6_takeWord 5 = .ok (.aload_n 0, 1) := by decide +kernel
theorem dX6_takeWord_6 : decode cX6_takeWord 6 = .ok (.iload_n 1, 1) := by decide +kernel
theorem dX6_takeWord_7 : decode cX6_takeWord 7 = .ok (.iconst 1, 1) := by decide +kernel
theorem dX6_takeWord_8 : decode cX6_takeWord 8 = .ok (.iadd, 1) := by decide +kernel
theorem dX6_takeWord_9 : decode cX6_takeWord 9 = .ok (.putfield 92, 3) := by decide +kernel
theorem dX6_takeWord_12 : decode cX6_takeWord 12 = .ok (.iload_n 1, 1) := by decide +kernel
theorem dX6_takeWord_13 : decode cX6_takeWord 13 = .ok (.ireturn, 1) := by decide +kernel
theorem dX6_climb_0 : decode cX6_climb 0 = .ok (.aload_n 0, 1) := by decide +kernel
theorem dX6_climb_1 : decode cX6_climb 1 = .ok (.invokevirtual 163, 3) := by decide +kernel
theorem dX6_climb_4 : decode cX6_climb 4 = .ok (.istore_n 3, 1) := by decide +kernel
theorem dX6_climb_5 : decode cX6_climb 5 = .ok (.aload_n 0, 1) := by decide +kernel
theorem dX6_climb_6 : decode cX6_climb 6 = .ok (.iload_n 3, 1) := by decide +kernel
theorem dX6_climb_7 : decode cX6_climb 7 = .ok (.invokevirtual 129, 3) := by decide +kernel
theorem dX6_climb_10 : decode cX6_climb 10 = .ok (.istore 4, 2) := by decide +kernel
theorem dX6_climb_12 : decode cX6_climb 12 = .ok (.iload_n 2, 1) := by decide +kernel
theorem dX6_climb_13 : decode cX6_climb 13 = .ok (.sipush 140, 3) := by decide +kernel
theorem dX6_climb_16 : decode cX6_climb 16 = .ok (.if_icmp .gt 11, 3) := by decide +kernel
theorem dX6_climb_19 : decode cX6_climb 19 = .ok (.iload_n 3, 1) := by decide +kernel
theorem dX6_climb_20 : decode cX6_climb 20 = .ok (.aload_n 0, 1) := by decide +kernel
theorem dX6_climb_21 : decode cX6_climb 21 = .ok (.getfield 54, 3) := by decide +kernel
theorem dX6_climb_24 : decode cX6_climb 24 = .ok (.if_icmp .lt 5, 3) := by decide +kernel
theorem dX6_climb_27 : decode cX6_climb 27 = .ok (.iconst 0, 1) := by decide +kernel
theorem dX6_climb_28 : decode cX6_climb 28 = .ok (.ireturn, 1) := by decide +kernel
theorem dX6_climb_29 : decode cX6_climb 29 = .ok (.aload_n 0, 1) := by decide +kernel
theorem dX6_climb_30 : decode cX6_climb 30 = .ok (.getfield 15, 3) := by decide +kernel
theorem dX6_climb_33 : decode cX6_climb 33 = .ok (.iload_n 3, 1) := by decide +kernel
theorem dX6_climb_34 : decode cX6_climb 34 = .ok (.iaload, 1) := by decide +kernel
theorem dX6_climb_35 : decode cX6_climb 35 = .ok (.istore 5, 2) := by decide +kernel
theorem dX6_climb_37 : decode cX6_climb 37 = .ok (.iload 4, 2) := by decide +kernel
theorem dX6_climb_39 : decode cX6_climb 39 = .ok (.ifCond .eq 21, 3) := by decide +kernel
theorem dX6_climb_42 : decode cX6_climb 42 = .ok (.iload 4, 2) := by decide +kernel
theorem dX6_climb_44 : decode cX6_climb 44 = .ok (.iconst 1, 1) := by decide +kernel
theorem dX6_climb_45 : decode cX6_climb 45 = .ok (.if_icmp .ne 32, 3) := by decide +kernel
theorem dX6_climb_48 : decode cX6_climb 48 = .ok (.aload_n 0, 1) := by decide +kernel
theorem dX6_climb_49 : decode cX6_climb 49 = .ok (.aload_n 0, 1) := by decide +kernel
theorem dX6_climb_50 : decode cX6_climb 50 = .ok (.invokevirtual 108, 3) := by decide +kernel
theorem dX6_climb_53 : decode cX6_climb 53 = .ok (.invokevirtual 129, 3) := by decide +kernel
theorem dX6_climb_56 : decode cX6_climb 56 = .ok (.iconst 4, 1) := by decide +kernel
theorem dX6_climb_57 : decode cX6_climb 57 = .ok (.if_icmp .eq 20, 3) := by decide +kernel
theorem dX6_climb_60 : decode cX6_climb 60 = .ok (.aload_n 0, 1) := by decide +kernel
theorem dX6_climb_61 : decode cX6_climb 61 = .ok (.getfield 46, 3) := by decide +kernel
theorem dX6_climb_64 : decode cX6_climb 64 = .ok (.iload 4, 2) := by decide +kernel
theorem dX6_climb_66 : decode cX6_climb 66 = .ok (.iload 5, 2) := by decide +kernel
theorem dX6_climb_68 : decode cX6_climb 68 = .ok (.iconst (-1), 1) := by decide +kernel
theorem dX6_climb_69 : decode cX6_climb 69 = .ok (.iconst 0, 1) := by decide +kernel
theorem dX6_climb_70 : decode cX6_climb 70 = .ok (.invokevirtual 143, 3) := by decide +kernel
theorem dX6_climb_73 : decode cX6_climb 73 = .ok (.pop, 1) := by decide +kernel
theorem dX6_climb_74 : decode cX6_climb 74 = .ok (.goto 108, 3) := by decide +kernel
theorem dX6_climb_77 : decode cX6_climb 77 = .ok (.iload 4, 2) := by decide +kernel
theorem dX6_climb_79 : decode cX6_climb 79 = .ok (.iconst 1, 1) := by decide +kernel
theorem dX6_climb_80 : decode cX6_climb 80 = .ok (.if_icmp .ne 15, 3) := by decide +kernel
theorem dX6_climb_83 : decode cX6_climb 83 = .ok (.aload_n 0, 1) := by decide +kernel
theorem dX6_climb_84 : decode cX6_climb 84 = .ok (.iload 5, 2) := by decide +kernel
theorem dX6_climb_86 : decode cX6_climb 86 = .ok (.iload_n 2, 1) := by decide +kernel
theorem dX6_climb_87 : decode cX6_climb 87 = .ok (.invokevirtual 166, 3) := by decide +kernel
theorem dX6_climb_90 : decode cX6_climb 90 = .ok (.ifCond .ne 92, 3) := by decide +kernel
theorem dX6_climb_93 : decode cX6_climb 93 = .ok (.iconst 0, 1) := by decide +kernel
theorem dX6_climb_94 : decode cX6_climb 94 = .ok (.ireturn, 1) := by decide +kernel
theorem dX6_climb_95 : decode cX6_climb 95 = .ok (.iload 4, 2) := by decide +kernel
theorem dX6_climb_97 : decode cX6_climb 97 = .ok (.iconst 4, 1) := by decide +kernel
theorem dX6_climb_98 : decode cX6_climb 98 = .ok (.if_icmp .ne 28, 3) := by decide +kernel
theorem dX6_climb_101 : decode cX6_climb 101 = .ok (.aload_n 0, 1) := by decide +kernel
theorem dX6_climb_102 : decode cX6_climb 102 = .ok (.iconst 1, 1) := by decide +kernel
theorem dX6_climb_103 : decode cX6_climb 103 = .ok (.iload_n 2, 1) := by decide +kernel
theorem dX6_climb_104 : decode cX6_climb 104 = .ok (.iconst 1, 1) := by decide +kernel
theorem dX6_climb_105 : decode cX6_climb 105 = .ok (.iadd, 1) := by decide +kernel
theorem dX6_climb_106 : decode cX6_climb 106 = .ok (.invokevirtual 160, 3) := by decide +kernel
theorem dX6_climb_109 : decode cX6_climb 109 = .ok (.ifCond .eq 15, 3) := by decide +kernel
theorem dX6_climb_112 : decode cX6_climb 112 = .ok (.aload_n 0, 1) := by decide +kernel
theorem dX6_climb_113 : decode cX6_climb 113 = .ok (.aload_n 0, 1) := by decide +kernel
theorem dX6_climb_114 : decode cX6_climb 114 = .ok (.invokevirtual 163, 3) := by decide +kernel
theorem dX6_climb_117 : decode cX6_climb 117 = .ok (.invokevirtual 129, 3) := by decide +kernel
theorem dX6_climb_120 : decode cX6_climb 120 = .ok (.iconst 5, 1) := by decide +kernel
theorem dX6_climb_121 : decode cX6_climb 121 = .ok (.if_icmp .eq 61, 3) := by decide +kernel
theorem dX6_climb_124 : decode cX6_climb 124 = .ok (.iconst 0, 1) := by decide +kernel
theorem dX6_climb_125 : decode cX6_climb 125 = .ok (.ireturn, 1) := by decide +kernel
theorem dX6_climb_126 : decode cX6_climb 126 = .ok (.iload 4, 2) := by decide +kernel
theorem dX6_climb_128 : decode cX6_climb 128 = .ok (.iconst 3, 1) := by decide +kernel
theorem dX6_climb_129 : decode cX6_climb 129 = .ok (.if_icmp .ne 16, 3) := by decide +kernel
theorem dX6_climb_132 : decode cX6_climb 132 = .ok (.aload_n 0, 1) := by decide +kernel
theorem dX6_climb_133 : decode cX6_climb 133 = .ok (.getfield 50, 3) := by decide +kernel
theorem dX6_climb_136 : decode cX6_climb 136 = .ok (.iload 5, 2) := by decide +kernel
theorem dX6_climb_138 : decode cX6_climb 138 = .ok (.iconst 0, 1) := by decide +kernel
theorem dX6_climb_139 : decode cX6_climb 139 = .ok (.invokevirtual 137, 3) := by decide +kernel
theorem dX6_climb_142 : decode cX6_climb 142 = .ok (.goto 4, 3) := by decide +kernel
theorem dX6_climb_145 : decode cX6_climb 145 = .ok (.iconst 0, 1) := by decide +kernel
theorem dX6_climb_146 : decode cX6_climb 146 = .ok (.istore 6, 2) := by decide +kernel
theorem dX6_climb_148 : decode cX6_climb 148 = .ok (.iload 6, 2) := by decide +kernel
theorem dX6_climb_150 : decode cX6_climb 150 = .ok (.ifCond .eq 17, 3) := by decide +kernel
theorem dX6_climb_153 : decode cX6_climb 153 = .ok (.aload_n 0, 1) := by decide +kernel
theorem dX6_climb_154 : decode cX6_climb 154 = .ok (.iload 6, 2) := by decide +kernel
theorem dX6_climb_156 : decode cX6_climb 156 = .ok (.iconst 1, 1) := by decide +kernel
theorem dX6_climb_157 : decode cX6_climb 157 = .ok (.iadd, 1) := by decide +kernel
theorem dX6_climb_158 : decode cX6_climb 158 = .ok (.iload_n 2, 1) := by decide +kernel
theorem dX6_climb_159 : decode cX6_climb 159 = .ok (.iconst 1, 1) := by decide +kernel
theorem dX6_climb_160 : decode cX6_climb 160 = .ok (.iadd, 1) := by decide +kernel
theorem dX6_climb_161 : decode cX6_climb 161 = .ok (.invokevirtual 160, 3) := by decide +kernel
theorem dX6_climb_164 : decode cX6_climb 164 = .ok (.ifCond .ne 5, 3) := by decide +kernel
theorem dX6_climb_167 : decode cX6_climb 167 = .ok (.iconst 0, 1) := by decide +kernel
theorem dX6_climb_168 : decode cX6_climb 168 = .ok (.ireturn, 1) := by decide +kernel
theorem dX6_climb_169 : decode cX6_climb 169 = .ok (.aload_n 0, 1) := by decide +kernel
theorem dX6_climb_170 : decode cX6_climb 170 = .ok (.getfield 46, 3) := by decide +kernel
theorem dX6_climb_173 : decode cX6_climb 173 = .ok (.iconst 3, 1) := by decide +kernel
theorem dX6_climb_174 : decode cX6_climb 174 = .ok (.iload 5, 2) := by decide +kernel
theorem dX6_climb_176 : decode cX6_climb 176 = .ok (.iconst 0, 1) := by decide +kernel
theorem dX6_climb_177 : decode cX6_climb 177 = .ok (.iconst 1, 1) := by decide +kernel
theorem dX6_climb_178 : decode cX6_climb 178 = .ok (.invokevirtual 143, 3) := by decide +kernel
theorem dX6_climb_181 : decode cX6_climb 181 = .ok (.pop, 1) := by decide +kernel
theorem dX6_climb_182 : decode cX6_climb 182 = .ok (.iconst 0, 1) := by decide +kernel
theorem dX6_climb_183 : decode cX6_climb 183 = .ok (.istore 6, 2) := by decide +kernel
theorem dX6_climb_185 : decode cX6_climb 185 = .ok (.iconst 0, 1) := by decide +kernel
theorem dX6_climb_186 : decode cX6_climb 186 = .ok (.istore 7, 2) := by decide +kernel
theorem dX6_climb_188 : decode cX6_climb 188 = .ok (.iload 7, 2) := by decide +kernel
theorem dX6_climb_190 : decode cX6_climb 190 = .ok (.aload_n 0, 1) := by decide +kernel
theorem dX6_climb_191 : decode cX6_climb 191 = .ok (.getfield 54, 3) := by decide +kernel
theorem dX6_climb_194 : decode cX6_climb 194 = .ok (.if_icmp .ge 175, 3) := by decide +kernel
theorem dX6_climb_197 : decode cX6_climb 197 = .ok (.aload_n 0, 1) := by decide +kernel
theorem dX6_climb_198 : decode cX6_climb 198 = .ok (.aload_n 0, 1) := by decide +kernel
theorem dX6_climb_199 : decode cX6_climb 199 = .ok (.invokevirtual 108, 3) := by decide +kernel
theorem dX6_climb_202 : decode cX6_climb 202 = .ok (.invokevirtual 129, 3) := by decide +kernel
theorem dX6_climb_205 : decode cX6_climb 205 = .ok (.iconst 3, 1) := by decide +kernel
theorem dX6_climb_206 : decode cX6_climb 206 = .ok (.if_icmp .ne 163, 3) := by decide +kernel
theorem dX6_climb_209 : decode cX6_climb 209 = .ok (.aload_n 0, 1) := by decide +kernel
theorem dX6_climb_210 : decode cX6_climb 210 = .ok (.getfield 15, 3) := by decide +kernel
theorem dX6_climb_213 : decode cX6_climb 213 = .ok (.aload_n 0, 1) := by decide +kernel
theorem dX6_climb_214 : decode cX6_climb 214 = .ok (.invokevirtual 108, 3) := by decide +kernel
theorem dX6_climb_217 : decode cX6_climb 217 = .ok (.iaload, 1) := by decide +kernel
theorem dX6_climb_218 : decode cX6_climb 218 = .ok (.istore 8, 2) := by decide +kernel
theorem dX6_climb_220 : decode cX6_climb 220 = .ok (.aload_n 0, 1) := by decide +kernel
theorem dX6_climb_221 : decode cX6_climb 221 = .ok (.getfield 50, 3) := by decide +kernel
theorem dX6_climb_224 : decode cX6_climb 224 = .ok (.iload 8, 2) := by decide +kernel
theorem dX6_climb_226 : decode cX6_climb 226 = .ok (.iconst 1, 1) := by decide +kernel
theorem dX6_climb_227 : decode cX6_climb 227 = .ok (.invokevirtual 137, 3) := by decide +kernel
theorem dX6_climb_230 : decode cX6_climb 230 = .ok (.ifCond .le 7, 3) := by decide +kernel
theorem dX6_climb_233 : decode cX6_climb 233 = .ok (.iconst 1, 1) := by decide +kernel
theorem dX6_climb_234 : decode cX6_climb 234 = .ok (.goto 4, 3) := by decide +kernel
theorem dX6_climb_237 : decode cX6_climb 237 = .ok (.iconst 2, 1) := by decide +kernel
theorem dX6_climb_238 : decode cX6_climb 238 = .ok (.istore 9, 2) := by decide +kernel
theorem dX6_climb_240 : decode cX6_climb 240 = .ok (.aload_n 0, 1) := by decide +kernel
theorem dX6_climb_241 : decode cX6_climb 241 = .ok (.getfield 50, 3) := by decide +kernel
theorem dX6_climb_244 : decode cX6_climb 244 = .ok (.iload 8, 2) := by decide +kernel
theorem dX6_climb_246 : decode cX6_climb 246 = .ok (.iload 9, 2) := by decide +kernel
theorem dX6_climb_248 : decode cX6_climb 248 = .ok (.invokevirtual 137, 3) := by decide +kernel
theorem dX6_climb_251 : decode cX6_climb 251 = .ok (.istore 10, 2) := by decide +kernel
theorem dX6_climb_253 : decode cX6_climb 253 = .ok (.iload 10, 2) := by decide +kernel
theorem dX6_climb_255 : decode cX6_climb 255 = .ok (.iload_n 1, 1) := by decide +kernel
theorem dX6_climb_256 : decode cX6_climb 256 = .ok (.if_icmp .ge 5, 3) := by decide +kernel
theorem dX6_climb_259 : decode cX6_climb 259 = .ok (.iconst 1, 1) := by decide +kernel
theorem dX6_climb_260 : decode cX6_climb 260 = .ok (.ireturn, 1) := by decide +kernel
theorem dX6_climb_261 : decode cX6_climb 261 = .ok (.aload_n 0, 1) := by decide +kernel
theorem dX6_climb_262 : decode cX6_climb 262 = .ok (.invokevirtual 163, 3) := by decide +kernel
theorem dX6_climb_265 : decode cX6_climb 265 = .ok (.pop, 1) := by decide +kernel
theorem dX6_climb_266 : decode cX6_climb 266 = .ok (.aload_n 0, 1) := by decide +kernel
theorem dX6_climb_267 : decode cX6_climb 267 = .ok (.getfield 50, 3) := by decide +kernel
theorem dX6_climb_270 : decode cX6_climb 270 = .ok (.iload 8, 2) := by decide +kernel
theorem dX6_climb_272 : decode cX6_climb 272 = .ok (.iload 9, 2) := by decide +kernel
theorem dX6_climb_274 : decode cX6_climb 274 = .ok (.invokevirtual 147, 3) := by decide +kernel
theorem dX6_climb_277 : decode cX6_climb 277 = .ok (.istore 11, 2) := by decide +kernel
theorem dX6_climb_279 : decode cX6_climb 279 = .ok (.iload 9, 2) := by decide +kernel
theorem dX6_climb_281 : decode cX6_climb 281 = .ok (.iconst 2, 1) := by decide +kernel
theorem dX6_climb_282 : decode cX6_climb 282 = .ok (.if_icmp .ne 37, 3) := by decide +kernel
theorem dX6_climb_285 : decode cX6_climb 285 = .ok (.iload 6, 2) := by decide +kernel
theorem dX6_climb_287 : decode cX6_climb 287 = .ok (.iload 10, 2) := by decide +kernel
theorem dX6_climb_289 : decode cX6_climb 289 = .ok (.if_icmp .eq 28, 3) := by decide +kernel
theorem dX6_climb_292 : decode cX6_climb 292 = .ok (.aload_n 0, 1) := by decide +kernel
theorem dX6_climb_293 : decode cX6_climb 293 = .ok (.iload 11, 2) := by decide +kernel
theorem dX6_climb_295 : decode cX6_climb 295 = .ok (.iconst 1, 1) := by decide +kernel
theorem dX6_climb_296 : decode cX6_climb 296 = .ok (.if_icmp .ne 8, 3) := by decide +kernel
theorem dX6_climb_299 : decode cX6_climb 299 = .ok (.iload 10, 2) := by decide +kernel
theorem dX6_climb_301 : decode cX6_climb 301 = .ok (.goto 7, 3) := by decide +kernel
theorem dX6_climb_304 : decode cX6_climb 304 = .ok (.iload 10, 2) := by decide +kernel
theorem dX6_climb_306 : decode cX6_climb 306 = .ok (.iconst 1, 1) := by decide +kernel
theorem dX6_climb_307 : decode cX6_climb 307 = .ok (.iadd, 1) := by decide +kernel
theorem dX6_climb_308 : decode cX6_climb 308 = .ok (.iload_n 2, 1) := by decide +kernel
theorem dX6_climb_309 : decode cX6_climb 309 = .ok (.iconst 1, 1) := by decide +kernel
theorem dX6_climb_310 : decode cX6_climb 310 = .ok (.iadd, 1) := by decide +kernel
theorem dX6_climb_311 : decode cX6_climb 311 = .ok (.invokevirtual 160, 3) := by decide +kernel
theorem dX6_climb_314 : decode cX6_climb 314 = .ok (.ifCond .ne 5, 3) := by decide +kernel
theorem dX6_climb_317 : decode cX6_climb 317 = .ok (.iconst 0, 1) := by decide +kernel
theorem dX6_climb_318 : decode cX6_climb 318 = .ok (.ireturn, 1) := by decide +kernel
theorem dX6_climb_319 : decode cX6_climb 319 = .ok (.aload_n 0, 1) := by decide +kernel
theorem dX6_climb_320 : decode cX6_climb 320 = .ok (.getfield 46, 3) := by decide +kernel
theorem dX6_climb_323 : decode cX6_climb 323 = .ok (.iconst 3, 1) := by decide +kernel
theorem dX6_climb_324 : decode cX6_climb 324 = .ok (.iload 8, 2) := by decide +kernel
theorem dX6_climb_326 : decode cX6_climb 326 = .ok (.iload 9, 2) := by decide +kernel
theorem dX6_climb_328 : decode cX6_climb 328 = .ok (.iload 9, 2) := by decide +kernel
theorem dX6_climb_330 : decode cX6_climb 330 = .ok (.iconst 2, 1) := by decide +kernel
theorem dX6_climb_331 : decode cX6_climb 331 = .ok (.if_icmp .ne 7, 3) := by decide +kernel
theorem dX6_climb_334 : decode cX6_climb 334 = .ok (.iconst 2, 1) := by decide +kernel
theorem dX6_climb_335 : decode cX6_climb 335 = .ok (.goto 4, 3) := by decide +kernel
theorem dX6_climb_338 : decode cX6_climb 338 = .ok (.iconst 1, 1) := by decide +kernel
theorem dX6_climb_339 : decode cX6_climb 339 = .ok (.invokevirtual 143, 3) := by decide +kernel
theorem dX6_climb_342 : decode cX6_climb 342 = .ok (.pop, 1) := by decide +kernel
theorem dX6_climb_343 : decode cX6_climb 343 = .ok (.iload 9, 2) := by decide +kernel
theorem dX6_climb_345 : decode cX6_climb 345 = .ok (.iconst 2, 1) := by decide +kernel
theorem dX6_climb_346 : decode cX6_climb 346 = .ok (.if_icmp .ne 14, 3) := by decide +kernel
theorem dX6_climb_349 : decode cX6_climb 349 = .ok (.iload 11, 2) := by decide +kernel
theorem dX6_climb_351 : decode cX6_climb 351 = .ok (.iconst 2, 1) := by decide +kernel
theorem dX6_climb_352 : decode cX6_climb 352 = .ok (.if_icmp .ne 8, 3) := by decide +kernel
theorem dX6_climb_355 : decode cX6_climb 355 = .ok (.iload 10, 2) := by decide +kernel
theorem dX6_climb_357 : decode cX6_climb 357 = .ok (.goto 4, 3) := by decide +kernel
theorem dX6_climb_360 : decode cX6_climb 360 = .ok (.iconst 0, 1) := by decide +kernel
theorem dX6_climb_361 : decode cX6_climb 361 = .ok (.istore 6, 2) := by decide +kernel
theorem dX6_climb_363 : decode cX6_climb 363 = .ok (.iinc 7 1, 3) := by decide +kernel
theorem dX6_climb_366 : decode cX6_climb 366 = .ok (.goto (-178), 3) := by decide +kernel
theorem dX6_climb_369 : decode cX6_climb 369 = .ok (.iconst 1, 1) := by decide +kernel
theorem dX6_climb_370 : decode cX6_climb 370 = .ok (.ireturn, 1) := by decide +kernel
theorem dX6_climbArguments_0 : decode cX6_climbArguments 0 = .ok (.aload_n 0, 1) := by decide +kernel
theorem dX6_climbArguments_1 : decode cX6_climbArguments 1 = .ok (.invokevirtual 163, 3) := by decide +kernel
theorem dX6_climbArguments_4 : decode cX6_climbArguments 4 = .ok (.pop, 1) := by decide +kernel
theorem dX6_climbArguments_5 : decode cX6_climbArguments 5 = .ok (.iconst 1, 1) := by decide +kernel
theorem dX6_climbArguments_6 : decode cX6_climbArguments 6 = .ok (.istore_n 3, 1) := by decide +kernel
theorem dX6_climbArguments_7 : decode cX6_climbArguments 7 = .ok (.iload_n 3, 1) := by decide +kernel
theorem dX6_climbArguments_8 : decode cX6_climbArguments 8 = .ok (.iconst 4, 1) := by decide +kernel
theorem dX6_climbArguments_9 : decode cX6_climbArguments 9 = .ok (.if_icmp .gt 59, 3) := by decide +kernel
theorem dX6_climbArguments_12 : decode cX6_climbArguments 12 = .ok (.aload_n 0, 1) := by decide +kernel
theorem dX6_climbArguments_13 : decode cX6_climbArguments 13 = .ok (.iconst 1, 1) := by decide +kernel
theorem dX6_climbArguments_14 : decode cX6_climbArguments 14 = .ok (.iload_n 2, 1) := by decide +kernel
theorem dX6_climbArguments_15 : decode cX6_climbArguments 15 = .ok (.iconst 1, 1) := by decide +kernel
theorem dX6_climbArguments_16 : decode cX6_climbArguments 16 = .ok (.iadd, 1) := by decide +kernel
theorem dX6_climbArguments_17 : decode cX6_climbArguments 17 = .ok (.invokevirtual 160, 3) := by decide +kernel
theorem dX6_climbArguments_20 : decode cX6_climbArguments 20 = .ok (.ifCond .ne 5, 3) := by decide +kernel
theorem dX6_climbArguments_23 : decode cX6_climbArguments 23 = .ok (.iconst 0, 1) := by decide +kernel
theorem dX6_climbArguments_24 : decode cX6_climbArguments 24 = .ok (.ireturn, 1) := by decide +kernel
theorem dX6_climbArguments_25 : decode cX6_climbArguments 25 = .ok (.aload_n 0, 1) := by decide +kernel
theorem dX6_climbArguments_26 : decode cX6_climbArguments 26 = .ok (.aload_n 0, 1) := by decide +kernel
theorem dX6_climbArguments_27 : decode cX6_climbArguments 27 = .ok (.invokevirtual 163, 3) := by decide +kernel
theorem dX6_climbArguments_30 : decode cX6_climbArguments 30 = .ok (.invokevirtual 129, 3) := by decide +kernel
theorem dX6_climbArguments_33 : decode cX6_climbArguments 33 = .ok (.istore 4, 2) := by decide +kernel
theorem dX6_climbArguments_35 : decode cX6_climbArguments 35 = .ok (.iload 4, 2) := by decide +kernel
theorem dX6_climbArguments_37 : decode cX6_climbArguments 37 = .ok (.iconst 5, 1) := by decide +kernel
theorem dX6_climbArguments_38 : decode cX6_climbArguments 38 = .ok (.if_icmp .ne 15, 3) := by decide +kernel
theorem dX6_climbArguments_41 : decode cX6_climbArguments 41 = .ok (.aload_n 0, 1) := by decide +kernel
theorem dX6_climbArguments_42 : decode cX6_climbArguments 42 = .ok (.getfield 46, 3) := by decide +kernel
theorem dX6_climbArguments_45 : decode cX6_climbArguments 45 = .ok (.iconst 2, 1) := by decide +kernel
theorem dX6_climbArguments_46 : decode cX6_climbArguments 46 = .ok (.iload_n 1, 1) := by decide +kernel
theorem dX6_climbArguments_47 : decode cX6_climbArguments 47 = .ok (.iconst (-1), 1) := by decide +kernel
theorem dX6_climbArguments_48 : decode cX6_climbArguments 48 = .ok (.iload_n 3, 1) := by decide +kernel
theorem dX6_climbArguments_49 : decode cX6_climbArguments 49 = .ok (.invokevirtual 143, 3) := by decide +kernel
theorem dX6_climbArguments_52 : decode cX6_climbArguments 52 = .ok (.ireturn, 1) := by decide +kernel
theorem dX6_climbArguments_53 : decode cX6_climbArguments 53 = .ok (.iload 4, 2) := by decide +kernel
theorem dX6_climbArguments_55 : decode cX6_climbArguments 55 = .ok (.bipush 6, 2) := by decide +kernel
theorem dX6_climbArguments_57 : decode cX6_climbArguments 57 = .ok (.if_icmp .eq 5, 3) := by decide +kernel
theorem dX6_climbArguments_60 : decode cX6_climbArguments 60 = .ok (.iconst 0, 1) := by decide +kernel
theorem dX6_climbArguments_61 : decode cX6_climbArguments 61 = .ok (.ireturn, 1) := by decide +kernel
theorem dX6_climbArguments_62 : decode cX6_climbArguments 62 = .ok (.iinc 3 1, 3) := by decide +kernel
theorem dX6_climbArguments_65 : decode cX6_climbArguments 65 = .ok (.goto (-58), 3) := by decide +kernel
theorem dX6_climbArguments_68 : decode cX6_climbArguments 68 = .ok (.iconst 0, 1) := by decide +kernel
theorem dX6_climbArguments_69 : decode cX6_climbArguments 69 = .ok (.ireturn, 1) := by decide +kernel
theorem dX6_dropBrackets_0 : decode cX6_dropBrackets 0 = .ok (.iconst 0, 1) := by decide +kernel
theorem dX6_dropBrackets_1 : decode cX6_dropBrackets 1 = .ok (.istore_n 2, 1) := by decide +kernel
theorem dX6_dropBrackets_2 : decode cX6_dropBrackets 2 = .ok (.iload_n 2, 1) := by decide +kernel
theorem dX6_dropBrackets_3 : decode cX6_dropBrackets 3 = .ok (.aload_n 0, 1) := by decide +kernel
theorem dX6_dropBrackets_4 : decode cX6_dropBrackets 4 = .ok (.getfield 54, 3) := by decide +kernel
theorem dX6_dropBrackets_7 : decode cX6_dropBrackets 7 = .ok (.if_icmp .ge 41, 3) := by decide +kernel
theorem dX6_dropBrackets_10 : decode cX6_dropBrackets 10 = .ok (.aload_n 0, 1) := by decide +kernel
theorem dX6_dropBrackets_11 : decode cX6_dropBrackets 11 = .ok (.iload_n 2, 1) := by decide +kernel
theorem dX6_dropBrackets_12 : decode cX6_dropBrackets 12 = .ok (.invokevirtual 169, 3) := by decide +kernel
theorem dX6_dropBrackets_15 : decode cX6_dropBrackets 15 = .ok (.ifCond .eq 27, 3) := by decide +kernel
theorem dX6_dropBrackets_18 : decode cX6_dropBrackets 18 = .ok (.aload_n 0, 1) := by decide +kernel
theorem dX6_dropBrackets_19 : decode cX6_dropBrackets 19 = .ok (.iload_n 2, 1) := by decide +kernel
theorem dX6_dropBrackets_20 : decode cX6_dropBrackets 20 = .ok (.invokevirtual 172, 3) := by decide +kernel
theorem dX6_dropBrackets_23 : decode cX6_dropBrackets 23 = .ok (.istore_n 3, 1) := by decide +kernel
theorem dX6_dropBrackets_24 : decode cX6_dropBrackets 24 = .ok (.aload_n 0, 1) := by decide +kernel
theorem dX6_dropBrackets_25 : decode cX6_dropBrackets 25 = .ok (.iload_n 2, 1) := by decide +kernel
theorem dX6_dropBrackets_26 : decode cX6_dropBrackets 26 = .ok (.iload_n 3, 1) := by decide +kernel
theorem dX6_dropBrackets_27 : decode cX6_dropBrackets 27 = .ok (.iconst 1, 1) := by decide +kernel
theorem dX6_dropBrackets_28 : decode cX6_dropBrackets 28 = .ok (.invokevirtual 175, 3) := by decide +kernel
theorem dX6_dropBrackets_31 : decode cX6_dropBrackets 31 = .ok (.aload_n 0, 1) := by decide +kernel
theorem dX6_dropBrackets_32 : decode cX6_dropBrackets 32 = .ok (.iload_n 2, 1) := by decide +kernel
theorem dX6_dropBrackets_33 : decode cX6_dropBrackets 33 = .ok (.iload_n 3, 1) := by decide +kernel
theorem dX6_dropBrackets_34 : decode cX6_dropBrackets 34 = .ok (.aload_n 0, 1) := by decide +kernel
theorem dX6_dropBrackets_35 : decode cX6_dropBrackets 35 = .ok (.aload_n 1, 1) := by decide +kernel
theorem dX6_dropBrackets_36 : decode cX6_dropBrackets 36 = .ok (.invokevirtual 179, 3) := by decide +kernel
theorem dX6_dropBrackets_39 : decode cX6_dropBrackets 39 = .ok (.invokevirtual 175, 3) := by decide +kernel
theorem dX6_dropBrackets_42 : decode cX6_dropBrackets 42 = .ok (.iinc 2 1, 3) := by decide +kernel
theorem dX6_dropBrackets_45 : decode cX6_dropBrackets 45 = .ok (.goto (-43), 3) := by decide +kernel
theorem dX6_dropBrackets_48 : decode cX6_dropBrackets 48 = .ok (.return_, 1) := by decide +kernel
theorem dX6_needsAllBrackets_0 : decode cX6_needsAllBrackets 0 = .ok (.iconst 1, 1) := by decide +kernel
theorem dX6_needsAllBrackets_1 : decode cX6_needsAllBrackets 1 = .ok (.istore_n 2, 1) := by decide +kernel
theorem dX6_needsAllBrackets_2 : decode cX6_needsAllBrackets 2 = .ok (.iconst 0, 1) := by decide +kernel
theorem dX6_needsAllBrackets_3 : decode cX6_needsAllBrackets 3 = .ok (.istore_n 3, 1) := by decide +kernel
theorem dX6_needsAllBrackets_4 : decode cX6_needsAllBrackets 4 = .ok (.iload_n 3, 1) := by decide +kernel
theorem dX6_needsAllBrackets_5 : decode cX6_needsAllBrackets 5 = .ok (.aload_n 0, 1) := by decide +kernel
theorem dX6_needsAllBrackets_6 : decode cX6_needsAllBrackets 6 = .ok (.getfield 54, 3) := by decide +kernel
theorem dX6_needsAllBrackets_9 : decode cX6_needsAllBrackets 9 = .ok (.if_icmp .ge 58, 3) := by decide +kernel
theorem dX6_needsAllBrackets_12 : decode cX6_needsAllBrackets 12 = .ok (.iload_n 2, 1) := by decide +kernel
theorem dX6_needsAllBrackets_13 : decode cX6_needsAllBrackets 13 = .ok (.ifCond .eq 54, 3) := by decide +kernel
theorem dX6_needsAllBrackets_16 : decode cX6_needsAllBrackets 16 = .ok (.aload_n 0, 1) := by decide +kernel
theorem dX6_needsAllBrackets_17 : decode cX6_needsAllBrackets 17 = .ok (.iload_n 3, 1) := by decide +kernel
theorem dX6_needsAllBrackets_18 : decode cX6_needsAllBrackets 18 = .ok (.invokevirtual 169, 3) := by decide +kernel
theorem dX6_needsAllBrackets_21 : decode cX6_needsAllBrackets 21 = .ok (.ifCond .eq 40, 3) := by decide +kernel
theorem dX6_needsAllBrackets_24 : decode cX6_needsAllBrackets 24 = .ok (.aload_n 0, 1) := by decide +kernel
theorem dX6_needsAllBrackets_25 : decode cX6_needsAllBrackets 25 = .ok (.iload_n 3, 1) := by decide +kernel
theorem dX6_needsAllBrackets_26 : decode cX6_needsAllBrackets 26 = .ok (.invokevirtual 172, 3) := by decide +kernel
theorem dX6_needsAllBrackets_29 : decode cX6_needsAllBrackets 29 = .ok (.istore 4, 2) := by decide +kernel
theorem dX6_needsAllBrackets_31 : decode cX6_needsAllBrackets 31 = .ok (.aload_n 0, 1) := by decide +kernel
theorem dX6_needsAllBrackets_32 : decode cX6_needsAllBrackets 32 = .ok (.iload_n 3, 1) := by decide +kernel
theorem dX6_needsAllBrackets_33 : decode cX6_needsAllBrackets 33 = .ok (.iload 4, 2) := by decide +kernel
theorem dX6_needsAllBrackets_35 : decode cX6_needsAllBrackets 35 = .ok (.iconst 1, 1) := by decide +kernel
theorem dX6_needsAllBrackets_36 : decode cX6_needsAllBrackets 36 = .ok (.invokevirtual 175, 3) := by decide +kernel
theorem dX6_needsAllBrackets_39 : decode cX6_needsAllBrackets 39 = .ok (.aload_n 0, 1) := by decide +kernel
theorem dX6_needsAllBrackets_40 : decode cX6_needsAllBrackets 40 = .ok (.aload_n 1, 1) := by decide +kernel
theorem dX6_needsAllBrackets_41 : decode cX6_needsAllBrackets 41 = .ok (.invokevirtual 179, 3) := by decide +kernel
theorem dX6_needsAllBrackets_44 : decode cX6_needsAllBrackets 44 = .ok (.ifCond .ne 7, 3) := by decide +kernel
theorem dX6_needsAllBrackets_47 : decode cX6_needsAllBrackets 47 = .ok (.iconst 1, 1) := by decide +kernel
theorem dX6_needsAllBrackets_48 : decode cX6_needsAllBrackets 48 = .ok (.goto 4, 3) := by decide +kernel
theorem dX6_needsAllBrackets_51 : decode cX6_needsAllBrackets 51 = .ok (.iconst 0, 1) := by decide +kernel
theorem dX6_needsAllBrackets_52 : decode cX6_needsAllBrackets 52 = .ok (.istore_n 2, 1) := by decide +kernel
theorem dX6_needsAllBrackets_53 : decode cX6_needsAllBrackets 53 = .ok (.aload_n 0, 1) := by decide +kernel
theorem dX6_needsAllBrackets_54 : decode cX6_needsAllBrackets 54 = .ok (.iload_n 3, 1) := by decide +kernel
theorem dX6_needsAllBrackets_55 : decode cX6_needsAllBrackets 55 = .ok (.iload 4, 2) := by decide +kernel
theorem dX6_needsAllBrackets_57 : decode cX6_needsAllBrackets 57 = .ok (.iconst 0, 1) := by decide +kernel
theorem dX6_needsAllBrackets_58 : decode cX6_needsAllBrackets 58 = .ok (.invokevirtual 175, 3) := by decide +kernel
theorem dX6_needsAllBrackets_61 : decode cX6_needsAllBrackets 61 = .ok (.iinc 3 1, 3) := by decide +kernel
theorem dX6_needsAllBrackets_64 : decode cX6_needsAllBrackets 64 = .ok (.goto (-60), 3) := by decide +kernel
theorem dX6_needsAllBrackets_67 : decode cX6_needsAllBrackets 67 = .ok (.iload_n 2, 1) := by decide +kernel
theorem dX6_needsAllBrackets_68 : decode cX6_needsAllBrackets 68 = .ok (.ireturn, 1) := by decide +kernel
theorem dX6_opensPair_0 : decode cX6_opensPair 0 = .ok (.aload_n 0, 1) := by decide +kernel
theorem dX6_opensPair_1 : decode cX6_opensPair 1 = .ok (.iload_n 1, 1) := by decide +kernel
theorem dX6_opensPair_2 : decode cX6_opensPair 2 = .ok (.invokevirtual 129, 3) := by decide +kernel
theorem dX6_opensPair_5 : decode cX6_opensPair 5 = .ok (.iconst 4, 1) := by decide +kernel
theorem dX6_opensPair_6 : decode cX6_opensPair 6 = .ok (.if_icmp .ne 18, 3) := by decide +kernel
theorem dX6_opensPair_9 : decode cX6_opensPair 9 = .ok (.aload_n 0, 1) := by decide +kernel
theorem dX6_opensPair_10 : decode cX6_opensPair 10 = .ok (.iload_n 1, 1) := by decide +kernel
theorem dX6_opensPair_11 : decode cX6_opensPair 11 = .ok (.iconst 1, 1) := by decide +kernel
theorem dX6_opensPair_12 : decode cX6_opensPair 12 = .ok (.isub, 1) := by decide +kernel
theorem dX6_opensPair_13 : decode cX6_opensPair 13 = .ok (.invokevirtual 129, 3) := by decide +kernel
theorem dX6_opensPair_16 : decode cX6_opensPair 16 = .ok (.iconst 1, 1) := by decide +kernel
theorem dX6_opensPair_17 : decode cX6_opensPair 17 = .ok (.if_icmp .eq 7, 3) := by decide +kernel
theorem dX6_opensPair_20 : decode cX6_opensPair 20 = .ok (.iconst 1, 1) := by decide +kernel
theorem dX6_opensPair_21 : decode cX6_opensPair 21 = .ok (.goto 4, 3) := by decide +kernel
theorem dX6_opensPair_24 : decode cX6_opensPair 24 = .ok (.iconst 0, 1) := by decide +kernel
theorem dX6_opensPair_25 : decode cX6_opensPair 25 = .ok (.ireturn, 1) := by decide +kernel
theorem dX6_partnerOf_0 : decode cX6_partnerOf 0 = .ok (.iconst 0, 1) := by decide +kernel
theorem dX6_partnerOf_1 : decode cX6_partnerOf 1 = .ok (.istore_n 2, 1) := by decide +kernel
theorem dX6_partnerOf_2 : decode cX6_partnerOf 2 = .ok (.iload_n 1, 1) := by decide +kernel
theorem dX6_partnerOf_3 : decode cX6_partnerOf 3 = .ok (.istore_n 3, 1) := by decide +kernel
theorem dX6_partnerOf_4 : decode cX6_partnerOf 4 = .ok (.iload_n 3, 1) := by decide +kernel
theorem dX6_partnerOf_5 : decode cX6_partnerOf 5 = .ok (.aload_n 0, 1) := by decide +kernel
theorem dX6_partnerOf_6 : decode cX6_partnerOf 6 = .ok (.getfield 54, 3) := by decide +kernel
theorem dX6_partnerOf_9 : decode cX6_partnerOf 9 = .ok (.if_icmp .ge 44, 3) := by decide +kernel
theorem dX6_partnerOf_12 : decode cX6_partnerOf 12 = .ok (.aload_n 0, 1) := by decide +kernel
theorem dX6_partnerOf_13 : decode cX6_partnerOf 13 = .ok (.getfield 11, 3) := by decide +kernel
theorem dX6_partnerOf_16 : decode cX6_partnerOf 16 = .ok (.iload_n 3, 1) := by decide +kernel
theorem dX6_partnerOf_17 : decode cX6_partnerOf 17 = .ok (.iaload, 1) := by decide +kernel
theorem dX6_partnerOf_18 : decode cX6_partnerOf 18 = .ok (.iconst 4, 1) := by decide +kernel
theorem dX6_partnerOf_19 : decode cX6_partnerOf 19 = .ok (.if_icmp .ne 9, 3) := by decide +kernel
theorem dX6_partnerOf_22 : decode cX6_partnerOf 22 = .ok (.iinc 2 1, 3) := by decide +kernel
theorem dX6_partnerOf_25 : decode cX6_partnerOf 25 = .ok (.goto 22, 3) := by decide +kernel
theorem dX6_partnerOf_28 : decode cX6_partnerOf 28 = .ok (.aload_n 0, 1) := by decide +kernel
theorem dX6_partnerOf_29 : decode cX6_partnerOf 29 = .ok (.getfield 11, 3) := by decide +kernel
theorem dX6_partnerOf_32 : decode cX6_partnerOf 32 = .ok (.iload_n 3, 1) := by decide +kernel
theorem dX6_partnerOf_33 : decode cX6_partnerOf 33 = .ok (.iaload, 1) := by decide +kernel
theorem dX6_partnerOf_34 : decode cX6_partnerOf 34 = .ok (.iconst 5, 1) := by decide +kernel
theorem dX6_partnerOf_35 : decode cX6_partnerOf 35 = .ok (.if_icmp .ne 12, 3) := by decide +kernel
theorem dX6_partnerOf_38 : decode cX6_partnerOf 38 = .ok (.iinc 2 (-1), 3) := by decide +kernel
theorem dX6_partnerOf_41 : decode cX6_partnerOf 41 = .ok (.iload_n 2, 1) := by decide +kernel
theorem dX6_partnerOf_42 : decode cX6_partnerOf 42 = .ok (.ifCond .ne 5, 3) := by decide +kernel
theorem dX6_partnerOf_45 : decode cX6_partnerOf 45 = .ok (.iload_n 3, 1) := by decide +kernel
theorem dX6_partnerOf_46 : decode cX6_partnerOf 46 = .ok (.ireturn, 1) := by decide +kernel
theorem dX6_partnerOf_47 : decode cX6_partnerOf 47 = .ok (.iinc 3 1, 3) := by decide +kernel
theorem dX6_partnerOf_50 : decode cX6_partnerOf 50 = .ok (.goto (-46), 3) := by decide +kernel
theorem dX6_partnerOf_53 : decode cX6_partnerOf 53 = .ok (.iload_n 1, 1) := by decide +kernel
theorem dX6_partnerOf_54 : decode cX6_partnerOf 54 = .ok (.ireturn, 1) := by decide +kernel
theorem dX6_hide_0 : decode cX6_hide 0 = .ok (.iload_n 1, 1) := by decide +kernel
theorem dX6_hide_1 : decode cX6_hide 1 = .ok (.ifCond .lt 37, 3) := by decide +kernel
theorem dX6_hide_4 : decode cX6_hide 4 = .ok (.iload_n 1, 1) := by decide +kernel
theorem dX6_hide_5 : decode cX6_hide 5 = .ok (.aload_n 0, 1) := by decide +kernel
theorem dX6_hide_6 : decode cX6_hide 6 = .ok (.getfield 54, 3) := by decide +kernel
theorem dX6_hide_9 : decode cX6_hide 9 = .ok (.if_icmp .ge 29, 3) := by decide +kernel
theorem dX6_hide_12 : decode cX6_hide 12 = .ok (.iload_n 2, 1) := by decide +kernel
theorem dX6_hide_13 : decode cX6_hide 13 = .ok (.ifCond .lt 25, 3) := by decide +kernel
theorem dX6_hide_16 : decode cX6_hide 16 = .ok (.iload_n 2, 1) := by decide +kernel
theorem dX6_hide_17 : decode cX6_hide 17 = .ok (.aload_n 0, 1) := by decide +kernel
theorem dX6_hide_18 : decode cX6_hide 18 = .ok (.getfield 54, 3) := by decide +kernel
theorem dX6_hide_21 : decode cX6_hide 21 = .ok (.if_icmp .ge 17, 3) := by decide +kernel
theorem dX6_hide_24 : decode cX6_hide 24 = .ok (.aload_n 0, 1) := by decide +kernel
theorem dX6_hide_25 : decode cX6_hide 25 = .ok (.getfield 21, 3) := by decide +kernel
theorem dX6_hide_28 : decode cX6_hide 28 = .ok (.iload_n 1, 1) := by decide +kernel
theorem dX6_hide_29 : decode cX6_hide 29 = .ok (.iload_n 3, 1) := by decide +kernel
theorem dX6_hide_30 : decode cX6_hide 30 = .ok (.bastore, 1) := by decide +kernel
theorem dX6_hide_31 : decode cX6_hide 31 = .ok (.aload_n 0, 1) := by decide +kernel
theorem dX6_hide_32 : decode cX6_hide 32 = .ok (.getfield 21, 3) := by decide +kernel
theorem dX6_hide_35 : decode cX6_hide 35 = .ok (.iload_n 2, 1) := by decide +kernel
theorem dX6_hide_36 : decode cX6_hide 36 = .ok (.iload_n 3, 1) := by decide +kernel
theorem dX6_hide_37 : decode cX6_hide 37 = .ok (.bastore, 1) := by decide +kernel
theorem dX6_hide_38 : decode cX6_hide 38 = .ok (.return_, 1) := by decide +kernel
theorem dX7_init_0 : decode cX7_init 0 = .ok (.aload_n 0, 1) := by decide +kernel
theorem dX7_init_1 : decode cX7_init 1 = .ok (.invokespecial 3, 3) := by decide +kernel
theorem dX7_init_4 : decode cX7_init 4 = .ok (.aload_n 0, 1) := by decide +kernel
theorem dX7_init_5 : decode cX7_init 5 = .ok (.new 9, 3) := by decide +kernel
theorem dX7_init_8 : decode cX7_init 8 = .ok (.dup, 1) := by decide +kernel
theorem dX7_init_9 : decode cX7_init 9 = .ok (.invokespecial 11, 3) := by decide +kernel
theorem dX7_init_12 : decode cX7_init 12 = .ok (.putfield 12, 3) := by decide +kernel
theorem dX7_init_15 : decode cX7_init 15 = .ok (.aload_n 0, 1) := by decide +kernel
theorem dX7_init_16 : decode cX7_init 16 = .ok (.aload_n 1, 1) := by decide +kernel
theorem dX7_init_17 : decode cX7_init 17 = .ok (.putfield 18, 3) := by decide +kernel
theorem dX7_init_20 : decode cX7_init 20 = .ok (.return_, 1) := by decide +kernel
theorem dX7_meaningOf_0 : decode cX7_meaningOf 0 = .ok (.aload_n 1, 1) := by decide +kernel
theorem dX7_meaningOf_1 : decode cX7_meaningOf 1 = .ok (.getfield 22, 3) := by decide +kernel
theorem dX7_meaningOf_4 : decode cX7_meaningOf 4 = .ok (.iload_n 2, 1) := by decide +kernel
theorem dX7_meaningOf_5 : decode cX7_meaningOf 5 = .ok (.iaload, 1) := by decide +kernel
theorem dX7_meaningOf_6 : decode cX7_meaningOf 6 = .ok (.iconst 3, 1) := by decide +kernel
theorem dX7_meaningOf_7 : decode cX7_meaningOf 7 = .ok (.if_icmp .ne 25, 3) := by decide +kernel
theorem dX7_meaningOf_10 : decode cX7_meaningOf 10 = .ok (.aload_n 0, 1) := by decide +kernel
theorem dX7_meaningOf_11 : decode cX7_meaningOf 11 = .ok (.getfield 18, 3) := by decide +kernel
theorem dX7_meaningOf_14 : decode cX7_meaningOf 14 = .ok (.aload_n 1, 1) := by decide +kernel
theorem dX7_meaningOf_15 : decode cX7_meaningOf 15 = .ok (.getfield 26, 3) := by decide +kernel
theorem dX7_meaningOf_18 : decode cX7_meaningOf 18 = .ok (.iload_n 2, 1) := by decide +kernel
theorem dX7_meaningOf_19 : decode cX7_meaningOf 19 = .ok (.iaload, 1) := by decide +kernel
theorem dX7_meaningOf_20 : decode cX7_meaningOf 20 = .ok (.aload_n 1, 1) := by decide +kernel
theorem dX7_meaningOf_21 : decode cX7_meaningOf 21 = .ok (.getfield 29, 3) := by decide +kernel
theorem dX7_meaningOf_24 : decode cX7_meaningOf 24 = .ok (.iload_n 2, 1) := by decide +kernel
theorem dX7_meaningOf_25 : decode cX7_meaningOf 25 = .ok (.iaload, 1) := by decide +kernel
theorem dX7_meaningOf_26 : decode cX7_meaningOf 26 = .ok (.invokevirtual 32, 3) := by decide +kernel
theorem dX7_meaningOf_29 : decode cX7_meaningOf 29 = .ok (.goto 4, 3) := by decide +kernel
theorem dX7_meaningOf_32 : decode cX7_meaningOf 32 = .ok (.iconst (-1), 1) := by decide +kernel
theorem dX7_meaningOf_33 : decode cX7_meaningOf 33 = .ok (.ireturn, 1) := by decide +kernel
theorem dX7_applyRule_0 : decode cX7_applyRule 0 = .ok (.iconst 0, 1) := by decide +kernel
theorem dX7_applyRule_1 : decode cX7_applyRule 1 = .ok (.istore_n 2, 1) := by decide +kernel
theorem dX7_applyRule_2 : decode cX7_applyRule 2 = .ok (.iload_n 2, 1) := by decide +kernel
theorem dX7_applyRule_3 : decode cX7_applyRule 3 = .ok (.aload_n 1, 1) := by decide +kernel
theorem dX7_applyRule_4 : decode cX7_applyRule 4 = .ok (.getfield 38, 3) := by decide +kernel
theorem dX7_applyRule_7 : decode cX7_applyRule 7 = .ok (.if_icmp .ge 103, 3) := by decide +kernel
theorem dX7_applyRule_10 : decode cX7_applyRule 10 = .ok (.aload_n 1, 1) := by decide +kernel
theorem dX7_applyRule_11 : decode cX7_applyRule 11 = .ok (.iload_n 2, 1) := by decide +kernel
theorem dX7_applyRule_12 : decode cX7_applyRule 12 = .ok (.invokevirtual 42, 3) := by decide +kernel
theorem dX7_applyRule_15 : decode cX7_applyRule 15 = .ok (.istore_n 3, 1) := by decide +kernel
theorem dX7_applyRule_16 : decode cX7_applyRule 16 = .ok (.aload_n 0, 1) := by decide +kernel
theorem dX7_applyRule_17 : decode cX7_applyRule 17 = .ok (.aload_n 1, 1) := by decide +kernel
theorem dX7_applyRule_18 : decode cX7_applyRule 18 = .ok (.iload_n 3, 1) := by decide +kernel
theorem dX7_applyRule_19 : decode cX7_applyRule 19 = .ok (.invokevirtual 46, 3) := by decide +kernel
theorem dX7_applyRule_22 : decode cX7_applyRule 22 = .ok (.istore 4, 2) := by decide +kernel
theorem dX7_applyRule_24 : decode cX7_applyRule 24 = .ok (.iconst 0, 1) := by decide +kernel
theorem dX7_applyRule_25 : decode cX7_applyRule 25 = .ok (.istore 5, 2) := by decide +kernel
theorem dX7_applyRule_27 : decode cX7_applyRule 27 = .ok (.iload 4, 2) := by decide +kernel
theorem dX7_applyRule_29 : decode cX7_applyRule 29 = .ok (.bipush 11, 2) := by decide +kernel
theorem dX7_applyRule_31 : decode cX7_applyRule 31 = .ok (.if_icmp .ne 39, 3) := by decide +kernel
theorem dX7_applyRule_34 : decode cX7_applyRule 34 = .ok (.aload_n 0, 1) := by decide +kernel
theorem dX7_applyRule_35 : decode cX7_applyRule 35 = .ok (.aload_n 1, 1) := by decide +kernel
theorem dX7_applyRule_36 : decode cX7_applyRule 36 = .ok (.aload_n 1, 1) := by decide +kernel
theorem dX7_applyRule_37 : decode cX7_applyRule 37 = .ok (.iload_n 3, 1) := by decide +kernel
theorem dX7_applyRule_38 : decode cX7_applyRule 38 = .ok (.iconst 0, 1) := by decide +kernel
theorem dX7_applyRule_39 : decode cX7_applyRule 39 = .ok (.invokevirtual 50, 3) := by decide +kernel
theorem dX7_applyRule_42 : decode cX7_applyRule 42 = .ok (.invokevirtual 46, 3) := by decide +kernel
theorem dX7_applyRule_45 : decode cX7_applyRule 45 = .ok (.bipush 11, 2) := by decide +kernel
theorem dX7_applyRule_47 : decode cX7_applyRule 47 = .ok (.if_icmp .ne 23, 3) := by decide +kernel
theorem dX7_applyRule_50 : decode cX7_applyRule 50 = .ok (.aload_n 1, 1) := by decide +kernel
theorem dX7_applyRule_51 : decode cX7_applyRule 51 = .ok (.iload_n 3, 1) := by decide +kernel
theorem dX7_applyRule_52 : decode cX7_applyRule 52 = .ok (.aload_n 1, 1) := by decide +kernel
theorem dX7_applyRule_53 : decode cX7_applyRule 53 = .ok (.iload_n 3, 1) := by decide +kernel
theorem dX7_applyRule_54 : decode cX7_applyRule 54 = .ok (.iconst 0, 1) := by decide +kernel
theorem dX7_applyRule_55 : decode cX7_applyRule 55 = .ok (.invokevirtual 50, 3) := by decide +kernel
theorem dX7_applyRule_58 : decode cX7_applyRule 58 = .ok (.iconst 1, 1) := by decide +kernel
theorem dX7_applyRule_59 : decode cX7_applyRule 59 = .ok (.iadd, 1) := by decide +kernel
theorem dX7_applyRule_60 : decode cX7_applyRule 60 = .ok (.invokevirtual 53, 3) := by decide +kernel
theorem dX7_applyRule_63 : decode cX7_applyRule 63 = .ok (.bipush 6, 2) := by decide +kernel
theorem dX7_applyRule_65 : decode cX7_applyRule 65 = .ok (.istore 5, 2) := by decide +kernel
theorem dX7_applyRule_67 : decode cX7_applyRule 67 = .ok (.goto 24, 3) := by decide +kernel
theorem dX7_applyRule_70 : decode cX7_applyRule 70 = .ok (.iload 4, 2) := by decide +kernel
theorem dX7_applyRule_72 : decode cX7_applyRule 72 = .ok (.ifCond .lt 19, 3) := by decide +kernel
theorem dX7_applyRule_75 : decode cX7_applyRule 75 = .ok (.iload 4, 2) := by decide +kernel
theorem dX7_applyRule_77 : decode cX7_applyRule 77 = .ok (.iconst 5, 1) := by decide +kernel
theorem dX7_applyRule_78 : decode cX7_applyRule 78 = .ok (.if_icmp .gt 13, 3) := by decide +kernel
theorem dX7_applyRule_81 : decode cX7_applyRule 81 = .ok (.aload_n 0, 1) := by decide +kernel
theorem dX7_applyRule_82 : decode cX7_applyRule 82 = .ok (.aload_n 1, 1) := by decide +kernel
theorem dX7_applyRule_83 : decode cX7_applyRule 83 = .ok (.iload_n 3, 1) := by decide +kernel
theorem dX7_applyRule_84 : decode cX7_applyRule 84 = .ok (.iload 4, 2) := by decide +kernel
theorem dX7_applyRule_86 : decode cX7_applyRule 86 = .ok (.invokevirtual 57, 3) := by decide +kernel
theorem dX7_applyRule_89 : decode cX7_applyRule 89 = .ok (.istore 5, 2) := by decide +kernel
theorem dX7_applyRule_91 : decode cX7_applyRule 91 = .ok (.iload 5, 2) := by decide +kernel
theorem dX7_applyRule_93 : decode cX7_applyRule 93 = .ok (.ifCond .eq 11, 3) := by decide +kernel
theorem dX7_applyRule_96 : decode cX7_applyRule 96 = .ok (.aload_n 0, 1) := by decide +kernel
theorem dX7_applyRule_97 : decode cX7_applyRule 97 = .ok (.iload_n 3, 1) := by decide +kernel
theorem dX7_applyRule_98 : decode cX7_applyRule 98 = .ok (.putfield 61, 3) := by decide +kernel
theorem dX7_applyRule_101 : decode cX7_applyRule 101 = .ok (.iload 5, 2) := by decide +kernel
theorem dX7_applyRule_103 : decode cX7_applyRule 103 = .ok (.ireturn, 1) := by decide +kernel
theorem dX7_applyRule_104 : decode cX7_applyRule 104 = .ok (.iinc 2 1, 3) := by decide +kernel
theorem dX7_applyRule_107 : decode cX7_applyRule 107 = .ok (.goto (-105), 3) := by decide +kernel
theorem dX7_applyRule_110 : decode cX7_applyRule 110 = .ok (.iconst 0, 1) := by decide +kernel
theorem dX7_applyRule_111 : decode cX7_applyRule 111 = .ok (.ireturn, 1) := by decide +kernel
theorem dX7_applyToTwo_0 : decode cX7_applyToTwo 0 = .ok (.aload_n 1, 1) := by decide +kernel
theorem dX7_applyToTwo_1 : decode cX7_applyToTwo 1 = .ok (.iload_n 2, 1) := by decide +kernel
theorem dX7_applyToTwo_2 : decode cX7_applyToTwo 2 = .ok (.iconst 0, 1) := by decide +kernel
theorem dX7_applyToTwo_3 : decode cX7_applyToTwo 3 = .ok (.invokevirtual 50, 3) := by decide +kernel
theorem dX7_applyToTwo_6 : decode cX7_applyToTwo 6 = .ok (.istore 4, 2) := by decide +kernel
theorem dX7_applyToTwo_8 : decode cX7_applyToTwo 8 = .ok (.aload_n 1, 1) := by decide +kernel
theorem dX7_applyToTwo_9 : decode cX7_applyToTwo 9 = .ok (.iload_n 2, 1) := by decide +kernel
theorem dX7_applyToTwo_10 : decode cX7_applyToTwo 10 = .ok (.iconst 1, 1) := by decide +kernel
theorem dX7_applyToTwo_11 : decode cX7_applyToTwo 11 = .ok (.invokevirtual 50, 3) := by decide +kernel
theorem dX7_applyToTwo_14 : decode cX7_applyToTwo 14 = .ok (.istore 5, 2) := by decide +kernel
theorem dX7_applyToTwo_16 : decode cX7_applyToTwo 16 = .ok (.aload_n 1, 1) := by decide +kernel
theorem dX7_applyToTwo_17 : decode cX7_applyToTwo 17 = .ok (.iload_n 3, 1) := by decide +kernel
theorem dX7_applyToTwo_18 : decode cX7_applyToTwo 18 = .ok (.iload 4, 2) := by decide +kernel
theorem dX7_applyToTwo_20 : decode cX7_applyToTwo 20 = .ok (.iload 5, 2) := by decide +kernel
theorem dX7_applyToTwo_22 : decode cX7_applyToTwo 22 = .ok (.invokestatic 64, 3) := by decide +kernel
theorem dX7_applyToTwo_25 : decode cX7_applyToTwo 25 = .ok (.istore 6, 2) := by decide +kernel
theorem dX7_applyToTwo_27 : decode cX7_applyToTwo 27 = .ok (.iload 6, 2) := by decide +kernel
theorem dX7_applyToTwo_29 : decode cX7_applyToTwo 29 = .ok (.ifCond .lt 12, 3) := by decide +kernel
theorem dX7_applyToTwo_32 : decode cX7_applyToTwo 32 = .ok (.aload_n 1, 1) := by decide +kernel
theorem dX7_applyToTwo_33 : decode cX7_applyToTwo 33 = .ok (.iload_n 2, 1) := by decide +kernel
theorem dX7_applyToTwo_34 : decode cX7_applyToTwo 34 = .ok (.iload 6, 2) := by decide +kernel
theorem dX7_applyToTwo_36 : decode cX7_applyToTwo 36 = .ok (.invokevirtual 68, 3) := by decide +kernel
theorem dX7_applyToTwo_39 : decode cX7_applyToTwo 39 = .ok (.iconst 1, 1) := by decide +kernel
theorem dX7_applyToTwo_40 : decode cX7_applyToTwo 40 = .ok (.ireturn, 1) := by decide +kernel
theorem dX7_applyToTwo_41 : decode cX7_applyToTwo 41 = .ok (.aload_n 1, 1) := by decide +kernel
theorem dX7_applyToTwo_42 : decode cX7_applyToTwo 42 = .ok (.iload_n 2, 1) := by decide +kernel
theorem dX7_applyToTwo_43 : decode cX7_applyToTwo 43 = .ok (.iload_n 3, 1) := by decide +kernel
theorem dX7_applyToTwo_44 : decode cX7_applyToTwo 44 = .ok (.invokestatic 71, 3) := by decide +kernel
theorem dX7_applyToTwo_47 : decode cX7_applyToTwo 47 = .ok (.istore 7, 2) := by decide +kernel
theorem dX7_applyToTwo_49 : decode cX7_applyToTwo 49 = .ok (.iload 7, 2) := by decide +kernel
theorem dX7_applyToTwo_51 : decode cX7_applyToTwo 51 = .ok (.ifCond .eq 6, 3) := by decide +kernel
theorem dX7_applyToTwo_54 : decode cX7_applyToTwo 54 = .ok (.iload 7, 2) := by decide +kernel
theorem dX7_applyToTwo_56 : decode cX7_applyToTwo 56 = .ok (.ireturn, 1) := by decide +kernel
theorem dX7_applyToTwo_57 : decode cX7_applyToTwo 57 = .ok (.iload_n 3, 1) := by decide +kernel
theorem dX7_applyToTwo_58 : decode cX7_applyToTwo 58 = .ok (.iconst 2, 1) := by decide +kernel
theorem dX7_applyToTwo_59 : decode cX7_applyToTwo 59 = .ok (.if_icmp .ne 31, 3) := by decide +kernel
theorem dX7_applyToTwo_62 : decode cX7_applyToTwo 62 = .ok (.aload_n 1, 1) := by decide +kernel
theorem dX7_applyToTwo_63 : decode cX7_applyToTwo 63 = .ok (.iload 4, 2) := by decide +kernel
theorem dX7_applyToTwo_65 : decode cX7_applyToTwo 65 = .ok (.iconst 0, 1) := by decide +kernel
theorem dX7_applyToTwo_66 : decode cX7_applyToTwo 66 = .ok (.invokevirtual 74, 3) := by decide +kernel
theorem dX7_applyToTwo_69 : decode cX7_applyToTwo 69 = .ok (.ifCond .ne 13, 3) := by decide +kernel
theorem dX7_applyToTwo_72 : decode cX7_applyToTwo 72 = .ok (.aload_n 1, 1) := by decide +kernel
theorem dX7_applyToTwo_73 : decode cX7_applyToTwo 73 = .ok (.iload 5, 2) := by decide +kernel
theorem dX7_applyToTwo_75 : decode cX7_applyToTwo 75 = .ok (.iconst 0, 1) := by decide +kernel
theorem dX7_applyToTwo_76 : decode cX7_applyToTwo 76 = .ok (.invokevirtual 74, 3) := by decide +kernel
theorem dX7_applyToTwo_79 : decode cX7_applyToTwo 79 = .ok (.ifCond .eq 11, 3) := by decide +kernel
theorem dX7_applyToTwo_82 : decode cX7_applyToTwo 82 = .ok (.aload_n 1, 1) := by decide +kernel
theorem dX7_applyToTwo_83 : decode cX7_applyToTwo 83 = .ok (.iload_n 2, 1) := by decide +kernel
theorem dX7_applyToTwo_84 : decode cX7_applyToTwo 84 = .ok (.iconst 0, 1) := by decide +kernel
theorem dX7_applyToTwo_85 : decode cX7_applyToTwo 85 = .ok (.invokevirtual 68, 3) := by decide +kernel
theorem dX7_applyToTwo_88 : decode cX7_applyToTwo 88 = .ok (.iconst 4, 1) := by decide +kernel
theorem dX7_applyToTwo_89 : decode cX7_applyToTwo 89 = .ok (.ireturn, 1) := by decide +kernel
theorem dX7_applyToTwo_90 : decode cX7_applyToTwo 90 = .ok (.iload_n 3, 1) := by decide +kernel
theorem dX7_applyToTwo_91 : decode cX7_applyToTwo 91 = .ok (.iconst 1, 1) := by decide +kernel
theorem dX7_applyToTwo_92 : decode cX7_applyToTwo 92 = .ok (.if_icmp .eq 8, 3) := by decide +kernel
theorem dX7_applyToTwo_95 : decode cX7_applyToTwo 95 = .ok (.iload_n 3, 1) := by decide +kernel
theorem dX7_applyToTwo_96 : decode cX7_applyToTwo 96 = .ok (.iconst 3, 1) := by decide +kernel
theorem dX7_applyToTwo_97 : decode cX7_applyToTwo 97 = .ok (.if_icmp .ne 31, 3) := by decide +kernel
theorem dX7_applyToTwo_100 : decode cX7_applyToTwo 100 = .ok (.aload_n 1, 1) := by decide +kernel
theorem dX7_applyToTwo_101 : decode cX7_applyToTwo 101 = .ok (.iload 4, 2) := by decide +kernel
theorem dX7_applyToTwo_103 : decode cX7_applyToTwo 103 = .ok (.iload 5, 2) := by decide +kernel
theorem dX7_applyToTwo_105 : decode cX7_applyToTwo 105 = .ok (.invokevirtual 78, 3) := by decide +kernel
theorem dX7_applyToTwo_108 : decode cX7_applyToTwo 108 = .ok (.ifCond .eq 20, 3) := by decide +kernel
theorem dX7_applyToTwo_111 : decode cX7_applyToTwo 111 = .ok (.aload_n 1, 1) := by decide +kernel
theorem dX7_applyToTwo_112 : decode cX7_applyToTwo 112 = .ok (.iload_n 2, 1) := by decide +kernel
theorem dX7_applyToTwo_113 : decode cX7_applyToTwo 113 = .ok (.iload_n 3, 1) := by decide +kernel
theorem dX7_applyToTwo_114 : decode cX7_applyToTwo 114 = .ok (.iconst 1, 1) := by decide +kernel
theorem dX7_applyToTwo_115 : decode cX7_applyToTwo 115 = .ok (.if_icmp .ne 7, 3) := by decide +kernel
theorem dX7_applyToTwo_118 : decode cX7_applyToTwo 118 = .ok (.iconst 0, 1) := by decide +kernel
theorem dX7_applyToTwo_119 : decode cX7_applyToTwo 119 = .ok (.goto 4, 3) := by decide +kernel
theorem dX7_applyToTwo_122 : decode cX7_applyToTwo 122 = .ok (.iconst 1, 1) := by decide +kernel
theorem dX7_applyToTwo_123 : decode cX7_applyToTwo 123 = .ok (.invokevirtual 68, 3) := by decide +kernel
theorem dX7_applyToTwo_126 : decode cX7_applyToTwo 126 = .ok (.iconst 5, 1) := by decide +kernel
theorem dX7_applyToTwo_127 : decode cX7_applyToTwo 127 = .ok (.ireturn, 1) := by decide +kernel
theorem dX7_applyToTwo_128 : decode cX7_applyToTwo 128 = .ok (.iload_n 3, 1) := by decide +kernel
theorem dX7_applyToTwo_129 : decode cX7_applyToTwo 129 = .ok (.ifCond .ne 21, 3) := by decide +kernel
theorem dX7_applyToTwo_132 : decode cX7_applyToTwo 132 = .ok (.aload_n 0, 1) := by decide +kernel
theorem dX7_applyToTwo_133 : decode cX7_applyToTwo 133 = .ok (.aload_n 1, 1) := by decide +kernel
theorem dX7_applyToTwo_134 : decode cX7_applyToTwo 134 = .ok (.iload_n 2, 1) := by decide +kernel
theorem dX7_applyToTwo_135 : decode cX7_applyToTwo 135 = .ok (.iload 4, 2) := by decide +kernel
theorem dX7_applyToTwo_137 : decode cX7_applyToTwo 137 = .ok (.iload 5, 2) := by decide +kernel
theorem dX7_applyToTwo_139 : decode cX7_applyToTwo 139 = .ok (.invokevirtual 81, 3) := by decide +kernel
theorem dX7_applyToTwo_142 : decode cX7_applyToTwo 142 = .ok (.ifCond .eq 8, 3) := by decide +kernel
theorem dX7_applyToTwo_145 : decode cX7_applyToTwo 145 = .ok (.bipush 7, 2) := by decide +kernel
theorem dX7_applyToTwo_147 : decode cX7_applyToTwo 147 = .ok (.goto 4, 3) := by decide +kernel
theorem dX7_applyToTwo_150 : decode cX7_applyToTwo 150 = .ok (.iconst 0, 1) := by decide +kernel
theorem dX7_applyToTwo_151 : decode cX7_applyToTwo 151 = .ok (.ireturn, 1) := by decide +kernel
theorem dX7_wholeOf_0 : decode cX7_wholeOf 0 = .ok (.aload_n 0, 1) := by decide +kernel
theorem dX7_wholeOf_1 : decode cX7_wholeOf 1 = .ok (.getfield 22, 3) := by decide +kernel
theorem dX7_wholeOf_4 : decode cX7_wholeOf 4 = .ok (.iload_n 2, 1) := by decide +kernel
theorem dX7_wholeOf_5 : decode cX7_wholeOf 5 = .ok (.iaload, 1) := by decide +kernel
theorem dX7_wholeOf_6 : decode cX7_wholeOf 6 = .ok (.ifCond .ne 12, 3) := by decide +kernel
theorem dX7_wholeOf_9 : decode cX7_wholeOf 9 = .ok (.aload_n 0, 1) := by decide +kernel
theorem dX7_wholeOf_10 : decode cX7_wholeOf 10 = .ok (.getfield 22, 3) := by decide +kernel
theorem dX7_wholeOf_13 : decode cX7_wholeOf 13 = .ok (.iload_n 3, 1) := by decide +kernel
theorem dX7_wholeOf_14 : decode cX7_wholeOf 14 = .ok (.iaload, 1) := by decide +kernel
theorem dX7_wholeOf_15 : decode cX7_wholeOf 15 = .ok (.ifCond .eq 5, 3) := by decide +kernel
theorem dX7_wholeOf_18 : decode cX7_wholeOf 18 = .ok (.iconst (-1), 1) := by decide +kernel
theorem dX7_wholeOf_19 : decode cX7_wholeOf 19 = .ok (.ireturn, 1) := by decide +kernel
theorem dX7_wholeOf_20 : decode cX7_wholeOf 20 = .ok (.aload_n 0, 1) := by decide +kernel
theorem dX7_wholeOf_21 : decode cX7_wholeOf 21 = .ok (.getfield 26, 3) := by decide +kernel
theorem dX7_wholeOf_24 : decode cX7_wholeOf 24 = .ok (.iload_n 2, 1) := by decide +kernel
theorem dX7_wholeOf_25 : decode cX7_wholeOf 25 = .ok (.iaload, 1) := by decide +kernel
theorem dX7_wholeOf_26 : decode cX7_wholeOf 26 = .ok (.i2l, 1) := by decide +kernel
theorem dX7_wholeOf_27 : decode cX7_wholeOf 27 = .ok (.lstore 4, 2) := by decide +kernel
theorem dX7_wholeOf_29 : decode cX7_wholeOf 29 = .ok (.aload_n 0, 1) := by decide +kernel
theorem dX7_wholeOf_30 : decode cX7_wholeOf 30 = .ok (.getfield 26, 3) := by decide +kernel
theorem dX7_wholeOf_33 : decode cX7_wholeOf 33 = .ok (.iload_n 3, 1) := by decide +kernel
theorem dX7_wholeOf_34 : decode cX7_wholeOf 34 = .ok (.iaload, 1) := by decide +kernel
theorem dX7_wholeOf_35 : decode cX7_wholeOf 35 = .ok (.i2l, 1) := by decide +kernel
theorem dX7_wholeOf_36 : decode cX7_wholeOf 36 = .ok (.lstore 6, 2) := by decide +kernel
theorem dX7_wholeOf_38 : decode cX7_wholeOf 38 = .ok (.iload_n 1, 1) := by decide +kernel
theorem dX7_wholeOf_39 : decode cX7_wholeOf 39 = .ok (.tableswitch 127 0 5 #[37, 47, 57, 67, 127, 100], 37) := by decide +kernel
theorem dX7_wholeOf_76 : decode cX7_wholeOf 76 = .ok (.lload 4, 2) := by decide +kernel
theorem dX7_wholeOf_78 : decode cX7_wholeOf 78 = .ok (.lload 6, 2) := by decide +kernel
theorem dX7_wholeOf_80 : decode cX7_wholeOf 80 = .ok (.ladd, 1) := by decide +kernel
theorem dX7_wholeOf_81 : decode cX7_wholeOf 81 = .ok (.lstore 8, 2) := by decide +kernel
theorem dX7_wholeOf_83 : decode cX7_wholeOf 83 = .ok (.goto 88, 3) := by decide +kernel
theorem dX7_wholeOf_86 : decode cX7_wholeOf 86 = .ok (.lload 4, 2) := by decide +kernel
theorem dX7_wholeOf_88 : decode cX7_wholeOf 88 = .ok (.lload 6, 2) := by decide +kernel
theorem dX7_wholeOf_90 : decode cX7_wholeOf 90 = .ok (.lsub, 1) := by decide +kernel
theorem dX7_wholeOf_91 : decode cX7_wholeOf 91 = .ok (.lstore 8, 2) := by decide +kernel
theorem dX7_wholeOf_93 : decode cX7_wholeOf 93 = .ok (.goto 78, 3) := by decide +kernel
theorem dX7_wholeOf_96 : decode cX7_wholeOf 96 = .ok (.lload 4, 2) := by decide +kernel
theorem dX7_wholeOf_98 : decode cX7_wholeOf 98 = .ok (.lload 6, 2) := by decide +kernel
theorem dX7_wholeOf_100 : decode cX7_wholeOf 100 = .ok (.lmul, 1) := by decide +kernel
theorem dX7_wholeOf_101 : decode cX7_wholeOf 101 = .ok (.lstore 8, 2) := by decide +kernel
theorem dX7_wholeOf_103 : decode cX7_wholeOf 103 = .ok (.goto 68, 3) := by decide +kernel
theorem dX7_wholeOf_106 : decode cX7_wholeOf 106 = .ok (.lload 6, 2) := by decide +kernel
theorem dX7_wholeOf_108 : decode cX7_wholeOf 108 = .ok (.lconst 0, 1) := by decide +kernel
theorem dX7_wholeOf_109 : decode cX7_wholeOf 109 = .ok (.lcmp, 1) := by decide +kernel
theorem dX7_wholeOf_110 : decode cX7_wholeOf 110 = .ok (.ifCond .le 21, 3) := by decide +kernel
theorem dX7_wholeOf_113 : decode cX7_wholeOf 113 = .ok (.lload 4, 2) := by decide +kernel
theorem dX7_wholeOf_115 : decode cX7_wholeOf 115 = .ok (.lload 6, 2) := by decide +kernel
theorem dX7_wholeOf_117 : decode cX7_wholeOf 117 = .ok (.lrem, 1) := by decide +kernel
theorem dX7_wholeOf_118 : decode cX7_wholeOf 118 = .ok (.lconst 0, 1) := by decide +kernel
theorem dX7_wholeOf_119 : decode cX7_wholeOf 119 = .ok (.lcmp, 1) := by decide +kernel
theorem dX7_wholeOf_120 : decode cX7_wholeOf 120 = .ok (.ifCond .ne 11, 3) := by decide +kernel
theorem dX7_wholeOf_123 : decode cX7_wholeOf 123 = .ok (.lload 4, 2) := by decide +kernel
theorem dX7_wholeOf_125 : decode cX7_wholeOf 125 = .ok (.lload 6, 2) := by decide +kernel
theorem dX7_wholeOf_127 : decode cX7_wholeOf 127 = .ok (.ldiv, 1) := by decide +kernel
theorem dX7_wholeOf_128 : decode cX7_wholeOf 128 = .ok (.goto 6, 3) := by decide +kernel
theorem dX7_wholeOf_131 : decode cX7_wholeOf 131 = .ok (.ldc2_w 85, 3) := by decide +kernel
theorem dX7_wholeOf_134 : decode cX7_wholeOf 134 = .ok (.lstore 8, 2) := by decide +kernel
theorem dX7_wholeOf_136 : decode cX7_wholeOf 136 = .ok (.goto 35, 3) := by decide +kernel
theorem dX7_wholeOf_139 : decode cX7_wholeOf 139 = .ok (.lload 6, 2) := by decide +kernel
theorem dX7_wholeOf_141 : decode cX7_wholeOf 141 = .ok (.ldc2_w 87, 3) := by decide +kernel
theorem dX7_wholeOf_144 : decode cX7_wholeOf 144 = .ok (.lcmp, 1) := by decide +kernel
theorem dX7_wholeOf_145 : decode cX7_wholeOf 145 = .ok (.ifCond .gt 13, 3) := by decide +kernel
theorem dX7_wholeOf_148 : decode cX7_wholeOf 148 = .ok (.lload 4, 2) := by decide +kernel
theorem dX7_wholeOf_150 : decode cX7_wholeOf 150 = .ok (.lload 6, 2) := by decide +kernel
theorem dX7_wholeOf_152 : decode cX7_wholeOf 152 = .ok (.invokestatic 89, 3) := by decide +kernel
theorem dX7_wholeOf_155 : decode cX7_wholeOf 155 = .ok (.goto 6, 3) := by decide +kernel
theorem dX7_wholeOf_158 : decode cX7_wholeOf 158 = .ok (.ldc2_w 85, 3) := by decide +kernel
theorem dX7_wholeOf_161 : decode cX7_wholeOf 161 = .ok (.lstore 8, 2) := by decide +kernel
theorem dX7_wholeOf_163 : decode cX7_wholeOf 163 = .ok (.goto 8, 3) := by decide +kernel
theorem dX7_wholeOf_166 : decode cX7_wholeOf 166 = .ok (.ldc2_w 85, 3) := by decide +kernel
theorem dX7_wholeOf_169 : decode cX7_wholeOf 169 = .ok (.lstore 8, 2) := by decide +kernel
theorem dX7_wholeOf_171 : decode cX7_wholeOf 171 = .ok (.lload 8, 2) := by decide +kernel
theorem dX7_wholeOf_173 : decode cX7_wholeOf 173 = .ok (.lconst 0, 1) := by decide +kernel
theorem dX7_wholeOf_174 : decode cX7_wholeOf 174 = .ok (.lcmp, 1) := by decide +kernel
theorem dX7_wholeOf_175 : decode cX7_wholeOf 175 = .ok (.ifCond .lt 18, 3) := by decide +kernel
theorem dX7_wholeOf_178 : decode cX7_wholeOf 178 = .ok (.lload 8, 2) := by decide +kernel
theorem dX7_wholeOf_180 : decode cX7_wholeOf 180 = .ok (.ldc2_w 93, 3) := by decide +kernel
theorem dX7_wholeOf_183 : decode cX7_wholeOf 183 = .ok (.lcmp, 1) := by decide +kernel
theorem dX7_wholeOf_184 : decode cX7_wholeOf 184 = .ok (.ifCond .gt 9, 3) := by decide +kernel
theorem dX7_wholeOf_187 : decode cX7_wholeOf 187 = .ok (.lload 8, 2) := by decide +kernel
theorem dX7_wholeOf_189 : decode cX7_wholeOf 189 = .ok (.l2i, 1) := by decide +kernel
theorem dX7_wholeOf_190 : decode cX7_wholeOf 190 = .ok (.goto 4, 3) := by decide +kernel
theorem dX7_wholeOf_193 : decode cX7_wholeOf 193 = .ok (.iconst (-1), 1) := by decide +kernel
theorem dX7_wholeOf_194 : decode cX7_wholeOf 194 = .ok (.ireturn, 1) := by decide +kernel
theorem dX7_powerOf_0 : decode cX7_powerOf 0 = .ok (.lconst 1, 1) := by decide +kernel
theorem dX7_powerOf_1 : decode cX7_powerOf 1 = .ok (.lstore 4, 2) := by decide +kernel
theorem dX7_powerOf_3 : decode cX7_powerOf 3 = .ok (.lconst 0, 1) := by decide +kernel
theorem dX7_powerOf_4 : decode cX7_powerOf 4 = .ok (.lstore 6, 2) := by decide +kernel
theorem dX7_powerOf_6 : decode cX7_powerOf 6 = .ok (.lload 6, 2) := by decide +kernel
theorem dX7_powerOf_8 : decode cX7_powerOf 8 = .ok (.lload_n 2, 1) := by decide +kernel
theorem dX7_powerOf_9 : decode cX7_powerOf 9 = .ok (.lcmp, 1) := by decide +kernel
theorem dX7_powerOf_10 : decode cX7_powerOf 10 = .ok (.ifCond .ge 27, 3) := by decide +kernel
theorem dX7_powerOf_13 : decode cX7_powerOf 13 = .ok (.lload 4, 2) := by decide +kernel
theorem dX7_powerOf_15 : decode cX7_powerOf 15 = .ok (.ldc2_w 93, 3) := by decide +kernel
theorem dX7_powerOf_18 : decode cX7_powerOf 18 = .ok (.lcmp, 1) := by decide +kernel
theorem dX7_powerOf_19 : decode cX7_powerOf 19 = .ok (.ifCond .gt 18, 3) := by decide +kernel
theorem dX7_powerOf_22 : decode cX7_powerOf 22 = .ok (.lload 4, 2) := by decide +kernel
theorem dX7_powerOf_24 : decode cX7_powerOf 24 = .ok (.lload_n 0, 1) := by decide +kernel
theorem dX7_powerOf_25 : decode cX7_powerOf 25 = .ok (.lmul, 1) := by decide +kernel
theorem dX7_powerOf_26 : decode cX7_powerOf 26 = .ok (.lstore 4, 2) := by decide +kernel
theorem dX7_powerOf_28 : decode cX7_powerOf 28 = .ok (.lload 6, 2) := by decide +kernel
theorem dX7_powerOf_30 : decode cX7_powerOf 30 = .ok (.lconst 1, 1) := by decide +kernel
theorem dX7_powerOf_31 : decode cX7_powerOf 31 = .ok (.ladd, 1) := by decide +kernel
theorem dX7_powerOf_32 : decode cX7_powerOf 32 = .ok (.lstore 6, 2) := by decide +kernel
theorem dX7_powerOf_34 : decode cX7_powerOf 34 = .ok (.goto (-28), 3) := by decide +kernel
theorem dX7_powerOf_37 : decode cX7_powerOf 37 = .ok (.lload 4, 2) := by decide +kernel
theorem dX7_powerOf_39 : decode cX7_powerOf 39 = .ok (.lreturn, 1) := by decide +kernel
theorem dX7_applyNeutral_0 : decode cX7_applyNeutral 0 = .ok (.aload_n 0, 1) := by decide +kernel
theorem dX7_applyNeutral_1 : decode cX7_applyNeutral 1 = .ok (.iload_n 1, 1) := by decide +kernel
theorem dX7_applyNeutral_2 : decode cX7_applyNeutral 2 = .ok (.iconst 0, 1) := by decide +kernel
theorem dX7_applyNeutral_3 : decode cX7_applyNeutral 3 = .ok (.invokevirtual 50, 3) := by decide +kernel
theorem dX7_applyNeutral_6 : decode cX7_applyNeutral 6 = .ok (.istore_n 3, 1) := by decide +kernel
theorem dX7_applyNeutral_7 : decode cX7_applyNeutral 7 = .ok (.aload_n 0, 1) := by decide +kernel
theorem dX7_applyNeutral_8 : decode cX7_applyNeutral 8 = .ok (.iload_n 1, 1) := by decide +kernel
theorem dX7_applyNeutral_9 : decode cX7_applyNeutral 9 = .ok (.iconst 1, 1) := by decide +kernel
theorem dX7_applyNeutral_10 : decode cX7_applyNeutral 10 = .ok (.invokevirtual 50, 3) := by decide +kernel
theorem dX7_applyNeutral_13 : decode cX7_applyNeutral 13 = .ok (.istore 4, 2) := by decide +kernel
theorem dX7_applyNeutral_15 : decode cX7_applyNeutral 15 = .ok (.iload_n 2, 1) := by decide +kernel
theorem dX7_applyNeutral_16 : decode cX7_applyNeutral 16 = .ok (.ifCond .eq 8, 3) := by decide +kernel
theorem dX7_applyNeutral_19 : decode cX7_applyNeutral 19 = .ok (.iload_n 2, 1) := by decide +kernel
theorem dX7_applyNeutral_20 : decode cX7_applyNeutral 20 = .ok (.iconst 1, 1) := by decide +kernel
theorem dX7_applyNeutral_21 : decode cX7_applyNeutral 21 = .ok (.if_icmp .ne 7, 3) := by decide +kernel
theorem dX7_applyNeutral_24 : decode cX7_applyNeutral 24 = .ok (.iconst 1, 1) := by decide +kernel
theorem dX7_applyNeutral_25 : decode cX7_applyNeutral 25 = .ok (.goto 4, 3) := by decide +kernel
theorem dX7_applyNeutral_28 : decode cX7_applyNeutral 28 = .ok (.iconst 0, 1) := by decide +kernel
theorem dX7_applyNeutral_29 : decode cX7_applyNeutral 29 = .ok (.istore 5, 2) := by decide +kernel
theorem dX7_applyNeutral_31 : decode cX7_applyNeutral 31 = .ok (.iload 5, 2) := by decide +kernel
theorem dX7_applyNeutral_33 : decode cX7_applyNeutral 33 = .ok (.ifCond .ne 20, 3) := by decide +kernel
theorem dX7_applyNeutral_36 : decode cX7_applyNeutral 36 = .ok (.iload_n 2, 1) := by decide +kernel
theorem dX7_applyNeutral_37 : decode cX7_applyNeutral 37 = .ok (.iconst 2, 1) := by decide +kernel
theorem dX7_applyNeutral_38 : decode cX7_applyNeutral 38 = .ok (.if_icmp .eq 15, 3) := by decide +kernel
theorem dX7_applyNeutral_41 : decode cX7_applyNeutral 41 = .ok (.iload_n 2, 1) := by decide +kernel
theorem dX7_applyNeutral_42 : decode cX7_applyNeutral 42 = .ok (.iconst 3, 1) := by decide +kernel
theorem dX7_applyNeutral_43 : decode cX7_applyNeutral 43 = .ok (.if_icmp .eq 10, 3) := by decide +kernel
theorem dX7_applyNeutral_46 : decode cX7_applyNeutral 46 = .ok (.iload_n 2, 1) := by decide +kernel
theorem dX7_applyNeutral_47 : decode cX7_applyNeutral 47 = .ok (.iconst 5, 1) := by decide +kernel
theorem dX7_applyNeutral_48 : decode cX7_applyNeutral 48 = .ok (.if_icmp .eq 5, 3) := by decide +kernel
theorem dX7_applyNeutral_51 : decode cX7_applyNeutral 51 = .ok (.iconst 0, 1) := by decide +kernel
theorem dX7_applyNeutral_52 : decode cX7_applyNeutral 52 = .ok (.ireturn, 1) := by decide +kernel
theorem dX7_applyNeutral_53 : decode cX7_applyNeutral 53 = .ok (.iload 5, 2) := by decide +kernel
theorem dX7_applyNeutral_55 : decode cX7_applyNeutral 55 = .ok (.ifCond .eq 7, 3) := by decide +kernel
