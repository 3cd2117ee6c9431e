theorem dX10_takeTimes_47 : decode cX10_takeTimes 47 = .ok (.lload_n 2, 1) := by decide +kernel
theorem dX10_takeTimes_48 : decode cX10_takeTimes 48 = .ok (.aload_n 1, 1) := by decide +kernel
theorem dX10_takeTimes_49 : decode cX10_takeTimes 49 = .ok (.getfield 9, 3) := by decide +kernel
theorem dX10_takeTimes_52 : decode cX10_takeTimes 52 = .ok (.iload 8, 2) := by decide +kernel
theorem dX10_takeTimes_54 : decode cX10_takeTimes 54 = .ok (.iaload, 1) := by decide +kernel
theorem dX10_takeTimes_55 : decode cX10_takeTimes 55 = .ok (.i2l, 1) := by decide +kernel
theorem dX10_takeTimes_56 : decode cX10_takeTimes 56 = .ok (.lmul, 1) := by decide +kernel
theorem dX10_takeTimes_57 : decode cX10_takeTimes 57 = .ok (.lsub, 1) := by decide +kernel
theorem dX10_takeTimes_58 : decode cX10_takeTimes 58 = .ok (.lload 5, 2) := by decide +kernel
theorem dX10_takeTimes_60 : decode cX10_takeTimes 60 = .ok (.lsub, 1) := by decide +kernel
theorem dX10_takeTimes_61 : decode cX10_takeTimes 61 = .ok (.lstore 9, 2) := by decide +kernel
theorem dX10_takeTimes_63 : decode cX10_takeTimes 63 = .ok (.aload_n 0, 1) := by decide +kernel
theorem dX10_takeTimes_64 : decode cX10_takeTimes 64 = .ok (.getfield 9, 3) := by decide +kernel
theorem dX10_takeTimes_67 : decode cX10_takeTimes 67 = .ok (.iload 4, 2) := by decide +kernel
theorem dX10_takeTimes_69 : decode cX10_takeTimes 69 = .ok (.iload 8, 2) := by decide +kernel
theorem dX10_takeTimes_71 : decode cX10_takeTimes 71 = .ok (.iadd, 1) := by decide +kernel
theorem dX10_takeTimes_72 : decode cX10_takeTimes 72 = .ok (.lload 9, 2) := by decide +kernel
theorem dX10_takeTimes_74 : decode cX10_takeTimes 74 = .ok (.ldc2_w 21, 3) := by decide +kernel
theorem dX10_takeTimes_77 : decode cX10_takeTimes 77 = .ok (.land, 1) := by decide +kernel
theorem dX10_takeTimes_78 : decode cX10_takeTimes 78 = .ok (.l2i, 1) := by decide +kernel
theorem dX10_takeTimes_79 : decode cX10_takeTimes 79 = .ok (.iastore, 1) := by decide +kernel
theorem dX10_takeTimes_80 : decode cX10_takeTimes 80 = .ok (.lload 9, 2) := by decide +kernel
theorem dX10_takeTimes_82 : decode cX10_takeTimes 82 = .ok (.bipush 30, 2) := by decide +kernel
theorem dX10_takeTimes_84 : decode cX10_takeTimes 84 = .ok (.lshr, 1) := by decide +kernel
theorem dX10_takeTimes_85 : decode cX10_takeTimes 85 = .ok (.lneg, 1) := by decide +kernel
theorem dX10_takeTimes_86 : decode cX10_takeTimes 86 = .ok (.lstore 5, 2) := by decide +kernel
theorem dX10_takeTimes_88 : decode cX10_takeTimes 88 = .ok (.iinc 8 1, 3) := by decide +kernel
theorem dX10_takeTimes_91 : decode cX10_takeTimes 91 = .ok (.goto (-76), 3) := by decide +kernel
theorem dX10_takeTimes_94 : decode cX10_takeTimes 94 = .ok (.iload 7, 2) := by decide +kernel
theorem dX10_takeTimes_96 : decode cX10_takeTimes 96 = .ok (.aload_n 0, 1) := by decide +kernel
theorem dX10_takeTimes_97 : decode cX10_takeTimes 97 = .ok (.getfield 17, 3) := by decide +kernel
theorem dX10_takeTimes_100 : decode cX10_takeTimes 100 = .ok (.if_icmp .ge 13, 3) := by decide +kernel
theorem dX10_takeTimes_103 : decode cX10_takeTimes 103 = .ok (.aload_n 0, 1) := by decide +kernel
theorem dX10_takeTimes_104 : decode cX10_takeTimes 104 = .ok (.getfield 9, 3) := by decide +kernel
theorem dX10_takeTimes_107 : decode cX10_takeTimes 107 = .ok (.iload 7, 2) := by decide +kernel
theorem dX10_takeTimes_109 : decode cX10_takeTimes 109 = .ok (.iaload, 1) := by decide +kernel
theorem dX10_takeTimes_110 : decode cX10_takeTimes 110 = .ok (.goto 4, 3) := by decide +kernel
theorem dX10_takeTimes_113 : decode cX10_takeTimes 113 = .ok (.iconst 0, 1) := by decide +kernel
theorem dX10_takeTimes_114 : decode cX10_takeTimes 114 = .ok (.i2l, 1) := by decide +kernel
theorem dX10_takeTimes_115 : decode cX10_takeTimes 115 = .ok (.lload 5, 2) := by decide +kernel
theorem dX10_takeTimes_117 : decode cX10_takeTimes 117 = .ok (.lsub, 1) := by decide +kernel
theorem dX10_takeTimes_118 : decode cX10_takeTimes 118 = .ok (.lstore 8, 2) := by decide +kernel
theorem dX10_takeTimes_120 : decode cX10_takeTimes 120 = .ok (.lload 8, 2) := by decide +kernel
theorem dX10_takeTimes_122 : decode cX10_takeTimes 122 = .ok (.lconst 0, 1) := by decide +kernel
theorem dX10_takeTimes_123 : decode cX10_takeTimes 123 = .ok (.lcmp, 1) := by decide +kernel
theorem dX10_takeTimes_124 : decode cX10_takeTimes 124 = .ok (.ifCond .ge 96, 3) := by decide +kernel
theorem dX10_takeTimes_127 : decode cX10_takeTimes 127 = .ok (.lconst 0, 1) := by decide +kernel
theorem dX10_takeTimes_128 : decode cX10_takeTimes 128 = .ok (.lstore 10, 2) := by decide +kernel
theorem dX10_takeTimes_130 : decode cX10_takeTimes 130 = .ok (.iconst 0, 1) := by decide +kernel
theorem dX10_takeTimes_131 : decode cX10_takeTimes 131 = .ok (.istore 12, 2) := by decide +kernel
theorem dX10_takeTimes_133 : decode cX10_takeTimes 133 = .ok (.iload 12, 2) := by decide +kernel
theorem dX10_takeTimes_135 : decode cX10_takeTimes 135 = .ok (.aload_n 1, 1) := by decide +kernel
theorem dX10_takeTimes_136 : decode cX10_takeTimes 136 = .ok (.getfield 17, 3) := by decide +kernel
theorem dX10_takeTimes_139 : decode cX10_takeTimes 139 = .ok (.if_icmp .ge 70, 3) := by decide +kernel
theorem dX10_takeTimes_142 : decode cX10_takeTimes 142 = .ok (.iload 4, 2) := by decide +kernel
theorem dX10_takeTimes_144 : decode cX10_takeTimes 144 = .ok (.iload 12, 2) := by decide +kernel
theorem dX10_takeTimes_146 : decode cX10_takeTimes 146 = .ok (.iadd, 1) := by decide +kernel
theorem dX10_takeTimes_147 : decode cX10_takeTimes 147 = .ok (.aload_n 0, 1) := by decide +kernel
theorem dX10_takeTimes_148 : decode cX10_takeTimes 148 = .ok (.getfield 17, 3) := by decide +kernel
theorem dX10_takeTimes_151 : decode cX10_takeTimes 151 = .ok (.if_icmp .ge 58, 3) := by decide +kernel
theorem dX10_takeTimes_154 : decode cX10_takeTimes 154 = .ok (.aload_n 0, 1) := by decide +kernel
theorem dX10_takeTimes_155 : decode cX10_takeTimes 155 = .ok (.getfield 9, 3) := by decide +kernel
theorem dX10_takeTimes_158 : decode cX10_takeTimes 158 = .ok (.iload 4, 2) := by decide +kernel
theorem dX10_takeTimes_160 : decode cX10_takeTimes 160 = .ok (.iload 12, 2) := by decide +kernel
theorem dX10_takeTimes_162 : decode cX10_takeTimes 162 = .ok (.iadd, 1) := by decide +kernel
theorem dX10_takeTimes_163 : decode cX10_takeTimes 163 = .ok (.iaload, 1) := by decide +kernel
theorem dX10_takeTimes_164 : decode cX10_takeTimes 164 = .ok (.i2l, 1) := by decide +kernel
theorem dX10_takeTimes_165 : decode cX10_takeTimes 165 = .ok (.aload_n 1, 1) := by decide +kernel
theorem dX10_takeTimes_166 : decode cX10_takeTimes 166 = .ok (.getfield 9, 3) := by decide +kernel
theorem dX10_takeTimes_169 : decode cX10_takeTimes 169 = .ok (.iload 12, 2) := by decide +kernel
theorem dX10_takeTimes_171 : decode cX10_takeTimes 171 = .ok (.iaload, 1) := by decide +kernel
theorem dX10_takeTimes_172 : decode cX10_takeTimes 172 = .ok (.i2l, 1) := by decide +kernel
theorem dX10_takeTimes_173 : decode cX10_takeTimes 173 = .ok (.ladd, 1) := by decide +kernel
theorem dX10_takeTimes_174 : decode cX10_takeTimes 174 = .ok (.lload 10, 2) := by decide +kernel
theorem dX10_takeTimes_176 : decode cX10_takeTimes 176 = .ok (.ladd, 1) := by decide +kernel
theorem dX10_takeTimes_177 : decode cX10_takeTimes 177 = .ok (.lstore 13, 2) := by decide +kernel
theorem dX10_takeTimes_179 : decode cX10_takeTimes 179 = .ok (.aload_n 0, 1) := by decide +kernel
theorem dX10_takeTimes_180 : decode cX10_takeTimes 180 = .ok (.getfield 9, 3) := by decide +kernel
theorem dX10_takeTimes_183 : decode cX10_takeTimes 183 = .ok (.iload 4, 2) := by decide +kernel
theorem dX10_takeTimes_185 : decode cX10_takeTimes 185 = .ok (.iload 12, 2) := by decide +kernel
theorem dX10_takeTimes_187 : decode cX10_takeTimes 187 = .ok (.iadd, 1) := by decide +kernel
theorem dX10_takeTimes_188 : decode cX10_takeTimes 188 = .ok (.lload 13, 2) := by decide +kernel
theorem dX10_takeTimes_190 : decode cX10_takeTimes 190 = .ok (.ldc2_w 21, 3) := by decide +kernel
theorem dX10_takeTimes_193 : decode cX10_takeTimes 193 = .ok (.land, 1) := by decide +kernel
theorem dX10_takeTimes_194 : decode cX10_takeTimes 194 = .ok (.l2i, 1) := by decide +kernel
theorem dX10_takeTimes_195 : decode cX10_takeTimes 195 = .ok (.iastore, 1) := by decide +kernel
theorem dX10_takeTimes_196 : decode cX10_takeTimes 196 = .ok (.lload 13, 2) := by decide +kernel
theorem dX10_takeTimes_198 : decode cX10_takeTimes 198 = .ok (.bipush 30, 2) := by decide +kernel
theorem dX10_takeTimes_200 : decode cX10_takeTimes 200 = .ok (.lshr, 1) := by decide +kernel
theorem dX10_takeTimes_201 : decode cX10_takeTimes 201 = .ok (.lstore 10, 2) := by decide +kernel
theorem dX10_takeTimes_203 : decode cX10_takeTimes 203 = .ok (.iinc 12 1, 3) := by decide +kernel
theorem dX10_takeTimes_206 : decode cX10_takeTimes 206 = .ok (.goto (-73), 3) := by decide +kernel
theorem dX10_takeTimes_209 : decode cX10_takeTimes 209 = .ok (.lload 8, 2) := by decide +kernel
theorem dX10_takeTimes_211 : decode cX10_takeTimes 211 = .ok (.lload 10, 2) := by decide +kernel
theorem dX10_takeTimes_213 : decode cX10_takeTimes 213 = .ok (.ladd, 1) := by decide +kernel
theorem dX10_takeTimes_214 : decode cX10_takeTimes 214 = .ok (.lstore 8, 2) := by decide +kernel
theorem dX10_takeTimes_216 : decode cX10_takeTimes 216 = .ok (.lload_n 2, 1) := by decide +kernel
theorem dX10_takeTimes_217 : decode cX10_takeTimes 217 = .ok (.lconst 1, 1) := by decide +kernel
theorem dX10_takeTimes_218 : decode cX10_takeTimes 218 = .ok (.lsub, 1) := by decide +kernel
theorem dX10_takeTimes_219 : decode cX10_takeTimes 219 = .ok (.lstore_n 2, 1) := by decide +kernel
theorem dX10_takeTimes_220 : decode cX10_takeTimes 220 = .ok (.iload 7, 2) := by decide +kernel
theorem dX10_takeTimes_222 : decode cX10_takeTimes 222 = .ok (.aload_n 0, 1) := by decide +kernel
theorem dX10_takeTimes_223 : decode cX10_takeTimes 223 = .ok (.getfield 17, 3) := by decide +kernel
theorem dX10_takeTimes_226 : decode cX10_takeTimes 226 = .ok (.if_icmp .ge 17, 3) := by decide +kernel
theorem dX10_takeTimes_229 : decode cX10_takeTimes 229 = .ok (.aload_n 0, 1) := by decide +kernel
theorem dX10_takeTimes_230 : decode cX10_takeTimes 230 = .ok (.getfield 9, 3) := by decide +kernel
theorem dX10_takeTimes_233 : decode cX10_takeTimes 233 = .ok (.iload 7, 2) := by decide +kernel
theorem dX10_takeTimes_235 : decode cX10_takeTimes 235 = .ok (.lload 8, 2) := by decide +kernel
theorem dX10_takeTimes_237 : decode cX10_takeTimes 237 = .ok (.ldc2_w 21, 3) := by decide +kernel
theorem dX10_takeTimes_240 : decode cX10_takeTimes 240 = .ok (.land, 1) := by decide +kernel
theorem dX10_takeTimes_241 : decode cX10_takeTimes 241 = .ok (.l2i, 1) := by decide +kernel
theorem dX10_takeTimes_242 : decode cX10_takeTimes 242 = .ok (.iastore, 1) := by decide +kernel
theorem dX10_takeTimes_243 : decode cX10_takeTimes 243 = .ok (.lload_n 2, 1) := by decide +kernel
theorem dX10_takeTimes_244 : decode cX10_takeTimes 244 = .ok (.lreturn, 1) := by decide +kernel
theorem dX10_trim_0 : decode cX10_trim 0 = .ok (.aload_n 0, 1) := by decide +kernel
theorem dX10_trim_1 : decode cX10_trim 1 = .ok (.iload_n 1, 1) := by decide +kernel
theorem dX10_trim_2 : decode cX10_trim 2 = .ok (.putfield 17, 3) := by decide +kernel
theorem dX10_trim_5 : decode cX10_trim 5 = .ok (.iload_n 1, 1) := by decide +kernel
theorem dX10_trim_6 : decode cX10_trim 6 = .ok (.istore_n 2, 1) := by decide +kernel
theorem dX10_trim_7 : decode cX10_trim 7 = .ok (.iload_n 2, 1) := by decide +kernel
theorem dX10_trim_8 : decode cX10_trim 8 = .ok (.ifCond .le 27, 3) := by decide +kernel
theorem dX10_trim_11 : decode cX10_trim 11 = .ok (.aload_n 0, 1) := by decide +kernel
theorem dX10_trim_12 : decode cX10_trim 12 = .ok (.getfield 9, 3) := by decide +kernel
theorem dX10_trim_15 : decode cX10_trim 15 = .ok (.iload_n 2, 1) := by decide +kernel
theorem dX10_trim_16 : decode cX10_trim 16 = .ok (.iconst 1, 1) := by decide +kernel
theorem dX10_trim_17 : decode cX10_trim 17 = .ok (.isub, 1) := by decide +kernel
theorem dX10_trim_18 : decode cX10_trim 18 = .ok (.iaload, 1) := by decide +kernel
theorem dX10_trim_19 : decode cX10_trim 19 = .ok (.ifCond .ne 16, 3) := by decide +kernel
theorem dX10_trim_22 : decode cX10_trim 22 = .ok (.aload_n 0, 1) := by decide +kernel
theorem dX10_trim_23 : decode cX10_trim 23 = .ok (.iload_n 2, 1) := by decide +kernel
theorem dX10_trim_24 : decode cX10_trim 24 = .ok (.iconst 1, 1) := by decide +kernel
theorem dX10_trim_25 : decode cX10_trim 25 = .ok (.isub, 1) := by decide +kernel
theorem dX10_trim_26 : decode cX10_trim 26 = .ok (.putfield 17, 3) := by decide +kernel
theorem dX10_trim_29 : decode cX10_trim 29 = .ok (.iinc 2 (-1), 3) := by decide +kernel
theorem dX10_trim_32 : decode cX10_trim 32 = .ok (.goto (-25), 3) := by decide +kernel
theorem dX10_trim_35 : decode cX10_trim 35 = .ok (.aload_n 0, 1) := by decide +kernel
theorem dX10_trim_36 : decode cX10_trim 36 = .ok (.getfield 17, 3) := by decide +kernel
theorem dX10_trim_39 : decode cX10_trim 39 = .ok (.ifCond .ne 8, 3) := by decide +kernel
theorem dX10_trim_42 : decode cX10_trim 42 = .ok (.aload_n 0, 1) := by decide +kernel
theorem dX10_trim_43 : decode cX10_trim 43 = .ok (.iconst 0, 1) := by decide +kernel
theorem dX10_trim_44 : decode cX10_trim 44 = .ok (.putfield 13, 3) := by decide +kernel
theorem dX10_trim_47 : decode cX10_trim 47 = .ok (.return_, 1) := by decide +kernel
theorem dX10_isShort_0 : decode cX10_isShort 0 = .ok (.aload_n 0, 1) := by decide +kernel
theorem dX10_isShort_1 : decode cX10_isShort 1 = .ok (.getfield 17, 3) := by decide +kernel
theorem dX10_isShort_4 : decode cX10_isShort 4 = .ok (.iconst 2, 1) := by decide +kernel
theorem dX10_isShort_5 : decode cX10_isShort 5 = .ok (.if_icmp .gt 7, 3) := by decide +kernel
theorem dX10_isShort_8 : decode cX10_isShort 8 = .ok (.iconst 1, 1) := by decide +kernel
theorem dX10_isShort_9 : decode cX10_isShort 9 = .ok (.goto 4, 3) := by decide +kernel
theorem dX10_isShort_12 : decode cX10_isShort 12 = .ok (.iconst 0, 1) := by decide +kernel
theorem dX10_isShort_13 : decode cX10_isShort 13 = .ok (.ireturn, 1) := by decide +kernel
theorem dX10_shortSize_0 : decode cX10_shortSize 0 = .ok (.aload_n 0, 1) := by decide +kernel
theorem dX10_shortSize_1 : decode cX10_shortSize 1 = .ok (.getfield 17, 3) := by decide +kernel
theorem dX10_shortSize_4 : decode cX10_shortSize 4 = .ok (.ifCond .le 13, 3) := by decide +kernel
theorem dX10_shortSize_7 : decode cX10_shortSize 7 = .ok (.aload_n 0, 1) := by decide +kernel
theorem dX10_shortSize_8 : decode cX10_shortSize 8 = .ok (.getfield 9, 3) := by decide +kernel
theorem dX10_shortSize_11 : decode cX10_shortSize 11 = .ok (.iconst 0, 1) := by decide +kernel
theorem dX10_shortSize_12 : decode cX10_shortSize 12 = .ok (.iaload, 1) := by decide +kernel
theorem dX10_shortSize_13 : decode cX10_shortSize 13 = .ok (.i2l, 1) := by decide +kernel
theorem dX10_shortSize_14 : decode cX10_shortSize 14 = .ok (.goto 4, 3) := by decide +kernel
theorem dX10_shortSize_17 : decode cX10_shortSize 17 = .ok (.lconst 0, 1) := by decide +kernel
theorem dX10_shortSize_18 : decode cX10_shortSize 18 = .ok (.lstore_n 1, 1) := by decide +kernel
theorem dX10_shortSize_19 : decode cX10_shortSize 19 = .ok (.aload_n 0, 1) := by decide +kernel
theorem dX10_shortSize_20 : decode cX10_shortSize 20 = .ok (.getfield 17, 3) := by decide +kernel
theorem dX10_shortSize_23 : decode cX10_shortSize 23 = .ok (.iconst 1, 1) := by decide +kernel
theorem dX10_shortSize_24 : decode cX10_shortSize 24 = .ok (.if_icmp .le 18, 3) := by decide +kernel
theorem dX10_shortSize_27 : decode cX10_shortSize 27 = .ok (.aload_n 0, 1) := by decide +kernel
theorem dX10_shortSize_28 : decode cX10_shortSize 28 = .ok (.getfield 9, 3) := by decide +kernel
theorem dX10_shortSize_31 : decode cX10_shortSize 31 = .ok (.iconst 1, 1) := by decide +kernel
theorem dX10_shortSize_32 : decode cX10_shortSize 32 = .ok (.iaload, 1) := by decide +kernel
theorem dX10_shortSize_33 : decode cX10_shortSize 33 = .ok (.i2l, 1) := by decide +kernel
theorem dX10_shortSize_34 : decode cX10_shortSize 34 = .ok (.bipush 30, 2) := by decide +kernel
theorem dX10_shortSize_36 : decode cX10_shortSize 36 = .ok (.lshl, 1) := by decide +kernel
theorem dX10_shortSize_37 : decode cX10_shortSize 37 = .ok (.lload_n 1, 1) := by decide +kernel
theorem dX10_shortSize_38 : decode cX10_shortSize 38 = .ok (.lor, 1) := by decide +kernel
theorem dX10_shortSize_39 : decode cX10_shortSize 39 = .ok (.goto 4, 3) := by decide +kernel
theorem dX10_shortSize_42 : decode cX10_shortSize 42 = .ok (.lload_n 1, 1) := by decide +kernel
theorem dX10_shortSize_43 : decode cX10_shortSize 43 = .ok (.lreturn, 1) := by decide +kernel
theorem dX11_init_0 : decode cX11_init 0 = .ok (.aload_n 0, 1) := by decide +kernel
theorem dX11_init_1 : decode cX11_init 1 = .ok (.invokespecial 1, 3) := by decide +kernel
theorem dX11_init_4 : decode cX11_init 4 = .ok (.new 7, 3) := by decide +kernel
theorem dX11_init_7 : decode cX11_init 7 = .ok (.dup, 1) := by decide +kernel
theorem dX11_init_8 : decode cX11_init 8 = .ok (.invokespecial 9, 3) := by decide +kernel
theorem dX11_init_11 : decode cX11_init 11 = .ok (.astore_n 1, 1) := by decide +kernel
theorem dX11_init_12 : decode cX11_init 12 = .ok (.aload_n 0, 1) := by decide +kernel
theorem dX11_init_13 : decode cX11_init 13 = .ok (.bipush 60, 2) := by decide +kernel
theorem dX11_init_15 : decode cX11_init 15 = .ok (.newarray .char, 2) := by decide +kernel
theorem dX11_init_17 : decode cX11_init 17 = .ok (.putfield 12, 3) := by decide +kernel
theorem dX11_init_20 : decode cX11_init 20 = .ok (.aload_n 0, 1) := by decide +kernel
theorem dX11_init_21 : decode cX11_init 21 = .ok (.new 16, 3) := by decide +kernel
theorem dX11_init_24 : decode cX11_init 24 = .ok (.dup, 1) := by decide +kernel
theorem dX11_init_25 : decode cX11_init 25 = .ok (.invokespecial 18, 3) := by decide +kernel
theorem dX11_init_28 : decode cX11_init 28 = .ok (.putfield 19, 3) := by decide +kernel
theorem dX11_init_31 : decode cX11_init 31 = .ok (.aload_n 0, 1) := by decide +kernel
theorem dX11_init_32 : decode cX11_init 32 = .ok (.new 23, 3) := by decide +kernel
theorem dX11_init_35 : decode cX11_init 35 = .ok (.dup, 1) := by decide +kernel
theorem dX11_init_36 : decode cX11_init 36 = .ok (.aload_n 0, 1) := by decide +kernel
theorem dX11_init_37 : decode cX11_init 37 = .ok (.getfield 19, 3) := by decide +kernel
theorem dX11_init_40 : decode cX11_init 40 = .ok (.invokespecial 25, 3) := by decide +kernel
theorem dX11_init_43 : decode cX11_init 43 = .ok (.putfield 28, 3) := by decide +kernel
theorem dX11_init_46 : decode cX11_init 46 = .ok (.aload_n 0, 1) := by decide +kernel
theorem dX11_init_47 : decode cX11_init 47 = .ok (.new 32, 3) := by decide +kernel
theorem dX11_init_50 : decode cX11_init 50 = .ok (.dup, 1) := by decide +kernel
theorem dX11_init_51 : decode cX11_init 51 = .ok (.aload_n 0, 1) := by decide +kernel
theorem dX11_init_52 : decode cX11_init 52 = .ok (.getfield 28, 3) := by decide +kernel
theorem dX11_init_55 : decode cX11_init 55 = .ok (.invokespecial 34, 3) := by decide +kernel
theorem dX11_init_58 : decode cX11_init 58 = .ok (.putfield 37, 3) := by decide +kernel
theorem dX11_init_61 : decode cX11_init 61 = .ok (.aload_n 0, 1) := by decide +kernel
theorem dX11_init_62 : decode cX11_init 62 = .ok (.new 32, 3) := by decide +kernel
theorem dX11_init_65 : decode cX11_init 65 = .ok (.dup, 1) := by decide +kernel
theorem dX11_init_66 : decode cX11_init 66 = .ok (.aload_n 0, 1) := by decide +kernel
theorem dX11_init_67 : decode cX11_init 67 = .ok (.getfield 28, 3) := by decide +kernel
theorem dX11_init_70 : decode cX11_init 70 = .ok (.invokespecial 34, 3) := by decide +kernel
theorem dX11_init_73 : decode cX11_init 73 = .ok (.putfield 41, 3) := by decide +kernel
theorem dX11_init_76 : decode cX11_init 76 = .ok (.aload_n 0, 1) := by decide +kernel
theorem dX11_init_77 : decode cX11_init 77 = .ok (.new 44, 3) := by decide +kernel
theorem dX11_init_80 : decode cX11_init 80 = .ok (.dup, 1) := by decide +kernel
theorem dX11_init_81 : decode cX11_init 81 = .ok (.aload_n 0, 1) := by decide +kernel
theorem dX11_init_82 : decode cX11_init 82 = .ok (.getfield 19, 3) := by decide +kernel
theorem dX11_init_85 : decode cX11_init 85 = .ok (.aload_n 1, 1) := by decide +kernel
theorem dX11_init_86 : decode cX11_init 86 = .ok (.invokespecial 46, 3) := by decide +kernel
theorem dX11_init_89 : decode cX11_init 89 = .ok (.putfield 49, 3) := by decide +kernel
theorem dX11_init_92 : decode cX11_init 92 = .ok (.aload_n 0, 1) := by decide +kernel
theorem dX11_init_93 : decode cX11_init 93 = .ok (.new 53, 3) := by decide +kernel
theorem dX11_init_96 : decode cX11_init 96 = .ok (.dup, 1) := by decide +kernel
theorem dX11_init_97 : decode cX11_init 97 = .ok (.aload_n 0, 1) := by decide +kernel
theorem dX11_init_98 : decode cX11_init 98 = .ok (.getfield 49, 3) := by decide +kernel
theorem dX11_init_101 : decode cX11_init 101 = .ok (.aload_n 1, 1) := by decide +kernel
theorem dX11_init_102 : decode cX11_init 102 = .ok (.invokespecial 55, 3) := by decide +kernel
theorem dX11_init_105 : decode cX11_init 105 = .ok (.putfield 58, 3) := by decide +kernel
theorem dX11_init_108 : decode cX11_init 108 = .ok (.aload_n 0, 1) := by decide +kernel
theorem dX11_init_109 : decode cX11_init 109 = .ok (.new 62, 3) := by decide +kernel
theorem dX11_init_112 : decode cX11_init 112 = .ok (.dup, 1) := by decide +kernel
theorem dX11_init_113 : decode cX11_init 113 = .ok (.aload_n 0, 1) := by decide +kernel
theorem dX11_init_114 : decode cX11_init 114 = .ok (.getfield 19, 3) := by decide +kernel
theorem dX11_init_117 : decode cX11_init 117 = .ok (.invokespecial 64, 3) := by decide +kernel
theorem dX11_init_120 : decode cX11_init 120 = .ok (.putfield 65, 3) := by decide +kernel
theorem dX11_init_123 : decode cX11_init 123 = .ok (.aload_n 0, 1) := by decide +kernel
theorem dX11_init_124 : decode cX11_init 124 = .ok (.new 69, 3) := by decide +kernel
theorem dX11_init_127 : decode cX11_init 127 = .ok (.dup, 1) := by decide +kernel
theorem dX11_init_128 : decode cX11_init 128 = .ok (.aload_n 0, 1) := by decide +kernel
theorem dX11_init_129 : decode cX11_init 129 = .ok (.getfield 19, 3) := by decide +kernel
theorem dX11_init_132 : decode cX11_init 132 = .ok (.aload_n 1, 1) := by decide +kernel
theorem dX11_init_133 : decode cX11_init 133 = .ok (.invokespecial 71, 3) := by decide +kernel
theorem dX11_init_136 : decode cX11_init 136 = .ok (.putfield 72, 3) := by decide +kernel
theorem dX11_init_139 : decode cX11_init 139 = .ok (.aload_n 0, 1) := by decide +kernel
theorem dX11_init_140 : decode cX11_init 140 = .ok (.new 76, 3) := by decide +kernel
theorem dX11_init_143 : decode cX11_init 143 = .ok (.dup, 1) := by decide +kernel
theorem dX11_init_144 : decode cX11_init 144 = .ok (.bipush 7, 2) := by decide +kernel
theorem dX11_init_146 : decode cX11_init 146 = .ok (.invokespecial 80, 3) := by decide +kernel
theorem dX11_init_149 : decode cX11_init 149 = .ok (.putfield 83, 3) := by decide +kernel
theorem dX11_init_152 : decode cX11_init 152 = .ok (.aload_n 0, 1) := by decide +kernel
theorem dX11_init_153 : decode cX11_init 153 = .ok (.new 76, 3) := by decide +kernel
theorem dX11_init_156 : decode cX11_init 156 = .ok (.dup, 1) := by decide +kernel
theorem dX11_init_157 : decode cX11_init 157 = .ok (.bipush 7, 2) := by decide +kernel
theorem dX11_init_159 : decode cX11_init 159 = .ok (.invokespecial 80, 3) := by decide +kernel
theorem dX11_init_162 : decode cX11_init 162 = .ok (.putfield 87, 3) := by decide +kernel
theorem dX11_init_165 : decode cX11_init 165 = .ok (.aload_n 0, 1) := by decide +kernel
theorem dX11_init_166 : decode cX11_init 166 = .ok (.new 90, 3) := by decide +kernel
theorem dX11_init_169 : decode cX11_init 169 = .ok (.dup, 1) := by decide +kernel
theorem dX11_init_170 : decode cX11_init 170 = .ok (.invokespecial 92, 3) := by decide +kernel
theorem dX11_init_173 : decode cX11_init 173 = .ok (.putfield 93, 3) := by decide +kernel
theorem dX11_init_176 : decode cX11_init 176 = .ok (.aload_n 0, 1) := by decide +kernel
theorem dX11_init_177 : decode cX11_init 177 = .ok (.bipush 80, 2) := by decide +kernel
theorem dX11_init_179 : decode cX11_init 179 = .ok (.newarray .int, 2) := by decide +kernel
theorem dX11_init_181 : decode cX11_init 181 = .ok (.putfield 97, 3) := by decide +kernel
theorem dX11_init_184 : decode cX11_init 184 = .ok (.aload_n 0, 1) := by decide +kernel
theorem dX11_init_185 : decode cX11_init 185 = .ok (.bipush 80, 2) := by decide +kernel
theorem dX11_init_187 : decode cX11_init 187 = .ok (.newarray .int, 2) := by decide +kernel
theorem dX11_init_189 : decode cX11_init 189 = .ok (.putfield 101, 3) := by decide +kernel
theorem dX11_init_192 : decode cX11_init 192 = .ok (.return_, 1) := by decide +kernel
theorem dX11_type_0 : decode cX11_type 0 = .ok (.aload_n 0, 1) := by decide +kernel
theorem dX11_type_1 : decode cX11_type 1 = .ok (.getfield 104, 3) := by decide +kernel
theorem dX11_type_4 : decode cX11_type 4 = .ok (.aload_n 0, 1) := by decide +kernel
theorem dX11_type_5 : decode cX11_type 5 = .ok (.getfield 12, 3) := by decide +kernel
theorem dX11_type_8 : decode cX11_type 8 = .ok (.arraylength, 1) := by decide +kernel
theorem dX11_type_9 : decode cX11_type 9 = .ok (.if_icmp .lt 13, 3) := by decide +kernel
theorem dX11_type_12 : decode cX11_type 12 = .ok (.new 108, 3) := by decide +kernel
theorem dX11_type_15 : decode cX11_type 15 = .ok (.dup, 1) := by decide +kernel
theorem dX11_type_16 : decode cX11_type 16 = .ok (.ldc 110, 2) := by decide +kernel
theorem dX11_type_18 : decode cX11_type 18 = .ok (.invokespecial 112, 3) := by decide +kernel
theorem dX11_type_21 : decode cX11_type 21 = .ok (.athrow, 1) := by decide +kernel
theorem dX11_type_22 : decode cX11_type 22 = .ok (.aload_n 0, 1) := by decide +kernel
theorem dX11_type_23 : decode cX11_type 23 = .ok (.getfield 12, 3) := by decide +kernel
theorem dX11_type_26 : decode cX11_type 26 = .ok (.aload_n 0, 1) := by decide +kernel
theorem dX11_type_27 : decode cX11_type 27 = .ok (.getfield 104, 3) := by decide +kernel
theorem dX11_type_30 : decode cX11_type 30 = .ok (.iload_n 1, 1) := by decide +kernel
theorem dX11_type_31 : decode cX11_type 31 = .ok (.castore, 1) := by decide +kernel
theorem dX11_type_32 : decode cX11_type 32 = .ok (.aload_n 0, 1) := by decide +kernel
theorem dX11_type_33 : decode cX11_type 33 = .ok (.dup, 1) := by decide +kernel
theorem dX11_type_34 : decode cX11_type 34 = .ok (.getfield 104, 3) := by decide +kernel
theorem dX11_type_37 : decode cX11_type 37 = .ok (.iconst 1, 1) := by decide +kernel
theorem dX11_type_38 : decode cX11_type 38 = .ok (.iadd, 1) := by decide +kernel
theorem dX11_type_39 : decode cX11_type 39 = .ok (.putfield 104, 3) := by decide +kernel
theorem dX11_type_42 : decode cX11_type 42 = .ok (.aload_n 0, 1) := by decide +kernel
theorem dX11_type_43 : decode cX11_type 43 = .ok (.getfield 104, 3) := by decide +kernel
theorem dX11_type_46 : decode cX11_type 46 = .ok (.ireturn, 1) := by decide +kernel
theorem dX11_drop_0 : decode cX11_drop 0 = .ok (.aload_n 0, 1) := by decide +kernel
theorem dX11_drop_1 : decode cX11_drop 1 = .ok (.getfield 104, 3) := by decide +kernel
theorem dX11_drop_4 : decode cX11_drop 4 = .ok (.istore_n 1, 1) := by decide +kernel
theorem dX11_drop_5 : decode cX11_drop 5 = .ok (.aload_n 0, 1) := by decide +kernel
theorem dX11_drop_6 : decode cX11_drop 6 = .ok (.iconst 0, 1) := by decide +kernel
theorem dX11_drop_7 : decode cX11_drop 7 = .ok (.putfield 104, 3) := by decide +kernel
theorem dX11_drop_10 : decode cX11_drop 10 = .ok (.iload_n 1, 1) := by decide +kernel
theorem dX11_drop_11 : decode cX11_drop 11 = .ok (.ireturn, 1) := by decide +kernel
theorem dX11_fault_0 : decode cX11_fault 0 = .ok (.aload_n 0, 1) := by decide +kernel
theorem dX11_fault_1 : decode cX11_fault 1 = .ok (.getfield 28, 3) := by decide +kernel
theorem dX11_fault_4 : decode cX11_fault 4 = .ok (.aload_n 0, 1) := by decide +kernel
theorem dX11_fault_5 : decode cX11_fault 5 = .ok (.getfield 12, 3) := by decide +kernel
theorem dX11_fault_8 : decode cX11_fault 8 = .ok (.aload_n 0, 1) := by decide +kernel
theorem dX11_fault_9 : decode cX11_fault 9 = .ok (.getfield 104, 3) := by decide +kernel
theorem dX11_fault_12 : decode cX11_fault 12 = .ok (.invokevirtual 115, 3) := by decide +kernel
theorem dX11_fault_15 : decode cX11_fault 15 = .ok (.aload_n 0, 1) := by decide +kernel
theorem dX11_fault_16 : decode cX11_fault 16 = .ok (.getfield 28, 3) := by decide +kernel
theorem dX11_fault_19 : decode cX11_fault 19 = .ok (.invokevirtual 119, 3) := by decide +kernel
theorem dX11_fault_22 : decode cX11_fault 22 = .ok (.ireturn, 1) := by decide +kernel
theorem dX11_read_0 : decode cX11_read 0 = .ok (.aload_n 0, 1) := by decide +kernel
theorem dX11_read_1 : decode cX11_read 1 = .ok (.getfield 28, 3) := by decide +kernel
theorem dX11_read_4 : decode cX11_read 4 = .ok (.aload_n 0, 1) := by decide +kernel
theorem dX11_read_5 : decode cX11_read 5 = .ok (.getfield 12, 3) := by decide +kernel
theorem dX11_read_8 : decode cX11_read 8 = .ok (.aload_n 0, 1) := by decide +kernel
theorem dX11_read_9 : decode cX11_read 9 = .ok (.getfield 104, 3) := by decide +kernel
theorem dX11_read_12 : decode cX11_read 12 = .ok (.invokevirtual 115, 3) := by decide +kernel
theorem dX11_read_15 : decode cX11_read 15 = .ok (.aload_n 0, 1) := by decide +kernel
theorem dX11_read_16 : decode cX11_read 16 = .ok (.getfield 28, 3) := by decide +kernel
theorem dX11_read_19 : decode cX11_read 19 = .ok (.invokevirtual 119, 3) := by decide +kernel
theorem dX11_read_22 : decode cX11_read 22 = .ok (.iconst (-1), 1) := by decide +kernel
theorem dX11_read_23 : decode cX11_read 23 = .ok (.if_icmp .eq 13, 3) := by decide +kernel
theorem dX11_read_26 : decode cX11_read 26 = .ok (.new 108, 3) := by decide +kernel
theorem dX11_read_29 : decode cX11_read 29 = .ok (.dup, 1) := by decide +kernel
theorem dX11_read_30 : decode cX11_read 30 = .ok (.ldc 123, 2) := by decide +kernel
theorem dX11_read_32 : decode cX11_read 32 = .ok (.invokespecial 112, 3) := by decide +kernel
theorem dX11_read_35 : decode cX11_read 35 = .ok (.athrow, 1) := by decide +kernel
theorem dX11_read_36 : decode cX11_read 36 = .ok (.aload_n 0, 1) := by decide +kernel
theorem dX11_read_37 : decode cX11_read 37 = .ok (.invokevirtual 125, 3) := by decide +kernel
theorem dX11_read_40 : decode cX11_read 40 = .ok (.aload_n 0, 1) := by decide +kernel
theorem dX11_read_41 : decode cX11_read 41 = .ok (.iconst 0, 1) := by decide +kernel
theorem dX11_read_42 : decode cX11_read 42 = .ok (.putfield 104, 3) := by decide +kernel
theorem dX11_read_45 : decode cX11_read 45 = .ok (.aload_n 0, 1) := by decide +kernel
theorem dX11_read_46 : decode cX11_read 46 = .ok (.getfield 93, 3) := by decide +kernel
theorem dX11_read_49 : decode cX11_read 49 = .ok (.aload_n 0, 1) := by decide +kernel
theorem dX11_read_50 : decode cX11_read 50 = .ok (.getfield 28, 3) := by decide +kernel
theorem dX11_read_53 : decode cX11_read 53 = .ok (.getfield 128, 3) := by decide +kernel
theorem dX11_read_56 : decode cX11_read 56 = .ok (.invokevirtual 131, 3) := by decide +kernel
theorem dX11_read_59 : decode cX11_read 59 = .ok (.aload_n 0, 1) := by decide +kernel
theorem dX11_read_60 : decode cX11_read 60 = .ok (.getfield 19, 3) := by decide +kernel
theorem dX11_read_63 : decode cX11_read 63 = .ok (.aload_n 0, 1) := by decide +kernel
theorem dX11_read_64 : decode cX11_read 64 = .ok (.getfield 93, 3) := by decide +kernel
theorem dX11_read_67 : decode cX11_read 67 = .ok (.invokevirtual 135, 3) := by decide +kernel
theorem dX11_read_70 : decode cX11_read 70 = .ok (.ireturn, 1) := by decide +kernel
theorem dX11_trees_0 : decode cX11_trees 0 = .ok (.aload_n 0, 1) := by decide +kernel
theorem dX11_trees_1 : decode cX11_trees 1 = .ok (.getfield 19, 3) := by decide +kernel
theorem dX11_trees_4 : decode cX11_trees 4 = .ok (.getfield 139, 3) := by decide +kernel
theorem dX11_trees_7 : decode cX11_trees 7 = .ok (.ireturn, 1) := by decide +kernel
theorem dX11_node_0 : decode cX11_node 0 = .ok (.aload_n 0, 1) := by decide +kernel
theorem dX11_node_1 : decode cX11_node 1 = .ok (.iload_n 1, 1) := by decide +kernel
theorem dX11_node_2 : decode cX11_node 2 = .ok (.invokevirtual 142, 3) := by decide +kernel
theorem dX11_node_5 : decode cX11_node 5 = .ok (.astore 4, 2) := by decide +kernel
theorem dX11_node_7 : decode cX11_node 7 = .ok (.aload_n 0, 1) := by decide +kernel
theorem dX11_node_8 : decode cX11_node 8 = .ok (.aload 4, 2) := by decide +kernel
theorem dX11_node_10 : decode cX11_node 10 = .ok (.iload_n 2, 1) := by decide +kernel
theorem dX11_node_11 : decode cX11_node 11 = .ok (.invokevirtual 146, 3) := by decide +kernel
theorem dX11_node_14 : decode cX11_node 14 = .ok (.iload_n 3, 1) := by decide +kernel
theorem dX11_node_15 : decode cX11_node 15 = .ok (.tableswitch 84 0 5 #[37, 45, 53, 61, 69, 76], 37) := by decide +kernel
theorem dX11_node_52 : decode cX11_node 52 = .ok (.aload 4, 2) := by decide +kernel
theorem dX11_node_54 : decode cX11_node 54 = .ok (.getfield 150, 3) := by decide +kernel
theorem dX11_node_57 : decode cX11_node 57 = .ok (.iload_n 2, 1) := by decide +kernel
theorem dX11_node_58 : decode cX11_node 58 = .ok (.iaload, 1) := by decide +kernel
theorem dX11_node_59 : decode cX11_node 59 = .ok (.ireturn, 1) := by decide +kernel
theorem dX11_node_60 : decode cX11_node 60 = .ok (.aload 4, 2) := by decide +kernel
theorem dX11_node_62 : decode cX11_node 62 = .ok (.getfield 153, 3) := by decide +kernel
theorem dX11_node_65 : decode cX11_node 65 = .ok (.iload_n 2, 1) := by decide +kernel
theorem dX11_node_66 : decode cX11_node 66 = .ok (.iaload, 1) := by decide +kernel
theorem dX11_node_67 : decode cX11_node 67 = .ok (.ireturn, 1) := by decide +kernel
theorem dX11_node_68 : decode cX11_node 68 = .ok (.aload 4, 2) := by decide +kernel
theorem dX11_node_70 : decode cX11_node 70 = .ok (.getfield 156, 3) := by decide +kernel
theorem dX11_node_73 : decode cX11_node 73 = .ok (.iload_n 2, 1) := by decide +kernel
theorem dX11_node_74 : decode cX11_node 74 = .ok (.iaload, 1) := by decide +kernel
theorem dX11_node_75 : decode cX11_node 75 = .ok (.ireturn, 1) := by decide +kernel
theorem dX11_node_76 : decode cX11_node 76 = .ok (.aload 4, 2) := by decide +kernel
theorem dX11_node_78 : decode cX11_node 78 = .ok (.getfield 159, 3) := by decide +kernel
theorem dX11_node_81 : decode cX11_node 81 = .ok (.iload_n 2, 1) := by decide +kernel
theorem dX11_node_82 : decode cX11_node 82 = .ok (.iaload, 1) := by decide +kernel
theorem dX11_node_83 : decode cX11_node 83 = .ok (.ireturn, 1) := by decide +kernel
theorem dX11_node_84 : decode cX11_node 84 = .ok (.aload 4, 2) := by decide +kernel
theorem dX11_node_86 : decode cX11_node 86 = .ok (.iload_n 2, 1) := by decide +kernel
theorem dX11_node_87 : decode cX11_node 87 = .ok (.invokevirtual 162, 3) := by decide +kernel
theorem dX11_node_90 : decode cX11_node 90 = .ok (.ireturn, 1) := by decide +kernel
theorem dX11_node_91 : decode cX11_node 91 = .ok (.aload 4, 2) := by decide +kernel
theorem dX11_node_93 : decode cX11_node 93 = .ok (.getfield 166, 3) := by decide +kernel
theorem dX11_node_96 : decode cX11_node 96 = .ok (.iload_n 2, 1) := by decide +kernel
theorem dX11_node_97 : decode cX11_node 97 = .ok (.iaload, 1) := by decide +kernel
theorem dX11_node_98 : decode cX11_node 98 = .ok (.ireturn, 1) := by decide +kernel
theorem dX11_node_99 : decode cX11_node 99 = .ok (.new 169, 3) := by decide +kernel
theorem dX11_node_102 : decode cX11_node 102 = .ok (.dup, 1) := by decide +kernel
theorem dX11_node_103 : decode cX11_node 103 = .ok (.ldc 171, 2) := by decide +kernel
theorem dX11_node_105 : decode cX11_node 105 = .ok (.invokespecial 173, 3) := by decide +kernel
theorem dX11_node_108 : decode cX11_node 108 = .ok (.athrow, 1) := by decide +kernel
theorem dX11_isSame_0 : decode cX11_isSame 0 = .ok (.aload_n 0, 1) := by decide +kernel
theorem dX11_isSame_1 : decode cX11_isSame 1 = .ok (.iload_n 1, 1) := by decide +kernel
theorem dX11_isSame_2 : decode cX11_isSame 2 = .ok (.invokevirtual 142, 3) := by decide +kernel
theorem dX11_isSame_5 : decode cX11_isSame 5 = .ok (.aload_n 0, 1) := by decide +kernel
theorem dX11_isSame_6 : decode cX11_isSame 6 = .ok (.iload_n 2, 1) := by decide +kernel
theorem dX11_isSame_7 : decode cX11_isSame 7 = .ok (.invokevirtual 142, 3) := by decide +kernel
theorem dX11_isSame_10 : decode cX11_isSame 10 = .ok (.invokevirtual 174, 3) := by decide +kernel
theorem dX11_isSame_13 : decode cX11_isSame 13 = .ok (.ireturn, 1) := by decide +kernel
theorem dX11_tell_0 : decode cX11_tell 0 = .ok (.aload_n 0, 1) := by decide +kernel
theorem dX11_tell_1 : decode cX11_tell 1 = .ok (.getfield 19, 3) := by decide +kernel
theorem dX11_tell_4 : decode cX11_tell 4 = .ok (.iload_n 1, 1) := by decide +kernel
theorem dX11_tell_5 : decode cX11_tell 5 = .ok (.invokevirtual 198, 3) := by decide +kernel
theorem dX11_tell_8 : decode cX11_tell 8 = .ok (.ifCond .eq 22, 3) := by decide +kernel
theorem dX11_tell_11 : decode cX11_tell 11 = .ok (.iload_n 2, 1) := by decide +kernel
theorem dX11_tell_12 : decode cX11_tell 12 = .ok (.invokestatic 202, 3) := by decide +kernel
theorem dX11_tell_15 : decode cX11_tell 15 = .ok (.ifCond .eq 15, 3) := by decide +kernel
theorem dX11_tell_18 : decode cX11_tell 18 = .ok (.iload_n 2, 1) := by decide +kernel
theorem dX11_tell_19 : decode cX11_tell 19 = .ok (.iload_n 3, 1) := by decide +kernel
theorem dX11_tell_20 : decode cX11_tell 20 = .ok (.iload 4, 2) := by decide +kernel
theorem dX11_tell_22 : decode cX11_tell 22 = .ok (.iload 5, 2) := by decide +kernel
theorem dX11_tell_24 : decode cX11_tell 24 = .ok (.invokestatic 205, 3) := by decide +kernel
theorem dX11_tell_27 : decode cX11_tell 27 = .ok (.ifCond .ne 13, 3) := by decide +kernel
theorem dX11_tell_30 : decode cX11_tell 30 = .ok (.new 169, 3) := by decide +kernel
theorem dX11_tell_33 : decode cX11_tell 33 = .ok (.dup, 1) := by decide +kernel
theorem dX11_tell_34 : decode cX11_tell 34 = .ok (.ldc 209, 2) := by decide +kernel
theorem dX11_tell_36 : decode cX11_tell 36 = .ok (.invokespecial 173, 3) := by decide +kernel
theorem dX11_tell_39 : decode cX11_tell 39 = .ok (.athrow, 1) := by decide +kernel
theorem dX11_tell_40 : decode cX11_tell 40 = .ok (.aload_n 0, 1) := by decide +kernel
theorem dX11_tell_41 : decode cX11_tell 41 = .ok (.getfield 19, 3) := by decide +kernel
theorem dX11_tell_44 : decode cX11_tell 44 = .ok (.iload_n 1, 1) := by decide +kernel
theorem dX11_tell_45 : decode cX11_tell 45 = .ok (.iload_n 2, 1) := by decide +kernel
theorem dX11_tell_46 : decode cX11_tell 46 = .ok (.iload_n 3, 1) := by decide +kernel
theorem dX11_tell_47 : decode cX11_tell 47 = .ok (.iload 4, 2) := by decide +kernel
theorem dX11_tell_49 : decode cX11_tell 49 = .ok (.invokevirtual 211, 3) := by decide +kernel
theorem dX11_tell_52 : decode cX11_tell 52 = .ok (.ifCond .eq 13, 3) := by decide +kernel
theorem dX11_tell_55 : decode cX11_tell 55 = .ok (.new 108, 3) := by decide +kernel
theorem dX11_tell_58 : decode cX11_tell 58 = .ok (.dup, 1) := by decide +kernel
theorem dX11_tell_59 : decode cX11_tell 59 = .ok (.ldc 214, 2) := by decide +kernel
theorem dX11_tell_61 : decode cX11_tell 61 = .ok (.invokespecial 112, 3) := by decide +kernel
theorem dX11_tell_64 : decode cX11_tell 64 = .ok (.athrow, 1) := by decide +kernel
theorem dX11_tell_65 : decode cX11_tell 65 = .ok (.aload_n 0, 1) := by decide +kernel
theorem dX11_tell_66 : decode cX11_tell 66 = .ok (.getfield 19, 3) := by decide +kernel
theorem dX11_tell_69 : decode cX11_tell 69 = .ok (.iload_n 1, 1) := by decide +kernel
theorem dX11_tell_70 : decode cX11_tell 70 = .ok (.iload_n 2, 1) := by decide +kernel
theorem dX11_tell_71 : decode cX11_tell 71 = .ok (.invokevirtual 216, 3) := by decide +kernel
theorem dX11_tell_74 : decode cX11_tell 74 = .ok (.istore 6, 2) := by decide +kernel
theorem dX11_tell_76 : decode cX11_tell 76 = .ok (.aload_n 0, 1) := by decide +kernel
theorem dX11_tell_77 : decode cX11_tell 77 = .ok (.getfield 19, 3) := by decide +kernel
theorem dX11_tell_80 : decode cX11_tell 80 = .ok (.iload_n 1, 1) := by decide +kernel
theorem dX11_tell_81 : decode cX11_tell 81 = .ok (.iload_n 2, 1) := by decide +kernel
theorem dX11_tell_82 : decode cX11_tell 82 = .ok (.iload_n 3, 1) := by decide +kernel
theorem dX11_tell_83 : decode cX11_tell 83 = .ok (.iload 4, 2) := by decide +kernel
theorem dX11_tell_85 : decode cX11_tell 85 = .ok (.iload 5, 2) := by decide +kernel
theorem dX11_tell_87 : decode cX11_tell 87 = .ok (.invokevirtual 220, 3) := by decide +kernel
theorem dX11_tell_90 : decode cX11_tell 90 = .ok (.iload 6, 2) := by decide +kernel
theorem dX11_tell_92 : decode cX11_tell 92 = .ok (.ireturn, 1) := by decide +kernel
theorem dX11_told_0 : decode cX11_told 0 = .ok (.iload_n 2, 1) := by decide +kernel
theorem dX11_told_1 : decode cX11_told 1 = .ok (.invokestatic 202, 3) := by decide +kernel
theorem dX11_told_4 : decode cX11_told 4 = .ok (.ifCond .eq 12, 3) := by decide +kernel
theorem dX11_told_7 : decode cX11_told 7 = .ok (.iload_n 3, 1) := by decide +kernel
theorem dX11_told_8 : decode cX11_told 8 = .ok (.ifCond .lt 8, 3) := by decide +kernel
theorem dX11_told_11 : decode cX11_told 11 = .ok (.iload_n 3, 1) := by decide +kernel
theorem dX11_told_12 : decode cX11_told 12 = .ok (.iconst 2, 1) := by decide +kernel
theorem dX11_told_13 : decode cX11_told 13 = .ok (.if_icmp .le 13, 3) := by decide +kernel
theorem dX11_told_16 : decode cX11_told 16 = .ok (.new 169, 3) := by decide +kernel
theorem dX11_told_19 : decode cX11_told 19 = .ok (.dup, 1) := by decide +kernel
theorem dX11_told_20 : decode cX11_told 20 = .ok (.ldc 224, 2) := by decide +kernel
theorem dX11_told_22 : decode cX11_told 22 = .ok (.invokespecial 173, 3) := by decide +kernel
theorem dX11_told_25 : decode cX11_told 25 = .ok (.athrow, 1) := by decide +kernel
theorem dX11_told_26 : decode cX11_told 26 = .ok (.aload_n 0, 1) := by decide +kernel
theorem dX11_told_27 : decode cX11_told 27 = .ok (.getfield 19, 3) := by decide +kernel
theorem dX11_told_30 : decode cX11_told 30 = .ok (.iload_n 1, 1) := by decide +kernel
theorem dX11_told_31 : decode cX11_told 31 = .ok (.iload_n 2, 1) := by decide +kernel
theorem dX11_told_32 : decode cX11_told 32 = .ok (.invokevirtual 216, 3) := by decide +kernel
theorem dX11_told_35 : decode cX11_told 35 = .ok (.ifCond .ne 5, 3) := by decide +kernel
theorem dX11_told_38 : decode cX11_told 38 = .ok (.iconst (-1), 1) := by decide +kernel
theorem dX11_told_39 : decode cX11_told 39 = .ok (.ireturn, 1) := by decide +kernel
theorem dX11_told_40 : decode cX11_told 40 = .ok (.iload_n 3, 1) := by decide +kernel
theorem dX11_told_41 : decode cX11_told 41 = .ok (.ifCond .ne 13, 3) := by decide +kernel
theorem dX11_told_44 : decode cX11_told 44 = .ok (.aload_n 0, 1) := by decide +kernel
theorem dX11_told_45 : decode cX11_told 45 = .ok (.getfield 19, 3) := by decide +kernel
theorem dX11_told_48 : decode cX11_told 48 = .ok (.iload_n 1, 1) := by decide +kernel
theorem dX11_told_49 : decode cX11_told 49 = .ok (.iload_n 2, 1) := by decide +kernel
theorem dX11_told_50 : decode cX11_told 50 = .ok (.invokevirtual 216, 3) := by decide +kernel
theorem dX11_told_53 : decode cX11_told 53 = .ok (.ireturn, 1) := by decide +kernel
theorem dX11_told_54 : decode cX11_told 54 = .ok (.iload_n 3, 1) := by decide +kernel
theorem dX11_told_55 : decode cX11_told 55 = .ok (.iconst 1, 1) := by decide +kernel
theorem dX11_told_56 : decode cX11_told 56 = .ok (.if_icmp .ne 15, 3) := by decide +kernel
theorem dX11_told_59 : decode cX11_told 59 = .ok (.aload_n 0, 1) := by decide +kernel
theorem dX11_told_60 : decode cX11_told 60 = .ok (.getfield 19, 3) := by decide +kernel
theorem dX11_told_63 : decode cX11_told 63 = .ok (.iload_n 1, 1) := by decide +kernel
theorem dX11_told_64 : decode cX11_told 64 = .ok (.iload_n 2, 1) := by decide +kernel
theorem dX11_told_65 : decode cX11_told 65 = .ok (.invokevirtual 226, 3) := by decide +kernel
theorem dX11_told_68 : decode cX11_told 68 = .ok (.goto 12, 3) := by decide +kernel
theorem dX11_told_71 : decode cX11_told 71 = .ok (.aload_n 0, 1) := by decide +kernel
theorem dX11_told_72 : decode cX11_told 72 = .ok (.getfield 19, 3) := by decide +kernel
theorem dX11_told_75 : decode cX11_told 75 = .ok (.iload_n 1, 1) := by decide +kernel
theorem dX11_told_76 : decode cX11_told 76 = .ok (.iload_n 2, 1) := by decide +kernel
theorem dX11_told_77 : decode cX11_told 77 = .ok (.invokevirtual 229, 3) := by decide +kernel
theorem dX11_told_80 : decode cX11_told 80 = .ok (.ireturn, 1) := by decide +kernel
theorem dX11_print_0 : decode cX11_print 0 = .ok (.aload_n 0, 1) := by decide +kernel
theorem dX11_print_1 : decode cX11_print 1 = .ok (.getfield 37, 3) := by decide +kernel
theorem dX11_print_4 : decode cX11_print 4 = .ok (.aload_n 0, 1) := by decide +kernel
theorem dX11_print_5 : decode cX11_print 5 = .ok (.iload_n 1, 1) := by decide +kernel
theorem dX11_print_6 : decode cX11_print 6 = .ok (.invokevirtual 142, 3) := by decide +kernel
theorem dX11_print_9 : decode cX11_print 9 = .ok (.invokevirtual 232, 3) := by decide +kernel
theorem dX11_print_12 : decode cX11_print 12 = .ok (.aload_n 0, 1) := by decide +kernel
theorem dX11_print_13 : decode cX11_print 13 = .ok (.getfield 37, 3) := by decide +kernel
theorem dX11_print_16 : decode cX11_print 16 = .ok (.getfield 235, 3) := by decide +kernel
theorem dX11_print_19 : decode cX11_print 19 = .ok (.ireturn, 1) := by decide +kernel
theorem dX11_postfix_0 : decode cX11_postfix 0 = .ok (.aload_n 0, 1) := by decide +kernel
theorem dX11_postfix_1 : decode cX11_postfix 1 = .ok (.iload_n 1, 1) := by decide +kernel
theorem dX11_postfix_2 : decode cX11_postfix 2 = .ok (.invokevirtual 142, 3) := by decide +kernel
theorem dX11_postfix_5 : decode cX11_postfix 5 = .ok (.astore_n 2, 1) := by decide +kernel
theorem dX11_postfix_6 : decode cX11_postfix 6 = .ok (.aload_n 0, 1) := by decide +kernel
theorem dX11_postfix_7 : decode cX11_postfix 7 = .ok (.aload_n 2, 1) := by decide +kernel
theorem dX11_postfix_8 : decode cX11_postfix 8 = .ok (.invokevirtual 238, 3) := by decide +kernel
theorem dX11_postfix_11 : decode cX11_postfix 11 = .ok (.aload_n 0, 1) := by decide +kernel
theorem dX11_postfix_12 : decode cX11_postfix 12 = .ok (.getfield 37, 3) := by decide +kernel
theorem dX11_postfix_15 : decode cX11_postfix 15 = .ok (.aload_n 2, 1) := by decide +kernel
theorem dX11_postfix_16 : decode cX11_postfix 16 = .ok (.invokevirtual 241, 3) := by decide +kernel
theorem dX11_postfix_19 : decode cX11_postfix 19 = .ok (.aload_n 0, 1) := by decide +kernel
theorem dX11_postfix_20 : decode cX11_postfix 20 = .ok (.getfield 37, 3) := by decide +kernel
theorem dX11_postfix_23 : decode cX11_postfix 23 = .ok (.getfield 235, 3) := by decide +kernel
theorem dX11_postfix_26 : decode cX11_postfix 26 = .ok (.ireturn, 1) := by decide +kernel
theorem dX11_out_0 : decode cX11_out 0 = .ok (.iload_n 1, 1) := by decide +kernel
theorem dX11_out_1 : decode cX11_out 1 = .ok (.ifCond .lt 14, 3) := by decide +kernel
theorem dX11_out_4 : decode cX11_out 4 = .ok (.iload_n 1, 1) := by decide +kernel
theorem dX11_out_5 : decode cX11_out 5 = .ok (.aload_n 0, 1) := by decide +kernel
theorem dX11_out_6 : decode cX11_out 6 = .ok (.getfield 37, 3) := by decide +kernel
theorem dX11_out_9 : decode cX11_out 9 = .ok (.getfield 235, 3) := by decide +kernel
theorem dX11_out_12 : decode cX11_out 12 = .ok (.if_icmp .lt 13, 3) := by decide +kernel
theorem dX11_out_15 : decode cX11_out 15 = .ok (.new 243, 3) := by decide +kernel
theorem dX11_out_18 : decode cX11_out 18 = .ok (.dup, 1) := by decide +kernel
theorem dX11_out_19 : decode cX11_out 19 = .ok (.ldc 245, 2) := by decide +kernel
theorem dX11_out_21 : decode cX11_out 21 = .ok (.invokespecial 247, 3) := by decide +kernel
theorem dX11_out_24 : decode cX11_out 24 = .ok (.athrow, 1) := by decide +kernel
theorem dX11_out_25 : decode cX11_out 25 = .ok (.aload_n 0, 1) := by decide +kernel
theorem dX11_out_26 : decode cX11_out 26 = .ok (.getfield 37, 3) := by decide +kernel
theorem dX11_out_29 : decode cX11_out 29 = .ok (.getfield 248, 3) := by decide +kernel
theorem dX11_out_32 : decode cX11_out 32 = .ok (.iload_n 1, 1) := by decide +kernel
theorem dX11_out_33 : decode cX11_out 33 = .ok (.caload, 1) := by decide +kernel
theorem dX11_out_34 : decode cX11_out 34 = .ok (.ireturn, 1) := by decide +kernel
theorem dX11_evaluate_0 : decode cX11_evaluate 0 = .ok (.aload_n 0, 1) := by decide +kernel
theorem dX11_evaluate_1 : decode cX11_evaluate 1 = .ok (.iload_n 1, 1) := by decide +kernel
theorem dX11_evaluate_2 : decode cX11_evaluate 2 = .ok (.invokevirtual 142, 3) := by decide +kernel
theorem dX11_evaluate_5 : decode cX11_evaluate 5 = .ok (.astore_n 2, 1) := by decide +kernel
theorem dX11_evaluate_6 : decode cX11_evaluate 6 = .ok (.aload_n 0, 1) := by decide +kernel
theorem dX11_evaluate_7 : decode cX11_evaluate 7 = .ok (.getfield 49, 3) := by decide +kernel
theorem dX11_evaluate_10 : decode cX11_evaluate 10 = .ok (.aload_n 2, 1) := by decide +kernel
theorem dX11_evaluate_11 : decode cX11_evaluate 11 = .ok (.invokevirtual 251, 3) := by decide +kernel
theorem dX11_evaluate_14 : decode cX11_evaluate 14 = .ok (.aload_n 0, 1) := by decide +kernel
theorem dX11_evaluate_15 : decode cX11_evaluate 15 = .ok (.aload_n 0, 1) := by decide +kernel
theorem dX11_evaluate_16 : decode cX11_evaluate 16 = .ok (.getfield 49, 3) := by decide +kernel
theorem dX11_evaluate_19 : decode cX11_evaluate 19 = .ok (.invokevirtual 254, 3) := by decide +kernel
theorem dX11_evaluate_22 : decode cX11_evaluate 22 = .ok (.invokevirtual 256, 3) := by decide +kernel
theorem dX11_evaluate_25 : decode cX11_evaluate 25 = .ok (.ireturn, 1) := by decide +kernel
theorem dX11_reckon_0 : decode cX11_reckon 0 = .ok (.aload_n 0, 1) := by decide +kernel
theorem dX11_reckon_1 : decode cX11_reckon 1 = .ok (.iload_n 1, 1) := by decide +kernel
theorem dX11_reckon_2 : decode cX11_reckon 2 = .ok (.invokevirtual 142, 3) := by decide +kernel
theorem dX11_reckon_5 : decode cX11_reckon 5 = .ok (.astore_n 2, 1) := by decide +kernel
theorem dX11_reckon_6 : decode cX11_reckon 6 = .ok (.aload_n 0, 1) := by decide +kernel
theorem dX11_reckon_7 : decode cX11_reckon 7 = .ok (.aload_n 2, 1) := by decide +kernel
theorem dX11_reckon_8 : decode cX11_reckon 8 = .ok (.invokevirtual 238, 3) := by decide +kernel
theorem dX11_reckon_11 : decode cX11_reckon 11 = .ok (.aload_n 0, 1) := by decide +kernel
theorem dX11_reckon_12 : decode cX11_reckon 12 = .ok (.getfield 49, 3) := by decide +kernel
theorem dX11_reckon_15 : decode cX11_reckon 15 = .ok (.aload_n 2, 1) := by decide +kernel
theorem dX11_reckon_16 : decode cX11_reckon 16 = .ok (.invokevirtual 259, 3) := by decide +kernel
theorem dX11_reckon_19 : decode cX11_reckon 19 = .ok (.aload_n 0, 1) := by decide +kernel
theorem dX11_reckon_20 : decode cX11_reckon 20 = .ok (.aload_n 0, 1) := by decide +kernel
theorem dX11_reckon_21 : decode cX11_reckon 21 = .ok (.getfield 49, 3) := by decide +kernel
theorem dX11_reckon_24 : decode cX11_reckon 24 = .ok (.invokevirtual 254, 3) := by decide +kernel
theorem dX11_reckon_27 : decode cX11_reckon 27 = .ok (.invokevirtual 256, 3) := by decide +kernel
theorem dX11_reckon_30 : decode cX11_reckon 30 = .ok (.ireturn, 1) := by decide +kernel
theorem dX11_answer_0 : decode cX11_answer 0 = .ok (.iload_n 1, 1) := by decide +kernel
theorem dX11_answer_1 : decode cX11_answer 1 = .ok (.ifCond .lt 19, 3) := by decide +kernel
theorem dX11_answer_4 : decode cX11_answer 4 = .ok (.iload_n 1, 1) := by decide +kernel
theorem dX11_answer_5 : decode cX11_answer 5 = .ok (.iconst 1, 1) := by decide +kernel
theorem dX11_answer_6 : decode cX11_answer 6 = .ok (.if_icmp .gt 14, 3) := by decide +kernel
theorem dX11_answer_9 : decode cX11_answer 9 = .ok (.iload_n 2, 1) := by decide +kernel
theorem dX11_answer_10 : decode cX11_answer 10 = .ok (.iconst 2, 1) := by decide +kernel
theorem dX11_answer_11 : decode cX11_answer 11 = .ok (.if_icmp .lt 9, 3) := by decide +kernel
theorem dX11_answer_14 : decode cX11_answer 14 = .ok (.iload_n 2, 1) := by decide +kernel
theorem dX11_answer_15 : decode cX11_answer 15 = .ok (.bipush 36, 2) := by decide +kernel
theorem dX11_answer_17 : decode cX11_answer 17 = .ok (.if_icmp .le 14, 3) := by decide +kernel
theorem dX11_answer_20 : decode cX11_answer 20 = .ok (.new 169, 3) := by decide +kernel
theorem dX11_answer_23 : decode cX11_answer 23 = .ok (.dup, 1) := by decide +kernel
theorem dX11_answer_24 : decode cX11_answer 24 = .ok (.ldc_w 262, 3) := by decide +kernel
theorem dX11_answer_27 : decode cX11_answer 27 = .ok (.invokespecial 173, 3) := by decide +kernel
theorem dX11_answer_30 : decode cX11_answer 30 = .ok (.athrow, 1) := by decide +kernel
theorem dX11_answer_31 : decode cX11_answer 31 = .ok (.aload_n 0, 1) := by decide +kernel
theorem dX11_answer_32 : decode cX11_answer 32 = .ok (.getfield 37, 3) := by decide +kernel
theorem dX11_answer_35 : decode cX11_answer 35 = .ok (.iload_n 1, 1) := by decide +kernel
theorem dX11_answer_36 : decode cX11_answer 36 = .ok (.ifCond .ne 13, 3) := by decide +kernel
theorem dX11_answer_39 : decode cX11_answer 39 = .ok (.aload_n 0, 1) := by decide +kernel
theorem dX11_answer_40 : decode cX11_answer 40 = .ok (.getfield 83, 3) := by decide +kernel
theorem dX11_answer_43 : decode cX11_answer 43 = .ok (.getfield 264, 3) := by decide +kernel
theorem dX11_answer_46 : decode cX11_answer 46 = .ok (.goto 10, 3) := by decide +kernel
theorem dX11_answer_49 : decode cX11_answer 49 = .ok (.aload_n 0, 1) := by decide +kernel
theorem dX11_answer_50 : decode cX11_answer 50 = .ok (.getfield 83, 3) := by decide +kernel
theorem dX11_answer_53 : decode cX11_answer 53 = .ok (.getfield 268, 3) := by decide +kernel
theorem dX11_answer_56 : decode cX11_answer 56 = .ok (.iload_n 2, 1) := by decide +kernel
theorem dX11_answer_57 : decode cX11_answer 57 = .ok (.invokevirtual 271, 3) := by decide +kernel
theorem dX11_answer_60 : decode cX11_answer 60 = .ok (.aload_n 0, 1) := by decide +kernel
theorem dX11_answer_61 : decode cX11_answer 61 = .ok (.getfield 37, 3) := by decide +kernel
theorem dX11_answer_64 : decode cX11_answer 64 = .ok (.getfield 235, 3) := by decide +kernel
theorem dX11_answer_67 : decode cX11_answer 67 = .ok (.ireturn, 1) := by decide +kernel
theorem dX11_let_0 : decode cX11_let 0 = .ok (.aload_n 0, 1) := by decide +kernel
theorem dX11_let_1 : decode cX11_let 1 = .ok (.iload_n 1, 1) := by decide +kernel
theorem dX11_let_2 : decode cX11_let 2 = .ok (.invokevirtual 275, 3) := by decide +kernel
theorem dX11_let_5 : decode cX11_let 5 = .ok (.istore_n 3, 1) := by decide +kernel
theorem dX11_let_6 : decode cX11_let 6 = .ok (.aload_n 0, 1) := by decide +kernel
theorem dX11_let_7 : decode cX11_let 7 = .ok (.iload_n 2, 1) := by decide +kernel
theorem dX11_let_8 : decode cX11_let 8 = .ok (.invokevirtual 142, 3) := by decide +kernel
theorem dX11_let_11 : decode cX11_let 11 = .ok (.astore 4, 2) := by decide +kernel
theorem dX11_let_13 : decode cX11_let 13 = .ok (.aload_n 0, 1) := by decide +kernel
theorem dX11_let_14 : decode cX11_let 14 = .ok (.getfield 49, 3) := by decide +kernel
theorem dX11_let_17 : decode cX11_let 17 = .ok (.aload 4, 2) := by decide +kernel
theorem dX11_let_19 : decode cX11_let 19 = .ok (.invokevirtual 251, 3) := by decide +kernel
theorem dX11_let_22 : decode cX11_let 22 = .ok (.aload_n 0, 1) := by decide +kernel
theorem dX11_let_23 : decode cX11_let 23 = .ok (.getfield 49, 3) := by decide +kernel
theorem dX11_let_26 : decode cX11_let 26 = .ok (.invokevirtual 254, 3) := by decide +kernel
theorem dX11_let_29 : decode cX11_let 29 = .ok (.istore 5, 2) := by decide +kernel
theorem dX11_let_31 : decode cX11_let 31 = .ok (.iload 5, 2) := by decide +kernel
theorem dX11_let_33 : decode cX11_let 33 = .ok (.ifCond .ne 18, 3) := by decide +kernel
theorem dX11_let_36 : decode cX11_let 36 = .ok (.aload_n 0, 1) := by decide +kernel
theorem dX11_let_37 : decode cX11_let 37 = .ok (.getfield 19, 3) := by decide +kernel
theorem dX11_let_40 : decode cX11_let 40 = .ok (.iload_n 3, 1) := by decide +kernel
theorem dX11_let_41 : decode cX11_let 41 = .ok (.aload_n 0, 1) := by decide +kernel
theorem dX11_let_42 : decode cX11_let 42 = .ok (.getfield 49, 3) := by decide +kernel
theorem dX11_let_45 : decode cX11_let 45 = .ok (.invokevirtual 279, 3) := by decide +kernel
theorem dX11_let_48 : decode cX11_let 48 = .ok (.invokevirtual 283, 3) := by decide +kernel
theorem dX11_let_51 : decode cX11_let 51 = .ok (.iload 5, 2) := by decide +kernel
theorem dX11_let_53 : decode cX11_let 53 = .ok (.ireturn, 1) := by decide +kernel
theorem dX11_recall_0 : decode cX11_recall 0 = .ok (.aload_n 0, 1) := by decide +kernel
theorem dX11_recall_1 : decode cX11_recall 1 = .ok (.iload_n 1, 1) := by decide +kernel
theorem dX11_recall_2 : decode cX11_recall 2 = .ok (.invokevirtual 275, 3) := by decide +kernel
theorem dX11_recall_5 : decode cX11_recall 5 = .ok (.istore_n 2, 1) := by decide +kernel
theorem dX11_recall_6 : decode cX11_recall 6 = .ok (.aload_n 0, 1) := by decide +kernel
theorem dX11_recall_7 : decode cX11_recall 7 = .ok (.getfield 19, 3) := by decide +kernel
theorem dX11_recall_10 : decode cX11_recall 10 = .ok (.getfield 290, 3) := by decide +kernel
theorem dX11_recall_13 : decode cX11_recall 13 = .ok (.iload_n 2, 1) := by decide +kernel
theorem dX11_recall_14 : decode cX11_recall 14 = .ok (.baload, 1) := by decide +kernel
theorem dX11_recall_15 : decode cX11_recall 15 = .ok (.ifCond .ne 5, 3) := by decide +kernel
theorem dX11_recall_18 : decode cX11_recall 18 = .ok (.iconst 0, 1) := by decide +kernel
theorem dX11_recall_19 : decode cX11_recall 19 = .ok (.ireturn, 1) := by decide +kernel
theorem dX11_recall_20 : decode cX11_recall 20 = .ok (.aload_n 0, 1) := by decide +kernel
theorem dX11_recall_21 : decode cX11_recall 21 = .ok (.getfield 83, 3) := by decide +kernel
theorem dX11_recall_24 : decode cX11_recall 24 = .ok (.aload_n 0, 1) := by decide +kernel
theorem dX11_recall_25 : decode cX11_recall 25 = .ok (.getfield 19, 3) := by decide +kernel
theorem dX11_recall_28 : decode cX11_recall 28 = .ok (.getfield 294, 3) := by decide +kernel
theorem dX11_recall_31 : decode cX11_recall 31 = .ok (.iload_n 2, 1) := by decide +kernel
theorem dX11_recall_32 : decode cX11_recall 32 = .ok (.aaload, 1) := by decide +kernel
theorem dX11_recall_33 : decode cX11_recall 33 = .ok (.invokevirtual 298, 3) := by decide +kernel
theorem dX11_recall_36 : decode cX11_recall 36 = .ok (.iconst 1, 1) := by decide +kernel
theorem dX11_recall_37 : decode cX11_recall 37 = .ok (.ireturn, 1) := by decide +kernel
theorem dX11_step_0 : decode cX11_step 0 = .ok (.aload_n 0, 1) := by decide +kernel
theorem dX11_step_1 : decode cX11_step 1 = .ok (.iload_n 1, 1) := by decide +kernel
theorem dX11_step_2 : decode cX11_step 2 = .ok (.invokevirtual 142, 3) := by decide +kernel
theorem dX11_step_5 : decode cX11_step 5 = .ok (.astore_n 2, 1) := by decide +kernel
theorem dX11_step_6 : decode cX11_step 6 = .ok (.aload_n 0, 1) := by decide +kernel
theorem dX11_step_7 : decode cX11_step 7 = .ok (.invokevirtual 125, 3) := by decide +kernel
theorem dX11_step_10 : decode cX11_step 10 = .ok (.aload_n 0, 1) := by decide +kernel
theorem dX11_step_11 : decode cX11_step 11 = .ok (.aload_n 2, 1) := by decide +kernel
theorem dX11_step_12 : decode cX11_step 12 = .ok (.iconst 1, 1) := by decide +kernel
theorem dX11_step_13 : decode cX11_step 13 = .ok (.invokevirtual 326, 3) := by decide +kernel
theorem dX11_step_16 : decode cX11_step 16 = .ok (.ifCond .ne 7, 3) := by decide +kernel
theorem dX11_step_19 : decode cX11_step 19 = .ok (.iconst (-1), 1) := by decide +kernel
theorem dX11_step_20 : decode cX11_step 20 = .ok (.goto 14, 3) := by decide +kernel
theorem dX11_step_23 : decode cX11_step 23 = .ok (.aload_n 0, 1) := by decide +kernel
theorem dX11_step_24 : decode cX11_step 24 = .ok (.getfield 19, 3) := by decide +kernel
theorem dX11_step_27 : decode cX11_step 27 = .ok (.aload_n 0, 1) := by decide +kernel
theorem dX11_step_28 : decode cX11_step 28 = .ok (.getfield 93, 3) := by decide +kernel
theorem dX11_step_31 : decode cX11_step 31 = .ok (.invokevirtual 135, 3) := by decide +kernel
theorem dX11_step_34 : decode cX11_step 34 = .ok (.ireturn, 1) := by decide +kernel
theorem dX11_simplify_0 : decode cX11_simplify 0 = .ok (.aload_n 0, 1) := by decide +kernel
theorem dX11_simplify_1 : decode cX11_simplify 1 = .ok (.iload_n 1, 1) := by decide +kernel
theorem dX11_simplify_2 : decode cX11_simplify 2 = .ok (.invokevirtual 142, 3) := by decide +kernel
theorem dX11_simplify_5 : decode cX11_simplify 5 = .ok (.astore_n 2, 1) := by decide +kernel
theorem dX11_simplify_6 : decode cX11_simplify 6 = .ok (.aload_n 0, 1) := by decide +kernel
theorem dX11_simplify_7 : decode cX11_simplify 7 = .ok (.invokevirtual 125, 3) := by decide +kernel
theorem dX11_simplify_10 : decode cX11_simplify 10 = .ok (.aload_n 0, 1) := by decide +kernel
theorem dX11_simplify_11 : decode cX11_simplify 11 = .ok (.aload_n 2, 1) := by decide +kernel
theorem dX11_simplify_12 : decode cX11_simplify 12 = .ok (.bipush 80, 2) := by decide +kernel
theorem dX11_simplify_14 : decode cX11_simplify 14 = .ok (.invokevirtual 326, 3) := by decide +kernel
theorem dX11_simplify_17 : decode cX11_simplify 17 = .ok (.ifCond .ne 7, 3) := by decide +kernel
theorem dX11_simplify_20 : decode cX11_simplify 20 = .ok (.iload_n 1, 1) := by decide +kernel
theorem dX11_simplify_21 : decode cX11_simplify 21 = .ok (.goto 14, 3) := by decide +kernel
theorem dX11_simplify_24 : decode cX11_simplify 24 = .ok (.aload_n 0, 1) := by decide +kernel
theorem dX11_simplify_25 : decode cX11_simplify 25 = .ok (.getfield 19, 3) := by decide +kernel
theorem dX11_simplify_28 : decode cX11_simplify 28 = .ok (.aload_n 0, 1) := by decide +kernel
theorem dX11_simplify_29 : decode cX11_simplify 29 = .ok (.getfield 93, 3) := by decide +kernel
theorem dX11_simplify_32 : decode cX11_simplify 32 = .ok (.invokevirtual 135, 3) := by decide +kernel
theorem dX11_simplify_35 : decode cX11_simplify 35 = .ok (.ireturn, 1) := by decide +kernel
theorem dX11_trace_0 : decode cX11_trace 0 = .ok (.iload_n 2, 1) := by decide +kernel
theorem dX11_trace_1 : decode cX11_trace 1 = .ok (.ifCond .lt 8, 3) := by decide +kernel
theorem dX11_trace_4 : decode cX11_trace 4 = .ok (.iload_n 2, 1) := by decide +kernel
theorem dX11_trace_5 : decode cX11_trace 5 = .ok (.iconst 1, 1) := by decide +kernel
theorem dX11_trace_6 : decode cX11_trace 6 = .ok (.if_icmp .le 14, 3) := by decide +kernel
theorem dX11_trace_9 : decode cX11_trace 9 = .ok (.new 169, 3) := by decide +kernel
theorem dX11_trace_12 : decode cX11_trace 12 = .ok (.dup, 1) := by decide +kernel
theorem dX11_trace_13 : decode cX11_trace 13 = .ok (.ldc_w 330, 3) := by decide +kernel
theorem dX11_trace_16 : decode cX11_trace 16 = .ok (.invokespecial 173, 3) := by decide +kernel
theorem dX11_trace_19 : decode cX11_trace 19 = .ok (.athrow, 1) := by decide +kernel
theorem dX11_trace_20 : decode cX11_trace 20 = .ok (.iload_n 1, 1) := by decide +kernel
theorem dX11_trace_21 : decode cX11_trace 21 = .ok (.ifCond .lt 11, 3) := by decide +kernel
theorem dX11_trace_24 : decode cX11_trace 24 = .ok (.iload_n 1, 1) := by decide +kernel
theorem dX11_trace_25 : decode cX11_trace 25 = .ok (.aload_n 0, 1) := by decide +kernel
theorem dX11_trace_26 : decode cX11_trace 26 = .ok (.getfield 332, 3) := by decide +kernel
theorem dX11_trace_29 : decode cX11_trace 29 = .ok (.if_icmp .lt 5, 3) := by decide +kernel
theorem dX11_trace_32 : decode cX11_trace 32 = .ok (.iconst (-1), 1) := by decide +kernel
theorem dX11_trace_33 : decode cX11_trace 33 = .ok (.ireturn, 1) := by decide +kernel
theorem dX11_trace_34 : decode cX11_trace 34 = .ok (.iload_n 2, 1) := by decide +kernel
theorem dX11_trace_35 : decode cX11_trace 35 = .ok (.ifCond .ne 12, 3) := by decide +kernel
theorem dX11_trace_38 : decode cX11_trace 38 = .ok (.aload_n 0, 1) := by decide +kernel
theorem dX11_trace_39 : decode cX11_trace 39 = .ok (.getfield 97, 3) := by decide +kernel
theorem dX11_trace_42 : decode cX11_trace 42 = .ok (.iload_n 1, 1) := by decide +kernel
theorem dX11_trace_43 : decode cX11_trace 43 = .ok (.iaload, 1) := by decide +kernel
theorem dX11_trace_44 : decode cX11_trace 44 = .ok (.goto 9, 3) := by decide +kernel
theorem dX11_trace_47 : decode cX11_trace 47 = .ok (.aload_n 0, 1) := by decide +kernel
theorem dX11_trace_48 : decode cX11_trace 48 = .ok (.getfield 101, 3) := by decide +kernel
theorem dX11_trace_51 : decode cX11_trace 51 = .ok (.iload_n 1, 1) := by decide +kernel
theorem dX11_trace_52 : decode cX11_trace 52 = .ok (.iaload, 1) := by decide +kernel
theorem dX11_trace_53 : decode cX11_trace 53 = .ok (.ireturn, 1) := by decide +kernel
theorem dX11_undo_0 : decode cX11_undo 0 = .ok (.aload_n 0, 1) := by decide +kernel
theorem dX11_undo_1 : decode cX11_undo 1 = .ok (.getfield 19, 3) := by decide +kernel
theorem dX11_undo_4 : decode cX11_undo 4 = .ok (.invokevirtual 380, 3) := by decide +kernel
theorem dX11_undo_7 : decode cX11_undo 7 = .ok (.ireturn, 1) := by decide +kernel
theorem dX11_audit_0 : decode cX11_audit 0 = .ok (.iload_n 1, 1) := by decide +kernel
theorem dX11_audit_1 : decode cX11_audit 1 = .ok (.ifCond .lt 8, 3) := by decide +kernel
theorem dX11_audit_4 : decode cX11_audit 4 = .ok (.iload_n 1, 1) := by decide +kernel
theorem dX11_audit_5 : decode cX11_audit 5 = .ok (.iconst 3, 1) := by decide +kernel
theorem dX11_audit_6 : decode cX11_audit 6 = .ok (.if_icmp .le 14, 3) := by decide +kernel
theorem dX11_audit_9 : decode cX11_audit 9 = .ok (.new 169, 3) := by decide +kernel
theorem dX11_audit_12 : decode cX11_audit 12 = .ok (.dup, 1) := by decide +kernel
theorem dX11_audit_13 : decode cX11_audit 13 = .ok (.ldc_w 383, 3) := by decide +kernel
theorem dX11_audit_16 : decode cX11_audit 16 = .ok (.invokespecial 173, 3) := by decide +kernel
theorem dX11_audit_19 : decode cX11_audit 19 = .ok (.athrow, 1) := by decide +kernel
theorem dX11_audit_20 : decode cX11_audit 20 = .ok (.aload_n 0, 1) := by decide +kernel
theorem dX11_audit_21 : decode cX11_audit 21 = .ok (.iload_n 2, 1) := by decide +kernel
theorem dX11_audit_22 : decode cX11_audit 22 = .ok (.invokevirtual 142, 3) := by decide +kernel
theorem dX11_audit_25 : decode cX11_audit 25 = .ok (.astore_n 3, 1) := by decide +kernel
theorem dX11_audit_26 : decode cX11_audit 26 = .ok (.iload_n 1, 1) := by decide +kernel
theorem dX11_audit_27 : decode cX11_audit 27 = .ok (.tableswitch 105 0 2 #[25, 93, 99], 25) := by decide +kernel
theorem dX11_audit_52 : decode cX11_audit 52 = .ok (.aload_n 0, 1) := by decide +kernel
theorem dX11_audit_53 : decode cX11_audit 53 = .ok (.getfield 41, 3) := by decide +kernel
theorem dX11_audit_56 : decode cX11_audit 56 = .ok (.aload_n 3, 1) := by decide +kernel
theorem dX11_audit_57 : decode cX11_audit 57 = .ok (.invokevirtual 232, 3) := by decide +kernel
theorem dX11_audit_60 : decode cX11_audit 60 = .ok (.aload_n 0, 1) := by decide +kernel
theorem dX11_audit_61 : decode cX11_audit 61 = .ok (.getfield 28, 3) := by decide +kernel
theorem dX11_audit_64 : decode cX11_audit 64 = .ok (.aload_n 0, 1) := by decide +kernel
theorem dX11_audit_65 : decode cX11_audit 65 = .ok (.getfield 41, 3) := by decide +kernel
theorem dX11_audit_68 : decode cX11_audit 68 = .ok (.getfield 248, 3) := by decide +kernel
theorem dX11_audit_71 : decode cX11_audit 71 = .ok (.aload_n 0, 1) := by decide +kernel
theorem dX11_audit_72 : decode cX11_audit 72 = .ok (.getfield 41, 3) := by decide +kernel
theorem dX11_audit_75 : decode cX11_audit 75 = .ok (.getfield 235, 3) := by decide +kernel
theorem dX11_audit_78 : decode cX11_audit 78 = .ok (.invokevirtual 115, 3) := by decide +kernel
theorem dX11_audit_81 : decode cX11_audit 81 = .ok (.aload_n 0, 1) := by decide +kernel
theorem dX11_audit_82 : decode cX11_audit 82 = .ok (.getfield 28, 3) := by decide +kernel
theorem dX11_audit_85 : decode cX11_audit 85 = .ok (.aload_n 3, 1) := by decide +kernel
theorem dX11_audit_86 : decode cX11_audit 86 = .ok (.invokevirtual 385, 3) := by decide +kernel
theorem dX11_audit_89 : decode cX11_audit 89 = .ok (.ifCond .eq 29, 3) := by decide +kernel
theorem dX11_audit_92 : decode cX11_audit 92 = .ok (.aload_n 0, 1) := by decide +kernel
theorem dX11_audit_93 : decode cX11_audit 93 = .ok (.getfield 28, 3) := by decide +kernel
theorem dX11_audit_96 : decode cX11_audit 96 = .ok (.aload_n 3, 1) := by decide +kernel
theorem dX11_audit_97 : decode cX11_audit 97 = .ok (.invokevirtual 388, 3) := by decide +kernel
theorem dX11_audit_100 : decode cX11_audit 100 = .ok (.ifCond .eq 18, 3) := by decide +kernel
theorem dX11_audit_103 : decode cX11_audit 103 = .ok (.aload_n 0, 1) := by decide +kernel
theorem dX11_audit_104 : decode cX11_audit 104 = .ok (.getfield 28, 3) := by decide +kernel
theorem dX11_audit_107 : decode cX11_audit 107 = .ok (.aload_n 3, 1) := by decide +kernel
theorem dX11_audit_108 : decode cX11_audit 108 = .ok (.invokevirtual 391, 3) := by decide +kernel
theorem dX11_audit_111 : decode cX11_audit 111 = .ok (.ifCond .eq 7, 3) := by decide +kernel
theorem dX11_audit_114 : decode cX11_audit 114 = .ok (.iconst 1, 1) := by decide +kernel
theorem dX11_audit_115 : decode cX11_audit 115 = .ok (.goto 4, 3) := by decide +kernel
theorem dX11_audit_118 : decode cX11_audit 118 = .ok (.iconst 0, 1) := by decide +kernel
theorem dX11_audit_119 : decode cX11_audit 119 = .ok (.ireturn, 1) := by decide +kernel
theorem dX11_audit_120 : decode cX11_audit 120 = .ok (.aload_n 0, 1) := by decide +kernel
theorem dX11_audit_121 : decode cX11_audit 121 = .ok (.aload_n 3, 1) := by decide +kernel
theorem dX11_audit_122 : decode cX11_audit 122 = .ok (.invokevirtual 394, 3) := by decide +kernel
theorem dX11_audit_125 : decode cX11_audit 125 = .ok (.ireturn, 1) := by decide +kernel
theorem dX11_audit_126 : decode cX11_audit 126 = .ok (.aload_n 0, 1) := by decide +kernel
theorem dX11_audit_127 : decode cX11_audit 127 = .ok (.aload_n 3, 1) := by decide +kernel
theorem dX11_audit_128 : decode cX11_audit 128 = .ok (.invokevirtual 397, 3) := by decide +kernel
theorem dX11_audit_131 : decode cX11_audit 131 = .ok (.ireturn, 1) := by decide +kernel
theorem dX11_audit_132 : decode cX11_audit 132 = .ok (.aload_n 0, 1) := by decide +kernel
theorem dX11_audit_133 : decode cX11_audit 133 = .ok (.aload_n 3, 1) := by decide +kernel
theorem dX11_audit_134 : decode cX11_audit 134 = .ok (.bipush 120, 2) := by decide +kernel
theorem dX11_audit_136 : decode cX11_audit 136 = .ok (.invokevirtual 400, 3) := by decide +kernel
theorem dX11_audit_139 : decode cX11_audit 139 = .ok (.ifCond .eq 27, 3) := by decide +kernel
theorem dX11_audit_142 : decode cX11_audit 142 = .ok (.aload_n 0, 1) := by decide +kernel
theorem dX11_audit_143 : decode cX11_audit 143 = .ok (.aload_n 3, 1) := by decide +kernel
theorem dX11_audit_144 : decode cX11_audit 144 = .ok (.bipush 121, 2) := by decide +kernel
theorem dX11_audit_146 : decode cX11_audit 146 = .ok (.invokevirtual 400, 3) := by decide +kernel
theorem dX11_audit_149 : decode cX11_audit 149 = .ok (.ifCond .eq 17, 3) := by decide +kernel
theorem dX11_audit_152 : decode cX11_audit 152 = .ok (.aload_n 0, 1) := by decide +kernel
theorem dX11_audit_153 : decode cX11_audit 153 = .ok (.aload_n 3, 1) := by decide +kernel
theorem dX11_audit_154 : decode cX11_audit 154 = .ok (.bipush 122, 2) := by decide +kernel
theorem dX11_audit_156 : decode cX11_audit 156 = .ok (.invokevirtual 400, 3) := by decide +kernel
theorem dX11_audit_159 : decode cX11_audit 159 = .ok (.ifCond .eq 7, 3) := by decide +kernel
theorem dX11_audit_162 : decode cX11_audit 162 = .ok (.iconst 1, 1) := by decide +kernel
theorem dX11_audit_163 : decode cX11_audit 163 = .ok (.goto 4, 3) := by decide +kernel
theorem dX11_audit_166 : decode cX11_audit 166 = .ok (.iconst 0, 1) := by decide +kernel
theorem dX11_audit_167 : decode cX11_audit 167 = .ok (.ireturn, 1) := by decide +kernel
theorem dX11_postfixAgrees_0 : decode cX11_postfixAgrees 0 = .ok (.aload_n 1, 1) := by decide +kernel
theorem dX11_postfixAgrees_1 : decode cX11_postfixAgrees 1 = .ok (.invokevirtual 404, 3) := by decide +kernel
theorem dX11_postfixAgrees_4 : decode cX11_postfixAgrees 4 = .ok (.ifCond .eq 5, 3) := by decide +kernel
theorem dX11_postfixAgrees_7 : decode cX11_postfixAgrees 7 = .ok (.iconst 1, 1) := by decide +kernel
theorem dX11_postfixAgrees_8 : decode cX11_postfixAgrees 8 = .ok (.ireturn, 1) := by decide +kernel
theorem dX11_postfixAgrees_9 : decode cX11_postfixAgrees 9 = .ok (.aload_n 0, 1) := by decide +kernel
theorem dX11_postfixAgrees_10 : decode cX11_postfixAgrees 10 = .ok (.getfield 49, 3) := by decide +kernel
theorem dX11_postfixAgrees_13 : decode cX11_postfixAgrees 13 = .ok (.aload_n 1, 1) := by decide +kernel
theorem dX11_postfixAgrees_14 : decode cX11_postfixAgrees 14 = .ok (.invokevirtual 251, 3) := by decide +kernel
theorem dX11_postfixAgrees_17 : decode cX11_postfixAgrees 17 = .ok (.aload_n 0, 1) := by decide +kernel
theorem dX11_postfixAgrees_18 : decode cX11_postfixAgrees 18 = .ok (.getfield 49, 3) := by decide +kernel
theorem dX11_postfixAgrees_21 : decode cX11_postfixAgrees 21 = .ok (.invokevirtual 254, 3) := by decide +kernel
theorem dX11_postfixAgrees_24 : decode cX11_postfixAgrees 24 = .ok (.istore_n 2, 1) := by decide +kernel
theorem dX11_postfixAgrees_25 : decode cX11_postfixAgrees 25 = .ok (.iload_n 2, 1) := by decide +kernel
theorem dX11_postfixAgrees_26 : decode cX11_postfixAgrees 26 = .ok (.ifCond .ne 17, 3) := by decide +kernel
theorem dX11_postfixAgrees_29 : decode cX11_postfixAgrees 29 = .ok (.aload_n 0, 1) := by decide +kernel
theorem dX11_postfixAgrees_30 : decode cX11_postfixAgrees 30 = .ok (.getfield 87, 3) := by decide +kernel
theorem dX11_postfixAgrees_33 : decode cX11_postfixAgrees 33 = .ok (.aload_n 0, 1) := by decide +kernel
theorem dX11_postfixAgrees_34 : decode cX11_postfixAgrees 34 = .ok (.getfield 49, 3) := by decide +kernel
theorem dX11_postfixAgrees_37 : decode cX11_postfixAgrees 37 = .ok (.invokevirtual 279, 3) := by decide +kernel
theorem dX11_postfixAgrees_40 : decode cX11_postfixAgrees 40 = .ok (.invokevirtual 298, 3) := by decide +kernel
theorem dX11_postfixAgrees_43 : decode cX11_postfixAgrees 43 = .ok (.aload_n 0, 1) := by decide +kernel
theorem dX11_postfixAgrees_44 : decode cX11_postfixAgrees 44 = .ok (.getfield 49, 3) := by decide +kernel
theorem dX11_postfixAgrees_47 : decode cX11_postfixAgrees 47 = .ok (.aload_n 1, 1) := by decide +kernel
theorem dX11_postfixAgrees_48 : decode cX11_postfixAgrees 48 = .ok (.invokevirtual 259, 3) := by decide +kernel
theorem dX11_postfixAgrees_51 : decode cX11_postfixAgrees 51 = .ok (.aload_n 0, 1) := by decide +kernel
theorem dX11_postfixAgrees_52 : decode cX11_postfixAgrees 52 = .ok (.getfield 49, 3) := by decide +kernel
theorem dX11_postfixAgrees_55 : decode cX11_postfixAgrees 55 = .ok (.invokevirtual 254, 3) := by decide +kernel
theorem dX11_postfixAgrees_58 : decode cX11_postfixAgrees 58 = .ok (.iload_n 2, 1) := by decide +kernel
theorem dX11_postfixAgrees_59 : decode cX11_postfixAgrees 59 = .ok (.if_icmp .ne 28, 3) := by decide +kernel
theorem dX11_postfixAgrees_62 : decode cX11_postfixAgrees 62 = .ok (.iload_n 2, 1) := by decide +kernel
theorem dX11_postfixAgrees_63 : decode cX11_postfixAgrees 63 = .ok (.ifCond .ne 20, 3) := by decide +kernel
theorem dX11_postfixAgrees_66 : decode cX11_postfixAgrees 66 = .ok (.aload_n 0, 1) := by decide +kernel
theorem dX11_postfixAgrees_67 : decode cX11_postfixAgrees 67 = .ok (.getfield 49, 3) := by decide +kernel
theorem dX11_postfixAgrees_70 : decode cX11_postfixAgrees 70 = .ok (.invokevirtual 279, 3) := by decide +kernel
theorem dX11_postfixAgrees_73 : decode cX11_postfixAgrees 73 = .ok (.aload_n 0, 1) := by decide +kernel
theorem dX11_postfixAgrees_74 : decode cX11_postfixAgrees 74 = .ok (.getfield 87, 3) := by decide +kernel
theorem dX11_postfixAgrees_77 : decode cX11_postfixAgrees 77 = .ok (.invokevirtual 407, 3) := by decide +kernel
theorem dX11_postfixAgrees_80 : decode cX11_postfixAgrees 80 = .ok (.ifCond .eq 7, 3) := by decide +kernel
theorem dX11_postfixAgrees_83 : decode cX11_postfixAgrees 83 = .ok (.iconst 1, 1) := by decide +kernel
theorem dX11_postfixAgrees_84 : decode cX11_postfixAgrees 84 = .ok (.goto 4, 3) := by decide +kernel
theorem dX11_postfixAgrees_87 : decode cX11_postfixAgrees 87 = .ok (.iconst 0, 1) := by decide +kernel
theorem dX11_postfixAgrees_88 : decode cX11_postfixAgrees 88 = .ok (.ireturn, 1) := by decide +kernel
theorem dX11_simplifiesWell_0 : decode cX11_simplifiesWell 0 = .ok (.aload_n 0, 1) := by decide +kernel
theorem dX11_simplifiesWell_1 : decode cX11_simplifiesWell 1 = .ok (.getfield 49, 3) := by decide +kernel
theorem dX11_simplifiesWell_4 : decode cX11_simplifiesWell 4 = .ok (.aload_n 1, 1) := by decide +kernel
theorem dX11_simplifiesWell_5 : decode cX11_simplifiesWell 5 = .ok (.invokevirtual 251, 3) := by decide +kernel
theorem dX11_simplifiesWell_8 : decode cX11_simplifiesWell 8 = .ok (.aload_n 0, 1) := by decide +kernel
theorem dX11_simplifiesWell_9 : decode cX11_simplifiesWell 9 = .ok (.getfield 49, 3) := by decide +kernel
theorem dX11_simplifiesWell_12 : decode cX11_simplifiesWell 12 = .ok (.invokevirtual 254, 3) := by decide +kernel
theorem dX11_simplifiesWell_15 : decode cX11_simplifiesWell 15 = .ok (.istore_n 2, 1) := by decide +kernel
theorem dX11_simplifiesWell_16 : decode cX11_simplifiesWell 16 = .ok (.iload_n 2, 1) := by decide +kernel
theorem dX11_simplifiesWell_17 : decode cX11_simplifiesWell 17 = .ok (.ifCond .ne 17, 3) := by decide +kernel
theorem dX11_simplifiesWell_20 : decode cX11_simplifiesWell 20 = .ok (.aload_n 0, 1) := by decide +kernel
theorem dX11_simplifiesWell_21 : decode cX11_simplifiesWell 21 = .ok (.getfield 87, 3) := by decide +kernel
theorem dX11_simplifiesWell_24 : decode cX11_simplifiesWell 24 = .ok (.aload_n 0, 1) := by decide +kernel
theorem dX11_simplifiesWell_25 : decode cX11_simplifiesWell 25 = .ok (.getfield 49, 3) := by decide +kernel
theorem dX11_simplifiesWell_28 : decode cX11_simplifiesWell 28 = .ok (.invokevirtual 279, 3) := by decide +kernel
theorem dX11_simplifiesWell_31 : decode cX11_simplifiesWell 31 = .ok (.invokevirtual 298, 3) := by decide +kernel
theorem dX11_simplifiesWell_34 : decode cX11_simplifiesWell 34 = .ok (.aload_n 0, 1) := by decide +kernel
theorem dX11_simplifiesWell_35 : decode cX11_simplifiesWell 35 = .ok (.getfield 93, 3) := by decide +kernel
theorem dX11_simplifiesWell_38 : decode cX11_simplifiesWell 38 = .ok (.aload_n 1, 1) := by decide +kernel
theorem dX11_simplifiesWell_39 : decode cX11_simplifiesWell 39 = .ok (.invokevirtual 410, 3) := by decide +kernel
theorem dX11_simplifiesWell_42 : decode cX11_simplifiesWell 42 = .ok (.iconst 1, 1) := by decide +kernel
theorem dX11_simplifiesWell_43 : decode cX11_simplifiesWell 43 = .ok (.istore_n 3, 1) := by decide +kernel
theorem dX11_simplifiesWell_44 : decode cX11_simplifiesWell 44 = .ok (.iconst 0, 1) := by decide +kernel
theorem dX11_simplifiesWell_45 : decode cX11_simplifiesWell 45 = .ok (.istore 4, 2) := by decide +kernel
theorem dX11_simplifiesWell_47 : decode cX11_simplifiesWell 47 = .ok (.iload 4, 2) := by decide +kernel
theorem dX11_simplifiesWell_49 : decode cX11_simplifiesWell 49 = .ok (.bipush 80, 2) := by decide +kernel
theorem dX11_simplifiesWell_51 : decode cX11_simplifiesWell 51 = .ok (.if_icmp .ge 60, 3) := by decide +kernel
theorem dX11_simplifiesWell_54 : decode cX11_simplifiesWell 54 = .ok (.iload_n 3, 1) := by decide +kernel
theorem dX11_simplifiesWell_55 : decode cX11_simplifiesWell 55 = .ok (.ifCond .eq 56, 3) := by decide +kernel
theorem dX11_simplifiesWell_58 : decode cX11_simplifiesWell 58 = .ok (.aload_n 0, 1) := by decide +kernel
theorem dX11_simplifiesWell_59 : decode cX11_simplifiesWell 59 = .ok (.getfield 93, 3) := by decide +kernel
theorem dX11_simplifiesWell_62 : decode cX11_simplifiesWell 62 = .ok (.getfield 314, 3) := by decide +kernel
theorem dX11_simplifiesWell_65 : decode cX11_simplifiesWell 65 = .ok (.istore 5, 2) := by decide +kernel
theorem dX11_simplifiesWell_67 : decode cX11_simplifiesWell 67 = .ok (.aload_n 0, 1) := by decide +kernel
theorem dX11_simplifiesWell_68 : decode cX11_simplifiesWell 68 = .ok (.getfield 65, 3) := by decide +kernel
theorem dX11_simplifiesWell_71 : decode cX11_simplifiesWell 71 = .ok (.aload_n 0, 1) := by decide +kernel
theorem dX11_simplifiesWell_72 : decode cX11_simplifiesWell 72 = .ok (.getfield 93, 3) := by decide +kernel
theorem dX11_simplifiesWell_75 : decode cX11_simplifiesWell 75 = .ok (.invokevirtual 412, 3) := by decide +kernel
theorem dX11_simplifiesWell_78 : decode cX11_simplifiesWell 78 = .ok (.ifCond .eq 7, 3) := by decide +kernel
theorem dX11_simplifiesWell_81 : decode cX11_simplifiesWell 81 = .ok (.iconst 1, 1) := by decide +kernel
theorem dX11_simplifiesWell_82 : decode cX11_simplifiesWell 82 = .ok (.goto 4, 3) := by decide +kernel
theorem dX11_simplifiesWell_85 : decode cX11_simplifiesWell 85 = .ok (.iconst 0, 1) := by decide +kernel
theorem dX11_simplifiesWell_86 : decode cX11_simplifiesWell 86 = .ok (.istore_n 3, 1) := by decide +kernel
theorem dX11_simplifiesWell_87 : decode cX11_simplifiesWell 87 = .ok (.iload_n 3, 1) := by decide +kernel
theorem dX11_simplifiesWell_88 : decode cX11_simplifiesWell 88 = .ok (.ifCond .eq 17, 3) := by decide +kernel
theorem dX11_simplifiesWell_91 : decode cX11_simplifiesWell 91 = .ok (.aload_n 0, 1) := by decide +kernel
theorem dX11_simplifiesWell_92 : decode cX11_simplifiesWell 92 = .ok (.getfield 93, 3) := by decide +kernel
theorem dX11_simplifiesWell_95 : decode cX11_simplifiesWell 95 = .ok (.getfield 314, 3) := by decide +kernel
theorem dX11_simplifiesWell_98 : decode cX11_simplifiesWell 98 = .ok (.iload 5, 2) := by decide +kernel
theorem dX11_simplifiesWell_100 : decode cX11_simplifiesWell 100 = .ok (.if_icmp .lt 5, 3) := by decide +kernel
theorem dX11_simplifiesWell_103 : decode cX11_simplifiesWell 103 = .ok (.iconst 0, 1) := by decide +kernel
theorem dX11_simplifiesWell_104 : decode cX11_simplifiesWell 104 = .ok (.ireturn, 1) := by decide +kernel
theorem dX11_simplifiesWell_105 : decode cX11_simplifiesWell 105 = .ok (.iinc 4 1, 3) := by decide +kernel
theorem dX11_simplifiesWell_108 : decode cX11_simplifiesWell 108 = .ok (.goto (-61), 3) := by decide +kernel
theorem dX11_simplifiesWell_111 : decode cX11_simplifiesWell 111 = .ok (.iload_n 2, 1) := by decide +kernel
theorem dX11_simplifiesWell_112 : decode cX11_simplifiesWell 112 = .ok (.ifCond .eq 5, 3) := by decide +kernel
theorem dX11_simplifiesWell_115 : decode cX11_simplifiesWell 115 = .ok (.iconst 1, 1) := by decide +kernel
theorem dX11_simplifiesWell_116 : decode cX11_simplifiesWell 116 = .ok (.ireturn, 1) := by decide +kernel
theorem dX11_simplifiesWell_117 : decode cX11_simplifiesWell 117 = .ok (.aload_n 0, 1) := by decide +kernel
theorem dX11_simplifiesWell_118 : decode cX11_simplifiesWell 118 = .ok (.getfield 49, 3) := by decide +kernel
theorem dX11_simplifiesWell_121 : decode cX11_simplifiesWell 121 = .ok (.aload_n 0, 1) := by decide +kernel
theorem dX11_simplifiesWell_122 : decode cX11_simplifiesWell 122 = .ok (.getfield 93, 3) := by decide +kernel
theorem dX11_simplifiesWell_125 : decode cX11_simplifiesWell 125 = .ok (.invokevirtual 251, 3) := by decide +kernel
theorem dX11_simplifiesWell_128 : decode cX11_simplifiesWell 128 = .ok (.aload_n 0, 1) := by decide +kernel
theorem dX11_simplifiesWell_129 : decode cX11_simplifiesWell 129 = .ok (.getfield 49, 3) := by decide +kernel
theorem dX11_simplifiesWell_132 : decode cX11_simplifiesWell 132 = .ok (.invokevirtual 254, 3) := by decide +kernel
theorem dX11_simplifiesWell_135 : decode cX11_simplifiesWell 135 = .ok (.ifCond .ne 20, 3) := by decide +kernel
theorem dX11_simplifiesWell_138 : decode cX11_simplifiesWell 138 = .ok (.aload_n 0, 1) := by decide +kernel
theorem dX11_simplifiesWell_139 : decode cX11_simplifiesWell 139 = .ok (.getfield 49, 3) := by decide +kernel
theorem dX11_simplifiesWell_142 : decode cX11_simplifiesWell 142 = .ok (.invokevirtual 279, 3) := by decide +kernel
theorem dX11_simplifiesWell_145 : decode cX11_simplifiesWell 145 = .ok (.aload_n 0, 1) := by decide +kernel
theorem dX11_simplifiesWell_146 : decode cX11_simplifiesWell 146 = .ok (.getfield 87, 3) := by decide +kernel
theorem dX11_simplifiesWell_149 : decode cX11_simplifiesWell 149 = .ok (.invokevirtual 407, 3) := by decide +kernel
theorem dX11_simplifiesWell_152 : decode cX11_simplifiesWell 152 = .ok (.ifCond .eq 7, 3) := by decide +kernel
theorem dX11_simplifiesWell_155 : decode cX11_simplifiesWell 155 = .ok (.iconst 1, 1) := by decide +kernel
theorem dX11_simplifiesWell_156 : decode cX11_simplifiesWell 156 = .ok (.goto 4, 3) := by decide +kernel
theorem dX11_simplifiesWell_159 : decode cX11_simplifiesWell 159 = .ok (.iconst 0, 1) := by decide +kernel
theorem dX11_simplifiesWell_160 : decode cX11_simplifiesWell 160 = .ok (.ireturn, 1) := by decide +kernel
theorem dX11_derivesWell_0 : decode cX11_derivesWell 0 = .ok (.aload_n 0, 1) := by decide +kernel
theorem dX11_derivesWell_1 : decode cX11_derivesWell 1 = .ok (.getfield 65, 3) := by decide +kernel
theorem dX11_derivesWell_4 : decode cX11_derivesWell 4 = .ok (.aload_n 1, 1) := by decide +kernel
theorem dX11_derivesWell_5 : decode cX11_derivesWell 5 = .ok (.iload_n 2, 1) := by decide +kernel
theorem dX11_derivesWell_6 : decode cX11_derivesWell 6 = .ok (.invokevirtual 351, 3) := by decide +kernel
theorem dX11_derivesWell_9 : decode cX11_derivesWell 9 = .ok (.ifCond .ne 5, 3) := by decide +kernel
theorem dX11_derivesWell_12 : decode cX11_derivesWell 12 = .ok (.iconst 1, 1) := by decide +kernel
theorem dX11_derivesWell_13 : decode cX11_derivesWell 13 = .ok (.ireturn, 1) := by decide +kernel
theorem dX11_derivesWell_14 : decode cX11_derivesWell 14 = .ok (.aload_n 0, 1) := by decide +kernel
theorem dX11_derivesWell_15 : decode cX11_derivesWell 15 = .ok (.getfield 49, 3) := by decide +kernel
theorem dX11_derivesWell_18 : decode cX11_derivesWell 18 = .ok (.aload_n 0, 1) := by decide +kernel
theorem dX11_derivesWell_19 : decode cX11_derivesWell 19 = .ok (.getfield 65, 3) := by decide +kernel
theorem dX11_derivesWell_22 : decode cX11_derivesWell 22 = .ok (.getfield 356, 3) := by decide +kernel
theorem dX11_derivesWell_25 : decode cX11_derivesWell 25 = .ok (.invokevirtual 251, 3) := by decide +kernel
theorem dX11_derivesWell_28 : decode cX11_derivesWell 28 = .ok (.aload_n 0, 1) := by decide +kernel
theorem dX11_derivesWell_29 : decode cX11_derivesWell 29 = .ok (.getfield 49, 3) := by decide +kernel
theorem dX11_derivesWell_32 : decode cX11_derivesWell 32 = .ok (.invokevirtual 254, 3) := by decide +kernel
theorem dX11_derivesWell_35 : decode cX11_derivesWell 35 = .ok (.ifCond .eq 5, 3) := by decide +kernel
theorem dX11_derivesWell_38 : decode cX11_derivesWell 38 = .ok (.iconst 1, 1) := by decide +kernel
theorem dX11_derivesWell_39 : decode cX11_derivesWell 39 = .ok (.ireturn, 1) := by decide +kernel
theorem dX11_derivesWell_40 : decode cX11_derivesWell 40 = .ok (.aload_n 0, 1) := by decide +kernel
theorem dX11_derivesWell_41 : decode cX11_derivesWell 41 = .ok (.getfield 87, 3) := by decide +kernel
theorem dX11_derivesWell_44 : decode cX11_derivesWell 44 = .ok (.aload_n 0, 1) := by decide +kernel
theorem dX11_derivesWell_45 : decode cX11_derivesWell 45 = .ok (.getfield 49, 3) := by decide +kernel
theorem dX11_derivesWell_48 : decode cX11_derivesWell 48 = .ok (.invokevirtual 279, 3) := by decide +kernel
theorem dX11_derivesWell_51 : decode cX11_derivesWell 51 = .ok (.invokevirtual 298, 3) := by decide +kernel
theorem dX11_derivesWell_54 : decode cX11_derivesWell 54 = .ok (.aload_n 0, 1) := by decide +kernel
theorem dX11_derivesWell_55 : decode cX11_derivesWell 55 = .ok (.getfield 58, 3) := by decide +kernel
theorem dX11_derivesWell_58 : decode cX11_derivesWell 58 = .ok (.aload_n 1, 1) := by decide +kernel
theorem dX11_derivesWell_59 : decode cX11_derivesWell 59 = .ok (.iload_n 2, 1) := by decide +kernel
theorem dX11_derivesWell_60 : decode cX11_derivesWell 60 = .ok (.invokevirtual 364, 3) := by decide +kernel
theorem dX11_derivesWell_63 : decode cX11_derivesWell 63 = .ok (.ifCond .ne 20, 3) := by decide +kernel
theorem dX11_derivesWell_66 : decode cX11_derivesWell 66 = .ok (.aload_n 0, 1) := by decide +kernel
theorem dX11_derivesWell_67 : decode cX11_derivesWell 67 = .ok (.getfield 58, 3) := by decide +kernel
theorem dX11_derivesWell_70 : decode cX11_derivesWell 70 = .ok (.invokevirtual 367, 3) := by decide +kernel
theorem dX11_derivesWell_73 : decode cX11_derivesWell 73 = .ok (.aload_n 0, 1) := by decide +kernel
theorem dX11_derivesWell_74 : decode cX11_derivesWell 74 = .ok (.getfield 87, 3) := by decide +kernel
theorem dX11_derivesWell_77 : decode cX11_derivesWell 77 = .ok (.invokevirtual 407, 3) := by decide +kernel
theorem dX11_derivesWell_80 : decode cX11_derivesWell 80 = .ok (.ifCond .eq 7, 3) := by decide +kernel
theorem dX11_derivesWell_83 : decode cX11_derivesWell 83 = .ok (.iconst 1, 1) := by decide +kernel
theorem dX11_derivesWell_84 : decode cX11_derivesWell 84 = .ok (.goto 4, 3) := by decide +kernel
theorem dX11_derivesWell_87 : decode cX11_derivesWell 87 = .ok (.iconst 0, 1) := by decide +kernel
theorem dX11_derivesWell_88 : decode cX11_derivesWell 88 = .ok (.ireturn, 1) := by decide +kernel
theorem dX11_takeSteps_0 : decode cX11_takeSteps 0 = .ok (.aload_n 0, 1) := by decide +kernel
theorem dX11_takeSteps_1 : decode cX11_takeSteps 1 = .ok (.getfield 93, 3) := by decide +kernel
theorem dX11_takeSteps_4 : decode cX11_takeSteps 4 = .ok (.aload_n 1, 1) := by decide +kernel
theorem dX11_takeSteps_5 : decode cX11_takeSteps 5 = .ok (.invokevirtual 410, 3) := by decide +kernel
theorem dX11_takeSteps_8 : decode cX11_takeSteps 8 = .ok (.aload_n 0, 1) := by decide +kernel
theorem dX11_takeSteps_9 : decode cX11_takeSteps 9 = .ok (.iconst 0, 1) := by decide +kernel
theorem dX11_takeSteps_10 : decode cX11_takeSteps 10 = .ok (.putfield 332, 3) := by decide +kernel
theorem dX11_takeSteps_13 : decode cX11_takeSteps 13 = .ok (.iconst 1, 1) := by decide +kernel
theorem dX11_takeSteps_14 : decode cX11_takeSteps 14 = .ok (.istore_n 3, 1) := by decide +kernel
theorem dX11_takeSteps_15 : decode cX11_takeSteps 15 = .ok (.iconst 0, 1) := by decide +kernel
theorem dX11_takeSteps_16 : decode cX11_takeSteps 16 = .ok (.istore 4, 2) := by decide +kernel
theorem dX11_takeSteps_18 : decode cX11_takeSteps 18 = .ok (.iload 4, 2) := by decide +kernel
theorem dX11_takeSteps_20 : decode cX11_takeSteps 20 = .ok (.iload_n 2, 1) := by decide +kernel
theorem dX11_takeSteps_21 : decode cX11_takeSteps 21 = .ok (.if_icmp .ge 90, 3) := by decide +kernel
theorem dX11_takeSteps_24 : decode cX11_takeSteps 24 = .ok (.aload_n 0, 1) := by decide +kernel
theorem dX11_takeSteps_25 : decode cX11_takeSteps 25 = .ok (.getfield 332, 3) := by decide +kernel
theorem dX11_takeSteps_28 : decode cX11_takeSteps 28 = .ok (.aload_n 0, 1) := by decide +kernel
theorem dX11_takeSteps_29 : decode cX11_takeSteps 29 = .ok (.getfield 97, 3) := by decide +kernel
theorem dX11_takeSteps_32 : decode cX11_takeSteps 32 = .ok (.arraylength, 1) := by decide +kernel
theorem dX11_takeSteps_33 : decode cX11_takeSteps 33 = .ok (.if_icmp .ge 78, 3) := by decide +kernel
theorem dX11_takeSteps_36 : decode cX11_takeSteps 36 = .ok (.iload_n 3, 1) := by decide +kernel
theorem dX11_takeSteps_37 : decode cX11_takeSteps 37 = .ok (.ifCond .eq 74, 3) := by decide +kernel
theorem dX11_takeSteps_40 : decode cX11_takeSteps 40 = .ok (.aload_n 0, 1) := by decide +kernel
theorem dX11_takeSteps_41 : decode cX11_takeSteps 41 = .ok (.getfield 65, 3) := by decide +kernel
theorem dX11_takeSteps_44 : decode cX11_takeSteps 44 = .ok (.aload_n 0, 1) := by decide +kernel
theorem dX11_takeSteps_45 : decode cX11_takeSteps 45 = .ok (.getfield 93, 3) := by decide +kernel
theorem dX11_takeSteps_48 : decode cX11_takeSteps 48 = .ok (.invokevirtual 412, 3) := by decide +kernel
theorem dX11_takeSteps_51 : decode cX11_takeSteps 51 = .ok (.istore 5, 2) := by decide +kernel
theorem dX11_takeSteps_53 : decode cX11_takeSteps 53 = .ok (.iload 5, 2) := by decide +kernel
theorem dX11_takeSteps_55 : decode cX11_takeSteps 55 = .ok (.ifCond .eq 7, 3) := by decide +kernel
theorem dX11_takeSteps_58 : decode cX11_takeSteps 58 = .ok (.iconst 1, 1) := by decide +kernel
theorem dX11_takeSteps_59 : decode cX11_takeSteps 59 = .ok (.goto 4, 3) := by decide +kernel
theorem dX11_takeSteps_62 : decode cX11_takeSteps 62 = .ok (.iconst 0, 1) := by decide +kernel
theorem dX11_takeSteps_63 : decode cX11_takeSteps 63 = .ok (.istore_n 3, 1) := by decide +kernel
theorem dX11_takeSteps_64 : decode cX11_takeSteps 64 = .ok (.iload_n 3, 1) := by decide +kernel
theorem dX11_takeSteps_65 : decode cX11_takeSteps 65 = .ok (.ifCond .eq 40, 3) := by decide +kernel
theorem dX11_takeSteps_68 : decode cX11_takeSteps 68 = .ok (.aload_n 0, 1) := by decide +kernel
theorem dX11_takeSteps_69 : decode cX11_takeSteps 69 = .ok (.getfield 97, 3) := by decide +kernel
theorem dX11_takeSteps_72 : decode cX11_takeSteps 72 = .ok (.aload_n 0, 1) := by decide +kernel
theorem dX11_takeSteps_73 : decode cX11_takeSteps 73 = .ok (.getfield 332, 3) := by decide +kernel
theorem dX11_takeSteps_76 : decode cX11_takeSteps 76 = .ok (.iload 5, 2) := by decide +kernel
theorem dX11_takeSteps_78 : decode cX11_takeSteps 78 = .ok (.iastore, 1) := by decide +kernel
theorem dX11_takeSteps_79 : decode cX11_takeSteps 79 = .ok (.aload_n 0, 1) := by decide +kernel
theorem dX11_takeSteps_80 : decode cX11_takeSteps 80 = .ok (.getfield 101, 3) := by decide +kernel
theorem dX11_takeSteps_83 : decode cX11_takeSteps 83 = .ok (.aload_n 0, 1) := by decide +kernel
theorem dX11_takeSteps_84 : decode cX11_takeSteps 84 = .ok (.getfield 332, 3) := by decide +kernel
theorem dX11_takeSteps_87 : decode cX11_takeSteps 87 = .ok (.aload_n 0, 1) := by decide +kernel
theorem dX11_takeSteps_88 : decode cX11_takeSteps 88 = .ok (.getfield 65, 3) := by decide +kernel
theorem dX11_takeSteps_91 : decode cX11_takeSteps 91 = .ok (.getfield 415, 3) := by decide +kernel
theorem dX11_takeSteps_94 : decode cX11_takeSteps 94 = .ok (.iastore, 1) := by decide +kernel
theorem dX11_takeSteps_95 : decode cX11_takeSteps 95 = .ok (.aload_n 0, 1) := by decide +kernel
theorem dX11_takeSteps_96 : decode cX11_takeSteps 96 = .ok (.dup, 1) := by decide +kernel
theorem dX11_takeSteps_97 : decode cX11_takeSteps 97 = .ok (.getfield 332, 3) := by decide +kernel
theorem dX11_takeSteps_100 : decode cX11_takeSteps 100 = .ok (.iconst 1, 1) := by decide +kernel
theorem dX11_takeSteps_101 : decode cX11_takeSteps 101 = .ok (.iadd, 1) := by decide +kernel
theorem dX11_takeSteps_102 : decode cX11_takeSteps 102 = .ok (.putfield 332, 3) := by decide +kernel
theorem dX11_takeSteps_105 : decode cX11_takeSteps 105 = .ok (.iinc 4 1, 3) := by decide +kernel
theorem dX11_takeSteps_108 : decode cX11_takeSteps 108 = .ok (.goto (-90), 3) := by decide +kernel
theorem dX11_takeSteps_111 : decode cX11_takeSteps 111 = .ok (.aload_n 0, 1) := by decide +kernel
theorem dX11_takeSteps_112 : decode cX11_takeSteps 112 = .ok (.getfield 332, 3) := by decide +kernel
theorem dX11_takeSteps_115 : decode cX11_takeSteps 115 = .ok (.ireturn, 1) := by decide +kernel
theorem dX11_answerOf_0 : decode cX11_answerOf 0 = .ok (.iload_n 1, 1) := by decide +kernel
theorem dX11_answerOf_1 : decode cX11_answerOf 1 = .ok (.ifCond .ne 17, 3) := by decide +kernel
theorem dX11_answerOf_4 : decode cX11_answerOf 4 = .ok (.aload_n 0, 1) := by decide +kernel
theorem dX11_answerOf_5 : decode cX11_answerOf 5 = .ok (.getfield 83, 3) := by decide +kernel
theorem dX11_answerOf_8 : decode cX11_answerOf 8 = .ok (.aload_n 0, 1) := by decide +kernel
theorem dX11_answerOf_9 : decode cX11_answerOf 9 = .ok (.getfield 49, 3) := by decide +kernel
theorem dX11_answerOf_12 : decode cX11_answerOf 12 = .ok (.invokevirtual 279, 3) := by decide +kernel
theorem dX11_answerOf_15 : decode cX11_answerOf 15 = .ok (.invokevirtual 298, 3) := by decide +kernel
theorem dX11_answerOf_18 : decode cX11_answerOf 18 = .ok (.iload_n 1, 1) := by decide +kernel
theorem dX11_answerOf_19 : decode cX11_answerOf 19 = .ok (.ireturn, 1) := by decide +kernel
theorem dX11_treeAt_0 : decode cX11_treeAt 0 = .ok (.iload_n 1, 1) := by decide +kernel
theorem dX11_treeAt_1 : decode cX11_treeAt 1 = .ok (.ifCond .lt 26, 3) := by decide +kernel
theorem dX11_treeAt_4 : decode cX11_treeAt 4 = .ok (.iload_n 1, 1) := by decide +kernel
theorem dX11_treeAt_5 : decode cX11_treeAt 5 = .ok (.aload_n 0, 1) := by decide +kernel
theorem dX11_treeAt_6 : decode cX11_treeAt 6 = .ok (.getfield 19, 3) := by decide +kernel
theorem dX11_treeAt_9 : decode cX11_treeAt 9 = .ok (.getfield 139, 3) := by decide +kernel
theorem dX11_treeAt_12 : decode cX11_treeAt 12 = .ok (.if_icmp .ge 15, 3) := by decide +kernel
theorem dX11_treeAt_15 : decode cX11_treeAt 15 = .ok (.iload_n 1, 1) := by decide +kernel
theorem dX11_treeAt_16 : decode cX11_treeAt 16 = .ok (.aload_n 0, 1) := by decide +kernel
theorem dX11_treeAt_17 : decode cX11_treeAt 17 = .ok (.getfield 19, 3) := by decide +kernel
theorem dX11_treeAt_20 : decode cX11_treeAt 20 = .ok (.getfield 418, 3) := by decide +kernel
theorem dX11_treeAt_23 : decode cX11_treeAt 23 = .ok (.arraylength, 1) := by decide +kernel
theorem dX11_treeAt_24 : decode cX11_treeAt 24 = .ok (.if_icmp .lt 14, 3) := by decide +kernel
theorem dX11_treeAt_27 : decode cX11_treeAt 27 = .ok (.new 243, 3) := by decide +kernel
theorem dX11_treeAt_30 : decode cX11_treeAt 30 = .ok (.dup, 1) := by decide +kernel
theorem dX11_treeAt_31 : decode cX11_treeAt 31 = .ok (.ldc_w 422, 3) := by decide +kernel
theorem dX11_treeAt_34 : decode cX11_treeAt 34 = .ok (.invokespecial 247, 3) := by decide +kernel
theorem dX11_treeAt_37 : decode cX11_treeAt 37 = .ok (.athrow, 1) := by decide +kernel
theorem dX11_treeAt_38 : decode cX11_treeAt 38 = .ok (.aload_n 0, 1) := by decide +kernel
theorem dX11_treeAt_39 : decode cX11_treeAt 39 = .ok (.getfield 19, 3) := by decide +kernel
theorem dX11_treeAt_42 : decode cX11_treeAt 42 = .ok (.getfield 418, 3) := by decide +kernel
theorem dX11_treeAt_45 : decode cX11_treeAt 45 = .ok (.iload_n 1, 1) := by decide +kernel
theorem dX11_treeAt_46 : decode cX11_treeAt 46 = .ok (.aaload, 1) := by decide +kernel
theorem dX11_treeAt_47 : decode cX11_treeAt 47 = .ok (.areturn, 1) := by decide +kernel
theorem dX11_needNode_0 : decode cX11_needNode 0 = .ok (.iload_n 2, 1) := by decide +kernel
theorem dX11_needNode_1 : decode cX11_needNode 1 = .ok (.ifCond .lt 11, 3) := by decide +kernel
theorem dX11_needNode_4 : decode cX11_needNode 4 = .ok (.iload_n 2, 1) := by decide +kernel
theorem dX11_needNode_5 : decode cX11_needNode 5 = .ok (.aload_n 1, 1) := by decide +kernel
theorem dX11_needNode_6 : decode cX11_needNode 6 = .ok (.getfield 314, 3) := by decide +kernel
theorem dX11_needNode_9 : decode cX11_needNode 9 = .ok (.if_icmp .lt 14, 3) := by decide +kernel
theorem dX11_needNode_12 : decode cX11_needNode 12 = .ok (.new 243, 3) := by decide +kernel
theorem dX11_needNode_15 : decode cX11_needNode 15 = .ok (.dup, 1) := by decide +kernel
theorem dX11_needNode_16 : decode cX11_needNode 16 = .ok (.ldc_w 424, 3) := by decide +kernel
theorem dX11_needNode_19 : decode cX11_needNode 19 = .ok (.invokespecial 247, 3) := by decide +kernel
theorem dX11_needNode_22 : decode cX11_needNode 22 = .ok (.athrow, 1) := by decide +kernel
theorem dX11_needNode_23 : decode cX11_needNode 23 = .ok (.return_, 1) := by decide +kernel
theorem dX11_needRoom_0 : decode cX11_needRoom 0 = .ok (.aload_n 0, 1) := by decide +kernel
theorem dX11_needRoom_1 : decode cX11_needRoom 1 = .ok (.getfield 19, 3) := by decide +kernel
theorem dX11_needRoom_4 : decode cX11_needRoom 4 = .ok (.getfield 139, 3) := by decide +kernel
theorem dX11_needRoom_7 : decode cX11_needRoom 7 = .ok (.aload_n 0, 1) := by decide +kernel
theorem dX11_needRoom_8 : decode cX11_needRoom 8 = .ok (.getfield 19, 3) := by decide +kernel
theorem dX11_needRoom_11 : decode cX11_needRoom 11 = .ok (.getfield 418, 3) := by decide +kernel
theorem dX11_needRoom_14 : decode cX11_needRoom 14 = .ok (.arraylength, 1) := by decide +kernel
theorem dX11_needRoom_15 : decode cX11_needRoom 15 = .ok (.if_icmp .lt 14, 3) := by decide +kernel
theorem dX11_needRoom_18 : decode cX11_needRoom 18 = .ok (.new 108, 3) := by decide +kernel
theorem dX11_needRoom_21 : decode cX11_needRoom 21 = .ok (.dup, 1) := by decide +kernel
theorem dX11_needRoom_22 : decode cX11_needRoom 22 = .ok (.ldc_w 426, 3) := by decide +kernel
theorem dX11_needRoom_25 : decode cX11_needRoom 25 = .ok (.invokespecial 112, 3) := by decide +kernel
theorem dX11_needRoom_28 : decode cX11_needRoom 28 = .ok (.athrow, 1) := by decide +kernel
theorem dX11_needRoom_29 : decode cX11_needRoom 29 = .ok (.return_, 1) := by decide +kernel
theorem dX11_needNoLazyCall_0 : decode cX11_needNoLazyCall 0 = .ok (.aload_n 1, 1) := by decide +kernel
theorem dX11_needNoLazyCall_1 : decode cX11_needNoLazyCall 1 = .ok (.invokevirtual 404, 3) := by decide +kernel
theorem dX11_needNoLazyCall_4 : decode cX11_needNoLazyCall 4 = .ok (.ifCond .eq 14, 3) := by decide +kernel
theorem dX11_needNoLazyCall_7 : decode cX11_needNoLazyCall 7 = .ok (.new 108, 3) := by decide +kernel
theorem dX11_needNoLazyCall_10 : decode cX11_needNoLazyCall 10 = .ok (.dup, 1) := by decide +kernel
theorem dX11_needNoLazyCall_11 : decode cX11_needNoLazyCall 11 = .ok (.ldc_w 428, 3) := by decide +kernel
theorem dX11_needNoLazyCall_14 : decode cX11_needNoLazyCall 14 = .ok (.invokespecial 112, 3) := by decide +kernel
theorem dX11_needNoLazyCall_17 : decode cX11_needNoLazyCall 17 = .ok (.athrow, 1) := by decide +kernel
theorem dX11_needNoLazyCall_18 : decode cX11_needNoLazyCall 18 = .ok (.return_, 1) := by decide +kernel
theorem dX11_needName_0 : decode cX11_needName 0 = .ok (.iload_n 1, 1) := by decide +kernel
theorem dX11_needName_1 : decode cX11_needName 1 = .ok (.bipush 97, 2) := by decide +kernel
theorem dX11_needName_3 : decode cX11_needName 3 = .ok (.if_icmp .lt 9, 3) := by decide +kernel
theorem dX11_needName_6 : decode cX11_needName 6 = .ok (.iload_n 1, 1) := by decide +kernel
theorem dX11_needName_7 : decode cX11_needName 7 = .ok (.bipush 122, 2) := by decide +kernel
theorem dX11_needName_9 : decode cX11_needName 9 = .ok (.if_icmp .le 14, 3) := by decide +kernel
theorem dX11_needName_12 : decode cX11_needName 12 = .ok (.new 169, 3) := by decide +kernel
theorem dX11_needName_15 : decode cX11_needName 15 = .ok (.dup, 1) := by decide +kernel
theorem dX11_needName_16 : decode cX11_needName 16 = .ok (.ldc_w 430, 3) := by decide +kernel
theorem dX11_needName_19 : decode cX11_needName 19 = .ok (.invokespecial 173, 3) := by decide +kernel
theorem dX11_needName_22 : decode cX11_needName 22 = .ok (.athrow, 1) := by decide +kernel
theorem dX11_needName_23 : decode cX11_needName 23 = .ok (.return_, 1) := by decide +kernel
theorem dX11_letterOf_0 : decode cX11_letterOf 0 = .ok (.aload_n 0, 1) := by decide +kernel
theorem dX11_letterOf_1 : decode cX11_letterOf 1 = .ok (.iload_n 1, 1) := by decide +kernel
theorem dX11_letterOf_2 : decode cX11_letterOf 2 = .ok (.invokevirtual 188, 3) := by decide +kernel
theorem dX11_letterOf_5 : decode cX11_letterOf 5 = .ok (.iload_n 1, 1) := by decide +kernel
theorem dX11_letterOf_6 : decode cX11_letterOf 6 = .ok (.bipush 97, 2) := by decide +kernel
theorem dX11_letterOf_8 : decode cX11_letterOf 8 = .ok (.isub, 1) := by decide +kernel
theorem dX11_letterOf_9 : decode cX11_letterOf 9 = .ok (.ireturn, 1) := by decide +kernel
theorem dJ11_isValidCodePoint_9a6ad_0 : decode cJ11_isValidCodePoint_9a6ad 0 = .ok (.iload_n 0, 1) := by decide +kernel
theorem dJ11_isValidCodePoint_9a6ad_1 : decode cJ11_isValidCodePoint_9a6ad 1 = .ok (.bipush 16, 2) := by decide +kernel
theorem dJ11_isValidCodePoint_9a6ad_3 : decode cJ11_isValidCodePoint_9a6ad 3 = .ok (.iushr, 1) := by decide +kernel
theorem dJ11_isValidCodePoint_9a6ad_4 : decode cJ11_isValidCodePoint_9a6ad 4 = .ok (.istore_n 1, 1) := by decide +kernel
theorem dJ11_isValidCodePoint_9a6ad_5 : decode cJ11_isValidCodePoint_9a6ad 5 = .ok (.iload_n 1, 1) := by decide +kernel
theorem dJ11_isValidCodePoint_9a6ad_6 : decode cJ11_isValidCodePoint_9a6ad 6 = .ok (.bipush 17, 2) := by decide +kernel
theorem dJ11_isValidCodePoint_9a6ad_8 : decode cJ11_isValidCodePoint_9a6ad 8 = .ok (.if_icmp .ge 7, 3) := by decide +kernel
theorem dJ11_isValidCodePoint_9a6ad_11 : decode cJ11_isValidCodePoint_9a6ad 11 = .ok (.iconst 1, 1) := by decide +kernel
theorem dJ11_isValidCodePoint_9a6ad_12 : decode cJ11_isValidCodePoint_9a6ad 12 = .ok (.goto 4, 3) := by decide +kernel
theorem dJ11_isValidCodePoint_9a6ad_15 : decode cJ11_isValidCodePoint_9a6ad 15 = .ok (.iconst 0, 1) := by decide +kernel
theorem dJ11_isValidCodePoint_9a6ad_16 : decode cJ11_isValidCodePoint_9a6ad 16 = .ok (.ireturn, 1) := by decide +kernel
theorem dJ11_highSurrogate_5068e_0 : decode cJ11_highSurrogate_5068e 0 = .ok (.iload_n 0, 1) := by decide +kernel
theorem dJ11_highSurrogate_5068e_1 : decode cJ11_highSurrogate_5068e 1 = .ok (.bipush 10, 2) := by decide +kernel
theorem dJ11_highSurrogate_5068e_3 : decode cJ11_highSurrogate_5068e 3 = .ok (.iushr, 1) := by decide +kernel
theorem dJ11_highSurrogate_5068e_4 : decode cJ11_highSurrogate_5068e 4 = .ok (.ldc 110, 2) := by decide +kernel
theorem dJ11_highSurrogate_5068e_6 : decode cJ11_highSurrogate_5068e 6 = .ok (.iadd, 1) := by decide +kernel
theorem dJ11_highSurrogate_5068e_7 : decode cJ11_highSurrogate_5068e 7 = .ok (.i2c, 1) := by decide +kernel
theorem dJ11_highSurrogate_5068e_8 : decode cJ11_highSurrogate_5068e 8 = .ok (.ireturn, 1) := by decide +kernel
theorem dJ11_lowSurrogate_5068e_0 : decode cJ11_lowSurrogate_5068e 0 = .ok (.iload_n 0, 1) := by decide +kernel
theorem dJ11_lowSurrogate_5068e_1 : decode cJ11_lowSurrogate_5068e 1 = .ok (.sipush 1023, 3) := by decide +kernel
theorem dJ11_lowSurrogate_5068e_4 : decode cJ11_lowSurrogate_5068e 4 = .ok (.iand, 1) := by decide +kernel
theorem dJ11_lowSurrogate_5068e_5 : decode cJ11_lowSurrogate_5068e 5 = .ok (.ldc 76, 2) := by decide +kernel
theorem dJ11_lowSurrogate_5068e_7 : decode cJ11_lowSurrogate_5068e 7 = .ok (.iadd, 1) := by decide +kernel
theorem dJ11_lowSurrogate_5068e_8 : decode cJ11_lowSurrogate_5068e 8 = .ok (.i2c, 1) := by decide +kernel
theorem dJ11_lowSurrogate_5068e_9 : decode cJ11_lowSurrogate_5068e 9 = .ok (.ireturn, 1) := by decide +kernel
theorem dJ9_max_7cf53_0 : decode cJ9_max_7cf53 0 = .ok (.iload_n 0, 1) := by decide +kernel
theorem dJ9_max_7cf53_1 : decode cJ9_max_7cf53 1 = .ok (.iload_n 1, 1) := by decide +kernel
theorem dJ9_max_7cf53_2 : decode cJ9_max_7cf53 2 = .ok (.if_icmp .lt 7, 3) := by decide +kernel
theorem dJ9_max_7cf53_5 : decode cJ9_max_7cf53 5 = .ok (.iload_n 0, 1) := by decide +kernel
theorem dJ9_max_7cf53_6 : decode cJ9_max_7cf53 6 = .ok (.goto 4, 3) := by decide +kernel
theorem dJ9_max_7cf53_9 : decode cJ9_max_7cf53 9 = .ok (.iload_n 1, 1) := by decide +kernel
theorem dJ9_max_7cf53_10 : decode cJ9_max_7cf53 10 = .ok (.ireturn, 1) := by decide +kernel
theorem dJ9_min_7cf53_0 : decode cJ9_min_7cf53 0 = .ok (.iload_n 0, 1) := by decide +kernel
theorem dJ9_min_7cf53_1 : decode cJ9_min_7cf53 1 = .ok (.iload_n 1, 1) := by decide +kernel
theorem dJ9_min_7cf53_2 : decode cJ9_min_7cf53 2 = .ok (.if_icmp .gt 7, 3) := by decide +kernel
theorem dJ9_min_7cf53_5 : decode cJ9_min_7cf53 5 = .ok (.iload_n 0, 1) := by decide +kernel
theorem dJ9_min_7cf53_6 : decode cJ9_min_7cf53 6 = .ok (.goto 4, 3) := by decide +kernel
theorem dJ9_min_7cf53_9 : decode cJ9_min_7cf53 9 = .ok (.iload_n 1, 1) := by decide +kernel
theorem dJ9_min_7cf53_10 : decode cJ9_min_7cf53 10 = .ok (.ireturn, 1) := by decide +kernel
theorem dJ0_length_8abf5_0 : decode cJ0_length_8abf5 0 = .ok (.aload_n 0, 1) := by decide +kernel
theorem dJ0_length_8abf5_1 : decode cJ0_length_8abf5 1 = .ok (.getfield 9, 3) := by decide +kernel
theorem dJ0_length_8abf5_4 : decode cJ0_length_8abf5 4 = .ok (.arraylength, 1) := by decide +kernel
theorem dJ0_length_8abf5_5 : decode cJ0_length_8abf5 5 = .ok (.aload_n 0, 1) := by decide +kernel
theorem dJ0_length_8abf5_6 : decode cJ0_length_8abf5 6 = .ok (.invokevirtual 335, 3) := by decide +kernel
theorem dJ0_length_8abf5_9 : decode cJ0_length_8abf5 9 = .ok (.ishr, 1) := by decide +kernel
theorem dJ0_length_8abf5_10 : decode cJ0_length_8abf5 10 = .ok (.ireturn, 1) := by decide +kernel
theorem dJ0_charAt_5068e_0 : decode cJ0_charAt_5068e 0 = .ok (.aload_n 0, 1) := by decide +kernel
theorem dJ0_charAt_5068e_1 : decode cJ0_charAt_5068e 1 = .ok (.invokevirtual 492, 3) := by decide +kernel
theorem dJ0_charAt_5068e_4 : decode cJ0_charAt_5068e 4 = .ok (.ifCond .eq 12, 3) := by decide +kernel
theorem dJ0_charAt_5068e_7 : decode cJ0_charAt_5068e 7 = .ok (.aload_n 0, 1) := by decide +kernel
theorem dJ0_charAt_5068e_8 : decode cJ0_charAt_5068e 8 = .ok (.getfield 9, 3) := by decide +kernel
theorem dJ0_charAt_5068e_11 : decode cJ0_charAt_5068e 11 = .ok (.iload_n 1, 1) := by decide +kernel
theorem dJ0_charAt_5068e_12 : decode cJ0_charAt_5068e 12 = .ok (.invokestatic 495, 3) := by decide +kernel
theorem dJ0_charAt_5068e_15 : decode cJ0_charAt_5068e 15 = .ok (.ireturn, 1) := by decide +kernel
theorem dJ0_charAt_5068e_16 : decode cJ0_charAt_5068e 16 = .ok (.aload_n 0, 1) := by decide +kernel
theorem dJ0_charAt_5068e_17 : decode cJ0_charAt_5068e 17 = .ok (.getfield 9, 3) := by decide +kernel
theorem dJ0_charAt_5068e_20 : decode cJ0_charAt_5068e 20 = .ok (.iload_n 1, 1) := by decide +kernel
theorem dJ0_charAt_5068e_21 : decode cJ0_charAt_5068e 21 = .ok (.invokestatic 498, 3) := by decide +kernel
theorem dJ0_charAt_5068e_24 : decode cJ0_charAt_5068e 24 = .ok (.ireturn, 1) := by decide +kernel
theorem dJ0_indexOf_0f7a4_0 : decode cJ0_indexOf_0f7a4 0 = .ok (.aload_n 0, 1) := by decide +kernel
theorem dJ0_indexOf_0f7a4_1 : decode cJ0_indexOf_0f7a4 1 = .ok (.iload_n 1, 1) := by decide +kernel
theorem dJ0_indexOf_0f7a4_2 : decode cJ0_indexOf_0f7a4 2 = .ok (.iconst 0, 1) := by decide +kernel
theorem dJ0_indexOf_0f7a4_3 : decode cJ0_indexOf_0f7a4 3 = .ok (.invokevirtual 633, 3) := by decide +kernel
theorem dJ0_indexOf_0f7a4_6 : decode cJ0_indexOf_0f7a4 6 = .ok (.ireturn, 1) := by decide +kernel
theorem dJ0_indexOf_7cf53_0 : decode cJ0_indexOf_7cf53 0 = .ok (.aload_n 0, 1) := by decide +kernel
theorem dJ0_indexOf_7cf53_1 : decode cJ0_indexOf_7cf53 1 = .ok (.invokevirtual 492, 3) := by decide +kernel
theorem dJ0_indexOf_7cf53_4 : decode cJ0_indexOf_7cf53 4 = .ok (.ifCond .eq 19, 3) := by decide +kernel
theorem dJ0_indexOf_7cf53_7 : decode cJ0_indexOf_7cf53 7 = .ok (.aload_n 0, 1) := by decide +kernel
theorem dJ0_indexOf_7cf53_8 : decode cJ0_indexOf_7cf53 8 = .ok (.getfield 9, 3) := by decide +kernel
theorem dJ0_indexOf_7cf53_11 : decode cJ0_indexOf_7cf53 11 = .ok (.iload_n 1, 1) := by decide +kernel
theorem dJ0_indexOf_7cf53_12 : decode cJ0_indexOf_7cf53 12 = .ok (.iload_n 2, 1) := by decide +kernel
theorem dJ0_indexOf_7cf53_13 : decode cJ0_indexOf_7cf53 13 = .ok (.aload_n 0, 1) := by decide +kernel
theorem dJ0_indexOf_7cf53_14 : decode cJ0_indexOf_7cf53 14 = .ok (.invokevirtual 505, 3) := by decide +kernel
theorem dJ0_indexOf_7cf53_17 : decode cJ0_indexOf_7cf53 17 = .ok (.invokestatic 637, 3) := by decide +kernel
theorem dJ0_indexOf_7cf53_20 : decode cJ0_indexOf_7cf53 20 = .ok (.goto 16, 3) := by decide +kernel
theorem dJ0_indexOf_7cf53_23 : decode cJ0_indexOf_7cf53 23 = .ok (.aload_n 0, 1) := by decide +kernel
theorem dJ0_indexOf_7cf53_24 : decode cJ0_indexOf_7cf53 24 = .ok (.getfield 9, 3) := by decide +kernel
theorem dJ0_indexOf_7cf53_27 : decode cJ0_indexOf_7cf53 27 = .ok (.iload_n 1, 1) := by decide +kernel
theorem dJ0_indexOf_7cf53_28 : decode cJ0_indexOf_7cf53 28 = .ok (.iload_n 2, 1) := by decide +kernel
theorem dJ0_indexOf_7cf53_29 : decode cJ0_indexOf_7cf53 29 = .ok (.aload_n 0, 1) := by decide +kernel
theorem dJ0_indexOf_7cf53_30 : decode cJ0_indexOf_7cf53 30 = .ok (.invokevirtual 505, 3) := by decide +kernel
theorem dJ0_indexOf_7cf53_33 : decode cJ0_indexOf_7cf53 33 = .ok (.invokestatic 640, 3) := by decide +kernel
theorem dJ0_indexOf_7cf53_36 : decode cJ0_indexOf_7cf53 36 = .ok (.ireturn, 1) := by decide +kernel
theorem dJ0_coder_7d493_0 : decode cJ0_coder_7d493 0 = .ok (.getstatic 38, 3) := by decide +kernel
theorem dJ0_coder_7d493_3 : decode cJ0_coder_7d493 3 = .ok (.ifCond .eq 10, 3) := by decide +kernel
theorem dJ0_coder_7d493_6 : decode cJ0_coder_7d493 6 = .ok (.aload_n 0, 1) := by decide +kernel
theorem dJ0_coder_7d493_7 : decode cJ0_coder_7d493 7 = .ok (.getfield 15, 3) := by decide +kernel
theorem dJ0_coder_7d493_10 : decode cJ0_coder_7d493 10 = .ok (.goto 4, 3) := by decide +kernel
theorem dJ0_coder_7d493_13 : decode cJ0_coder_7d493 13 = .ok (.iconst 1, 1) := by decide +kernel
theorem dJ0_coder_7d493_14 : decode cJ0_coder_7d493 14 = .ok (.ireturn, 1) := by decide +kernel
theorem dJ0_isLatin1_aae02_0 : decode cJ0_isLatin1_aae02 0 = .ok (.getstatic 38, 3) := by decide +kernel
theorem dJ0_isLatin1_aae02_3 : decode cJ0_isLatin1_aae02 3 = .ok (.ifCond .eq 14, 3) := by decide +kernel
theorem dJ0_isLatin1_aae02_6 : decode cJ0_isLatin1_aae02 6 = .ok (.aload_n 0, 1) := by decide +kernel
theorem dJ0_isLatin1_aae02_7 : decode cJ0_isLatin1_aae02 7 = .ok (.getfield 15, 3) := by decide +kernel
theorem dJ0_isLatin1_aae02_10 : decode cJ0_isLatin1_aae02 10 = .ok (.ifCond .ne 7, 3) := by decide +kernel
theorem dJ0_isLatin1_aae02_13 : decode cJ0_isLatin1_aae02 13 = .ok (.iconst 1, 1) := by decide +kernel
theorem dJ0_isLatin1_aae02_14 : decode cJ0_isLatin1_aae02 14 = .ok (.goto 4, 3) := by decide +kernel
theorem dJ0_isLatin1_aae02_17 : decode cJ0_isLatin1_aae02 17 = .ok (.iconst 0, 1) := by decide +kernel
theorem dJ0_isLatin1_aae02_18 : decode cJ0_isLatin1_aae02 18 = .ok (.ireturn, 1) := by decide +kernel
theorem dJ0_checkIndex_df160_0 : decode cJ0_checkIndex_df160 0 = .ok (.iload_n 0, 1) := by decide +kernel
theorem dJ0_checkIndex_df160_1 : decode cJ0_checkIndex_df160 1 = .ok (.iload_n 1, 1) := by decide +kernel
theorem dJ0_checkIndex_df160_2 : decode cJ0_checkIndex_df160 2 = .ok (.getstatic 1053, 3) := by decide +kernel
theorem dJ0_checkIndex_df160_5 : decode cJ0_checkIndex_df160 5 = .ok (.invokestatic 1059, 3) := by decide +kernel
theorem dJ0_checkIndex_df160_8 : decode cJ0_checkIndex_df160 8 = .ok (.pop, 1) := by decide +kernel
theorem dJ0_checkIndex_df160_9 : decode cJ0_checkIndex_df160 9 = .ok (.return_, 1) := by decide +kernel
theorem dJ0_checkBoundsBeginEnd_23922_0 : decode cJ0_checkBoundsBeginEnd_23922 0 = .ok (.iload_n 0, 1) := by decide +kernel
theorem dJ0_checkBoundsBeginEnd_23922_1 : decode cJ0_checkBoundsBeginEnd_23922 1 = .ok (.iload_n 1, 1) := by decide +kernel
theorem dJ0_checkBoundsBeginEnd_23922_2 : decode cJ0_checkBoundsBeginEnd_23922 2 = .ok (.iload_n 2, 1) := by decide +kernel
theorem dJ0_checkBoundsBeginEnd_23922_3 : decode cJ0_checkBoundsBeginEnd_23922 3 = .ok (.getstatic 1053, 3) := by decide +kernel
theorem dJ0_checkBoundsBeginEnd_23922_6 : decode cJ0_checkBoundsBeginEnd_23922 6 = .ok (.invokestatic 1062, 3) := by decide +kernel
theorem dJ0_checkBoundsBeginEnd_23922_9 : decode cJ0_checkBoundsBeginEnd_23922 9 = .ok (.pop, 1) := by decide +kernel
theorem dJ0_checkBoundsBeginEnd_23922_10 : decode cJ0_checkBoundsBeginEnd_23922 10 = .ok (.return_, 1) := by decide +kernel
theorem dJ1_charAt_3b067_0 : decode cJ1_charAt_3b067 0 = .ok (.iload_n 1, 1) := by decide +kernel
theorem dJ1_charAt_3b067_1 : decode cJ1_charAt_3b067 1 = .ok (.aload_n 0, 1) := by decide +kernel
theorem dJ1_charAt_3b067_2 : decode cJ1_charAt_3b067 2 = .ok (.arraylength, 1) := by decide +kernel
theorem dJ1_charAt_3b067_3 : decode cJ1_charAt_3b067 3 = .ok (.invokestatic 9, 3) := by decide +kernel
theorem dJ1_charAt_3b067_6 : decode cJ1_charAt_3b067 6 = .ok (.aload_n 0, 1) := by decide +kernel
theorem dJ1_charAt_3b067_7 : decode cJ1_charAt_3b067 7 = .ok (.iload_n 1, 1) := by decide +kernel
theorem dJ1_charAt_3b067_8 : decode cJ1_charAt_3b067 8 = .ok (.baload, 1) := by decide +kernel
theorem dJ1_charAt_3b067_9 : decode cJ1_charAt_3b067 9 = .ok (.sipush 255, 3) := by decide +kernel
theorem dJ1_charAt_3b067_12 : decode cJ1_charAt_3b067 12 = .ok (.iand, 1) := by decide +kernel
theorem dJ1_charAt_3b067_13 : decode cJ1_charAt_3b067 13 = .ok (.i2c, 1) := by decide +kernel
theorem dJ1_charAt_3b067_14 : decode cJ1_charAt_3b067 14 = .ok (.ireturn, 1) := by decide +kernel
theorem dJ1_canEncode_9a6ad_0 : decode cJ1_canEncode_9a6ad 0 = .ok (.iload_n 0, 1) := by decide +kernel
theorem dJ1_canEncode_9a6ad_1 : decode cJ1_canEncode_9a6ad 1 = .ok (.ifCond .lt 14, 3) := by decide +kernel
theorem dJ1_canEncode_9a6ad_4 : decode cJ1_canEncode_9a6ad 4 = .ok (.iload_n 0, 1) := by decide +kernel
theorem dJ1_canEncode_9a6ad_5 : decode cJ1_canEncode_9a6ad 5 = .ok (.sipush 255, 3) := by decide +kernel
theorem dJ1_canEncode_9a6ad_8 : decode cJ1_canEncode_9a6ad 8 = .ok (.if_icmp .gt 7, 3) := by decide +kernel
theorem dJ1_canEncode_9a6ad_11 : decode cJ1_canEncode_9a6ad 11 = .ok (.iconst 1, 1) := by decide +kernel
theorem dJ1_canEncode_9a6ad_12 : decode cJ1_canEncode_9a6ad 12 = .ok (.goto 4, 3) := by decide +kernel
theorem dJ1_canEncode_9a6ad_15 : decode cJ1_canEncode_9a6ad 15 = .ok (.iconst 0, 1) := by decide +kernel
theorem dJ1_canEncode_9a6ad_16 : decode cJ1_canEncode_9a6ad 16 = .ok (.ireturn, 1) := by decide +kernel
theorem dJ1_indexOf_4cfef_0 : decode cJ1_indexOf_4cfef 0 = .ok (.iload_n 1, 1) := by decide +kernel
theorem dJ1_indexOf_4cfef_1 : decode cJ1_indexOf_4cfef 1 = .ok (.invokestatic 88, 3) := by decide +kernel
theorem dJ1_indexOf_4cfef_4 : decode cJ1_indexOf_4cfef 4 = .ok (.ifCond .ne 5, 3) := by decide +kernel
theorem dJ1_indexOf_4cfef_7 : decode cJ1_indexOf_4cfef 7 = .ok (.iconst (-1), 1) := by decide +kernel
theorem dJ1_indexOf_4cfef_8 : decode cJ1_indexOf_4cfef 8 = .ok (.ireturn, 1) := by decide +kernel
theorem dJ1_indexOf_4cfef_9 : decode cJ1_indexOf_4cfef 9 = .ok (.iload_n 2, 1) := by decide +kernel
theorem dJ1_indexOf_4cfef_10 : decode cJ1_indexOf_4cfef 10 = .ok (.iconst 0, 1) := by decide +kernel
theorem dJ1_indexOf_4cfef_11 : decode cJ1_indexOf_4cfef 11 = .ok (.invokestatic 92, 3) := by decide +kernel
theorem dJ1_indexOf_4cfef_14 : decode cJ1_indexOf_4cfef 14 = .ok (.istore_n 2, 1) := by decide +kernel
theorem dJ1_indexOf_4cfef_15 : decode cJ1_indexOf_4cfef 15 = .ok (.iload_n 3, 1) := by decide +kernel
theorem dJ1_indexOf_4cfef_16 : decode cJ1_indexOf_4cfef 16 = .ok (.aload_n 0, 1) := by decide +kernel
theorem dJ1_indexOf_4cfef_17 : decode cJ1_indexOf_4cfef 17 = .ok (.arraylength, 1) := by decide +kernel
theorem dJ1_indexOf_4cfef_18 : decode cJ1_indexOf_4cfef 18 = .ok (.invokestatic 38, 3) := by decide +kernel
theorem dJ1_indexOf_4cfef_21 : decode cJ1_indexOf_4cfef 21 = .ok (.istore_n 3, 1) := by decide +kernel
theorem dJ1_indexOf_4cfef_22 : decode cJ1_indexOf_4cfef 22 = .ok (.iload_n 2, 1) := by decide +kernel
theorem dJ1_indexOf_4cfef_23 : decode cJ1_indexOf_4cfef 23 = .ok (.iload_n 3, 1) := by decide +kernel
theorem dJ1_indexOf_4cfef_24 : decode cJ1_indexOf_4cfef 24 = .ok (.if_icmp .lt 5, 3) := by decide +kernel
theorem dJ1_indexOf_4cfef_27 : decode cJ1_indexOf_4cfef 27 = .ok (.iconst (-1), 1) := by decide +kernel
theorem dJ1_indexOf_4cfef_28 : decode cJ1_indexOf_4cfef 28 = .ok (.ireturn, 1) := by decide +kernel
theorem dJ1_indexOf_4cfef_29 : decode cJ1_indexOf_4cfef 29 = .ok (.aload_n 0, 1) := by decide +kernel
theorem dJ1_indexOf_4cfef_30 : decode cJ1_indexOf_4cfef 30 = .ok (.iload_n 1, 1) := by decide +kernel
theorem dJ1_indexOf_4cfef_31 : decode cJ1_indexOf_4cfef 31 = .ok (.iload_n 2, 1) := by decide +kernel
theorem dJ1_indexOf_4cfef_32 : decode cJ1_indexOf_4cfef 32 = .ok (.iload_n 3, 1) := by decide +kernel
theorem dJ1_indexOf_4cfef_33 : decode cJ1_indexOf_4cfef 33 = .ok (.invokestatic 95, 3) := by decide +kernel
theorem dJ1_indexOf_4cfef_36 : decode cJ1_indexOf_4cfef 36 = .ok (.ireturn, 1) := by decide +kernel
theorem dJ1_indexOfChar_4cfef_0 : decode cJ1_indexOfChar_4cfef 0 = .ok (.iload_n 1, 1) := by decide +kernel
theorem dJ1_indexOfChar_4cfef_1 : decode cJ1_indexOfChar_4cfef 1 = .ok (.i2b, 1) := by decide +kernel
theorem dJ1_indexOfChar_4cfef_2 : decode cJ1_indexOfChar_4cfef 2 = .ok (.istore 4, 2) := by decide +kernel
theorem dJ1_indexOfChar_4cfef_4 : decode cJ1_indexOfChar_4cfef 4 = .ok (.iload_n 2, 1) := by decide +kernel
theorem dJ1_indexOfChar_4cfef_5 : decode cJ1_indexOfChar_4cfef 5 = .ok (.istore 5, 2) := by decide +kernel
theorem dJ1_indexOfChar_4cfef_7 : decode cJ1_indexOfChar_4cfef 7 = .ok (.iload 5, 2) := by decide +kernel
theorem dJ1_indexOfChar_4cfef_9 : decode cJ1_indexOfChar_4cfef 9 = .ok (.iload_n 3, 1) := by decide +kernel
theorem dJ1_indexOfChar_4cfef_10 : decode cJ1_indexOfChar_4cfef 10 = .ok (.if_icmp .ge 21, 3) := by decide +kernel
theorem dJ1_indexOfChar_4cfef_13 : decode cJ1_indexOfChar_4cfef 13 = .ok (.aload_n 0, 1) := by decide +kernel
theorem dJ1_indexOfChar_4cfef_14 : decode cJ1_indexOfChar_4cfef 14 = .ok (.iload 5, 2) := by decide +kernel
theorem dJ1_indexOfChar_4cfef_16 : decode cJ1_indexOfChar_4cfef 16 = .ok (.baload, 1) := by decide +kernel
theorem dJ1_indexOfChar_4cfef_17 : decode cJ1_indexOfChar_4cfef 17 = .ok (.iload 4, 2) := by decide +kernel
theorem dJ1_indexOfChar_4cfef_19 : decode cJ1_indexOfChar_4cfef 19 = .ok (.if_icmp .ne 6, 3) := by decide +kernel
theorem dJ1_indexOfChar_4cfef_22 : decode cJ1_indexOfChar_4cfef 22 = .ok (.iload 5, 2) := by decide +kernel
theorem dJ1_indexOfChar_4cfef_24 : decode cJ1_indexOfChar_4cfef 24 = .ok (.ireturn, 1) := by decide +kernel
theorem dJ1_indexOfChar_4cfef_25 : decode cJ1_indexOfChar_4cfef 25 = .ok (.iinc 5 1, 3) := by decide +kernel
theorem dJ1_indexOfChar_4cfef_28 : decode cJ1_indexOfChar_4cfef 28 = .ok (.goto (-21), 3) := by decide +kernel
theorem dJ1_indexOfChar_4cfef_31 : decode cJ1_indexOfChar_4cfef 31 = .ok (.iconst (-1), 1) := by decide +kernel
theorem dJ1_indexOfChar_4cfef_32 : decode cJ1_indexOfChar_4cfef 32 = .ok (.ireturn, 1) := by decide +kernel
theorem dJ2_getChar_3b067_0 : decode cJ2_getChar_3b067 0 = .ok (.getstatic 44, 3) := by decide +kernel
theorem dJ2_getChar_3b067_3 : decode cJ2_getChar_3b067 3 = .ok (.ifCond .ne 25, 3) := by decide +kernel
theorem dJ2_getChar_3b067_6 : decode cJ2_getChar_3b067 6 = .ok (.iload_n 1, 1) := by decide +kernel
theorem dJ2_getChar_3b067_7 : decode cJ2_getChar_3b067 7 = .ok (.ifCond .lt 11, 3) := by decide +kernel
theorem dJ2_getChar_3b067_10 : decode cJ2_getChar_3b067 10 = .ok (.iload_n 1, 1) := by decide +kernel
theorem dJ2_getChar_3b067_11 : decode cJ2_getChar_3b067 11 = .ok (.aload_n 0, 1) := by decide +kernel
theorem dJ2_getChar_3b067_12 : decode cJ2_getChar_3b067 12 = .ok (.invokestatic 48, 3) := by decide +kernel
theorem dJ2_getChar_3b067_15 : decode cJ2_getChar_3b067 15 = .ok (.if_icmp .lt 13, 3) := by decide +kernel
theorem dJ2_getChar_3b067_18 : decode cJ2_getChar_3b067 18 = .ok (.new 52, 3) := by decide +kernel
theorem dJ2_getChar_3b067_21 : decode cJ2_getChar_3b067 21 = .ok (.dup, 1) := by decide +kernel
theorem dJ2_getChar_3b067_22 : decode cJ2_getChar_3b067 22 = .ok (.ldc 54, 2) := by decide +kernel
theorem dJ2_getChar_3b067_24 : decode cJ2_getChar_3b067 24 = .ok (.invokespecial 56, 3) := by decide +kernel
theorem dJ2_getChar_3b067_27 : decode cJ2_getChar_3b067 27 = .ok (.athrow, 1) := by decide +kernel
theorem dJ2_getChar_3b067_28 : decode cJ2_getChar_3b067 28 = .ok (.iload_n 1, 1) := by decide +kernel
theorem dJ2_getChar_3b067_29 : decode cJ2_getChar_3b067 29 = .ok (.iconst 1, 1) := by decide +kernel
theorem dJ2_getChar_3b067_30 : decode cJ2_getChar_3b067 30 = .ok (.ishl, 1) := by decide +kernel
theorem dJ2_getChar_3b067_31 : decode cJ2_getChar_3b067 31 = .ok (.istore_n 1, 1) := by decide +kernel
theorem dJ2_getChar_3b067_32 : decode cJ2_getChar_3b067 32 = .ok (.aload_n 0, 1) := by decide +kernel
theorem dJ2_getChar_3b067_33 : decode cJ2_getChar_3b067 33 = .ok (.iload_n 1, 1) := by decide +kernel
theorem dJ2_getChar_3b067_34 : decode cJ2_getChar_3b067 34 = .ok (.iinc 1 1, 3) := by decide +kernel
theorem dJ2_getChar_3b067_37 : decode cJ2_getChar_3b067 37 = .ok (.baload, 1) := by decide +kernel
theorem dJ2_getChar_3b067_38 : decode cJ2_getChar_3b067 38 = .ok (.sipush 255, 3) := by decide +kernel
theorem dJ2_getChar_3b067_41 : decode cJ2_getChar_3b067 41 = .ok (.iand, 1) := by decide +kernel
theorem dJ2_getChar_3b067_42 : decode cJ2_getChar_3b067 42 = .ok (.getstatic 59, 3) := by decide +kernel
theorem dJ2_getChar_3b067_45 : decode cJ2_getChar_3b067 45 = .ok (.ishl, 1) := by decide +kernel
theorem dJ2_getChar_3b067_46 : decode cJ2_getChar_3b067 46 = .ok (.aload_n 0, 1) := by decide +kernel
theorem dJ2_getChar_3b067_47 : decode cJ2_getChar_3b067 47 = .ok (.iload_n 1, 1) := by decide +kernel
theorem dJ2_getChar_3b067_48 : decode cJ2_getChar_3b067 48 = .ok (.baload, 1) := by decide +kernel
theorem dJ2_getChar_3b067_49 : decode cJ2_getChar_3b067 49 = .ok (.sipush 255, 3) := by decide +kernel
theorem dJ2_getChar_3b067_52 : decode cJ2_getChar_3b067 52 = .ok (.iand, 1) := by decide +kernel
theorem dJ2_getChar_3b067_53 : decode cJ2_getChar_3b067 53 = .ok (.getstatic 63, 3) := by decide +kernel
theorem dJ2_getChar_3b067_56 : decode cJ2_getChar_3b067 56 = .ok (.ishl, 1) := by decide +kernel
theorem dJ2_getChar_3b067_57 : decode cJ2_getChar_3b067 57 = .ok (.ior, 1) := by decide +kernel
theorem dJ2_getChar_3b067_58 : decode cJ2_getChar_3b067 58 = .ok (.i2c, 1) := by decide +kernel
theorem dJ2_getChar_3b067_59 : decode cJ2_getChar_3b067 59 = .ok (.ireturn, 1) := by decide +kernel
theorem dJ2_length_9d52b_0 : decode cJ2_length_9d52b 0 = .ok (.aload_n 0, 1) := by decide +kernel
theorem dJ2_length_9d52b_1 : decode cJ2_length_9d52b 1 = .ok (.arraylength, 1) := by decide +kernel
theorem dJ2_length_9d52b_2 : decode cJ2_length_9d52b 2 = .ok (.iconst 1, 1) := by decide +kernel
theorem dJ2_length_9d52b_3 : decode cJ2_length_9d52b 3 = .ok (.ishr, 1) := by decide +kernel
theorem dJ2_length_9d52b_4 : decode cJ2_length_9d52b 4 = .ok (.ireturn, 1) := by decide +kernel
theorem dJ2_indexOf_4cfef_0 : decode cJ2_indexOf_4cfef 0 = .ok (.iload_n 2, 1) := by decide +kernel
theorem dJ2_indexOf_4cfef_1 : decode cJ2_indexOf_4cfef 1 = .ok (.iconst 0, 1) := by decide +kernel
theorem dJ2_indexOf_4cfef_2 : decode cJ2_indexOf_4cfef 2 = .ok (.invokestatic 224, 3) := by decide +kernel
theorem dJ2_indexOf_4cfef_5 : decode cJ2_indexOf_4cfef 5 = .ok (.istore_n 2, 1) := by decide +kernel
theorem dJ2_indexOf_4cfef_6 : decode cJ2_indexOf_4cfef 6 = .ok (.iload_n 3, 1) := by decide +kernel
theorem dJ2_indexOf_4cfef_7 : decode cJ2_indexOf_4cfef 7 = .ok (.aload_n 0, 1) := by decide +kernel
theorem dJ2_indexOf_4cfef_8 : decode cJ2_indexOf_4cfef 8 = .ok (.arraylength, 1) := by decide +kernel
theorem dJ2_indexOf_4cfef_9 : decode cJ2_indexOf_4cfef 9 = .ok (.iconst 1, 1) := by decide +kernel
theorem dJ2_indexOf_4cfef_10 : decode cJ2_indexOf_4cfef 10 = .ok (.ishr, 1) := by decide +kernel
theorem dJ2_indexOf_4cfef_11 : decode cJ2_indexOf_4cfef 11 = .ok (.invokestatic 183, 3) := by decide +kernel
theorem dJ2_indexOf_4cfef_14 : decode cJ2_indexOf_4cfef 14 = .ok (.istore_n 3, 1) := by decide +kernel
theorem dJ2_indexOf_4cfef_15 : decode cJ2_indexOf_4cfef 15 = .ok (.iload_n 2, 1) := by decide +kernel
theorem dJ2_indexOf_4cfef_16 : decode cJ2_indexOf_4cfef 16 = .ok (.iload_n 3, 1) := by decide +kernel
theorem dJ2_indexOf_4cfef_17 : decode cJ2_indexOf_4cfef 17 = .ok (.if_icmp .lt 5, 3) := by decide +kernel
theorem dJ2_indexOf_4cfef_20 : decode cJ2_indexOf_4cfef 20 = .ok (.iconst (-1), 1) := by decide +kernel
theorem dJ2_indexOf_4cfef_21 : decode cJ2_indexOf_4cfef 21 = .ok (.ireturn, 1) := by decide +kernel
theorem dJ2_indexOf_4cfef_22 : decode cJ2_indexOf_4cfef 22 = .ok (.iload_n 1, 1) := by decide +kernel
theorem dJ2_indexOf_4cfef_23 : decode cJ2_indexOf_4cfef 23 = .ok (.ldc 227, 2) := by decide +kernel
theorem dJ2_indexOf_4cfef_25 : decode cJ2_indexOf_4cfef 25 = .ok (.if_icmp .ge 11, 3) := by decide +kernel
theorem dJ2_indexOf_4cfef_28 : decode cJ2_indexOf_4cfef 28 = .ok (.aload_n 0, 1) := by decide +kernel
theorem dJ2_indexOf_4cfef_29 : decode cJ2_indexOf_4cfef 29 = .ok (.iload_n 1, 1) := by decide +kernel
theorem dJ2_indexOf_4cfef_30 : decode cJ2_indexOf_4cfef 30 = .ok (.iload_n 2, 1) := by decide +kernel
theorem dJ2_indexOf_4cfef_31 : decode cJ2_indexOf_4cfef 31 = .ok (.iload_n 3, 1) := by decide +kernel
theorem dJ2_indexOf_4cfef_32 : decode cJ2_indexOf_4cfef 32 = .ok (.invokestatic 228, 3) := by decide +kernel
theorem dJ2_indexOf_4cfef_35 : decode cJ2_indexOf_4cfef 35 = .ok (.ireturn, 1) := by decide +kernel
theorem dJ2_indexOf_4cfef_36 : decode cJ2_indexOf_4cfef 36 = .ok (.aload_n 0, 1) := by decide +kernel
theorem dJ2_indexOf_4cfef_37 : decode cJ2_indexOf_4cfef 37 = .ok (.iload_n 1, 1) := by decide +kernel
theorem dJ2_indexOf_4cfef_38 : decode cJ2_indexOf_4cfef 38 = .ok (.iload_n 2, 1) := by decide +kernel
theorem dJ2_indexOf_4cfef_39 : decode cJ2_indexOf_4cfef 39 = .ok (.iload_n 3, 1) := by decide +kernel
theorem dJ2_indexOf_4cfef_40 : decode cJ2_indexOf_4cfef 40 = .ok (.invokestatic 232, 3) := by decide +kernel
theorem dJ2_indexOf_4cfef_43 : decode cJ2_indexOf_4cfef 43 = .ok (.ireturn, 1) := by decide +kernel
theorem dJ2_indexOfChar_4cfef_0 : decode cJ2_indexOfChar_4cfef 0 = .ok (.iload_n 2, 1) := by decide +kernel
theorem dJ2_indexOfChar_4cfef_1 : decode cJ2_indexOfChar_4cfef 1 = .ok (.iload_n 3, 1) := by decide +kernel
theorem dJ2_indexOfChar_4cfef_2 : decode cJ2_indexOfChar_4cfef 2 = .ok (.aload_n 0, 1) := by decide +kernel
theorem dJ2_indexOfChar_4cfef_3 : decode cJ2_indexOfChar_4cfef 3 = .ok (.invokestatic 96, 3) := by decide +kernel
theorem dJ2_indexOfChar_4cfef_6 : decode cJ2_indexOfChar_4cfef 6 = .ok (.aload_n 0, 1) := by decide +kernel
theorem dJ2_indexOfChar_4cfef_7 : decode cJ2_indexOfChar_4cfef 7 = .ok (.iload_n 1, 1) := by decide +kernel
theorem dJ2_indexOfChar_4cfef_8 : decode cJ2_indexOfChar_4cfef 8 = .ok (.iload_n 2, 1) := by decide +kernel
theorem dJ2_indexOfChar_4cfef_9 : decode cJ2_indexOfChar_4cfef 9 = .ok (.iload_n 3, 1) := by decide +kernel
theorem dJ2_indexOfChar_4cfef_10 : decode cJ2_indexOfChar_4cfef 10 = .ok (.invokestatic 244, 3) := by decide +kernel
theorem dJ2_indexOfChar_4cfef_13 : decode cJ2_indexOfChar_4cfef 13 = .ok (.ireturn, 1) := by decide +kernel
theorem dJ2_indexOfCharUnsafe_4cfef_0 : decode cJ2_indexOfCharUnsafe_4cfef 0 = .ok (.iload_n 2, 1) := by decide +kernel
theorem dJ2_indexOfCharUnsafe_4cfef_1 : decode cJ2_indexOfCharUnsafe_4cfef 1 = .ok (.istore 4, 2) := by decide +kernel
theorem dJ2_indexOfCharUnsafe_4cfef_3 : decode cJ2_indexOfCharUnsafe_4cfef 3 = .ok (.iload 4, 2) := by decide +kernel
theorem dJ2_indexOfCharUnsafe_4cfef_5 : decode cJ2_indexOfCharUnsafe_4cfef 5 = .ok (.iload_n 3, 1) := by decide +kernel
theorem dJ2_indexOfCharUnsafe_4cfef_6 : decode cJ2_indexOfCharUnsafe_4cfef 6 = .ok (.if_icmp .ge 22, 3) := by decide +kernel
theorem dJ2_indexOfCharUnsafe_4cfef_9 : decode cJ2_indexOfCharUnsafe_4cfef 9 = .ok (.aload_n 0, 1) := by decide +kernel
theorem dJ2_indexOfCharUnsafe_4cfef_10 : decode cJ2_indexOfCharUnsafe_4cfef 10 = .ok (.iload 4, 2) := by decide +kernel
theorem dJ2_indexOfCharUnsafe_4cfef_12 : decode cJ2_indexOfCharUnsafe_4cfef 12 = .ok (.invokestatic 71, 3) := by decide +kernel
theorem dJ2_indexOfCharUnsafe_4cfef_15 : decode cJ2_indexOfCharUnsafe_4cfef 15 = .ok (.iload_n 1, 1) := by decide +kernel
theorem dJ2_indexOfCharUnsafe_4cfef_16 : decode cJ2_indexOfCharUnsafe_4cfef 16 = .ok (.if_icmp .ne 6, 3) := by decide +kernel
theorem dJ2_indexOfCharUnsafe_4cfef_19 : decode cJ2_indexOfCharUnsafe_4cfef 19 = .ok (.iload 4, 2) := by decide +kernel
theorem dJ2_indexOfCharUnsafe_4cfef_21 : decode cJ2_indexOfCharUnsafe_4cfef 21 = .ok (.ireturn, 1) := by decide +kernel
theorem dJ2_indexOfCharUnsafe_4cfef_22 : decode cJ2_indexOfCharUnsafe_4cfef 22 = .ok (.iinc 4 1, 3) := by decide +kernel
theorem dJ2_indexOfCharUnsafe_4cfef_25 : decode cJ2_indexOfCharUnsafe_4cfef 25 = .ok (.goto (-22), 3) := by decide +kernel
theorem dJ2_indexOfCharUnsafe_4cfef_28 : decode cJ2_indexOfCharUnsafe_4cfef 28 = .ok (.iconst (-1), 1) := by decide +kernel
theorem dJ2_indexOfCharUnsafe_4cfef_29 : decode cJ2_indexOfCharUnsafe_4cfef 29 = .ok (.ireturn, 1) := by decide +kernel
theorem dJ2_indexOfSupplementary_4cfef_0 : decode cJ2_indexOfSupplementary_4cfef 0 = .ok (.iload_n 1, 1) := by decide +kernel
theorem dJ2_indexOfSupplementary_4cfef_1 : decode cJ2_indexOfSupplementary_4cfef 1 = .ok (.invokestatic 164, 3) := by decide +kernel
theorem dJ2_indexOfSupplementary_4cfef_4 : decode cJ2_indexOfSupplementary_4cfef 4 = .ok (.ifCond .eq 65, 3) := by decide +kernel
theorem dJ2_indexOfSupplementary_4cfef_7 : decode cJ2_indexOfSupplementary_4cfef 7 = .ok (.iload_n 1, 1) := by decide +kernel
theorem dJ2_indexOfSupplementary_4cfef_8 : decode cJ2_indexOfSupplementary_4cfef 8 = .ok (.invokestatic 157, 3) := by decide +kernel
theorem dJ2_indexOfSupplementary_4cfef_11 : decode cJ2_indexOfSupplementary_4cfef 11 = .ok (.istore 4, 2) := by decide +kernel
theorem dJ2_indexOfSupplementary_4cfef_13 : decode cJ2_indexOfSupplementary_4cfef 13 = .ok (.iload_n 1, 1) := by decide +kernel
theorem dJ2_indexOfSupplementary_4cfef_14 : decode cJ2_indexOfSupplementary_4cfef 14 = .ok (.invokestatic 161, 3) := by decide +kernel
theorem dJ2_indexOfSupplementary_4cfef_17 : decode cJ2_indexOfSupplementary_4cfef 17 = .ok (.istore 5, 2) := by decide +kernel
theorem dJ2_indexOfSupplementary_4cfef_19 : decode cJ2_indexOfSupplementary_4cfef 19 = .ok (.iload_n 2, 1) := by decide +kernel
theorem dJ2_indexOfSupplementary_4cfef_20 : decode cJ2_indexOfSupplementary_4cfef 20 = .ok (.iload_n 3, 1) := by decide +kernel
theorem dJ2_indexOfSupplementary_4cfef_21 : decode cJ2_indexOfSupplementary_4cfef 21 = .ok (.aload_n 0, 1) := by decide +kernel
theorem dJ2_indexOfSupplementary_4cfef_22 : decode cJ2_indexOfSupplementary_4cfef 22 = .ok (.invokestatic 96, 3) := by decide +kernel
theorem dJ2_indexOfSupplementary_4cfef_25 : decode cJ2_indexOfSupplementary_4cfef 25 = .ok (.iload_n 2, 1) := by decide +kernel
theorem dJ2_indexOfSupplementary_4cfef_26 : decode cJ2_indexOfSupplementary_4cfef 26 = .ok (.istore 6, 2) := by decide +kernel
theorem dJ2_indexOfSupplementary_4cfef_28 : decode cJ2_indexOfSupplementary_4cfef 28 = .ok (.iload 6, 2) := by decide +kernel
theorem dJ2_indexOfSupplementary_4cfef_30 : decode cJ2_indexOfSupplementary_4cfef 30 = .ok (.iload_n 3, 1) := by decide +kernel
theorem dJ2_indexOfSupplementary_4cfef_31 : decode cJ2_indexOfSupplementary_4cfef 31 = .ok (.iconst 1, 1) := by decide +kernel
theorem dJ2_indexOfSupplementary_4cfef_32 : decode cJ2_indexOfSupplementary_4cfef 32 = .ok (.isub, 1) := by decide +kernel
theorem dJ2_indexOfSupplementary_4cfef_33 : decode cJ2_indexOfSupplementary_4cfef 33 = .ok (.if_icmp .ge 36, 3) := by decide +kernel
theorem dJ2_indexOfSupplementary_4cfef_36 : decode cJ2_indexOfSupplementary_4cfef 36 = .ok (.aload_n 0, 1) := by decide +kernel
theorem dJ2_indexOfSupplementary_4cfef_37 : decode cJ2_indexOfSupplementary_4cfef 37 = .ok (.iload 6, 2) := by decide +kernel
theorem dJ2_indexOfSupplementary_4cfef_39 : decode cJ2_indexOfSupplementary_4cfef 39 = .ok (.invokestatic 71, 3) := by decide +kernel
theorem dJ2_indexOfSupplementary_4cfef_42 : decode cJ2_indexOfSupplementary_4cfef 42 = .ok (.iload 4, 2) := by decide +kernel
theorem dJ2_indexOfSupplementary_4cfef_44 : decode cJ2_indexOfSupplementary_4cfef 44 = .ok (.if_icmp .ne 19, 3) := by decide +kernel
theorem dJ2_indexOfSupplementary_4cfef_47 : decode cJ2_indexOfSupplementary_4cfef 47 = .ok (.aload_n 0, 1) := by decide +kernel
theorem dJ2_indexOfSupplementary_4cfef_48 : decode cJ2_indexOfSupplementary_4cfef 48 = .ok (.iload 6, 2) := by decide +kernel
theorem dJ2_indexOfSupplementary_4cfef_50 : decode cJ2_indexOfSupplementary_4cfef 50 = .ok (.iconst 1, 1) := by decide +kernel
theorem dJ2_indexOfSupplementary_4cfef_51 : decode cJ2_indexOfSupplementary_4cfef 51 = .ok (.iadd, 1) := by decide +kernel
theorem dJ2_indexOfSupplementary_4cfef_52 : decode cJ2_indexOfSupplementary_4cfef 52 = .ok (.invokestatic 71, 3) := by decide +kernel
theorem dJ2_indexOfSupplementary_4cfef_55 : decode cJ2_indexOfSupplementary_4cfef 55 = .ok (.iload 5, 2) := by decide +kernel
theorem dJ2_indexOfSupplementary_4cfef_57 : decode cJ2_indexOfSupplementary_4cfef 57 = .ok (.if_icmp .ne 6, 3) := by decide +kernel
theorem dJ2_indexOfSupplementary_4cfef_60 : decode cJ2_indexOfSupplementary_4cfef 60 = .ok (.iload 6, 2) := by decide +kernel
theorem dJ2_indexOfSupplementary_4cfef_62 : decode cJ2_indexOfSupplementary_4cfef 62 = .ok (.ireturn, 1) := by decide +kernel
theorem dJ2_indexOfSupplementary_4cfef_63 : decode cJ2_indexOfSupplementary_4cfef 63 = .ok (.iinc 6 1, 3) := by decide +kernel
theorem dJ2_indexOfSupplementary_4cfef_66 : decode cJ2_indexOfSupplementary_4cfef 66 = .ok (.goto (-38), 3) := by decide +kernel
theorem dJ2_indexOfSupplementary_4cfef_69 : decode cJ2_indexOfSupplementary_4cfef 69 = .ok (.iconst (-1), 1) := by decide +kernel
theorem dJ2_indexOfSupplementary_4cfef_70 : decode cJ2_indexOfSupplementary_4cfef 70 = .ok (.ireturn, 1) := by decide +kernel
theorem dJ2_charAt_3b067_0 : decode cJ2_charAt_3b067 0 = .ok (.iload_n 1, 1) := by decide +kernel
theorem dJ2_charAt_3b067_1 : decode cJ2_charAt_3b067 1 = .ok (.aload_n 0, 1) := by decide +kernel
theorem dJ2_charAt_3b067_2 : decode cJ2_charAt_3b067 2 = .ok (.invokestatic 67, 3) := by decide +kernel
theorem dJ2_charAt_3b067_5 : decode cJ2_charAt_3b067 5 = .ok (.aload_n 0, 1) := by decide +kernel
theorem dJ2_charAt_3b067_6 : decode cJ2_charAt_3b067 6 = .ok (.iload_n 1, 1) := by decide +kernel
theorem dJ2_charAt_3b067_7 : decode cJ2_charAt_3b067 7 = .ok (.invokestatic 71, 3) := by decide +kernel
theorem dJ2_charAt_3b067_10 : decode cJ2_charAt_3b067 10 = .ok (.ireturn, 1) := by decide +kernel
theorem dJ2_checkIndex_2214a_0 : decode cJ2_checkIndex_2214a 0 = .ok (.iload_n 0, 1) := by decide +kernel
theorem dJ2_checkIndex_2214a_1 : decode cJ2_checkIndex_2214a 1 = .ok (.aload_n 1, 1) := by decide +kernel
theorem dJ2_checkIndex_2214a_2 : decode cJ2_checkIndex_2214a 2 = .ok (.invokestatic 48, 3) := by decide +kernel
theorem dJ2_checkIndex_2214a_5 : decode cJ2_checkIndex_2214a 5 = .ok (.invokestatic 414, 3) := by decide +kernel
theorem dJ2_checkIndex_2214a_8 : decode cJ2_checkIndex_2214a 8 = .ok (.return_, 1) := by decide +kernel
theorem dJ2_checkBoundsBeginEnd_d044e_0 : decode cJ2_checkBoundsBeginEnd_d044e 0 = .ok (.iload_n 0, 1) := by decide +kernel
theorem dJ2_checkBoundsBeginEnd_d044e_1 : decode cJ2_checkBoundsBeginEnd_d044e 1 = .ok (.iload_n 1, 1) := by decide +kernel
theorem dJ2_checkBoundsBeginEnd_d044e_2 : decode cJ2_checkBoundsBeginEnd_d044e 2 = .ok (.aload_n 2, 1) := by decide +kernel
theorem dJ2_checkBoundsBeginEnd_d044e_3 : decode cJ2_checkBoundsBeginEnd_d044e 3 = .ok (.invokestatic 48, 3) := by decide +kernel
theorem dJ2_checkBoundsBeginEnd_d044e_6 : decode cJ2_checkBoundsBeginEnd_d044e 6 = .ok (.invokestatic 241, 3) := by decide +kernel
theorem dJ2_checkBoundsBeginEnd_d044e_9 : decode cJ2_checkBoundsBeginEnd_d044e 9 = .ok (.return_, 1) := by decide +kernel
theorem dJ3_checkIndex_8e157_0 : decode cJ3_checkIndex_8e157 0 = .ok (.iload_n 0, 1) := by decide +kernel
theorem dJ3_checkIndex_8e157_1 : decode cJ3_checkIndex_8e157 1 = .ok (.ifCond .lt 8, 3) := by decide +kernel
theorem dJ3_checkIndex_8e157_4 : decode cJ3_checkIndex_8e157 4 = .ok (.iload_n 0, 1) := by decide +kernel
theorem dJ3_checkIndex_8e157_5 : decode cJ3_checkIndex_8e157 5 = .ok (.iload_n 1, 1) := by decide +kernel
theorem dJ3_checkIndex_8e157_6 : decode cJ3_checkIndex_8e157 6 = .ok (.if_icmp .lt 10, 3) := by decide +kernel
theorem dJ3_checkIndex_8e157_9 : decode cJ3_checkIndex_8e157 9 = .ok (.aload_n 2, 1) := by decide +kernel
theorem dJ3_checkIndex_8e157_10 : decode cJ3_checkIndex_8e157 10 = .ok (.iload_n 0, 1) := by decide +kernel
theorem dJ3_checkIndex_8e157_11 : decode cJ3_checkIndex_8e157 11 = .ok (.iload_n 1, 1) := by decide +kernel
theorem dJ3_checkIndex_8e157_12 : decode cJ3_checkIndex_8e157 12 = .ok (.invokestatic 95, 3) := by decide +kernel
theorem dJ3_checkIndex_8e157_15 : decode cJ3_checkIndex_8e157 15 = .ok (.athrow, 1) := by decide +kernel
theorem dJ3_checkIndex_8e157_16 : decode cJ3_checkIndex_8e157 16 = .ok (.iload_n 0, 1) := by decide +kernel
theorem dJ3_checkIndex_8e157_17 : decode cJ3_checkIndex_8e157 17 = .ok (.ireturn, 1) := by decide +kernel
theorem dJ3_checkFromToIndex_8c36e_0 : decode cJ3_checkFromToIndex_8c36e 0 = .ok (.iload_n 0, 1) := by decide +kernel
theorem dJ3_checkFromToIndex_8c36e_1 : decode cJ3_checkFromToIndex_8c36e 1 = .ok (.ifCond .lt 13, 3) := by decide +kernel
theorem dJ3_checkFromToIndex_8c36e_4 : decode cJ3_checkFromToIndex_8c36e 4 = .ok (.iload_n 0, 1) := by decide +kernel
theorem dJ3_checkFromToIndex_8c36e_5 : decode cJ3_checkFromToIndex_8c36e 5 = .ok (.iload_n 1, 1) := by decide +kernel
theorem dJ3_checkFromToIndex_8c36e_6 : decode cJ3_checkFromToIndex_8c36e 6 = .ok (.if_icmp .gt 8, 3) := by decide +kernel
theorem dJ3_checkFromToIndex_8c36e_9 : decode cJ3_checkFromToIndex_8c36e 9 = .ok (.iload_n 1, 1) := by decide +kernel
theorem dJ3_checkFromToIndex_8c36e_10 : decode cJ3_checkFromToIndex_8c36e 10 = .ok (.iload_n 2, 1) := by decide +kernel
theorem dJ3_checkFromToIndex_8c36e_11 : decode cJ3_checkFromToIndex_8c36e 11 = .ok (.if_icmp .le 11, 3) := by decide +kernel
theorem dJ3_checkFromToIndex_8c36e_14 : decode cJ3_checkFromToIndex_8c36e 14 = .ok (.aload_n 3, 1) := by decide +kernel
theorem dJ3_checkFromToIndex_8c36e_15 : decode cJ3_checkFromToIndex_8c36e 15 = .ok (.iload_n 0, 1) := by decide +kernel
theorem dJ3_checkFromToIndex_8c36e_16 : decode cJ3_checkFromToIndex_8c36e 16 = .ok (.iload_n 1, 1) := by decide +kernel
theorem dJ3_checkFromToIndex_8c36e_17 : decode cJ3_checkFromToIndex_8c36e 17 = .ok (.iload_n 2, 1) := by decide +kernel
theorem dJ3_checkFromToIndex_8c36e_18 : decode cJ3_checkFromToIndex_8c36e 18 = .ok (.invokestatic 99, 3) := by decide +kernel
theorem dJ3_checkFromToIndex_8c36e_21 : decode cJ3_checkFromToIndex_8c36e 21 = .ok (.athrow, 1) := by decide +kernel
theorem dJ3_checkFromToIndex_8c36e_22 : decode cJ3_checkFromToIndex_8c36e 22 = .ok (.iload_n 0, 1) := by decide +kernel
theorem dJ3_checkFromToIndex_8c36e_23 : decode cJ3_checkFromToIndex_8c36e 23 = .ok (.ireturn, 1) := by decide +kernel
theorem dL_cell_0 : decode cL_cell 0 = .ok (.iload_n 1, 1) := by decide +kernel
theorem dL_cell_1 : decode cL_cell 1 = .ok (.aload_n 0, 1) := by decide +kernel
theorem dL_cell_2 : decode cL_cell 2 = .ok (.arraylength, 1) := by decide +kernel
theorem dL_cell_3 : decode cL_cell 3 = .ok (.if_icmp .ge 9, 3) := by decide +kernel
theorem dL_cell_6 : decode cL_cell 6 = .ok (.aload_n 0, 1) := by decide +kernel
theorem dL_cell_7 : decode cL_cell 7 = .ok (.iload_n 1, 1) := by decide +kernel
theorem dL_cell_8 : decode cL_cell 8 = .ok (.iaload, 1) := by decide +kernel
theorem dL_cell_9 : decode cL_cell 9 = .ok (.goto 10, 3) := by decide +kernel
theorem dL_cell_12 : decode cL_cell 12 = .ok (.ldc 7, 2) := by decide +kernel
theorem dL_cell_14 : decode cL_cell 14 = .ok (.iload_n 1, 1) := by decide +kernel
theorem dL_cell_15 : decode cL_cell 15 = .ok (.imul, 1) := by decide +kernel
theorem dL_cell_16 : decode cL_cell 16 = .ok (.ldc 8, 2) := by decide +kernel
theorem dL_cell_18 : decode cL_cell 18 = .ok (.iadd, 1) := by decide +kernel
theorem dL_cell_19 : decode cL_cell 19 = .ok (.ireturn, 1) := by decide +kernel
theorem dL_low_0 : decode cL_low 0 = .ok (.iload_n 0, 1) := by decide +kernel
theorem dL_low_1 : decode cL_low 1 = .ok (.ldc 9, 2) := by decide +kernel
theorem dL_low_3 : decode cL_low 3 = .ok (.iand, 1) := by decide +kernel
theorem dL_low_4 : decode cL_low 4 = .ok (.iload_n 1, 1) := by decide +kernel
theorem dL_low_5 : decode cL_low 5 = .ok (.irem, 1) := by decide +kernel
theorem dL_low_6 : decode cL_low 6 = .ok (.ireturn, 1) := by decide +kernel
theorem dL_sign_0 : decode cL_sign 0 = .ok (.iload_n 0, 1) := by decide +kernel
theorem dL_sign_1 : decode cL_sign 1 = .ok (.tableswitch 120 0 14 #[75, 78, 81, 84, 87, 90, 93, 96, 99, 102, 105, 108, 111, 114, 117], 75) := by decide +kernel
theorem dL_sign_76 : decode cL_sign 76 = .ok (.bipush 43, 2) := by decide +kernel
theorem dL_sign_78 : decode cL_sign 78 = .ok (.ireturn, 1) := by decide +kernel
theorem dL_sign_79 : decode cL_sign 79 = .ok (.bipush 45, 2) := by decide +kernel
theorem dL_sign_81 : decode cL_sign 81 = .ok (.ireturn, 1) := by decide +kernel
theorem dL_sign_82 : decode cL_sign 82 = .ok (.bipush 42, 2) := by decide +kernel
theorem dL_sign_84 : decode cL_sign 84 = .ok (.ireturn, 1) := by decide +kernel
theorem dL_sign_85 : decode cL_sign 85 = .ok (.bipush 47, 2) := by decide +kernel
theorem dL_sign_87 : decode cL_sign 87 = .ok (.ireturn, 1) := by decide +kernel
theorem dL_sign_88 : decode cL_sign 88 = .ok (.bipush 37, 2) := by decide +kernel
theorem dL_sign_90 : decode cL_sign 90 = .ok (.ireturn, 1) := by decide +kernel
theorem dL_sign_91 : decode cL_sign 91 = .ok (.bipush 94, 2) := by decide +kernel
theorem dL_sign_93 : decode cL_sign 93 = .ok (.ireturn, 1) := by decide +kernel
theorem dL_sign_94 : decode cL_sign 94 = .ok (.bipush 33, 2) := by decide +kernel
theorem dL_sign_96 : decode cL_sign 96 = .ok (.ireturn, 1) := by decide +kernel
theorem dL_sign_97 : decode cL_sign 97 = .ok (.bipush 38, 2) := by decide +kernel
theorem dL_sign_99 : decode cL_sign 99 = .ok (.ireturn, 1) := by decide +kernel
theorem dL_sign_100 : decode cL_sign 100 = .ok (.bipush 124, 2) := by decide +kernel
theorem dL_sign_102 : decode cL_sign 102 = .ok (.ireturn, 1) := by decide +kernel
theorem dL_sign_103 : decode cL_sign 103 = .ok (.bipush 60, 2) := by decide +kernel
theorem dL_sign_105 : decode cL_sign 105 = .ok (.ireturn, 1) := by decide +kernel
theorem dL_sign_106 : decode cL_sign 106 = .ok (.bipush 62, 2) := by decide +kernel
theorem dL_sign_108 : decode cL_sign 108 = .ok (.ireturn, 1) := by decide +kernel
theorem dL_sign_109 : decode cL_sign 109 = .ok (.bipush 61, 2) := by decide +kernel
theorem dL_sign_111 : decode cL_sign 111 = .ok (.ireturn, 1) := by decide +kernel
theorem dL_sign_112 : decode cL_sign 112 = .ok (.bipush 126, 2) := by decide +kernel
theorem dL_sign_114 : decode cL_sign 114 = .ok (.ireturn, 1) := by decide +kernel
theorem dL_sign_115 : decode cL_sign 115 = .ok (.bipush 64, 2) := by decide +kernel
theorem dL_sign_117 : decode cL_sign 117 = .ok (.ireturn, 1) := by decide +kernel
theorem dL_sign_118 : decode cL_sign 118 = .ok (.bipush 35, 2) := by decide +kernel
theorem dL_sign_120 : decode cL_sign 120 = .ok (.ireturn, 1) := by decide +kernel
theorem dL_sign_121 : decode cL_sign 121 = .ok (.bipush 63, 2) := by decide +kernel
theorem dL_sign_123 : decode cL_sign 123 = .ok (.ireturn, 1) := by decide +kernel
theorem dL_mayTell_0 : decode cL_mayTell 0 = .ok (.iload_n 2, 1) := by decide +kernel
theorem dL_mayTell_1 : decode cL_mayTell 1 = .ok (.ifCond .eq 23, 3) := by decide +kernel
theorem dL_mayTell_4 : decode cL_mayTell 4 = .ok (.aload_n 0, 1) := by decide +kernel
theorem dL_mayTell_5 : decode cL_mayTell 5 = .ok (.iload_n 1, 1) := by decide +kernel
theorem dL_mayTell_6 : decode cL_mayTell 6 = .ok (.iload_n 2, 1) := by decide +kernel
theorem dL_mayTell_7 : decode cL_mayTell 7 = .ok (.iconst 2, 1) := by decide +kernel
theorem dL_mayTell_8 : decode cL_mayTell 8 = .ok (.if_icmp .ne 7, 3) := by decide +kernel
theorem dL_mayTell_11 : decode cL_mayTell 11 = .ok (.iconst 1, 1) := by decide +kernel
theorem dL_mayTell_12 : decode cL_mayTell 12 = .ok (.goto 4, 3) := by decide +kernel
theorem dL_mayTell_15 : decode cL_mayTell 15 = .ok (.iconst 2, 1) := by decide +kernel
theorem dL_mayTell_16 : decode cL_mayTell 16 = .ok (.iconst 0, 1) := by decide +kernel
theorem dL_mayTell_17 : decode cL_mayTell 17 = .ok (.invokevirtual 12, 3) := by decide +kernel
theorem dL_mayTell_20 : decode cL_mayTell 20 = .ok (.iconst (-1), 1) := by decide +kernel
theorem dL_mayTell_21 : decode cL_mayTell 21 = .ok (.if_icmp .ne 7, 3) := by decide +kernel
theorem dL_mayTell_24 : decode cL_mayTell 24 = .ok (.iconst 1, 1) := by decide +kernel
theorem dL_mayTell_25 : decode cL_mayTell 25 = .ok (.goto 4, 3) := by decide +kernel
theorem dL_mayTell_28 : decode cL_mayTell 28 = .ok (.iconst 0, 1) := by decide +kernel
theorem dL_mayTell_29 : decode cL_mayTell 29 = .ok (.istore 5, 2) := by decide +kernel
theorem dL_mayTell_31 : decode cL_mayTell 31 = .ok (.iconst 0, 1) := by decide +kernel
theorem dL_mayTell_32 : decode cL_mayTell 32 = .ok (.istore 6, 2) := by decide +kernel
theorem dL_mayTell_34 : decode cL_mayTell 34 = .ok (.iload 6, 2) := by decide +kernel
theorem dL_mayTell_36 : decode cL_mayTell 36 = .ok (.bipush 16, 2) := by decide +kernel
theorem dL_mayTell_38 : decode cL_mayTell 38 = .ok (.if_icmp .ge 64, 3) := by decide +kernel
theorem dL_mayTell_41 : decode cL_mayTell 41 = .ok (.iload 6, 2) := by decide +kernel
theorem dL_mayTell_43 : decode cL_mayTell 43 = .ok (.invokestatic 16, 3) := by decide +kernel
theorem dL_mayTell_46 : decode cL_mayTell 46 = .ok (.istore 7, 2) := by decide +kernel
theorem dL_mayTell_48 : decode cL_mayTell 48 = .ok (.iload 5, 2) := by decide +kernel
theorem dL_mayTell_50 : decode cL_mayTell 50 = .ok (.ifCond .eq 43, 3) := by decide +kernel
theorem dL_mayTell_53 : decode cL_mayTell 53 = .ok (.iload_n 2, 1) := by decide +kernel
theorem dL_mayTell_54 : decode cL_mayTell 54 = .ok (.iconst 2, 1) := by decide +kernel
theorem dL_mayTell_55 : decode cL_mayTell 55 = .ok (.if_icmp .ne 34, 3) := by decide +kernel
theorem dL_mayTell_58 : decode cL_mayTell 58 = .ok (.iload 7, 2) := by decide +kernel
theorem dL_mayTell_60 : decode cL_mayTell 60 = .ok (.iload_n 1, 1) := by decide +kernel
theorem dL_mayTell_61 : decode cL_mayTell 61 = .ok (.if_icmp .eq 28, 3) := by decide +kernel
theorem dL_mayTell_64 : decode cL_mayTell 64 = .ok (.aload_n 0, 1) := by decide +kernel
theorem dL_mayTell_65 : decode cL_mayTell 65 = .ok (.iload 7, 2) := by decide +kernel
theorem dL_mayTell_67 : decode cL_mayTell 67 = .ok (.iconst 2, 1) := by decide +kernel
theorem dL_mayTell_68 : decode cL_mayTell 68 = .ok (.iconst 0, 1) := by decide +kernel
theorem dL_mayTell_69 : decode cL_mayTell 69 = .ok (.invokevirtual 12, 3) := by decide +kernel
theorem dL_mayTell_72 : decode cL_mayTell 72 = .ok (.iload_n 3, 1) := by decide +kernel
theorem dL_mayTell_73 : decode cL_mayTell 73 = .ok (.if_icmp .ne 16, 3) := by decide +kernel
theorem dL_mayTell_76 : decode cL_mayTell 76 = .ok (.aload_n 0, 1) := by decide +kernel
theorem dL_mayTell_77 : decode cL_mayTell 77 = .ok (.iload 7, 2) := by decide +kernel
theorem dL_mayTell_79 : decode cL_mayTell 79 = .ok (.iconst 2, 1) := by decide +kernel
theorem dL_mayTell_80 : decode cL_mayTell 80 = .ok (.iconst 1, 1) := by decide +kernel
theorem dL_mayTell_81 : decode cL_mayTell 81 = .ok (.invokevirtual 12, 3) := by decide +kernel
theorem dL_mayTell_84 : decode cL_mayTell 84 = .ok (.iload 4, 2) := by decide +kernel
theorem dL_mayTell_86 : decode cL_mayTell 86 = .ok (.if_icmp .ne 7, 3) := by decide +kernel
theorem dL_mayTell_89 : decode cL_mayTell 89 = .ok (.iconst 1, 1) := by decide +kernel
theorem dL_mayTell_90 : decode cL_mayTell 90 = .ok (.goto 4, 3) := by decide +kernel
theorem dL_mayTell_93 : decode cL_mayTell 93 = .ok (.iconst 0, 1) := by decide +kernel
theorem dL_mayTell_94 : decode cL_mayTell 94 = .ok (.istore 5, 2) := by decide +kernel
theorem dL_mayTell_96 : decode cL_mayTell 96 = .ok (.iinc 6 1, 3) := by decide +kernel
theorem dL_mayTell_99 : decode cL_mayTell 99 = .ok (.goto (-65), 3) := by decide +kernel
theorem dL_mayTell_102 : decode cL_mayTell 102 = .ok (.iload 5, 2) := by decide +kernel
theorem dL_mayTell_104 : decode cL_mayTell 104 = .ok (.ireturn, 1) := by decide +kernel
theorem dL_sum_0 : decode cL_sum 0 = .ok (.bipush 7, 2) := by decide +kernel
theorem dL_sum_2 : decode cL_sum 2 = .ok (.istore_n 1, 1) := by decide +kernel
theorem dL_sum_3 : decode cL_sum 3 = .ok (.iconst 0, 1) := by decide +kernel
theorem dL_sum_4 : decode cL_sum 4 = .ok (.istore_n 2, 1) := by decide +kernel
theorem dL_sum_5 : decode cL_sum 5 = .ok (.iload_n 2, 1) := by decide +kernel
theorem dL_sum_6 : decode cL_sum 6 = .ok (.iconst 2, 1) := by decide +kernel
theorem dL_sum_7 : decode cL_sum 7 = .ok (.if_icmp .ge 44, 3) := by decide +kernel
theorem dL_sum_10 : decode cL_sum 10 = .ok (.aload_n 0, 1) := by decide +kernel
theorem dL_sum_11 : decode cL_sum 11 = .ok (.iload_n 2, 1) := by decide +kernel
theorem dL_sum_12 : decode cL_sum 12 = .ok (.bipush 16, 2) := by decide +kernel
theorem dL_sum_14 : decode cL_sum 14 = .ok (.invokevirtual 22, 3) := by decide +kernel
theorem dL_sum_17 : decode cL_sum 17 = .ok (.istore_n 3, 1) := by decide +kernel
theorem dL_sum_18 : decode cL_sum 18 = .ok (.iconst 0, 1) := by decide +kernel
theorem dL_sum_19 : decode cL_sum 19 = .ok (.istore 4, 2) := by decide +kernel
theorem dL_sum_21 : decode cL_sum 21 = .ok (.iload 4, 2) := by decide +kernel
theorem dL_sum_23 : decode cL_sum 23 = .ok (.iload_n 3, 1) := by decide +kernel
theorem dL_sum_24 : decode cL_sum 24 = .ok (.if_icmp .ge 21, 3) := by decide +kernel
theorem dL_sum_27 : decode cL_sum 27 = .ok (.bipush 31, 2) := by decide +kernel
theorem dL_sum_29 : decode cL_sum 29 = .ok (.iload_n 1, 1) := by decide +kernel
theorem dL_sum_30 : decode cL_sum 30 = .ok (.imul, 1) := by decide +kernel
theorem dL_sum_31 : decode cL_sum 31 = .ok (.aload_n 0, 1) := by decide +kernel
theorem dL_sum_32 : decode cL_sum 32 = .ok (.iload 4, 2) := by decide +kernel
theorem dL_sum_34 : decode cL_sum 34 = .ok (.invokevirtual 26, 3) := by decide +kernel
theorem dL_sum_37 : decode cL_sum 37 = .ok (.iadd, 1) := by decide +kernel
theorem dL_sum_38 : decode cL_sum 38 = .ok (.istore_n 1, 1) := by decide +kernel
theorem dL_sum_39 : decode cL_sum 39 = .ok (.iinc 4 1, 3) := by decide +kernel
theorem dL_sum_42 : decode cL_sum 42 = .ok (.goto (-21), 3) := by decide +kernel
theorem dL_sum_45 : decode cL_sum 45 = .ok (.iinc 2 1, 3) := by decide +kernel
theorem dL_sum_48 : decode cL_sum 48 = .ok (.goto (-43), 3) := by decide +kernel
theorem dL_sum_51 : decode cL_sum 51 = .ok (.iload_n 1, 1) := by decide +kernel
theorem dL_sum_52 : decode cL_sum 52 = .ok (.ireturn, 1) := by decide +kernel
theorem dL_types_0 : decode cL_types 0 = .ok (.iload_n 2, 1) := by decide +kernel
theorem dL_types_1 : decode cL_types 1 = .ok (.istore 4, 2) := by decide +kernel
theorem dL_types_3 : decode cL_types 3 = .ok (.iload 4, 2) := by decide +kernel
theorem dL_types_5 : decode cL_types 5 = .ok (.iload_n 3, 1) := by decide +kernel
theorem dL_types_6 : decode cL_types 6 = .ok (.if_icmp .ge 19, 3) := by decide +kernel
theorem dL_types_9 : decode cL_types 9 = .ok (.aload_n 0, 1) := by decide +kernel
theorem dL_types_10 : decode cL_types 10 = .ok (.aload_n 1, 1) := by decide +kernel
theorem dL_types_11 : decode cL_types 11 = .ok (.iload 4, 2) := by decide +kernel
theorem dL_types_13 : decode cL_types 13 = .ok (.iaload, 1) := by decide +kernel
theorem dL_types_14 : decode cL_types 14 = .ok (.i2c, 1) := by decide +kernel
theorem dL_types_15 : decode cL_types 15 = .ok (.invokevirtual 30, 3) := by decide +kernel
theorem dL_types_18 : decode cL_types 18 = .ok (.pop, 1) := by decide +kernel
theorem dL_types_19 : decode cL_types 19 = .ok (.iinc 4 1, 3) := by decide +kernel
theorem dL_types_22 : decode cL_types 22 = .ok (.goto (-19), 3) := by decide +kernel
theorem dL_types_25 : decode cL_types 25 = .ok (.return_, 1) := by decide +kernel
theorem dL_fill_0 : decode cL_fill 0 = .ok (.iconst 0, 1) := by decide +kernel
theorem dL_fill_1 : decode cL_fill 1 = .ok (.istore_n 3, 1) := by decide +kernel
theorem dL_fill_2 : decode cL_fill 2 = .ok (.iconst 0, 1) := by decide +kernel
theorem dL_fill_3 : decode cL_fill 3 = .ok (.istore 4, 2) := by decide +kernel
theorem dL_fill_5 : decode cL_fill 5 = .ok (.iconst 1, 1) := by decide +kernel
theorem dL_fill_6 : decode cL_fill 6 = .ok (.istore 5, 2) := by decide +kernel
theorem dL_fill_8 : decode cL_fill 8 = .ok (.iconst 1, 1) := by decide +kernel
theorem dL_fill_9 : decode cL_fill 9 = .ok (.aload_n 0, 1) := by decide +kernel
theorem dL_fill_10 : decode cL_fill 10 = .ok (.iload_n 1, 1) := by decide +kernel
theorem dL_fill_11 : decode cL_fill 11 = .ok (.invokestatic 34, 3) := by decide +kernel
theorem dL_fill_14 : decode cL_fill 14 = .ok (.bipush 9, 2) := by decide +kernel
theorem dL_fill_16 : decode cL_fill 16 = .ok (.invokestatic 38, 3) := by decide +kernel
theorem dL_fill_19 : decode cL_fill 19 = .ok (.iadd, 1) := by decide +kernel
theorem dL_fill_20 : decode cL_fill 20 = .ok (.istore 6, 2) := by decide +kernel
theorem dL_fill_22 : decode cL_fill 22 = .ok (.iconst 0, 1) := by decide +kernel
theorem dL_fill_23 : decode cL_fill 23 = .ok (.istore 7, 2) := by decide +kernel
theorem dL_fill_25 : decode cL_fill 25 = .ok (.iload 7, 2) := by decide +kernel
theorem dL_fill_27 : decode cL_fill 27 = .ok (.iload 6, 2) := by decide +kernel
theorem dL_fill_29 : decode cL_fill 29 = .ok (.if_icmp .lt 8, 3) := by decide +kernel
theorem dL_fill_32 : decode cL_fill 32 = .ok (.iload 5, 2) := by decide +kernel
theorem dL_fill_34 : decode cL_fill 34 = .ok (.ifCond .eq 277, 3) := by decide +kernel
theorem dL_fill_37 : decode cL_fill 37 = .ok (.aload_n 0, 1) := by decide +kernel
theorem dL_fill_38 : decode cL_fill 38 = .ok (.iload_n 1, 1) := by decide +kernel
theorem dL_fill_39 : decode cL_fill 39 = .ok (.iconst 1, 1) := by decide +kernel
theorem dL_fill_40 : decode cL_fill 40 = .ok (.iadd, 1) := by decide +kernel
theorem dL_fill_41 : decode cL_fill 41 = .ok (.iload 7, 2) := by decide +kernel
theorem dL_fill_43 : decode cL_fill 43 = .ok (.iadd, 1) := by decide +kernel
theorem dL_fill_44 : decode cL_fill 44 = .ok (.invokestatic 34, 3) := by decide +kernel
theorem dL_fill_47 : decode cL_fill 47 = .ok (.istore 8, 2) := by decide +kernel
theorem dL_fill_49 : decode cL_fill 49 = .ok (.iload 8, 2) := by decide +kernel
theorem dL_fill_51 : decode cL_fill 51 = .ok (.bipush 16, 2) := by decide +kernel
theorem dL_fill_53 : decode cL_fill 53 = .ok (.invokestatic 38, 3) := by decide +kernel
theorem dL_fill_56 : decode cL_fill 56 = .ok (.istore 9, 2) := by decide +kernel
theorem dL_fill_58 : decode cL_fill 58 = .ok (.iload 5, 2) := by decide +kernel
theorem dL_fill_60 : decode cL_fill 60 = .ok (.ifCond .ne 108, 3) := by decide +kernel
theorem dL_fill_63 : decode cL_fill 63 = .ok (.iload 4, 2) := by decide +kernel
theorem dL_fill_65 : decode cL_fill 65 = .ok (.ifCond .le 13, 3) := by decide +kernel
theorem dL_fill_68 : decode cL_fill 68 = .ok (.iload 9, 2) := by decide +kernel
theorem dL_fill_70 : decode cL_fill 70 = .ok (.iconst 4, 1) := by decide +kernel
theorem dL_fill_71 : decode cL_fill 71 = .ok (.if_icmp .ge 7, 3) := by decide +kernel
theorem dL_fill_74 : decode cL_fill 74 = .ok (.iconst 1, 1) := by decide +kernel
theorem dL_fill_75 : decode cL_fill 75 = .ok (.goto 4, 3) := by decide +kernel
theorem dL_fill_78 : decode cL_fill 78 = .ok (.iconst 0, 1) := by decide +kernel
theorem dL_fill_79 : decode cL_fill 79 = .ok (.istore 10, 2) := by decide +kernel
theorem dL_fill_81 : decode cL_fill 81 = .ok (.aload_n 2, 1) := by decide +kernel
theorem dL_fill_82 : decode cL_fill 82 = .ok (.iload_n 3, 1) := by decide +kernel
theorem dL_fill_83 : decode cL_fill 83 = .ok (.iload 10, 2) := by decide +kernel
theorem dL_fill_85 : decode cL_fill 85 = .ok (.ifCond .eq 8, 3) := by decide +kernel
theorem dL_fill_88 : decode cL_fill 88 = .ok (.bipush 41, 2) := by decide +kernel
theorem dL_fill_90 : decode cL_fill 90 = .ok (.goto 39, 3) := by decide +kernel
theorem dL_fill_93 : decode cL_fill 93 = .ok (.iload 9, 2) := by decide +kernel
theorem dL_fill_95 : decode cL_fill 95 = .ok (.bipush 15, 2) := by decide +kernel
theorem dL_fill_97 : decode cL_fill 97 = .ok (.if_icmp .ne 8, 3) := by decide +kernel
theorem dL_fill_100 : decode cL_fill 100 = .ok (.bipush 44, 2) := by decide +kernel
theorem dL_fill_102 : decode cL_fill 102 = .ok (.goto 27, 3) := by decide +kernel
theorem dL_fill_105 : decode cL_fill 105 = .ok (.iload 8, 2) := by decide +kernel
theorem dL_fill_107 : decode cL_fill 107 = .ok (.iconst 4, 1) := by decide +kernel
theorem dL_fill_108 : decode cL_fill 108 = .ok (.ishr, 1) := by decide +kernel
theorem dL_fill_109 : decode cL_fill 109 = .ok (.iload 9, 2) := by decide +kernel
theorem dL_fill_111 : decode cL_fill 111 = .ok (.bipush 12, 2) := by decide +kernel
theorem dL_fill_113 : decode cL_fill 113 = .ok (.if_icmp .ge 8, 3) := by decide +kernel
theorem dL_fill_116 : decode cL_fill 116 = .ok (.bipush 12, 2) := by decide +kernel
theorem dL_fill_118 : decode cL_fill 118 = .ok (.goto 5, 3) := by decide +kernel
theorem dL_fill_121 : decode cL_fill 121 = .ok (.bipush 16, 2) := by decide +kernel
theorem dL_fill_123 : decode cL_fill 123 = .ok (.invokestatic 38, 3) := by decide +kernel
theorem dL_fill_126 : decode cL_fill 126 = .ok (.invokestatic 16, 3) := by decide +kernel
theorem dL_fill_129 : decode cL_fill 129 = .ok (.iastore, 1) := by decide +kernel
theorem dL_fill_130 : decode cL_fill 130 = .ok (.iload 4, 2) := by decide +kernel
theorem dL_fill_132 : decode cL_fill 132 = .ok (.iload 10, 2) := by decide +kernel
theorem dL_fill_134 : decode cL_fill 134 = .ok (.ifCond .eq 7, 3) := by decide +kernel
theorem dL_fill_137 : decode cL_fill 137 = .ok (.iconst 1, 1) := by decide +kernel
theorem dL_fill_138 : decode cL_fill 138 = .ok (.goto 4, 3) := by decide +kernel
theorem dL_fill_141 : decode cL_fill 141 = .ok (.iconst 0, 1) := by decide +kernel
theorem dL_fill_142 : decode cL_fill 142 = .ok (.isub, 1) := by decide +kernel
theorem dL_fill_143 : decode cL_fill 143 = .ok (.istore 4, 2) := by decide +kernel
theorem dL_fill_145 : decode cL_fill 145 = .ok (.iload 10, 2) := by decide +kernel
theorem dL_fill_147 : decode cL_fill 147 = .ok (.ifCond .ne 15, 3) := by decide +kernel
theorem dL_fill_150 : decode cL_fill 150 = .ok (.aload_n 2, 1) := by decide +kernel
theorem dL_fill_151 : decode cL_fill 151 = .ok (.iload_n 3, 1) := by decide +kernel
theorem dL_fill_152 : decode cL_fill 152 = .ok (.iaload, 1) := by decide +kernel
theorem dL_fill_153 : decode cL_fill 153 = .ok (.bipush 33, 2) := by decide +kernel
theorem dL_fill_155 : decode cL_fill 155 = .ok (.if_icmp .eq 7, 3) := by decide +kernel
theorem dL_fill_158 : decode cL_fill 158 = .ok (.iconst 1, 1) := by decide +kernel
theorem dL_fill_159 : decode cL_fill 159 = .ok (.goto 4, 3) := by decide +kernel
theorem dL_fill_162 : decode cL_fill 162 = .ok (.iconst 0, 1) := by decide +kernel
theorem dL_fill_163 : decode cL_fill 163 = .ok (.istore 5, 2) := by decide +kernel
theorem dL_fill_165 : decode cL_fill 165 = .ok (.goto 137, 3) := by decide +kernel
theorem dL_fill_168 : decode cL_fill 168 = .ok (.iload 7, 2) := by decide +kernel
theorem dL_fill_170 : decode cL_fill 170 = .ok (.iload 6, 2) := by decide +kernel
theorem dL_fill_172 : decode cL_fill 172 = .ok (.if_icmp .ge 65, 3) := by decide +kernel
theorem dL_fill_175 : decode cL_fill 175 = .ok (.iload 9, 2) := by decide +kernel
theorem dL_fill_177 : decode cL_fill 177 = .ok (.iconst 3, 1) := by decide +kernel
theorem dL_fill_178 : decode cL_fill 178 = .ok (.if_icmp .ge 59, 3) := by decide +kernel
theorem dL_fill_181 : decode cL_fill 181 = .ok (.aload_n 2, 1) := by decide +kernel
theorem dL_fill_182 : decode cL_fill 182 = .ok (.iload_n 3, 1) := by decide +kernel
theorem dL_fill_183 : decode cL_fill 183 = .ok (.iload 9, 2) := by decide +kernel
theorem dL_fill_185 : decode cL_fill 185 = .ok (.ifCond .ne 8, 3) := by decide +kernel
theorem dL_fill_188 : decode cL_fill 188 = .ok (.bipush 40, 2) := by decide +kernel
theorem dL_fill_190 : decode cL_fill 190 = .ok (.goto 28, 3) := by decide +kernel
theorem dL_fill_193 : decode cL_fill 193 = .ok (.iload 9, 2) := by decide +kernel
theorem dL_fill_195 : decode cL_fill 195 = .ok (.iconst 1, 1) := by decide +kernel
theorem dL_fill_196 : decode cL_fill 196 = .ok (.if_icmp .ne 8, 3) := by decide +kernel
theorem dL_fill_199 : decode cL_fill 199 = .ok (.bipush 45, 2) := by decide +kernel
theorem dL_fill_201 : decode cL_fill 201 = .ok (.goto 17, 3) := by decide +kernel
theorem dL_fill_204 : decode cL_fill 204 = .ok (.bipush 12, 2) := by decide +kernel
theorem dL_fill_206 : decode cL_fill 206 = .ok (.iload 8, 2) := by decide +kernel
theorem dL_fill_208 : decode cL_fill 208 = .ok (.iconst 4, 1) := by decide +kernel
theorem dL_fill_209 : decode cL_fill 209 = .ok (.ishr, 1) := by decide +kernel
theorem dL_fill_210 : decode cL_fill 210 = .ok (.iconst 4, 1) := by decide +kernel
theorem dL_fill_211 : decode cL_fill 211 = .ok (.invokestatic 38, 3) := by decide +kernel
theorem dL_fill_214 : decode cL_fill 214 = .ok (.iadd, 1) := by decide +kernel
theorem dL_fill_215 : decode cL_fill 215 = .ok (.invokestatic 16, 3) := by decide +kernel
theorem dL_fill_218 : decode cL_fill 218 = .ok (.iastore, 1) := by decide +kernel
theorem dL_fill_219 : decode cL_fill 219 = .ok (.iload 4, 2) := by decide +kernel
theorem dL_fill_221 : decode cL_fill 221 = .ok (.iload 9, 2) := by decide +kernel
theorem dL_fill_223 : decode cL_fill 223 = .ok (.ifCond .ne 7, 3) := by decide +kernel
theorem dL_fill_226 : decode cL_fill 226 = .ok (.iconst 1, 1) := by decide +kernel
theorem dL_fill_227 : decode cL_fill 227 = .ok (.goto 4, 3) := by decide +kernel
theorem dL_fill_230 : decode cL_fill 230 = .ok (.iconst 0, 1) := by decide +kernel
theorem dL_fill_231 : decode cL_fill 231 = .ok (.iadd, 1) := by decide +kernel
theorem dL_fill_232 : decode cL_fill 232 = .ok (.istore 4, 2) := by decide +kernel
theorem dL_fill_234 : decode cL_fill 234 = .ok (.goto 68, 3) := by decide +kernel
theorem dL_fill_237 : decode cL_fill 237 = .ok (.iload 8, 2) := by decide +kernel
theorem dL_fill_239 : decode cL_fill 239 = .ok (.iconst 4, 1) := by decide +kernel
theorem dL_fill_240 : decode cL_fill 240 = .ok (.ishr, 1) := by decide +kernel
theorem dL_fill_241 : decode cL_fill 241 = .ok (.bipush 10, 2) := by decide +kernel
theorem dL_fill_243 : decode cL_fill 243 = .ok (.invokestatic 38, 3) := by decide +kernel
theorem dL_fill_246 : decode cL_fill 246 = .ok (.istore 10, 2) := by decide +kernel
theorem dL_fill_248 : decode cL_fill 248 = .ok (.aload_n 2, 1) := by decide +kernel
theorem dL_fill_249 : decode cL_fill 249 = .ok (.iload_n 3, 1) := by decide +kernel
theorem dL_fill_250 : decode cL_fill 250 = .ok (.iload 9, 2) := by decide +kernel
theorem dL_fill_252 : decode cL_fill 252 = .ok (.bipush 9, 2) := by decide +kernel
theorem dL_fill_254 : decode cL_fill 254 = .ok (.if_icmp .ge 11, 3) := by decide +kernel
theorem dL_fill_257 : decode cL_fill 257 = .ok (.bipush 48, 2) := by decide +kernel
theorem dL_fill_259 : decode cL_fill 259 = .ok (.iload 10, 2) := by decide +kernel
theorem dL_fill_261 : decode cL_fill 261 = .ok (.iadd, 1) := by decide +kernel
theorem dL_fill_262 : decode cL_fill 262 = .ok (.goto 8, 3) := by decide +kernel
theorem dL_fill_265 : decode cL_fill 265 = .ok (.bipush 113, 2) := by decide +kernel
theorem dL_fill_267 : decode cL_fill 267 = .ok (.iload 10, 2) := by decide +kernel
theorem dL_fill_269 : decode cL_fill 269 = .ok (.iadd, 1) := by decide +kernel
theorem dL_fill_270 : decode cL_fill 270 = .ok (.iastore, 1) := by decide +kernel
theorem dL_fill_271 : decode cL_fill 271 = .ok (.iconst 0, 1) := by decide +kernel
theorem dL_fill_272 : decode cL_fill 272 = .ok (.istore 5, 2) := by decide +kernel
theorem dL_fill_274 : decode cL_fill 274 = .ok (.iload 9, 2) := by decide +kernel
theorem dL_fill_276 : decode cL_fill 276 = .ok (.bipush 15, 2) := by decide +kernel
theorem dL_fill_278 : decode cL_fill 278 = .ok (.if_icmp .ne 24, 3) := by decide +kernel
theorem dL_fill_281 : decode cL_fill 281 = .ok (.iload 7, 2) := by decide +kernel
theorem dL_fill_283 : decode cL_fill 283 = .ok (.iload 6, 2) := by decide +kernel
theorem dL_fill_285 : decode cL_fill 285 = .ok (.if_icmp .ge 17, 3) := by decide +kernel
theorem dL_fill_288 : decode cL_fill 288 = .ok (.iinc 3 1, 3) := by decide +kernel
theorem dL_fill_291 : decode cL_fill 291 = .ok (.aload_n 2, 1) := by decide +kernel
theorem dL_fill_292 : decode cL_fill 292 = .ok (.iload_n 3, 1) := by decide +kernel
theorem dL_fill_293 : decode cL_fill 293 = .ok (.bipush 40, 2) := by decide +kernel
theorem dL_fill_295 : decode cL_fill 295 = .ok (.iastore, 1) := by decide +kernel
theorem dL_fill_296 : decode cL_fill 296 = .ok (.iinc 4 1, 3) := by decide +kernel
theorem dL_fill_299 : decode cL_fill 299 = .ok (.iconst 1, 1) := by decide +kernel
theorem dL_fill_300 : decode cL_fill 300 = .ok (.istore 5, 2) := by decide +kernel
theorem dL_fill_302 : decode cL_fill 302 = .ok (.iinc 3 1, 3) := by decide +kernel
theorem dL_fill_305 : decode cL_fill 305 = .ok (.iinc 7 1, 3) := by decide +kernel
theorem dL_fill_308 : decode cL_fill 308 = .ok (.goto (-283), 3) := by decide +kernel
theorem dL_fill_311 : decode cL_fill 311 = .ok (.iconst 0, 1) := by decide +kernel
theorem dL_fill_312 : decode cL_fill 312 = .ok (.istore 7, 2) := by decide +kernel
theorem dL_fill_314 : decode cL_fill 314 = .ok (.iload 7, 2) := by decide +kernel
theorem dL_fill_316 : decode cL_fill 316 = .ok (.iload 4, 2) := by decide +kernel
theorem dL_fill_318 : decode cL_fill 318 = .ok (.if_icmp .ge 17, 3) := by decide +kernel
theorem dL_fill_321 : decode cL_fill 321 = .ok (.aload_n 2, 1) := by decide +kernel
theorem dL_fill_322 : decode cL_fill 322 = .ok (.iload_n 3, 1) := by decide +kernel
theorem dL_fill_323 : decode cL_fill 323 = .ok (.bipush 41, 2) := by decide +kernel
theorem dL_fill_325 : decode cL_fill 325 = .ok (.iastore, 1) := by decide +kernel
theorem dL_fill_326 : decode cL_fill 326 = .ok (.iinc 3 1, 3) := by decide +kernel
theorem dL_fill_329 : decode cL_fill 329 = .ok (.iinc 7 1, 3) := by decide +kernel
theorem dL_fill_332 : decode cL_fill 332 = .ok (.goto (-18), 3) := by decide +kernel
theorem dL_fill_335 : decode cL_fill 335 = .ok (.aload_n 0, 1) := by decide +kernel
theorem dL_fill_336 : decode cL_fill 336 = .ok (.iload_n 1, 1) := by decide +kernel
theorem dL_fill_337 : decode cL_fill 337 = .ok (.bipush 15, 2) := by decide +kernel
theorem dL_fill_339 : decode cL_fill 339 = .ok (.iadd, 1) := by decide +kernel
theorem dL_fill_340 : decode cL_fill 340 = .ok (.invokestatic 34, 3) := by decide +kernel
theorem dL_fill_343 : decode cL_fill 343 = .ok (.iconst 4, 1) := by decide +kernel
theorem dL_fill_344 : decode cL_fill 344 = .ok (.invokestatic 38, 3) := by decide +kernel
theorem dL_fill_347 : decode cL_fill 347 = .ok (.ifCond .ne 33, 3) := by decide +kernel
theorem dL_fill_350 : decode cL_fill 350 = .ok (.aload_n 2, 1) := by decide +kernel
theorem dL_fill_351 : decode cL_fill 351 = .ok (.aload_n 0, 1) := by decide +kernel
theorem dL_fill_352 : decode cL_fill 352 = .ok (.iload_n 1, 1) := by decide +kernel
theorem dL_fill_353 : decode cL_fill 353 = .ok (.bipush 16, 2) := by decide +kernel
theorem dL_fill_355 : decode cL_fill 355 = .ok (.iadd, 1) := by decide +kernel
theorem dL_fill_356 : decode cL_fill 356 = .ok (.invokestatic 34, 3) := by decide +kernel
theorem dL_fill_359 : decode cL_fill 359 = .ok (.iload_n 3, 1) := by decide +kernel
theorem dL_fill_360 : decode cL_fill 360 = .ok (.invokestatic 38, 3) := by decide +kernel
theorem dL_fill_363 : decode cL_fill 363 = .ok (.bipush 32, 2) := by decide +kernel
theorem dL_fill_365 : decode cL_fill 365 = .ok (.aload_n 0, 1) := by decide +kernel
theorem dL_fill_366 : decode cL_fill 366 = .ok (.iload_n 1, 1) := by decide +kernel
theorem dL_fill_367 : decode cL_fill 367 = .ok (.bipush 17, 2) := by decide +kernel
theorem dL_fill_369 : decode cL_fill 369 = .ok (.iadd, 1) := by decide +kernel
theorem dL_fill_370 : decode cL_fill 370 = .ok (.invokestatic 34, 3) := by decide +kernel
theorem dL_fill_373 : decode cL_fill 373 = .ok (.bipush 95, 2) := by decide +kernel
theorem dL_fill_375 : decode cL_fill 375 = .ok (.invokestatic 38, 3) := by decide +kernel
theorem dL_fill_378 : decode cL_fill 378 = .ok (.iadd, 1) := by decide +kernel
theorem dL_fill_379 : decode cL_fill 379 = .ok (.iastore, 1) := by decide +kernel
theorem dL_fill_380 : decode cL_fill 380 = .ok (.iload_n 3, 1) := by decide +kernel
theorem dL_fill_381 : decode cL_fill 381 = .ok (.ireturn, 1) := by decide +kernel
theorem dL_faulty_0 : decode cL_faulty 0 = .ok (.iload_n 3, 1) := by decide +kernel
theorem dL_faulty_1 : decode cL_faulty 1 = .ok (.ifCond .lt 20, 3) := by decide +kernel
theorem dL_faulty_4 : decode cL_faulty 4 = .ok (.iload_n 3, 1) := by decide +kernel
theorem dL_faulty_5 : decode cL_faulty 5 = .ok (.iload_n 2, 1) := by decide +kernel
theorem dL_faulty_6 : decode cL_faulty 6 = .ok (.if_icmp .gt 15, 3) := by decide +kernel
theorem dL_faulty_9 : decode cL_faulty 9 = .ok (.aload_n 0, 1) := by decide +kernel
theorem dL_faulty_10 : decode cL_faulty 10 = .ok (.invokevirtual 41, 3) := by decide +kernel
theorem dL_faulty_13 : decode cL_faulty 13 = .ok (.iload_n 2, 1) := by decide +kernel
theorem dL_faulty_14 : decode cL_faulty 14 = .ok (.if_icmp .ne 7, 3) := by decide +kernel
theorem dL_faulty_17 : decode cL_faulty 17 = .ok (.iconst 1, 1) := by decide +kernel
theorem dL_faulty_18 : decode cL_faulty 18 = .ok (.goto 4, 3) := by decide +kernel
theorem dL_faulty_21 : decode cL_faulty 21 = .ok (.iconst 0, 1) := by decide +kernel
theorem dL_faulty_22 : decode cL_faulty 22 = .ok (.istore 4, 2) := by decide +kernel
theorem dL_faulty_24 : decode cL_faulty 24 = .ok (.iconst 0, 1) := by decide +kernel
theorem dL_faulty_25 : decode cL_faulty 25 = .ok (.istore 5, 2) := by decide +kernel
theorem dL_faulty_27 : decode cL_faulty 27 = .ok (.iload 5, 2) := by decide +kernel
theorem dL_faulty_29 : decode cL_faulty 29 = .ok (.iload_n 2, 1) := by decide +kernel
theorem dL_faulty_30 : decode cL_faulty 30 = .ok (.if_icmp .gt 72, 3) := by decide +kernel
theorem dL_faulty_33 : decode cL_faulty 33 = .ok (.iload 4, 2) := by decide +kernel
theorem dL_faulty_35 : decode cL_faulty 35 = .ok (.ifCond .eq 67, 3) := by decide +kernel
theorem dL_faulty_38 : decode cL_faulty 38 = .ok (.aload_n 0, 1) := by decide +kernel
theorem dL_faulty_39 : decode cL_faulty 39 = .ok (.aload_n 1, 1) := by decide +kernel
theorem dL_faulty_40 : decode cL_faulty 40 = .ok (.iconst 0, 1) := by decide +kernel
theorem dL_faulty_41 : decode cL_faulty 41 = .ok (.iload 5, 2) := by decide +kernel
theorem dL_faulty_43 : decode cL_faulty 43 = .ok (.invokestatic 45, 3) := by decide +kernel
theorem dL_faulty_46 : decode cL_faulty 46 = .ok (.aload_n 0, 1) := by decide +kernel
theorem dL_faulty_47 : decode cL_faulty 47 = .ok (.invokevirtual 49, 3) := by decide +kernel
theorem dL_faulty_50 : decode cL_faulty 50 = .ok (.istore 6, 2) := by decide +kernel
theorem dL_faulty_52 : decode cL_faulty 52 = .ok (.iload 5, 2) := by decide +kernel
theorem dL_faulty_54 : decode cL_faulty 54 = .ok (.iload_n 3, 1) := by decide +kernel
theorem dL_faulty_55 : decode cL_faulty 55 = .ok (.if_icmp .gt 19, 3) := by decide +kernel
theorem dL_faulty_58 : decode cL_faulty 58 = .ok (.iload 6, 2) := by decide +kernel
theorem dL_faulty_60 : decode cL_faulty 60 = .ok (.iload 5, 2) := by decide +kernel
theorem dL_faulty_62 : decode cL_faulty 62 = .ok (.if_icmp .eq 18, 3) := by decide +kernel
theorem dL_faulty_65 : decode cL_faulty 65 = .ok (.iload 6, 2) := by decide +kernel
theorem dL_faulty_67 : decode cL_faulty 67 = .ok (.iconst (-1), 1) := by decide +kernel
theorem dL_faulty_68 : decode cL_faulty 68 = .ok (.if_icmp .ne 25, 3) := by decide +kernel
theorem dL_faulty_71 : decode cL_faulty 71 = .ok (.goto 9, 3) := by decide +kernel
theorem dL_faulty_74 : decode cL_faulty 74 = .ok (.iload 6, 2) := by decide +kernel
theorem dL_faulty_76 : decode cL_faulty 76 = .ok (.iload_n 3, 1) := by decide +kernel
theorem dL_faulty_77 : decode cL_faulty 77 = .ok (.if_icmp .ne 16, 3) := by decide +kernel
theorem dL_faulty_80 : decode cL_faulty 80 = .ok (.aload_n 0, 1) := by decide +kernel
theorem dL_faulty_81 : decode cL_faulty 81 = .ok (.invokevirtual 41, 3) := by decide +kernel
theorem dL_faulty_84 : decode cL_faulty 84 = .ok (.iload 5, 2) := by decide +kernel
theorem dL_faulty_86 : decode cL_faulty 86 = .ok (.if_icmp .ne 7, 3) := by decide +kernel
theorem dL_faulty_89 : decode cL_faulty 89 = .ok (.iconst 1, 1) := by decide +kernel
theorem dL_faulty_90 : decode cL_faulty 90 = .ok (.goto 4, 3) := by decide +kernel
theorem dL_faulty_93 : decode cL_faulty 93 = .ok (.iconst 0, 1) := by decide +kernel
theorem dL_faulty_94 : decode cL_faulty 94 = .ok (.istore 4, 2) := by decide +kernel
theorem dL_faulty_96 : decode cL_faulty 96 = .ok (.iinc 5 1, 3) := by decide +kernel
theorem dL_faulty_99 : decode cL_faulty 99 = .ok (.goto (-72), 3) := by decide +kernel
theorem dL_faulty_102 : decode cL_faulty 102 = .ok (.iload 4, 2) := by decide +kernel
theorem dL_faulty_104 : decode cL_faulty 104 = .ok (.ireturn, 1) := by decide +kernel
theorem dL_printed_0 : decode cL_printed 0 = .ok (.aload_n 0, 1) := by decide +kernel
theorem dL_printed_1 : decode cL_printed 1 = .ok (.iload_n 1, 1) := by decide +kernel
theorem dL_printed_2 : decode cL_printed 2 = .ok (.invokevirtual 52, 3) := by decide +kernel
theorem dL_printed_5 : decode cL_printed 5 = .ok (.istore_n 2, 1) := by decide +kernel
theorem dL_printed_6 : decode cL_printed 6 = .ok (.iload_n 2, 1) := by decide +kernel
theorem dL_printed_7 : decode cL_printed 7 = .ok (.bipush 60, 2) := by decide +kernel
theorem dL_printed_9 : decode cL_printed 9 = .ok (.if_icmp .le 5, 3) := by decide +kernel
theorem dL_printed_12 : decode cL_printed 12 = .ok (.iconst 1, 1) := by decide +kernel
theorem dL_printed_13 : decode cL_printed 13 = .ok (.ireturn, 1) := by decide +kernel
theorem dL_printed_14 : decode cL_printed 14 = .ok (.bipush 60, 2) := by decide +kernel
theorem dL_printed_16 : decode cL_printed 16 = .ok (.newarray .int, 2) := by decide +kernel
theorem dL_printed_18 : decode cL_printed 18 = .ok (.astore_n 3, 1) := by decide +kernel
theorem dL_printed_19 : decode cL_printed 19 = .ok (.iconst 0, 1) := by decide +kernel
theorem dL_printed_20 : decode cL_printed 20 = .ok (.istore 4, 2) := by decide +kernel
theorem dL_printed_22 : decode cL_printed 22 = .ok (.iload 4, 2) := by decide +kernel
theorem dL_printed_24 : decode cL_printed 24 = .ok (.iload_n 2, 1) := by decide +kernel
theorem dL_printed_25 : decode cL_printed 25 = .ok (.if_icmp .ge 19, 3) := by decide +kernel
theorem dL_printed_28 : decode cL_printed 28 = .ok (.aload_n 3, 1) := by decide +kernel
theorem dL_printed_29 : decode cL_printed 29 = .ok (.iload 4, 2) := by decide +kernel
theorem dL_printed_31 : decode cL_printed 31 = .ok (.aload_n 0, 1) := by decide +kernel
theorem dL_printed_32 : decode cL_printed 32 = .ok (.iload 4, 2) := by decide +kernel
theorem dL_printed_34 : decode cL_printed 34 = .ok (.invokevirtual 26, 3) := by decide +kernel
theorem dL_printed_37 : decode cL_printed 37 = .ok (.iastore, 1) := by decide +kernel
theorem dL_printed_38 : decode cL_printed 38 = .ok (.iinc 4 1, 3) := by decide +kernel
theorem dL_printed_41 : decode cL_printed 41 = .ok (.goto (-19), 3) := by decide +kernel
theorem dL_printed_44 : decode cL_printed 44 = .ok (.aload_n 0, 1) := by decide +kernel
theorem dL_printed_45 : decode cL_printed 45 = .ok (.aload_n 3, 1) := by decide +kernel
theorem dL_printed_46 : decode cL_printed 46 = .ok (.iconst 0, 1) := by decide +kernel
theorem dL_printed_47 : decode cL_printed 47 = .ok (.iload_n 2, 1) := by decide +kernel
theorem dL_printed_48 : decode cL_printed 48 = .ok (.invokestatic 45, 3) := by decide +kernel
theorem dL_printed_51 : decode cL_printed 51 = .ok (.aload_n 0, 1) := by decide +kernel
theorem dL_printed_52 : decode cL_printed 52 = .ok (.invokevirtual 55, 3) := by decide +kernel
theorem dL_printed_55 : decode cL_printed 55 = .ok (.istore 4, 2) := by decide +kernel
theorem dL_printed_57 : decode cL_printed 57 = .ok (.aload_n 0, 1) := by decide +kernel
theorem dL_printed_58 : decode cL_printed 58 = .ok (.iload_n 1, 1) := by decide +kernel
theorem dL_printed_59 : decode cL_printed 59 = .ok (.iload 4, 2) := by decide +kernel
theorem dL_printed_61 : decode cL_printed 61 = .ok (.invokevirtual 58, 3) := by decide +kernel
theorem dL_printed_64 : decode cL_printed 64 = .ok (.ifCond .eq 24, 3) := by decide +kernel
theorem dL_printed_67 : decode cL_printed 67 = .ok (.aload_n 0, 1) := by decide +kernel
theorem dL_printed_68 : decode cL_printed 68 = .ok (.iload 4, 2) := by decide +kernel
theorem dL_printed_70 : decode cL_printed 70 = .ok (.invokevirtual 52, 3) := by decide +kernel
theorem dL_printed_73 : decode cL_printed 73 = .ok (.iload_n 2, 1) := by decide +kernel
theorem dL_printed_74 : decode cL_printed 74 = .ok (.if_icmp .ne 14, 3) := by decide +kernel
theorem dL_printed_77 : decode cL_printed 77 = .ok (.aload_n 0, 1) := by decide +kernel
theorem dL_printed_78 : decode cL_printed 78 = .ok (.invokevirtual 62, 3) := by decide +kernel
theorem dL_printed_81 : decode cL_printed 81 = .ok (.ifCond .ne 7, 3) := by decide +kernel
theorem dL_printed_84 : decode cL_printed 84 = .ok (.iconst 1, 1) := by decide +kernel
theorem dL_printed_85 : decode cL_printed 85 = .ok (.goto 4, 3) := by decide +kernel
theorem dL_printed_88 : decode cL_printed 88 = .ok (.iconst 0, 1) := by decide +kernel
theorem dL_printed_89 : decode cL_printed 89 = .ok (.ireturn, 1) := by decide +kernel
theorem dL_reckoned_0 : decode cL_reckoned 0 = .ok (.aload_n 0, 1) := by decide +kernel
theorem dL_reckoned_1 : decode cL_reckoned 1 = .ok (.iload_n 1, 1) := by decide +kernel
theorem dL_reckoned_2 : decode cL_reckoned 2 = .ok (.iconst 0, 1) := by decide +kernel
theorem dL_reckoned_3 : decode cL_reckoned 3 = .ok (.iconst 5, 1) := by decide +kernel
theorem dL_reckoned_4 : decode cL_reckoned 4 = .ok (.invokevirtual 65, 3) := by decide +kernel
theorem dL_reckoned_7 : decode cL_reckoned 7 = .ok (.istore_n 2, 1) := by decide +kernel
theorem dL_reckoned_8 : decode cL_reckoned 8 = .ok (.iconst 0, 1) := by decide +kernel
theorem dL_reckoned_9 : decode cL_reckoned 9 = .ok (.istore_n 3, 1) := by decide +kernel
theorem dL_reckoned_10 : decode cL_reckoned 10 = .ok (.iload_n 3, 1) := by decide +kernel
theorem dL_reckoned_11 : decode cL_reckoned 11 = .ok (.iload_n 2, 1) := by decide +kernel
theorem dL_reckoned_12 : decode cL_reckoned 12 = .ok (.if_icmp .ge 45, 3) := by decide +kernel
theorem dL_reckoned_15 : decode cL_reckoned 15 = .ok (.aload_n 0, 1) := by decide +kernel
theorem dL_reckoned_16 : decode cL_reckoned 16 = .ok (.iload_n 1, 1) := by decide +kernel
theorem dL_reckoned_17 : decode cL_reckoned 17 = .ok (.iload_n 3, 1) := by decide +kernel
theorem dL_reckoned_18 : decode cL_reckoned 18 = .ok (.iconst 1, 1) := by decide +kernel
theorem dL_reckoned_19 : decode cL_reckoned 19 = .ok (.invokevirtual 65, 3) := by decide +kernel
theorem dL_reckoned_22 : decode cL_reckoned 22 = .ok (.istore 4, 2) := by decide +kernel
theorem dL_reckoned_24 : decode cL_reckoned 24 = .ok (.aload_n 0, 1) := by decide +kernel
theorem dL_reckoned_25 : decode cL_reckoned 25 = .ok (.iload_n 1, 1) := by decide +kernel
theorem dL_reckoned_26 : decode cL_reckoned 26 = .ok (.iload_n 3, 1) := by decide +kernel
theorem dL_reckoned_27 : decode cL_reckoned 27 = .ok (.iconst 0, 1) := by decide +kernel
theorem dL_reckoned_28 : decode cL_reckoned 28 = .ok (.invokevirtual 65, 3) := by decide +kernel
theorem dL_reckoned_31 : decode cL_reckoned 31 = .ok (.iconst 2, 1) := by decide +kernel
theorem dL_reckoned_32 : decode cL_reckoned 32 = .ok (.if_icmp .ne 19, 3) := by decide +kernel
theorem dL_reckoned_35 : decode cL_reckoned 35 = .ok (.iload 4, 2) := by decide +kernel
theorem dL_reckoned_37 : decode cL_reckoned 37 = .ok (.bipush 105, 2) := by decide +kernel
theorem dL_reckoned_39 : decode cL_reckoned 39 = .ok (.if_icmp .eq 10, 3) := by decide +kernel
theorem dL_reckoned_42 : decode cL_reckoned 42 = .ok (.iload 4, 2) := by decide +kernel
theorem dL_reckoned_44 : decode cL_reckoned 44 = .ok (.bipush 115, 2) := by decide +kernel
theorem dL_reckoned_46 : decode cL_reckoned 46 = .ok (.if_icmp .ne 5, 3) := by decide +kernel
theorem dL_reckoned_49 : decode cL_reckoned 49 = .ok (.iconst 1, 1) := by decide +kernel
theorem dL_reckoned_50 : decode cL_reckoned 50 = .ok (.ireturn, 1) := by decide +kernel
theorem dL_reckoned_51 : decode cL_reckoned 51 = .ok (.iinc 3 1, 3) := by decide +kernel
theorem dL_reckoned_54 : decode cL_reckoned 54 = .ok (.goto (-44), 3) := by decide +kernel
theorem dL_reckoned_57 : decode cL_reckoned 57 = .ok (.aload_n 0, 1) := by decide +kernel
theorem dL_reckoned_58 : decode cL_reckoned 58 = .ok (.iload_n 1, 1) := by decide +kernel
theorem dL_reckoned_59 : decode cL_reckoned 59 = .ok (.invokevirtual 69, 3) := by decide +kernel
theorem dL_reckoned_62 : decode cL_reckoned 62 = .ok (.istore_n 3, 1) := by decide +kernel
theorem dL_reckoned_63 : decode cL_reckoned 63 = .ok (.aload_n 0, 1) := by decide +kernel
theorem dL_reckoned_64 : decode cL_reckoned 64 = .ok (.invokestatic 72, 3) := by decide +kernel
theorem dL_reckoned_67 : decode cL_reckoned 67 = .ok (.istore 4, 2) := by decide +kernel
theorem dL_reckoned_69 : decode cL_reckoned 69 = .ok (.aload_n 0, 1) := by decide +kernel
theorem dL_reckoned_70 : decode cL_reckoned 70 = .ok (.iload_n 1, 1) := by decide +kernel
theorem dL_reckoned_71 : decode cL_reckoned 71 = .ok (.invokevirtual 76, 3) := by decide +kernel
theorem dL_reckoned_74 : decode cL_reckoned 74 = .ok (.iload_n 3, 1) := by decide +kernel
theorem dL_reckoned_75 : decode cL_reckoned 75 = .ok (.if_icmp .ne 29, 3) := by decide +kernel
theorem dL_reckoned_78 : decode cL_reckoned 78 = .ok (.aload_n 0, 1) := by decide +kernel
theorem dL_reckoned_79 : decode cL_reckoned 79 = .ok (.invokestatic 72, 3) := by decide +kernel
theorem dL_reckoned_82 : decode cL_reckoned 82 = .ok (.iload 4, 2) := by decide +kernel
theorem dL_reckoned_84 : decode cL_reckoned 84 = .ok (.if_icmp .ne 20, 3) := by decide +kernel
theorem dL_reckoned_87 : decode cL_reckoned 87 = .ok (.aload_n 0, 1) := by decide +kernel
theorem dL_reckoned_88 : decode cL_reckoned 88 = .ok (.iload_n 1, 1) := by decide +kernel
theorem dL_reckoned_89 : decode cL_reckoned 89 = .ok (.invokevirtual 79, 3) := by decide +kernel
theorem dL_reckoned_92 : decode cL_reckoned 92 = .ok (.iconst 2, 1) := by decide +kernel
theorem dL_reckoned_93 : decode cL_reckoned 93 = .ok (.iload_n 2, 1) := by decide +kernel
theorem dL_reckoned_94 : decode cL_reckoned 94 = .ok (.imul, 1) := by decide +kernel
theorem dL_reckoned_95 : decode cL_reckoned 95 = .ok (.iconst 1, 1) := by decide +kernel
theorem dL_reckoned_96 : decode cL_reckoned 96 = .ok (.isub, 1) := by decide +kernel
theorem dL_reckoned_97 : decode cL_reckoned 97 = .ok (.if_icmp .lt 7, 3) := by decide +kernel
theorem dL_reckoned_100 : decode cL_reckoned 100 = .ok (.iconst 1, 1) := by decide +kernel
theorem dL_reckoned_101 : decode cL_reckoned 101 = .ok (.goto 4, 3) := by decide +kernel
theorem dL_reckoned_104 : decode cL_reckoned 104 = .ok (.iconst 0, 1) := by decide +kernel
theorem dL_reckoned_105 : decode cL_reckoned 105 = .ok (.ireturn, 1) := by decide +kernel
theorem dL_simpler_0 : decode cL_simpler 0 = .ok (.aload_n 0, 1) := by decide +kernel
theorem dL_simpler_1 : decode cL_simpler 1 = .ok (.iload_n 1, 1) := by decide +kernel
theorem dL_simpler_2 : decode cL_simpler 2 = .ok (.invokevirtual 69, 3) := by decide +kernel
theorem dL_simpler_5 : decode cL_simpler 5 = .ok (.istore_n 2, 1) := by decide +kernel
theorem dL_simpler_6 : decode cL_simpler 6 = .ok (.aload_n 0, 1) := by decide +kernel
theorem dL_simpler_7 : decode cL_simpler 7 = .ok (.invokestatic 72, 3) := by decide +kernel
theorem dL_simpler_10 : decode cL_simpler 10 = .ok (.istore_n 3, 1) := by decide +kernel
theorem dL_simpler_11 : decode cL_simpler 11 = .ok (.aload_n 0, 1) := by decide +kernel
theorem dL_simpler_12 : decode cL_simpler 12 = .ok (.iload_n 1, 1) := by decide +kernel
theorem dL_simpler_13 : decode cL_simpler 13 = .ok (.invokevirtual 82, 3) := by decide +kernel
theorem dL_simpler_16 : decode cL_simpler 16 = .ok (.istore 4, 2) := by decide +kernel
theorem dL_simpler_18 : decode cL_simpler 18 = .ok (.iload 4, 2) := by decide +kernel
theorem dL_simpler_20 : decode cL_simpler 20 = .ok (.iload_n 1, 1) := by decide +kernel
theorem dL_simpler_21 : decode cL_simpler 21 = .ok (.if_icmp .ne 28, 3) := by decide +kernel
theorem dL_simpler_24 : decode cL_simpler 24 = .ok (.aload_n 0, 1) := by decide +kernel
theorem dL_simpler_25 : decode cL_simpler 25 = .ok (.iconst 0, 1) := by decide +kernel
theorem dL_simpler_26 : decode cL_simpler 26 = .ok (.iconst 0, 1) := by decide +kernel
theorem dL_simpler_27 : decode cL_simpler 27 = .ok (.invokevirtual 85, 3) := by decide +kernel
theorem dL_simpler_30 : decode cL_simpler 30 = .ok (.iconst (-1), 1) := by decide +kernel
theorem dL_simpler_31 : decode cL_simpler 31 = .ok (.if_icmp .ne 16, 3) := by decide +kernel
theorem dL_simpler_34 : decode cL_simpler 34 = .ok (.aload_n 0, 1) := by decide +kernel
theorem dL_simpler_35 : decode cL_simpler 35 = .ok (.iload_n 1, 1) := by decide +kernel
theorem dL_simpler_36 : decode cL_simpler 36 = .ok (.invokevirtual 88, 3) := by decide +kernel
theorem dL_simpler_39 : decode cL_simpler 39 = .ok (.iconst (-1), 1) := by decide +kernel
theorem dL_simpler_40 : decode cL_simpler 40 = .ok (.if_icmp .ne 7, 3) := by decide +kernel
theorem dL_simpler_43 : decode cL_simpler 43 = .ok (.iconst 1, 1) := by decide +kernel
theorem dL_simpler_44 : decode cL_simpler 44 = .ok (.goto 4, 3) := by decide +kernel
theorem dL_simpler_47 : decode cL_simpler 47 = .ok (.iconst 0, 1) := by decide +kernel
theorem dL_simpler_48 : decode cL_simpler 48 = .ok (.ireturn, 1) := by decide +kernel
theorem dL_simpler_49 : decode cL_simpler 49 = .ok (.aload_n 0, 1) := by decide +kernel
theorem dL_simpler_50 : decode cL_simpler 50 = .ok (.iconst 0, 1) := by decide +kernel
theorem dL_simpler_51 : decode cL_simpler 51 = .ok (.iconst 0, 1) := by decide +kernel
theorem dL_simpler_52 : decode cL_simpler 52 = .ok (.invokevirtual 85, 3) := by decide +kernel
theorem dL_simpler_55 : decode cL_simpler 55 = .ok (.istore 5, 2) := by decide +kernel
theorem dL_simpler_57 : decode cL_simpler 57 = .ok (.aload_n 0, 1) := by decide +kernel
theorem dL_simpler_58 : decode cL_simpler 58 = .ok (.iconst 0, 1) := by decide +kernel
theorem dL_simpler_59 : decode cL_simpler 59 = .ok (.iconst 1, 1) := by decide +kernel
theorem dL_simpler_60 : decode cL_simpler 60 = .ok (.invokevirtual 85, 3) := by decide +kernel
theorem dL_simpler_63 : decode cL_simpler 63 = .ok (.istore 6, 2) := by decide +kernel
theorem dL_simpler_65 : decode cL_simpler 65 = .ok (.iload 5, 2) := by decide +kernel
theorem dL_simpler_67 : decode cL_simpler 67 = .ok (.iconst 1, 1) := by decide +kernel
theorem dL_simpler_68 : decode cL_simpler 68 = .ok (.if_icmp .lt 49, 3) := by decide +kernel
theorem dL_simpler_71 : decode cL_simpler 71 = .ok (.iload 5, 2) := by decide +kernel
theorem dL_simpler_73 : decode cL_simpler 73 = .ok (.bipush 7, 2) := by decide +kernel
theorem dL_simpler_75 : decode cL_simpler 75 = .ok (.if_icmp .gt 42, 3) := by decide +kernel
theorem dL_simpler_78 : decode cL_simpler 78 = .ok (.iload 6, 2) := by decide +kernel
theorem dL_simpler_80 : decode cL_simpler 80 = .ok (.ifCond .lt 37, 3) := by decide +kernel
theorem dL_simpler_83 : decode cL_simpler 83 = .ok (.iload 6, 2) := by decide +kernel
theorem dL_simpler_85 : decode cL_simpler 85 = .ok (.aload_n 0, 1) := by decide +kernel
theorem dL_simpler_86 : decode cL_simpler 86 = .ok (.iload_n 1, 1) := by decide +kernel
theorem dL_simpler_87 : decode cL_simpler 87 = .ok (.iconst 0, 1) := by decide +kernel
theorem dL_simpler_88 : decode cL_simpler 88 = .ok (.iconst 5, 1) := by decide +kernel
theorem dL_simpler_89 : decode cL_simpler 89 = .ok (.invokevirtual 65, 3) := by decide +kernel
theorem dL_simpler_92 : decode cL_simpler 92 = .ok (.if_icmp .ge 25, 3) := by decide +kernel
theorem dL_simpler_95 : decode cL_simpler 95 = .ok (.aload_n 0, 1) := by decide +kernel
theorem dL_simpler_96 : decode cL_simpler 96 = .ok (.iload 4, 2) := by decide +kernel
theorem dL_simpler_98 : decode cL_simpler 98 = .ok (.iconst 0, 1) := by decide +kernel
theorem dL_simpler_99 : decode cL_simpler 99 = .ok (.iconst 5, 1) := by decide +kernel
theorem dL_simpler_100 : decode cL_simpler 100 = .ok (.invokevirtual 65, 3) := by decide +kernel
theorem dL_simpler_103 : decode cL_simpler 103 = .ok (.aload_n 0, 1) := by decide +kernel
theorem dL_simpler_104 : decode cL_simpler 104 = .ok (.iload_n 1, 1) := by decide +kernel
theorem dL_simpler_105 : decode cL_simpler 105 = .ok (.iconst 0, 1) := by decide +kernel
theorem dL_simpler_106 : decode cL_simpler 106 = .ok (.iconst 5, 1) := by decide +kernel
theorem dL_simpler_107 : decode cL_simpler 107 = .ok (.invokevirtual 65, 3) := by decide +kernel
theorem dL_simpler_110 : decode cL_simpler 110 = .ok (.if_icmp .ge 7, 3) := by decide +kernel
theorem dL_simpler_113 : decode cL_simpler 113 = .ok (.iconst 1, 1) := by decide +kernel
theorem dL_simpler_114 : decode cL_simpler 114 = .ok (.goto 4, 3) := by decide +kernel
theorem dL_simpler_117 : decode cL_simpler 117 = .ok (.iconst 0, 1) := by decide +kernel
theorem dL_simpler_118 : decode cL_simpler 118 = .ok (.istore 7, 2) := by decide +kernel
theorem dL_simpler_120 : decode cL_simpler 120 = .ok (.aload_n 0, 1) := by decide +kernel
theorem dL_simpler_121 : decode cL_simpler 121 = .ok (.iload 4, 2) := by decide +kernel
theorem dL_simpler_123 : decode cL_simpler 123 = .ok (.invokevirtual 69, 3) := by decide +kernel
theorem dL_simpler_126 : decode cL_simpler 126 = .ok (.ifCond .ne 7, 3) := by decide +kernel
theorem dL_simpler_129 : decode cL_simpler 129 = .ok (.iconst 1, 1) := by decide +kernel
theorem dL_simpler_130 : decode cL_simpler 130 = .ok (.goto 4, 3) := by decide +kernel
theorem dL_simpler_133 : decode cL_simpler 133 = .ok (.iconst 0, 1) := by decide +kernel
theorem dL_simpler_134 : decode cL_simpler 134 = .ok (.istore 8, 2) := by decide +kernel
theorem dL_simpler_136 : decode cL_simpler 136 = .ok (.iload 7, 2) := by decide +kernel
theorem dL_simpler_138 : decode cL_simpler 138 = .ok (.ifCond .eq 24, 3) := by decide +kernel
theorem dL_simpler_141 : decode cL_simpler 141 = .ok (.iload_n 2, 1) := by decide +kernel
theorem dL_simpler_142 : decode cL_simpler 142 = .ok (.ifCond .ne 16, 3) := by decide +kernel
theorem dL_simpler_145 : decode cL_simpler 145 = .ok (.iload 8, 2) := by decide +kernel
theorem dL_simpler_147 : decode cL_simpler 147 = .ok (.ifCond .eq 11, 3) := by decide +kernel
theorem dL_simpler_150 : decode cL_simpler 150 = .ok (.aload_n 0, 1) := by decide +kernel
theorem dL_simpler_151 : decode cL_simpler 151 = .ok (.invokestatic 72, 3) := by decide +kernel
theorem dL_simpler_154 : decode cL_simpler 154 = .ok (.iload_n 3, 1) := by decide +kernel
theorem dL_simpler_155 : decode cL_simpler 155 = .ok (.if_icmp .ne 7, 3) := by decide +kernel
theorem dL_simpler_158 : decode cL_simpler 158 = .ok (.iconst 1, 1) := by decide +kernel
theorem dL_simpler_159 : decode cL_simpler 159 = .ok (.goto 4, 3) := by decide +kernel
theorem dL_simpler_162 : decode cL_simpler 162 = .ok (.iconst 0, 1) := by decide +kernel
theorem dL_simpler_163 : decode cL_simpler 163 = .ok (.istore 7, 2) := by decide +kernel
theorem dL_simpler_165 : decode cL_simpler 165 = .ok (.aload_n 0, 1) := by decide +kernel
theorem dL_simpler_166 : decode cL_simpler 166 = .ok (.iload_n 1, 1) := by decide +kernel
theorem dL_simpler_167 : decode cL_simpler 167 = .ok (.invokevirtual 88, 3) := by decide +kernel
theorem dL_simpler_170 : decode cL_simpler 170 = .ok (.istore 9, 2) := by decide +kernel
theorem dL_simpler_172 : decode cL_simpler 172 = .ok (.iload 7, 2) := by decide +kernel
theorem dL_simpler_174 : decode cL_simpler 174 = .ok (.ifCond .eq 50, 3) := by decide +kernel
theorem dL_simpler_177 : decode cL_simpler 177 = .ok (.aload_n 0, 1) := by decide +kernel
theorem dL_simpler_178 : decode cL_simpler 178 = .ok (.iconst 0, 1) := by decide +kernel
theorem dL_simpler_179 : decode cL_simpler 179 = .ok (.iconst 0, 1) := by decide +kernel
theorem dL_simpler_180 : decode cL_simpler 180 = .ok (.invokevirtual 85, 3) := by decide +kernel
theorem dL_simpler_183 : decode cL_simpler 183 = .ok (.iload 5, 2) := by decide +kernel
theorem dL_simpler_185 : decode cL_simpler 185 = .ok (.if_icmp .ne 39, 3) := by decide +kernel
theorem dL_simpler_188 : decode cL_simpler 188 = .ok (.aload_n 0, 1) := by decide +kernel
theorem dL_simpler_189 : decode cL_simpler 189 = .ok (.iconst 0, 1) := by decide +kernel
theorem dL_simpler_190 : decode cL_simpler 190 = .ok (.iconst 1, 1) := by decide +kernel
theorem dL_simpler_191 : decode cL_simpler 191 = .ok (.invokevirtual 85, 3) := by decide +kernel
theorem dL_simpler_194 : decode cL_simpler 194 = .ok (.iload 6, 2) := by decide +kernel
theorem dL_simpler_196 : decode cL_simpler 196 = .ok (.if_icmp .ne 28, 3) := by decide +kernel
theorem dL_simpler_199 : decode cL_simpler 199 = .ok (.aload_n 0, 1) := by decide +kernel
theorem dL_simpler_200 : decode cL_simpler 200 = .ok (.iconst 1, 1) := by decide +kernel
theorem dL_simpler_201 : decode cL_simpler 201 = .ok (.iconst 0, 1) := by decide +kernel
theorem dL_simpler_202 : decode cL_simpler 202 = .ok (.invokevirtual 85, 3) := by decide +kernel
theorem dL_simpler_205 : decode cL_simpler 205 = .ok (.iconst (-1), 1) := by decide +kernel
theorem dL_simpler_206 : decode cL_simpler 206 = .ok (.if_icmp .ne 18, 3) := by decide +kernel
theorem dL_simpler_209 : decode cL_simpler 209 = .ok (.aload_n 0, 1) := by decide +kernel
theorem dL_simpler_210 : decode cL_simpler 210 = .ok (.iload 4, 2) := by decide +kernel
theorem dL_simpler_212 : decode cL_simpler 212 = .ok (.invokevirtual 82, 3) := by decide +kernel
theorem dL_simpler_215 : decode cL_simpler 215 = .ok (.iload 4, 2) := by decide +kernel
theorem dL_simpler_217 : decode cL_simpler 217 = .ok (.if_icmp .ne 7, 3) := by decide +kernel
theorem dL_simpler_220 : decode cL_simpler 220 = .ok (.iconst 1, 1) := by decide +kernel
theorem dL_simpler_221 : decode cL_simpler 221 = .ok (.goto 4, 3) := by decide +kernel
theorem dL_simpler_224 : decode cL_simpler 224 = .ok (.iconst 0, 1) := by decide +kernel
theorem dL_simpler_225 : decode cL_simpler 225 = .ok (.istore 7, 2) := by decide +kernel
theorem dL_simpler_227 : decode cL_simpler 227 = .ok (.aload_n 0, 1) := by decide +kernel
theorem dL_simpler_228 : decode cL_simpler 228 = .ok (.iload 9, 2) := by decide +kernel
theorem dL_simpler_230 : decode cL_simpler 230 = .ok (.invokevirtual 82, 3) := by decide +kernel
theorem dL_simpler_233 : decode cL_simpler 233 = .ok (.istore 10, 2) := by decide +kernel
theorem dL_simpler_235 : decode cL_simpler 235 = .ok (.iload 7, 2) := by decide +kernel
theorem dL_simpler_237 : decode cL_simpler 237 = .ok (.ifCond .eq 32, 3) := by decide +kernel
theorem dL_simpler_240 : decode cL_simpler 240 = .ok (.aload_n 0, 1) := by decide +kernel
theorem dL_simpler_241 : decode cL_simpler 241 = .ok (.iload 10, 2) := by decide +kernel
theorem dL_simpler_243 : decode cL_simpler 243 = .ok (.iload 4, 2) := by decide +kernel
theorem dL_simpler_245 : decode cL_simpler 245 = .ok (.invokevirtual 58, 3) := by decide +kernel
theorem dL_simpler_248 : decode cL_simpler 248 = .ok (.ifCond .eq 21, 3) := by decide +kernel
theorem dL_simpler_251 : decode cL_simpler 251 = .ok (.iload 10, 2) := by decide +kernel
theorem dL_simpler_253 : decode cL_simpler 253 = .ok (.iload 9, 2) := by decide +kernel
theorem dL_simpler_255 : decode cL_simpler 255 = .ok (.if_icmp .eq 10, 3) := by decide +kernel
theorem dL_simpler_258 : decode cL_simpler 258 = .ok (.aload_n 0, 1) := by decide +kernel
theorem dL_simpler_259 : decode cL_simpler 259 = .ok (.invokevirtual 62, 3) := by decide +kernel
theorem dL_simpler_262 : decode cL_simpler 262 = .ok (.ifCond .ne 7, 3) := by decide +kernel
theorem dL_simpler_265 : decode cL_simpler 265 = .ok (.iconst 1, 1) := by decide +kernel
theorem dL_simpler_266 : decode cL_simpler 266 = .ok (.goto 4, 3) := by decide +kernel
theorem dL_simpler_269 : decode cL_simpler 269 = .ok (.iconst 0, 1) := by decide +kernel
theorem dL_simpler_270 : decode cL_simpler 270 = .ok (.istore 7, 2) := by decide +kernel
theorem dL_simpler_272 : decode cL_simpler 272 = .ok (.iload 7, 2) := by decide +kernel
theorem dL_simpler_274 : decode cL_simpler 274 = .ok (.ifCond .eq 21, 3) := by decide +kernel
theorem dL_simpler_277 : decode cL_simpler 277 = .ok (.aload_n 0, 1) := by decide +kernel
theorem dL_simpler_278 : decode cL_simpler 278 = .ok (.invokevirtual 62, 3) := by decide +kernel
theorem dL_simpler_281 : decode cL_simpler 281 = .ok (.ifCond .ne 14, 3) := by decide +kernel
theorem dL_simpler_284 : decode cL_simpler 284 = .ok (.aload_n 0, 1) := by decide +kernel
theorem dL_simpler_285 : decode cL_simpler 285 = .ok (.invokevirtual 62, 3) := by decide +kernel
theorem dL_simpler_288 : decode cL_simpler 288 = .ok (.ifCond .ne 7, 3) := by decide +kernel
theorem dL_simpler_291 : decode cL_simpler 291 = .ok (.iconst 1, 1) := by decide +kernel
theorem dL_simpler_292 : decode cL_simpler 292 = .ok (.goto 4, 3) := by decide +kernel
theorem dL_simpler_295 : decode cL_simpler 295 = .ok (.iconst 0, 1) := by decide +kernel
theorem dL_simpler_296 : decode cL_simpler 296 = .ok (.ireturn, 1) := by decide +kernel
theorem dL_sound_0 : decode cL_sound 0 = .ok (.aload_n 0, 1) := by decide +kernel
theorem dL_sound_1 : decode cL_sound 1 = .ok (.iload_n 1, 1) := by decide +kernel
theorem dL_sound_2 : decode cL_sound 2 = .ok (.iconst 0, 1) := by decide +kernel
theorem dL_sound_3 : decode cL_sound 3 = .ok (.iconst 4, 1) := by decide +kernel
theorem dL_sound_4 : decode cL_sound 4 = .ok (.invokevirtual 65, 3) := by decide +kernel
theorem dL_sound_7 : decode cL_sound 7 = .ok (.iconst (-1), 1) := by decide +kernel
theorem dL_sound_8 : decode cL_sound 8 = .ok (.if_icmp .ne 16, 3) := by decide +kernel
theorem dL_sound_11 : decode cL_sound 11 = .ok (.aload_n 0, 1) := by decide +kernel
theorem dL_sound_12 : decode cL_sound 12 = .ok (.iload_n 1, 1) := by decide +kernel
theorem dL_sound_13 : decode cL_sound 13 = .ok (.iload_n 1, 1) := by decide +kernel
theorem dL_sound_14 : decode cL_sound 14 = .ok (.invokevirtual 58, 3) := by decide +kernel
theorem dL_sound_17 : decode cL_sound 17 = .ok (.ifCond .eq 7, 3) := by decide +kernel
theorem dL_sound_20 : decode cL_sound 20 = .ok (.iconst 1, 1) := by decide +kernel
theorem dL_sound_21 : decode cL_sound 21 = .ok (.goto 4, 3) := by decide +kernel
theorem dL_sound_24 : decode cL_sound 24 = .ok (.iconst 0, 1) := by decide +kernel
theorem dL_sound_25 : decode cL_sound 25 = .ok (.istore_n 2, 1) := by decide +kernel
theorem dL_sound_26 : decode cL_sound 26 = .ok (.aload_n 0, 1) := by decide +kernel
theorem dL_sound_27 : decode cL_sound 27 = .ok (.iload_n 1, 1) := by decide +kernel
theorem dL_sound_28 : decode cL_sound 28 = .ok (.iconst 0, 1) := by decide +kernel
theorem dL_sound_29 : decode cL_sound 29 = .ok (.iconst 5, 1) := by decide +kernel
theorem dL_sound_30 : decode cL_sound 30 = .ok (.invokevirtual 65, 3) := by decide +kernel
theorem dL_sound_33 : decode cL_sound 33 = .ok (.istore_n 3, 1) := by decide +kernel
theorem dL_sound_34 : decode cL_sound 34 = .ok (.iconst 0, 1) := by decide +kernel
theorem dL_sound_35 : decode cL_sound 35 = .ok (.istore 4, 2) := by decide +kernel
theorem dL_sound_37 : decode cL_sound 37 = .ok (.iconst 0, 1) := by decide +kernel
theorem dL_sound_38 : decode cL_sound 38 = .ok (.istore 5, 2) := by decide +kernel
theorem dL_sound_40 : decode cL_sound 40 = .ok (.iload 5, 2) := by decide +kernel
theorem dL_sound_42 : decode cL_sound 42 = .ok (.iload_n 3, 1) := by decide +kernel
theorem dL_sound_43 : decode cL_sound 43 = .ok (.if_icmp .ge 57, 3) := by decide +kernel
theorem dL_sound_46 : decode cL_sound 46 = .ok (.iload_n 2, 1) := by decide +kernel
theorem dL_sound_47 : decode cL_sound 47 = .ok (.ifCond .eq 53, 3) := by decide +kernel
theorem dL_sound_50 : decode cL_sound 50 = .ok (.iload 4, 2) := by decide +kernel
theorem dL_sound_52 : decode cL_sound 52 = .ok (.aload_n 0, 1) := by decide +kernel
theorem dL_sound_53 : decode cL_sound 53 = .ok (.iload_n 1, 1) := by decide +kernel
theorem dL_sound_54 : decode cL_sound 54 = .ok (.iload 5, 2) := by decide +kernel
theorem dL_sound_56 : decode cL_sound 56 = .ok (.iconst 3, 1) := by decide +kernel
theorem dL_sound_57 : decode cL_sound 57 = .ok (.invokevirtual 65, 3) := by decide +kernel
theorem dL_sound_60 : decode cL_sound 60 = .ok (.iadd, 1) := by decide +kernel
theorem dL_sound_61 : decode cL_sound 61 = .ok (.istore 4, 2) := by decide +kernel
theorem dL_sound_63 : decode cL_sound 63 = .ok (.aload_n 0, 1) := by decide +kernel
theorem dL_sound_64 : decode cL_sound 64 = .ok (.iload_n 1, 1) := by decide +kernel
theorem dL_sound_65 : decode cL_sound 65 = .ok (.iload 5, 2) := by decide +kernel
theorem dL_sound_67 : decode cL_sound 67 = .ok (.iconst 4, 1) := by decide +kernel
theorem dL_sound_68 : decode cL_sound 68 = .ok (.invokevirtual 65, 3) := by decide +kernel
theorem dL_sound_71 : decode cL_sound 71 = .ok (.iload 5, 2) := by decide +kernel
theorem dL_sound_73 : decode cL_sound 73 = .ok (.if_icmp .ge 19, 3) := by decide +kernel
theorem dL_sound_76 : decode cL_sound 76 = .ok (.aload_n 0, 1) := by decide +kernel
theorem dL_sound_77 : decode cL_sound 77 = .ok (.iload_n 1, 1) := by decide +kernel
theorem dL_sound_78 : decode cL_sound 78 = .ok (.iload 5, 2) := by decide +kernel
theorem dL_sound_80 : decode cL_sound 80 = .ok (.iconst 5, 1) := by decide +kernel
theorem dL_sound_81 : decode cL_sound 81 = .ok (.invokevirtual 65, 3) := by decide +kernel
theorem dL_sound_84 : decode cL_sound 84 = .ok (.iconst 1, 1) := by decide +kernel
theorem dL_sound_85 : decode cL_sound 85 = .ok (.if_icmp .lt 7, 3) := by decide +kernel
theorem dL_sound_88 : decode cL_sound 88 = .ok (.iconst 1, 1) := by decide +kernel
theorem dL_sound_89 : decode cL_sound 89 = .ok (.goto 4, 3) := by decide +kernel
theorem dL_sound_92 : decode cL_sound 92 = .ok (.iconst 0, 1) := by decide +kernel
theorem dL_sound_93 : decode cL_sound 93 = .ok (.istore_n 2, 1) := by decide +kernel
theorem dL_sound_94 : decode cL_sound 94 = .ok (.iinc 5 1, 3) := by decide +kernel
theorem dL_sound_97 : decode cL_sound 97 = .ok (.goto (-57), 3) := by decide +kernel
theorem dL_sound_100 : decode cL_sound 100 = .ok (.iload_n 2, 1) := by decide +kernel
theorem dL_sound_101 : decode cL_sound 101 = .ok (.ifCond .eq 15, 3) := by decide +kernel
theorem dL_sound_104 : decode cL_sound 104 = .ok (.iload 4, 2) := by decide +kernel
theorem dL_sound_106 : decode cL_sound 106 = .ok (.iload_n 3, 1) := by decide +kernel
theorem dL_sound_107 : decode cL_sound 107 = .ok (.iconst 1, 1) := by decide +kernel
theorem dL_sound_108 : decode cL_sound 108 = .ok (.isub, 1) := by decide +kernel
theorem dL_sound_109 : decode cL_sound 109 = .ok (.if_icmp .ne 7, 3) := by decide +kernel
theorem dL_sound_112 : decode cL_sound 112 = .ok (.iconst 1, 1) := by decide +kernel
theorem dL_sound_113 : decode cL_sound 113 = .ok (.goto 4, 3) := by decide +kernel
theorem dL_sound_116 : decode cL_sound 116 = .ok (.iconst 0, 1) := by decide +kernel
theorem dL_sound_117 : decode cL_sound 117 = .ok (.istore_n 2, 1) := by decide +kernel
theorem dL_sound_118 : decode cL_sound 118 = .ok (.iconst 0, 1) := by decide +kernel
theorem dL_sound_119 : decode cL_sound 119 = .ok (.istore 5, 2) := by decide +kernel
theorem dL_sound_121 : decode cL_sound 121 = .ok (.iload 5, 2) := by decide +kernel
theorem dL_sound_123 : decode cL_sound 123 = .ok (.iconst 4, 1) := by decide +kernel
theorem dL_sound_124 : decode cL_sound 124 = .ok (.if_icmp .ge 21, 3) := by decide +kernel
theorem dL_sound_127 : decode cL_sound 127 = .ok (.iload_n 2, 1) := by decide +kernel
theorem dL_sound_128 : decode cL_sound 128 = .ok (.ifCond .eq 17, 3) := by decide +kernel
theorem dL_sound_131 : decode cL_sound 131 = .ok (.aload_n 0, 1) := by decide +kernel
theorem dL_sound_132 : decode cL_sound 132 = .ok (.iload 5, 2) := by decide +kernel
theorem dL_sound_134 : decode cL_sound 134 = .ok (.iload_n 1, 1) := by decide +kernel
theorem dL_sound_135 : decode cL_sound 135 = .ok (.invokevirtual 91, 3) := by decide +kernel
theorem dL_sound_138 : decode cL_sound 138 = .ok (.istore_n 2, 1) := by decide +kernel
theorem dL_sound_139 : decode cL_sound 139 = .ok (.iinc 5 1, 3) := by decide +kernel
theorem dL_sound_142 : decode cL_sound 142 = .ok (.goto (-21), 3) := by decide +kernel
theorem dL_sound_145 : decode cL_sound 145 = .ok (.iload_n 2, 1) := by decide +kernel
theorem dL_sound_146 : decode cL_sound 146 = .ok (.ifCond .eq 31, 3) := by decide +kernel
theorem dL_sound_149 : decode cL_sound 149 = .ok (.aload_n 0, 1) := by decide +kernel
theorem dL_sound_150 : decode cL_sound 150 = .ok (.iload_n 1, 1) := by decide +kernel
theorem dL_sound_151 : decode cL_sound 151 = .ok (.invokestatic 94, 3) := by decide +kernel
theorem dL_sound_154 : decode cL_sound 154 = .ok (.ifCond .eq 23, 3) := by decide +kernel
theorem dL_sound_157 : decode cL_sound 157 = .ok (.aload_n 0, 1) := by decide +kernel
theorem dL_sound_158 : decode cL_sound 158 = .ok (.iload_n 1, 1) := by decide +kernel
theorem dL_sound_159 : decode cL_sound 159 = .ok (.invokestatic 98, 3) := by decide +kernel
theorem dL_sound_162 : decode cL_sound 162 = .ok (.ifCond .eq 15, 3) := by decide +kernel
theorem dL_sound_165 : decode cL_sound 165 = .ok (.aload_n 0, 1) := by decide +kernel
theorem dL_sound_166 : decode cL_sound 166 = .ok (.iload_n 1, 1) := by decide +kernel
theorem dL_sound_167 : decode cL_sound 167 = .ok (.invokestatic 101, 3) := by decide +kernel
theorem dL_sound_170 : decode cL_sound 170 = .ok (.ifCond .eq 7, 3) := by decide +kernel
theorem dL_sound_173 : decode cL_sound 173 = .ok (.iconst 1, 1) := by decide +kernel
theorem dL_sound_174 : decode cL_sound 174 = .ok (.goto 4, 3) := by decide +kernel
theorem dL_sound_177 : decode cL_sound 177 = .ok (.iconst 0, 1) := by decide +kernel
theorem dL_sound_178 : decode cL_sound 178 = .ok (.ireturn, 1) := by decide +kernel
theorem dL_law_0 : decode cL_law 0 = .ok (.new 10, 3) := by decide +kernel
theorem dL_law_3 : decode cL_law 3 = .ok (.dup, 1) := by decide +kernel
theorem dL_law_4 : decode cL_law 4 = .ok (.invokespecial 104, 3) := by decide +kernel
theorem dL_law_7 : decode cL_law 7 = .ok (.astore_n 1, 1) := by decide +kernel
theorem dL_law_8 : decode cL_law 8 = .ok (.iconst 1, 1) := by decide +kernel
theorem dL_law_9 : decode cL_law 9 = .ok (.istore_n 2, 1) := by decide +kernel
theorem dL_law_10 : decode cL_law 10 = .ok (.bipush 60, 2) := by decide +kernel
theorem dL_law_12 : decode cL_law 12 = .ok (.newarray .int, 2) := by decide +kernel
theorem dL_law_14 : decode cL_law 14 = .ok (.astore_n 3, 1) := by decide +kernel
theorem dL_law_15 : decode cL_law 15 = .ok (.iconst 0, 1) := by decide +kernel
theorem dL_law_16 : decode cL_law 16 = .ok (.istore 4, 2) := by decide +kernel
theorem dL_law_18 : decode cL_law 18 = .ok (.iload 4, 2) := by decide +kernel
theorem dL_law_20 : decode cL_law 20 = .ok (.iconst 3, 1) := by decide +kernel
theorem dL_law_21 : decode cL_law 21 = .ok (.if_icmp .ge 117, 3) := by decide +kernel
theorem dL_law_24 : decode cL_law 24 = .ok (.aload_n 0, 1) := by decide +kernel
theorem dL_law_25 : decode cL_law 25 = .ok (.iload 4, 2) := by decide +kernel
theorem dL_law_27 : decode cL_law 27 = .ok (.invokestatic 34, 3) := by decide +kernel
theorem dL_law_30 : decode cL_law 30 = .ok (.istore 5, 2) := by decide +kernel
theorem dL_law_32 : decode cL_law 32 = .ok (.iload 5, 2) := by decide +kernel
theorem dL_law_34 : decode cL_law 34 = .ok (.iconst 3, 1) := by decide +kernel
theorem dL_law_35 : decode cL_law 35 = .ok (.invokestatic 38, 3) := by decide +kernel
theorem dL_law_38 : decode cL_law 38 = .ok (.ifCond .le 94, 3) := by decide +kernel
theorem dL_law_41 : decode cL_law 41 = .ok (.aload_n 1, 1) := by decide +kernel
theorem dL_law_42 : decode cL_law 42 = .ok (.bipush 48, 2) := by decide +kernel
theorem dL_law_44 : decode cL_law 44 = .ok (.iload 5, 2) := by decide +kernel
theorem dL_law_46 : decode cL_law 46 = .ok (.iconst 2, 1) := by decide +kernel
theorem dL_law_47 : decode cL_law 47 = .ok (.ishr, 1) := by decide +kernel
theorem dL_law_48 : decode cL_law 48 = .ok (.bipush 10, 2) := by decide +kernel
theorem dL_law_50 : decode cL_law 50 = .ok (.invokestatic 38, 3) := by decide +kernel
theorem dL_law_53 : decode cL_law 53 = .ok (.iadd, 1) := by decide +kernel
theorem dL_law_54 : decode cL_law 54 = .ok (.i2c, 1) := by decide +kernel
theorem dL_law_55 : decode cL_law 55 = .ok (.invokevirtual 30, 3) := by decide +kernel
theorem dL_law_58 : decode cL_law 58 = .ok (.pop, 1) := by decide +kernel
theorem dL_law_59 : decode cL_law 59 = .ok (.aload_n 1, 1) := by decide +kernel
theorem dL_law_60 : decode cL_law 60 = .ok (.bipush 47, 2) := by decide +kernel
theorem dL_law_62 : decode cL_law 62 = .ok (.invokevirtual 30, 3) := by decide +kernel
theorem dL_law_65 : decode cL_law 65 = .ok (.pop, 1) := by decide +kernel
theorem dL_law_66 : decode cL_law 66 = .ok (.aload_n 1, 1) := by decide +kernel
theorem dL_law_67 : decode cL_law 67 = .ok (.bipush 49, 2) := by decide +kernel
theorem dL_law_69 : decode cL_law 69 = .ok (.iload 5, 2) := by decide +kernel
theorem dL_law_71 : decode cL_law 71 = .ok (.bipush 6, 2) := by decide +kernel
theorem dL_law_73 : decode cL_law 73 = .ok (.ishr, 1) := by decide +kernel
theorem dL_law_74 : decode cL_law 74 = .ok (.bipush 9, 2) := by decide +kernel
theorem dL_law_76 : decode cL_law 76 = .ok (.invokestatic 38, 3) := by decide +kernel
theorem dL_law_79 : decode cL_law 79 = .ok (.iadd, 1) := by decide +kernel
theorem dL_law_80 : decode cL_law 80 = .ok (.i2c, 1) := by decide +kernel
theorem dL_law_81 : decode cL_law 81 = .ok (.invokevirtual 30, 3) := by decide +kernel
theorem dL_law_84 : decode cL_law 84 = .ok (.pop, 1) := by decide +kernel
theorem dL_law_85 : decode cL_law 85 = .ok (.iload_n 2, 1) := by decide +kernel
theorem dL_law_86 : decode cL_law 86 = .ok (.ifCond .eq 44, 3) := by decide +kernel
theorem dL_law_89 : decode cL_law 89 = .ok (.aload_n 1, 1) := by decide +kernel
theorem dL_law_90 : decode cL_law 90 = .ok (.bipush 120, 2) := by decide +kernel
theorem dL_law_92 : decode cL_law 92 = .ok (.iload 4, 2) := by decide +kernel
theorem dL_law_94 : decode cL_law 94 = .ok (.iadd, 1) := by decide +kernel
theorem dL_law_95 : decode cL_law 95 = .ok (.i2c, 1) := by decide +kernel
theorem dL_law_96 : decode cL_law 96 = .ok (.aload_n 1, 1) := by decide +kernel
theorem dL_law_97 : decode cL_law 97 = .ok (.invokevirtual 55, 3) := by decide +kernel
theorem dL_law_100 : decode cL_law 100 = .ok (.invokevirtual 105, 3) := by decide +kernel
theorem dL_law_103 : decode cL_law 103 = .ok (.ifCond .ne 27, 3) := by decide +kernel
theorem dL_law_106 : decode cL_law 106 = .ok (.aload_n 1, 1) := by decide +kernel
theorem dL_law_107 : decode cL_law 107 = .ok (.bipush 120, 2) := by decide +kernel
theorem dL_law_109 : decode cL_law 109 = .ok (.iload 4, 2) := by decide +kernel
theorem dL_law_111 : decode cL_law 111 = .ok (.iadd, 1) := by decide +kernel
theorem dL_law_112 : decode cL_law 112 = .ok (.i2c, 1) := by decide +kernel
theorem dL_law_113 : decode cL_law 113 = .ok (.invokevirtual 109, 3) := by decide +kernel
theorem dL_law_116 : decode cL_law 116 = .ok (.ifCond .eq 14, 3) := by decide +kernel
theorem dL_law_119 : decode cL_law 119 = .ok (.aload_n 1, 1) := by decide +kernel
theorem dL_law_120 : decode cL_law 120 = .ok (.invokevirtual 113, 3) := by decide +kernel
theorem dL_law_123 : decode cL_law 123 = .ok (.ifCond .le 7, 3) := by decide +kernel
theorem dL_law_126 : decode cL_law 126 = .ok (.iconst 1, 1) := by decide +kernel
theorem dL_law_127 : decode cL_law 127 = .ok (.goto 4, 3) := by decide +kernel
theorem dL_law_130 : decode cL_law 130 = .ok (.iconst 0, 1) := by decide +kernel
theorem dL_law_131 : decode cL_law 131 = .ok (.istore_n 2, 1) := by decide +kernel
theorem dL_law_132 : decode cL_law 132 = .ok (.iinc 4 1, 3) := by decide +kernel
theorem dL_law_135 : decode cL_law 135 = .ok (.goto (-117), 3) := by decide +kernel
theorem dL_law_138 : decode cL_law 138 = .ok (.iconst 0, 1) := by decide +kernel
theorem dL_law_139 : decode cL_law 139 = .ok (.istore 4, 2) := by decide +kernel
theorem dL_law_141 : decode cL_law 141 = .ok (.iload 4, 2) := by decide +kernel
theorem dL_law_143 : decode cL_law 143 = .ok (.iconst 3, 1) := by decide +kernel
theorem dL_law_144 : decode cL_law 144 = .ok (.if_icmp .ge 220, 3) := by decide +kernel
theorem dL_law_147 : decode cL_law 147 = .ok (.aload_n 0, 1) := by decide +kernel
theorem dL_law_148 : decode cL_law 148 = .ok (.iconst 4, 1) := by decide +kernel
theorem dL_law_149 : decode cL_law 149 = .ok (.iload 4, 2) := by decide +kernel
theorem dL_law_151 : decode cL_law 151 = .ok (.iadd, 1) := by decide +kernel
theorem dL_law_152 : decode cL_law 152 = .ok (.invokestatic 34, 3) := by decide +kernel
theorem dL_law_155 : decode cL_law 155 = .ok (.istore 5, 2) := by decide +kernel
theorem dL_law_157 : decode cL_law 157 = .ok (.iload 5, 2) := by decide +kernel
theorem dL_law_159 : decode cL_law 159 = .ok (.iconst 3, 1) := by decide +kernel
theorem dL_law_160 : decode cL_law 160 = .ok (.invokestatic 38, 3) := by decide +kernel
theorem dL_law_163 : decode cL_law 163 = .ok (.istore 6, 2) := by decide +kernel
theorem dL_law_165 : decode cL_law 165 = .ok (.iload 5, 2) := by decide +kernel
theorem dL_law_167 : decode cL_law 167 = .ok (.iconst 2, 1) := by decide +kernel
theorem dL_law_168 : decode cL_law 168 = .ok (.ishr, 1) := by decide +kernel
theorem dL_law_169 : decode cL_law 169 = .ok (.bipush 16, 2) := by decide +kernel
theorem dL_law_171 : decode cL_law 171 = .ok (.invokestatic 38, 3) := by decide +kernel
theorem dL_law_174 : decode cL_law 174 = .ok (.invokestatic 16, 3) := by decide +kernel
theorem dL_law_177 : decode cL_law 177 = .ok (.istore 7, 2) := by decide +kernel
theorem dL_law_179 : decode cL_law 179 = .ok (.iconst 1, 1) := by decide +kernel
theorem dL_law_180 : decode cL_law 180 = .ok (.iload 5, 2) := by decide +kernel
theorem dL_law_182 : decode cL_law 182 = .ok (.bipush 6, 2) := by decide +kernel
theorem dL_law_184 : decode cL_law 184 = .ok (.ishr, 1) := by decide +kernel
theorem dL_law_185 : decode cL_law 185 = .ok (.bipush 9, 2) := by decide +kernel
theorem dL_law_187 : decode cL_law 187 = .ok (.invokestatic 38, 3) := by decide +kernel
theorem dL_law_190 : decode cL_law 190 = .ok (.iadd, 1) := by decide +kernel
theorem dL_law_191 : decode cL_law 191 = .ok (.istore 8, 2) := by decide +kernel
theorem dL_law_193 : decode cL_law 193 = .ok (.iload 6, 2) := by decide +kernel
theorem dL_law_195 : decode cL_law 195 = .ok (.iconst 2, 1) := by decide +kernel
theorem dL_law_196 : decode cL_law 196 = .ok (.if_icmp .ne 15, 3) := by decide +kernel
theorem dL_law_199 : decode cL_law 199 = .ok (.iload 5, 2) := by decide +kernel
theorem dL_law_201 : decode cL_law 201 = .ok (.bipush 10, 2) := by decide +kernel
theorem dL_law_203 : decode cL_law 203 = .ok (.ishr, 1) := by decide +kernel
theorem dL_law_204 : decode cL_law 204 = .ok (.iconst 3, 1) := by decide +kernel
theorem dL_law_205 : decode cL_law 205 = .ok (.invokestatic 38, 3) := by decide +kernel
theorem dL_law_208 : decode cL_law 208 = .ok (.goto 4, 3) := by decide +kernel
theorem dL_law_211 : decode cL_law 211 = .ok (.iconst 0, 1) := by decide +kernel
theorem dL_law_212 : decode cL_law 212 = .ok (.istore 9, 2) := by decide +kernel
theorem dL_law_214 : decode cL_law 214 = .ok (.iload 6, 2) := by decide +kernel
theorem dL_law_216 : decode cL_law 216 = .ok (.iconst 2, 1) := by decide +kernel
theorem dL_law_217 : decode cL_law 217 = .ok (.if_icmp .ne 16, 3) := by decide +kernel
theorem dL_law_220 : decode cL_law 220 = .ok (.iload 5, 2) := by decide +kernel
theorem dL_law_222 : decode cL_law 222 = .ok (.bipush 12, 2) := by decide +kernel
theorem dL_law_224 : decode cL_law 224 = .ok (.ishr, 1) := by decide +kernel
theorem dL_law_225 : decode cL_law 225 = .ok (.bipush 11, 2) := by decide +kernel
theorem dL_law_227 : decode cL_law 227 = .ok (.invokestatic 38, 3) := by decide +kernel
theorem dL_law_230 : decode cL_law 230 = .ok (.goto 15, 3) := by decide +kernel
theorem dL_law_233 : decode cL_law 233 = .ok (.bipush 11, 2) := by decide +kernel
theorem dL_law_235 : decode cL_law 235 = .ok (.iload 5, 2) := by decide +kernel
theorem dL_law_237 : decode cL_law 237 = .ok (.bipush 12, 2) := by decide +kernel
theorem dL_law_239 : decode cL_law 239 = .ok (.ishr, 1) := by decide +kernel
theorem dL_law_240 : decode cL_law 240 = .ok (.iconst 3, 1) := by decide +kernel
theorem dL_law_241 : decode cL_law 241 = .ok (.invokestatic 38, 3) := by decide +kernel
theorem dL_law_244 : decode cL_law 244 = .ok (.iadd, 1) := by decide +kernel
theorem dL_law_245 : decode cL_law 245 = .ok (.istore 10, 2) := by decide +kernel
theorem dL_law_247 : decode cL_law 247 = .ok (.aload_n 1, 1) := by decide +kernel
theorem dL_law_248 : decode cL_law 248 = .ok (.iload 7, 2) := by decide +kernel
theorem dL_law_250 : decode cL_law 250 = .ok (.iload 6, 2) := by decide +kernel
theorem dL_law_252 : decode cL_law 252 = .ok (.iconst 0, 1) := by decide +kernel
theorem dL_law_253 : decode cL_law 253 = .ok (.invokevirtual 12, 3) := by decide +kernel
theorem dL_law_256 : decode cL_law 256 = .ok (.istore 11, 2) := by decide +kernel
theorem dL_law_258 : decode cL_law 258 = .ok (.aload_n 1, 1) := by decide +kernel
theorem dL_law_259 : decode cL_law 259 = .ok (.iload 7, 2) := by decide +kernel
theorem dL_law_261 : decode cL_law 261 = .ok (.iload 6, 2) := by decide +kernel
theorem dL_law_263 : decode cL_law 263 = .ok (.iload 8, 2) := by decide +kernel
theorem dL_law_265 : decode cL_law 265 = .ok (.iload 9, 2) := by decide +kernel
theorem dL_law_267 : decode cL_law 267 = .ok (.invokestatic 116, 3) := by decide +kernel
theorem dL_law_270 : decode cL_law 270 = .ok (.ifCond .eq 88, 3) := by decide +kernel
theorem dL_law_273 : decode cL_law 273 = .ok (.aload_n 1, 1) := by decide +kernel
theorem dL_law_274 : decode cL_law 274 = .ok (.iload 7, 2) := by decide +kernel
theorem dL_law_276 : decode cL_law 276 = .ok (.iload 6, 2) := by decide +kernel
theorem dL_law_278 : decode cL_law 278 = .ok (.iload 8, 2) := by decide +kernel
theorem dL_law_280 : decode cL_law 280 = .ok (.iload 9, 2) := by decide +kernel
theorem dL_law_282 : decode cL_law 282 = .ok (.iload 10, 2) := by decide +kernel
theorem dL_law_284 : decode cL_law 284 = .ok (.invokevirtual 120, 3) := by decide +kernel
theorem dL_law_287 : decode cL_law 287 = .ok (.istore 12, 2) := by decide +kernel
theorem dL_law_289 : decode cL_law 289 = .ok (.iload_n 2, 1) := by decide +kernel
theorem dL_law_290 : decode cL_law 290 = .ok (.ifCond .eq 66, 3) := by decide +kernel
theorem dL_law_293 : decode cL_law 293 = .ok (.iload 12, 2) := by decide +kernel
theorem dL_law_295 : decode cL_law 295 = .ok (.iload 11, 2) := by decide +kernel
theorem dL_law_297 : decode cL_law 297 = .ok (.iconst (-1), 1) := by decide +kernel
theorem dL_law_298 : decode cL_law 298 = .ok (.if_icmp .ne 7, 3) := by decide +kernel
theorem dL_law_301 : decode cL_law 301 = .ok (.iconst 0, 1) := by decide +kernel
theorem dL_law_302 : decode cL_law 302 = .ok (.goto 5, 3) := by decide +kernel
theorem dL_law_305 : decode cL_law 305 = .ok (.iload 11, 2) := by decide +kernel
theorem dL_law_307 : decode cL_law 307 = .ok (.if_icmp .ne 49, 3) := by decide +kernel
theorem dL_law_310 : decode cL_law 310 = .ok (.aload_n 1, 1) := by decide +kernel
theorem dL_law_311 : decode cL_law 311 = .ok (.iload 7, 2) := by decide +kernel
theorem dL_law_313 : decode cL_law 313 = .ok (.iload 6, 2) := by decide +kernel
theorem dL_law_315 : decode cL_law 315 = .ok (.iconst 0, 1) := by decide +kernel
theorem dL_law_316 : decode cL_law 316 = .ok (.invokevirtual 12, 3) := by decide +kernel
theorem dL_law_319 : decode cL_law 319 = .ok (.iload 8, 2) := by decide +kernel
theorem dL_law_321 : decode cL_law 321 = .ok (.if_icmp .ne 35, 3) := by decide +kernel
theorem dL_law_324 : decode cL_law 324 = .ok (.aload_n 1, 1) := by decide +kernel
theorem dL_law_325 : decode cL_law 325 = .ok (.iload 7, 2) := by decide +kernel
theorem dL_law_327 : decode cL_law 327 = .ok (.iload 6, 2) := by decide +kernel
theorem dL_law_329 : decode cL_law 329 = .ok (.iconst 1, 1) := by decide +kernel
theorem dL_law_330 : decode cL_law 330 = .ok (.invokevirtual 12, 3) := by decide +kernel
theorem dL_law_333 : decode cL_law 333 = .ok (.iload 9, 2) := by decide +kernel
theorem dL_law_335 : decode cL_law 335 = .ok (.if_icmp .ne 21, 3) := by decide +kernel
theorem dL_law_338 : decode cL_law 338 = .ok (.aload_n 1, 1) := by decide +kernel
theorem dL_law_339 : decode cL_law 339 = .ok (.iload 7, 2) := by decide +kernel
theorem dL_law_341 : decode cL_law 341 = .ok (.iload 6, 2) := by decide +kernel
theorem dL_law_343 : decode cL_law 343 = .ok (.iconst 2, 1) := by decide +kernel
theorem dL_law_344 : decode cL_law 344 = .ok (.invokevirtual 12, 3) := by decide +kernel
theorem dL_law_347 : decode cL_law 347 = .ok (.iload 10, 2) := by decide +kernel
theorem dL_law_349 : decode cL_law 349 = .ok (.if_icmp .ne 7, 3) := by decide +kernel
theorem dL_law_352 : decode cL_law 352 = .ok (.iconst 1, 1) := by decide +kernel
theorem dL_law_353 : decode cL_law 353 = .ok (.goto 4, 3) := by decide +kernel
theorem dL_law_356 : decode cL_law 356 = .ok (.iconst 0, 1) := by decide +kernel
theorem dL_law_357 : decode cL_law 357 = .ok (.istore_n 2, 1) := by decide +kernel
theorem dL_law_358 : decode cL_law 358 = .ok (.iinc 4 1, 3) := by decide +kernel
theorem dL_law_361 : decode cL_law 361 = .ok (.goto (-220), 3) := by decide +kernel
theorem dL_law_364 : decode cL_law 364 = .ok (.aload_n 1, 1) := by decide +kernel
theorem dL_law_365 : decode cL_law 365 = .ok (.invokevirtual 113, 3) := by decide +kernel
theorem dL_law_368 : decode cL_law 368 = .ok (.istore 4, 2) := by decide +kernel
theorem dL_law_370 : decode cL_law 370 = .ok (.iconst 0, 1) := by decide +kernel
theorem dL_law_371 : decode cL_law 371 = .ok (.istore 5, 2) := by decide +kernel
theorem dL_law_373 : decode cL_law 373 = .ok (.iload 5, 2) := by decide +kernel
theorem dL_law_375 : decode cL_law 375 = .ok (.bipush 10, 2) := by decide +kernel
theorem dL_law_377 : decode cL_law 377 = .ok (.if_icmp .ge 110, 3) := by decide +kernel
theorem dL_law_380 : decode cL_law 380 = .ok (.iload_n 2, 1) := by decide +kernel
theorem dL_law_381 : decode cL_law 381 = .ok (.ifCond .eq 106, 3) := by decide +kernel
theorem dL_law_384 : decode cL_law 384 = .ok (.aload_n 0, 1) := by decide +kernel
theorem dL_law_385 : decode cL_law 385 = .ok (.bipush 8, 2) := by decide +kernel
theorem dL_law_387 : decode cL_law 387 = .ok (.bipush 20, 2) := by decide +kernel
theorem dL_law_389 : decode cL_law 389 = .ok (.iload 5, 2) := by decide +kernel
theorem dL_law_391 : decode cL_law 391 = .ok (.imul, 1) := by decide +kernel
theorem dL_law_392 : decode cL_law 392 = .ok (.iadd, 1) := by decide +kernel
theorem dL_law_393 : decode cL_law 393 = .ok (.aload_n 3, 1) := by decide +kernel
theorem dL_law_394 : decode cL_law 394 = .ok (.invokestatic 124, 3) := by decide +kernel
theorem dL_law_397 : decode cL_law 397 = .ok (.istore 6, 2) := by decide +kernel
theorem dL_law_399 : decode cL_law 399 = .ok (.aload_n 1, 1) := by decide +kernel
theorem dL_law_400 : decode cL_law 400 = .ok (.aload_n 3, 1) := by decide +kernel
theorem dL_law_401 : decode cL_law 401 = .ok (.iconst 0, 1) := by decide +kernel
theorem dL_law_402 : decode cL_law 402 = .ok (.iload 6, 2) := by decide +kernel
theorem dL_law_404 : decode cL_law 404 = .ok (.invokestatic 45, 3) := by decide +kernel
theorem dL_law_407 : decode cL_law 407 = .ok (.aload_n 1, 1) := by decide +kernel
theorem dL_law_408 : decode cL_law 408 = .ok (.invokevirtual 49, 3) := by decide +kernel
theorem dL_law_411 : decode cL_law 411 = .ok (.istore 7, 2) := by decide +kernel
theorem dL_law_413 : decode cL_law 413 = .ok (.iload 7, 2) := by decide +kernel
theorem dL_law_415 : decode cL_law 415 = .ok (.iconst (-1), 1) := by decide +kernel
theorem dL_law_416 : decode cL_law 416 = .ok (.if_icmp .eq 16, 3) := by decide +kernel
theorem dL_law_419 : decode cL_law 419 = .ok (.aload_n 1, 1) := by decide +kernel
theorem dL_law_420 : decode cL_law 420 = .ok (.aload_n 3, 1) := by decide +kernel
theorem dL_law_421 : decode cL_law 421 = .ok (.iload 6, 2) := by decide +kernel
theorem dL_law_423 : decode cL_law 423 = .ok (.iload 7, 2) := by decide +kernel
theorem dL_law_425 : decode cL_law 425 = .ok (.invokestatic 128, 3) := by decide +kernel
theorem dL_law_428 : decode cL_law 428 = .ok (.istore_n 2, 1) := by decide +kernel
theorem dL_law_429 : decode cL_law 429 = .ok (.goto 52, 3) := by decide +kernel
theorem dL_law_432 : decode cL_law 432 = .ok (.aload_n 1, 1) := by decide +kernel
theorem dL_law_433 : decode cL_law 433 = .ok (.invokevirtual 55, 3) := by decide +kernel
theorem dL_law_436 : decode cL_law 436 = .ok (.iload 4, 2) := by decide +kernel
theorem dL_law_438 : decode cL_law 438 = .ok (.if_icmp .ne 41, 3) := by decide +kernel
theorem dL_law_441 : decode cL_law 441 = .ok (.aload_n 1, 1) := by decide +kernel
theorem dL_law_442 : decode cL_law 442 = .ok (.invokevirtual 41, 3) := by decide +kernel
theorem dL_law_445 : decode cL_law 445 = .ok (.ifCond .ne 34, 3) := by decide +kernel
theorem dL_law_448 : decode cL_law 448 = .ok (.aload_n 1, 1) := by decide +kernel
theorem dL_law_449 : decode cL_law 449 = .ok (.iload 4, 2) := by decide +kernel
theorem dL_law_451 : decode cL_law 451 = .ok (.invokestatic 132, 3) := by decide +kernel
theorem dL_law_454 : decode cL_law 454 = .ok (.ifCond .eq 25, 3) := by decide +kernel
theorem dL_law_457 : decode cL_law 457 = .ok (.aload_n 1, 1) := by decide +kernel
theorem dL_law_458 : decode cL_law 458 = .ok (.invokevirtual 113, 3) := by decide +kernel
theorem dL_law_461 : decode cL_law 461 = .ok (.iload 4, 2) := by decide +kernel
theorem dL_law_463 : decode cL_law 463 = .ok (.iconst 1, 1) := by decide +kernel
theorem dL_law_464 : decode cL_law 464 = .ok (.iadd, 1) := by decide +kernel
theorem dL_law_465 : decode cL_law 465 = .ok (.if_icmp .ne 14, 3) := by decide +kernel
theorem dL_law_468 : decode cL_law 468 = .ok (.aload_n 1, 1) := by decide +kernel
theorem dL_law_469 : decode cL_law 469 = .ok (.invokevirtual 62, 3) := by decide +kernel
theorem dL_law_472 : decode cL_law 472 = .ok (.ifCond .ne 7, 3) := by decide +kernel
theorem dL_law_475 : decode cL_law 475 = .ok (.iconst 1, 1) := by decide +kernel
theorem dL_law_476 : decode cL_law 476 = .ok (.goto 4, 3) := by decide +kernel
theorem dL_law_479 : decode cL_law 479 = .ok (.iconst 0, 1) := by decide +kernel
theorem dL_law_480 : decode cL_law 480 = .ok (.istore_n 2, 1) := by decide +kernel
theorem dL_law_481 : decode cL_law 481 = .ok (.iinc 5 1, 3) := by decide +kernel
theorem dL_law_484 : decode cL_law 484 = .ok (.goto (-111), 3) := by decide +kernel
theorem dL_law_487 : decode cL_law 487 = .ok (.iload_n 2, 1) := by decide +kernel
theorem dL_law_488 : decode cL_law 488 = .ok (.ifCond .eq 16, 3) := by decide +kernel
theorem dL_law_491 : decode cL_law 491 = .ok (.aload_n 1, 1) := by decide +kernel
theorem dL_law_492 : decode cL_law 492 = .ok (.invokevirtual 113, 3) := by decide +kernel
theorem dL_law_495 : decode cL_law 495 = .ok (.iload 4, 2) := by decide +kernel
theorem dL_law_497 : decode cL_law 497 = .ok (.if_icmp .ne 7, 3) := by decide +kernel
theorem dL_law_500 : decode cL_law 500 = .ok (.iconst 1, 1) := by decide +kernel
theorem dL_law_501 : decode cL_law 501 = .ok (.goto 4, 3) := by decide +kernel
theorem dL_law_504 : decode cL_law 504 = .ok (.iconst 0, 1) := by decide +kernel
theorem dL_law_505 : decode cL_law 505 = .ok (.ireturn, 1) := by decide +kernel
