theorem dX12_gatherNode_199 : decode cX12_gatherNode 199 = .ok (.ireturn, 1) := by decide +kernel
theorem dX12_gatherNode_200 : decode cX12_gatherNode 200 = .ok (.iconst 0, 1) := by decide +kernel
theorem dX12_gatherNode_201 : decode cX12_gatherNode 201 = .ok (.istore 4, 2) := by decide +kernel
theorem dX12_gatherNode_203 : decode cX12_gatherNode 203 = .ok (.iload 4, 2) := by decide +kernel
theorem dX12_gatherNode_205 : decode cX12_gatherNode 205 = .ok (.bipush 9, 2) := by decide +kernel
theorem dX12_gatherNode_207 : decode cX12_gatherNode 207 = .ok (.if_icmp .ge 39, 3) := by decide +kernel
theorem dX12_gatherNode_210 : decode cX12_gatherNode 210 = .ok (.aload_n 0, 1) := by decide +kernel
theorem dX12_gatherNode_211 : decode cX12_gatherNode 211 = .ok (.getfield 576, 3) := by decide +kernel
theorem dX12_gatherNode_214 : decode cX12_gatherNode 214 = .ok (.iconst 1, 1) := by decide +kernel
theorem dX12_gatherNode_215 : decode cX12_gatherNode 215 = .ok (.isub, 1) := by decide +kernel
theorem dX12_gatherNode_216 : decode cX12_gatherNode 216 = .ok (.iload 4, 2) := by decide +kernel
theorem dX12_gatherNode_218 : decode cX12_gatherNode 218 = .ok (.invokestatic 546, 3) := by decide +kernel
theorem dX12_gatherNode_221 : decode cX12_gatherNode 221 = .ok (.istore 5, 2) := by decide +kernel
theorem dX12_gatherNode_223 : decode cX12_gatherNode 223 = .ok (.aload_n 0, 1) := by decide +kernel
theorem dX12_gatherNode_224 : decode cX12_gatherNode 224 = .ok (.getfield 46, 3) := by decide +kernel
theorem dX12_gatherNode_227 : decode cX12_gatherNode 227 = .ok (.bipush 28, 2) := by decide +kernel
theorem dX12_gatherNode_229 : decode cX12_gatherNode 229 = .ok (.iload 5, 2) := by decide +kernel
theorem dX12_gatherNode_231 : decode cX12_gatherNode 231 = .ok (.imul, 1) := by decide +kernel
theorem dX12_gatherNode_232 : decode cX12_gatherNode 232 = .ok (.aload_n 0, 1) := by decide +kernel
theorem dX12_gatherNode_233 : decode cX12_gatherNode 233 = .ok (.iload 5, 2) := by decide +kernel
theorem dX12_gatherNode_235 : decode cX12_gatherNode 235 = .ok (.invokevirtual 81, 3) := by decide +kernel
theorem dX12_gatherNode_238 : decode cX12_gatherNode 238 = .ok (.ineg, 1) := by decide +kernel
theorem dX12_gatherNode_239 : decode cX12_gatherNode 239 = .ok (.iastore, 1) := by decide +kernel
theorem dX12_gatherNode_240 : decode cX12_gatherNode 240 = .ok (.iinc 4 1, 3) := by decide +kernel
theorem dX12_gatherNode_243 : decode cX12_gatherNode 243 = .ok (.goto (-40), 3) := by decide +kernel
theorem dX12_gatherNode_246 : decode cX12_gatherNode 246 = .ok (.iconst 1, 1) := by decide +kernel
theorem dX12_gatherNode_247 : decode cX12_gatherNode 247 = .ok (.ireturn, 1) := by decide +kernel
theorem dX12_gathers_0 : decode cX12_gathers 0 = .ok (.aload_n 0, 1) := by decide +kernel
theorem dX12_gathers_1 : decode cX12_gathers 1 = .ok (.iload_n 1, 1) := by decide +kernel
theorem dX12_gathers_2 : decode cX12_gathers 2 = .ok (.invokevirtual 439, 3) := by decide +kernel
theorem dX12_gathers_5 : decode cX12_gathers 5 = .ok (.istore_n 3, 1) := by decide +kernel
theorem dX12_gathers_6 : decode cX12_gathers 6 = .ok (.iconst 1, 1) := by decide +kernel
theorem dX12_gathers_7 : decode cX12_gathers 7 = .ok (.istore 4, 2) := by decide +kernel
theorem dX12_gathers_9 : decode cX12_gathers 9 = .ok (.iconst 0, 1) := by decide +kernel
theorem dX12_gathers_10 : decode cX12_gathers 10 = .ok (.istore 5, 2) := by decide +kernel
theorem dX12_gathers_12 : decode cX12_gathers 12 = .ok (.iload 5, 2) := by decide +kernel
theorem dX12_gathers_14 : decode cX12_gathers 14 = .ok (.iload_n 3, 1) := by decide +kernel
theorem dX12_gathers_15 : decode cX12_gathers 15 = .ok (.if_icmp .ge 28, 3) := by decide +kernel
theorem dX12_gathers_18 : decode cX12_gathers 18 = .ok (.iload 4, 2) := by decide +kernel
theorem dX12_gathers_20 : decode cX12_gathers 20 = .ok (.ifCond .eq 23, 3) := by decide +kernel
theorem dX12_gathers_23 : decode cX12_gathers 23 = .ok (.aload_n 0, 1) := by decide +kernel
theorem dX12_gathers_24 : decode cX12_gathers 24 = .ok (.aload_n 0, 1) := by decide +kernel
theorem dX12_gathers_25 : decode cX12_gathers 25 = .ok (.getfield 150, 3) := by decide +kernel
theorem dX12_gathers_28 : decode cX12_gathers 28 = .ok (.iload 5, 2) := by decide +kernel
theorem dX12_gathers_30 : decode cX12_gathers 30 = .ok (.iaload, 1) := by decide +kernel
theorem dX12_gathers_31 : decode cX12_gathers 31 = .ok (.iload_n 2, 1) := by decide +kernel
theorem dX12_gathers_32 : decode cX12_gathers 32 = .ok (.invokevirtual 597, 3) := by decide +kernel
theorem dX12_gathers_35 : decode cX12_gathers 35 = .ok (.istore 4, 2) := by decide +kernel
theorem dX12_gathers_37 : decode cX12_gathers 37 = .ok (.iinc 5 1, 3) := by decide +kernel
theorem dX12_gathers_40 : decode cX12_gathers 40 = .ok (.goto (-28), 3) := by decide +kernel
theorem dX12_gathers_43 : decode cX12_gathers 43 = .ok (.iload 4, 2) := by decide +kernel
theorem dX12_gathers_45 : decode cX12_gathers 45 = .ok (.ireturn, 1) := by decide +kernel
theorem dX12_isTold_0 : decode cX12_isTold 0 = .ok (.aload_n 0, 1) := by decide +kernel
theorem dX12_isTold_1 : decode cX12_isTold 1 = .ok (.iload_n 1, 1) := by decide +kernel
theorem dX12_isTold_2 : decode cX12_isTold 2 = .ok (.invokevirtual 484, 3) := by decide +kernel
theorem dX12_isTold_5 : decode cX12_isTold 5 = .ok (.istore_n 2, 1) := by decide +kernel
theorem dX12_isTold_6 : decode cX12_isTold 6 = .ok (.aload_n 0, 1) := by decide +kernel
theorem dX12_isTold_7 : decode cX12_isTold 7 = .ok (.getfield 135, 3) := by decide +kernel
theorem dX12_isTold_10 : decode cX12_isTold 10 = .ok (.iload_n 1, 1) := by decide +kernel
theorem dX12_isTold_11 : decode cX12_isTold 11 = .ok (.iaload, 1) := by decide +kernel
theorem dX12_isTold_12 : decode cX12_isTold 12 = .ok (.ifCond .eq 57, 3) := by decide +kernel
theorem dX12_isTold_15 : decode cX12_isTold 15 = .ok (.aload_n 0, 1) := by decide +kernel
theorem dX12_isTold_16 : decode cX12_isTold 16 = .ok (.getfield 135, 3) := by decide +kernel
theorem dX12_isTold_19 : decode cX12_isTold 19 = .ok (.iload_n 1, 1) := by decide +kernel
theorem dX12_isTold_20 : decode cX12_isTold 20 = .ok (.iaload, 1) := by decide +kernel
theorem dX12_isTold_21 : decode cX12_isTold 21 = .ok (.iconst 1, 1) := by decide +kernel
theorem dX12_isTold_22 : decode cX12_isTold 22 = .ok (.if_icmp .eq 47, 3) := by decide +kernel
theorem dX12_isTold_25 : decode cX12_isTold 25 = .ok (.aload_n 0, 1) := by decide +kernel
theorem dX12_isTold_26 : decode cX12_isTold 26 = .ok (.getfield 135, 3) := by decide +kernel
theorem dX12_isTold_29 : decode cX12_isTold 29 = .ok (.iload_n 1, 1) := by decide +kernel
theorem dX12_isTold_30 : decode cX12_isTold 30 = .ok (.iaload, 1) := by decide +kernel
theorem dX12_isTold_31 : decode cX12_isTold 31 = .ok (.iconst 3, 1) := by decide +kernel
theorem dX12_isTold_32 : decode cX12_isTold 32 = .ok (.if_icmp .ne 41, 3) := by decide +kernel
theorem dX12_isTold_35 : decode cX12_isTold 35 = .ok (.iload_n 2, 1) := by decide +kernel
theorem dX12_isTold_36 : decode cX12_isTold 36 = .ok (.iconst 0, 1) := by decide +kernel
theorem dX12_isTold_37 : decode cX12_isTold 37 = .ok (.iconst 3, 1) := by decide +kernel
theorem dX12_isTold_38 : decode cX12_isTold 38 = .ok (.invokestatic 106, 3) := by decide +kernel
theorem dX12_isTold_41 : decode cX12_isTold 41 = .ok (.ifCond .ne 28, 3) := by decide +kernel
theorem dX12_isTold_44 : decode cX12_isTold 44 = .ok (.iload_n 2, 1) := by decide +kernel
theorem dX12_isTold_45 : decode cX12_isTold 45 = .ok (.bipush 11, 2) := by decide +kernel
theorem dX12_isTold_47 : decode cX12_isTold 47 = .ok (.if_icmp .eq 22, 3) := by decide +kernel
theorem dX12_isTold_50 : decode cX12_isTold 50 = .ok (.iload_n 2, 1) := by decide +kernel
theorem dX12_isTold_51 : decode cX12_isTold 51 = .ok (.iconst 5, 1) := by decide +kernel
theorem dX12_isTold_52 : decode cX12_isTold 52 = .ok (.if_icmp .ne 21, 3) := by decide +kernel
theorem dX12_isTold_55 : decode cX12_isTold 55 = .ok (.aload_n 0, 1) := by decide +kernel
theorem dX12_isTold_56 : decode cX12_isTold 56 = .ok (.getfield 135, 3) := by decide +kernel
theorem dX12_isTold_59 : decode cX12_isTold 59 = .ok (.aload_n 0, 1) := by decide +kernel
theorem dX12_isTold_60 : decode cX12_isTold 60 = .ok (.iload_n 1, 1) := by decide +kernel
theorem dX12_isTold_61 : decode cX12_isTold 61 = .ok (.iconst 1, 1) := by decide +kernel
theorem dX12_isTold_62 : decode cX12_isTold 62 = .ok (.invokevirtual 405, 3) := by decide +kernel
theorem dX12_isTold_65 : decode cX12_isTold 65 = .ok (.iaload, 1) := by decide +kernel
theorem dX12_isTold_66 : decode cX12_isTold 66 = .ok (.ifCond .ne 7, 3) := by decide +kernel
theorem dX12_isTold_69 : decode cX12_isTold 69 = .ok (.iconst 1, 1) := by decide +kernel
theorem dX12_isTold_70 : decode cX12_isTold 70 = .ok (.goto 4, 3) := by decide +kernel
theorem dX12_isTold_73 : decode cX12_isTold 73 = .ok (.iconst 0, 1) := by decide +kernel
theorem dX12_isTold_74 : decode cX12_isTold 74 = .ok (.ireturn, 1) := by decide +kernel
theorem dX12_areTold_0 : decode cX12_areTold 0 = .ok (.iconst 1, 1) := by decide +kernel
theorem dX12_areTold_1 : decode cX12_areTold 1 = .ok (.istore_n 2, 1) := by decide +kernel
theorem dX12_areTold_2 : decode cX12_areTold 2 = .ok (.iload_n 1, 1) := by decide +kernel
theorem dX12_areTold_3 : decode cX12_areTold 3 = .ok (.istore_n 3, 1) := by decide +kernel
theorem dX12_areTold_4 : decode cX12_areTold 4 = .ok (.iload_n 3, 1) := by decide +kernel
theorem dX12_areTold_5 : decode cX12_areTold 5 = .ok (.iload_n 1, 1) := by decide +kernel
theorem dX12_areTold_6 : decode cX12_areTold 6 = .ok (.aload_n 0, 1) := by decide +kernel
theorem dX12_areTold_7 : decode cX12_areTold 7 = .ok (.getfield 147, 3) := by decide +kernel
theorem dX12_areTold_10 : decode cX12_areTold 10 = .ok (.iload_n 1, 1) := by decide +kernel
theorem dX12_areTold_11 : decode cX12_areTold 11 = .ok (.iaload, 1) := by decide +kernel
theorem dX12_areTold_12 : decode cX12_areTold 12 = .ok (.iadd, 1) := by decide +kernel
theorem dX12_areTold_13 : decode cX12_areTold 13 = .ok (.if_icmp .ge 27, 3) := by decide +kernel
theorem dX12_areTold_16 : decode cX12_areTold 16 = .ok (.iload_n 2, 1) := by decide +kernel
theorem dX12_areTold_17 : decode cX12_areTold 17 = .ok (.ifCond .eq 15, 3) := by decide +kernel
theorem dX12_areTold_20 : decode cX12_areTold 20 = .ok (.aload_n 0, 1) := by decide +kernel
theorem dX12_areTold_21 : decode cX12_areTold 21 = .ok (.iload_n 3, 1) := by decide +kernel
theorem dX12_areTold_22 : decode cX12_areTold 22 = .ok (.invokevirtual 600, 3) := by decide +kernel
theorem dX12_areTold_25 : decode cX12_areTold 25 = .ok (.ifCond .eq 7, 3) := by decide +kernel
theorem dX12_areTold_28 : decode cX12_areTold 28 = .ok (.iconst 1, 1) := by decide +kernel
theorem dX12_areTold_29 : decode cX12_areTold 29 = .ok (.goto 4, 3) := by decide +kernel
theorem dX12_areTold_32 : decode cX12_areTold 32 = .ok (.iconst 0, 1) := by decide +kernel
theorem dX12_areTold_33 : decode cX12_areTold 33 = .ok (.istore_n 2, 1) := by decide +kernel
theorem dX12_areTold_34 : decode cX12_areTold 34 = .ok (.iinc 3 1, 3) := by decide +kernel
theorem dX12_areTold_37 : decode cX12_areTold 37 = .ok (.goto (-33), 3) := by decide +kernel
theorem dX12_areTold_40 : decode cX12_areTold 40 = .ok (.iload_n 2, 1) := by decide +kernel
theorem dX12_areTold_41 : decode cX12_areTold 41 = .ok (.ireturn, 1) := by decide +kernel
theorem dX12_signBetween_0 : decode cX12_signBetween 0 = .ok (.iconst (-1), 1) := by decide +kernel
theorem dX12_signBetween_1 : decode cX12_signBetween 1 = .ok (.istore_n 2, 1) := by decide +kernel
theorem dX12_signBetween_2 : decode cX12_signBetween 2 = .ok (.bipush 126, 2) := by decide +kernel
theorem dX12_signBetween_4 : decode cX12_signBetween 4 = .ok (.istore_n 3, 1) := by decide +kernel
theorem dX12_signBetween_5 : decode cX12_signBetween 5 = .ok (.iload_n 3, 1) := by decide +kernel
theorem dX12_signBetween_6 : decode cX12_signBetween 6 = .ok (.bipush 32, 2) := by decide +kernel
theorem dX12_signBetween_8 : decode cX12_signBetween 8 = .ok (.if_icmp .le 56, 3) := by decide +kernel
theorem dX12_signBetween_11 : decode cX12_signBetween 11 = .ok (.iload_n 3, 1) := by decide +kernel
theorem dX12_signBetween_12 : decode cX12_signBetween 12 = .ok (.invokestatic 156, 3) := by decide +kernel
theorem dX12_signBetween_15 : decode cX12_signBetween 15 = .ok (.istore 4, 2) := by decide +kernel
theorem dX12_signBetween_17 : decode cX12_signBetween 17 = .ok (.iload 4, 2) := by decide +kernel
theorem dX12_signBetween_19 : decode cX12_signBetween 19 = .ok (.iconst (-1), 1) := by decide +kernel
theorem dX12_signBetween_20 : decode cX12_signBetween 20 = .ok (.if_icmp .eq 36, 3) := by decide +kernel
theorem dX12_signBetween_23 : decode cX12_signBetween 23 = .ok (.aload_n 0, 1) := by decide +kernel
theorem dX12_signBetween_24 : decode cX12_signBetween 24 = .ok (.getfield 153, 3) := by decide +kernel
theorem dX12_signBetween_27 : decode cX12_signBetween 27 = .ok (.iconst 3, 1) := by decide +kernel
theorem dX12_signBetween_28 : decode cX12_signBetween 28 = .ok (.iload 4, 2) := by decide +kernel
theorem dX12_signBetween_30 : decode cX12_signBetween 30 = .ok (.imul, 1) := by decide +kernel
theorem dX12_signBetween_31 : decode cX12_signBetween 31 = .ok (.iconst 2, 1) := by decide +kernel
theorem dX12_signBetween_32 : decode cX12_signBetween 32 = .ok (.iadd, 1) := by decide +kernel
theorem dX12_signBetween_33 : decode cX12_signBetween 33 = .ok (.iaload, 1) := by decide +kernel
theorem dX12_signBetween_34 : decode cX12_signBetween 34 = .ok (.ifCond .le 22, 3) := by decide +kernel
theorem dX12_signBetween_37 : decode cX12_signBetween 37 = .ok (.aload_n 0, 1) := by decide +kernel
theorem dX12_signBetween_38 : decode cX12_signBetween 38 = .ok (.getfield 162, 3) := by decide +kernel
theorem dX12_signBetween_41 : decode cX12_signBetween 41 = .ok (.iconst 3, 1) := by decide +kernel
theorem dX12_signBetween_42 : decode cX12_signBetween 42 = .ok (.iload 4, 2) := by decide +kernel
theorem dX12_signBetween_44 : decode cX12_signBetween 44 = .ok (.imul, 1) := by decide +kernel
theorem dX12_signBetween_45 : decode cX12_signBetween 45 = .ok (.iconst 2, 1) := by decide +kernel
theorem dX12_signBetween_46 : decode cX12_signBetween 46 = .ok (.iadd, 1) := by decide +kernel
theorem dX12_signBetween_47 : decode cX12_signBetween 47 = .ok (.iaload, 1) := by decide +kernel
theorem dX12_signBetween_48 : decode cX12_signBetween 48 = .ok (.iload_n 1, 1) := by decide +kernel
theorem dX12_signBetween_49 : decode cX12_signBetween 49 = .ok (.if_icmp .ne 7, 3) := by decide +kernel
theorem dX12_signBetween_52 : decode cX12_signBetween 52 = .ok (.iload_n 3, 1) := by decide +kernel
theorem dX12_signBetween_53 : decode cX12_signBetween 53 = .ok (.goto 4, 3) := by decide +kernel
theorem dX12_signBetween_56 : decode cX12_signBetween 56 = .ok (.iload_n 2, 1) := by decide +kernel
theorem dX12_signBetween_57 : decode cX12_signBetween 57 = .ok (.istore_n 2, 1) := by decide +kernel
theorem dX12_signBetween_58 : decode cX12_signBetween 58 = .ok (.iinc 3 (-1), 3) := by decide +kernel
theorem dX12_signBetween_61 : decode cX12_signBetween 61 = .ok (.goto (-56), 3) := by decide +kernel
theorem dX12_signBetween_64 : decode cX12_signBetween 64 = .ok (.iload_n 2, 1) := by decide +kernel
theorem dX12_signBetween_65 : decode cX12_signBetween 65 = .ok (.ireturn, 1) := by decide +kernel
theorem dX12_add_0 : decode cX12_add 0 = .ok (.aload_n 0, 1) := by decide +kernel
theorem dX12_add_1 : decode cX12_add 1 = .ok (.getfield 603, 3) := by decide +kernel
theorem dX12_add_4 : decode cX12_add 4 = .ok (.bipush 80, 2) := by decide +kernel
theorem dX12_add_6 : decode cX12_add 6 = .ok (.if_icmp .eq 13, 3) := by decide +kernel
theorem dX12_add_9 : decode cX12_add 9 = .ok (.iload_n 1, 1) := by decide +kernel
theorem dX12_add_10 : decode cX12_add 10 = .ok (.iconst 3, 1) := by decide +kernel
theorem dX12_add_11 : decode cX12_add 11 = .ok (.if_icmp .ne 13, 3) := by decide +kernel
theorem dX12_add_14 : decode cX12_add 14 = .ok (.iload_n 2, 1) := by decide +kernel
theorem dX12_add_15 : decode cX12_add 15 = .ok (.iconst (-1), 1) := by decide +kernel
theorem dX12_add_16 : decode cX12_add 16 = .ok (.if_icmp .ne 8, 3) := by decide +kernel
theorem dX12_add_19 : decode cX12_add 19 = .ok (.aload_n 0, 1) := by decide +kernel
theorem dX12_add_20 : decode cX12_add 20 = .ok (.iconst (-1), 1) := by decide +kernel
theorem dX12_add_21 : decode cX12_add 21 = .ok (.putfield 603, 3) := by decide +kernel
theorem dX12_add_24 : decode cX12_add 24 = .ok (.aload_n 0, 1) := by decide +kernel
theorem dX12_add_25 : decode cX12_add 25 = .ok (.getfield 603, 3) := by decide +kernel
theorem dX12_add_28 : decode cX12_add 28 = .ok (.ifCond .lt 31, 3) := by decide +kernel
theorem dX12_add_31 : decode cX12_add 31 = .ok (.aload_n 0, 1) := by decide +kernel
theorem dX12_add_32 : decode cX12_add 32 = .ok (.aload_n 0, 1) := by decide +kernel
theorem dX12_add_33 : decode cX12_add 33 = .ok (.getfield 606, 3) := by decide +kernel
theorem dX12_add_36 : decode cX12_add 36 = .ok (.aload_n 0, 1) := by decide +kernel
theorem dX12_add_37 : decode cX12_add 37 = .ok (.getfield 603, 3) := by decide +kernel
theorem dX12_add_40 : decode cX12_add 40 = .ok (.iadd, 1) := by decide +kernel
theorem dX12_add_41 : decode cX12_add 41 = .ok (.iload_n 1, 1) := by decide +kernel
theorem dX12_add_42 : decode cX12_add 42 = .ok (.iload_n 2, 1) := by decide +kernel
theorem dX12_add_43 : decode cX12_add 43 = .ok (.iload_n 3, 1) := by decide +kernel
theorem dX12_add_44 : decode cX12_add 44 = .ok (.iload 4, 2) := by decide +kernel
theorem dX12_add_46 : decode cX12_add 46 = .ok (.invokevirtual 386, 3) := by decide +kernel
theorem dX12_add_49 : decode cX12_add 49 = .ok (.aload_n 0, 1) := by decide +kernel
theorem dX12_add_50 : decode cX12_add 50 = .ok (.dup, 1) := by decide +kernel
theorem dX12_add_51 : decode cX12_add 51 = .ok (.getfield 603, 3) := by decide +kernel
theorem dX12_add_54 : decode cX12_add 54 = .ok (.iconst 1, 1) := by decide +kernel
theorem dX12_add_55 : decode cX12_add 55 = .ok (.iadd, 1) := by decide +kernel
theorem dX12_add_56 : decode cX12_add 56 = .ok (.putfield 603, 3) := by decide +kernel
theorem dX12_add_59 : decode cX12_add 59 = .ok (.return_, 1) := by decide +kernel
theorem dX12_addNodes_0 : decode cX12_addNodes 0 = .ok (.iload_n 2, 1) := by decide +kernel
theorem dX12_addNodes_1 : decode cX12_addNodes 1 = .ok (.ifCond .lt 14, 3) := by decide +kernel
theorem dX12_addNodes_4 : decode cX12_addNodes 4 = .ok (.aload_n 0, 1) := by decide +kernel
theorem dX12_addNodes_5 : decode cX12_addNodes 5 = .ok (.getfield 603, 3) := by decide +kernel
theorem dX12_addNodes_8 : decode cX12_addNodes 8 = .ok (.iload_n 2, 1) := by decide +kernel
theorem dX12_addNodes_9 : decode cX12_addNodes 9 = .ok (.iadd, 1) := by decide +kernel
theorem dX12_addNodes_10 : decode cX12_addNodes 10 = .ok (.bipush 80, 2) := by decide +kernel
theorem dX12_addNodes_12 : decode cX12_addNodes 12 = .ok (.if_icmp .le 8, 3) := by decide +kernel
theorem dX12_addNodes_15 : decode cX12_addNodes 15 = .ok (.aload_n 0, 1) := by decide +kernel
theorem dX12_addNodes_16 : decode cX12_addNodes 16 = .ok (.iconst (-1), 1) := by decide +kernel
theorem dX12_addNodes_17 : decode cX12_addNodes 17 = .ok (.putfield 603, 3) := by decide +kernel
theorem dX12_addNodes_20 : decode cX12_addNodes 20 = .ok (.aload_n 0, 1) := by decide +kernel
theorem dX12_addNodes_21 : decode cX12_addNodes 21 = .ok (.getfield 603, 3) := by decide +kernel
theorem dX12_addNodes_24 : decode cX12_addNodes 24 = .ok (.ifCond .lt 28, 3) := by decide +kernel
theorem dX12_addNodes_27 : decode cX12_addNodes 27 = .ok (.aload_n 0, 1) := by decide +kernel
theorem dX12_addNodes_28 : decode cX12_addNodes 28 = .ok (.aload_n 0, 1) := by decide +kernel
theorem dX12_addNodes_29 : decode cX12_addNodes 29 = .ok (.getfield 606, 3) := by decide +kernel
theorem dX12_addNodes_32 : decode cX12_addNodes 32 = .ok (.aload_n 0, 1) := by decide +kernel
theorem dX12_addNodes_33 : decode cX12_addNodes 33 = .ok (.getfield 603, 3) := by decide +kernel
theorem dX12_addNodes_36 : decode cX12_addNodes 36 = .ok (.iadd, 1) := by decide +kernel
theorem dX12_addNodes_37 : decode cX12_addNodes 37 = .ok (.iload_n 1, 1) := by decide +kernel
theorem dX12_addNodes_38 : decode cX12_addNodes 38 = .ok (.iload_n 2, 1) := by decide +kernel
theorem dX12_addNodes_39 : decode cX12_addNodes 39 = .ok (.invokevirtual 515, 3) := by decide +kernel
theorem dX12_addNodes_42 : decode cX12_addNodes 42 = .ok (.aload_n 0, 1) := by decide +kernel
theorem dX12_addNodes_43 : decode cX12_addNodes 43 = .ok (.dup, 1) := by decide +kernel
theorem dX12_addNodes_44 : decode cX12_addNodes 44 = .ok (.getfield 603, 3) := by decide +kernel
theorem dX12_addNodes_47 : decode cX12_addNodes 47 = .ok (.iload_n 2, 1) := by decide +kernel
theorem dX12_addNodes_48 : decode cX12_addNodes 48 = .ok (.iadd, 1) := by decide +kernel
theorem dX12_addNodes_49 : decode cX12_addNodes 49 = .ok (.putfield 603, 3) := by decide +kernel
theorem dX12_addNodes_52 : decode cX12_addNodes 52 = .ok (.return_, 1) := by decide +kernel
theorem dX12_addTree_0 : decode cX12_addTree 0 = .ok (.aload_n 0, 1) := by decide +kernel
theorem dX12_addTree_1 : decode cX12_addTree 1 = .ok (.iload_n 1, 1) := by decide +kernel
theorem dX12_addTree_2 : decode cX12_addTree 2 = .ok (.aload_n 0, 1) := by decide +kernel
theorem dX12_addTree_3 : decode cX12_addTree 3 = .ok (.getfield 147, 3) := by decide +kernel
theorem dX12_addTree_6 : decode cX12_addTree 6 = .ok (.iload_n 1, 1) := by decide +kernel
theorem dX12_addTree_7 : decode cX12_addTree 7 = .ok (.iaload, 1) := by decide +kernel
theorem dX12_addTree_8 : decode cX12_addTree 8 = .ok (.invokevirtual 609, 3) := by decide +kernel
theorem dX12_addTree_11 : decode cX12_addTree 11 = .ok (.return_, 1) := by decide +kernel
theorem dX12_addDerived_0 : decode cX12_addDerived 0 = .ok (.aload_n 0, 1) := by decide +kernel
theorem dX12_addDerived_1 : decode cX12_addDerived 1 = .ok (.sipush 13740, 3) := by decide +kernel
theorem dX12_addDerived_4 : decode cX12_addDerived 4 = .ok (.bipush 80, 2) := by decide +kernel
theorem dX12_addDerived_6 : decode cX12_addDerived 6 = .ok (.iload_n 1, 1) := by decide +kernel
theorem dX12_addDerived_7 : decode cX12_addDerived 7 = .ok (.iload_n 2, 1) := by decide +kernel
theorem dX12_addDerived_8 : decode cX12_addDerived 8 = .ok (.isub, 1) := by decide +kernel
theorem dX12_addDerived_9 : decode cX12_addDerived 9 = .ok (.imul, 1) := by decide +kernel
theorem dX12_addDerived_10 : decode cX12_addDerived 10 = .ok (.iadd, 1) := by decide +kernel
theorem dX12_addDerived_11 : decode cX12_addDerived 11 = .ok (.aload_n 0, 1) := by decide +kernel
theorem dX12_addDerived_12 : decode cX12_addDerived 12 = .ok (.getfield 299, 3) := by decide +kernel
theorem dX12_addDerived_15 : decode cX12_addDerived 15 = .ok (.iload_n 1, 1) := by decide +kernel
theorem dX12_addDerived_16 : decode cX12_addDerived 16 = .ok (.iload_n 2, 1) := by decide +kernel
theorem dX12_addDerived_17 : decode cX12_addDerived 17 = .ok (.isub, 1) := by decide +kernel
theorem dX12_addDerived_18 : decode cX12_addDerived 18 = .ok (.iaload, 1) := by decide +kernel
theorem dX12_addDerived_19 : decode cX12_addDerived 19 = .ok (.invokevirtual 609, 3) := by decide +kernel
theorem dX12_addDerived_22 : decode cX12_addDerived 22 = .ok (.return_, 1) := by decide +kernel
theorem dX12_deriveTwo_0 : decode cX12_deriveTwo 0 = .ok (.iload_n 1, 1) := by decide +kernel
theorem dX12_deriveTwo_1 : decode cX12_deriveTwo 1 = .ok (.iconst 1, 1) := by decide +kernel
theorem dX12_deriveTwo_2 : decode cX12_deriveTwo 2 = .ok (.iadd, 1) := by decide +kernel
theorem dX12_deriveTwo_3 : decode cX12_deriveTwo 3 = .ok (.istore 4, 2) := by decide +kernel
theorem dX12_deriveTwo_5 : decode cX12_deriveTwo 5 = .ok (.aload_n 0, 1) := by decide +kernel
theorem dX12_deriveTwo_6 : decode cX12_deriveTwo 6 = .ok (.iload_n 1, 1) := by decide +kernel
theorem dX12_deriveTwo_7 : decode cX12_deriveTwo 7 = .ok (.iconst 1, 1) := by decide +kernel
theorem dX12_deriveTwo_8 : decode cX12_deriveTwo 8 = .ok (.invokevirtual 405, 3) := by decide +kernel
theorem dX12_deriveTwo_11 : decode cX12_deriveTwo 11 = .ok (.istore 5, 2) := by decide +kernel
theorem dX12_deriveTwo_13 : decode cX12_deriveTwo 13 = .ok (.aload_n 0, 1) := by decide +kernel
theorem dX12_deriveTwo_14 : decode cX12_deriveTwo 14 = .ok (.getfield 138, 3) := by decide +kernel
theorem dX12_deriveTwo_17 : decode cX12_deriveTwo 17 = .ok (.iload_n 1, 1) := by decide +kernel
theorem dX12_deriveTwo_18 : decode cX12_deriveTwo 18 = .ok (.iaload, 1) := by decide +kernel
theorem dX12_deriveTwo_19 : decode cX12_deriveTwo 19 = .ok (.istore 6, 2) := by decide +kernel
theorem dX12_deriveTwo_21 : decode cX12_deriveTwo 21 = .ok (.iload_n 3, 1) := by decide +kernel
theorem dX12_deriveTwo_22 : decode cX12_deriveTwo 22 = .ok (.tableswitch 289 2 5 #[30, 89, 289, 189], 30) := by decide +kernel
theorem dX12_deriveTwo_52 : decode cX12_deriveTwo 52 = .ok (.aload_n 0, 1) := by decide +kernel
theorem dX12_deriveTwo_53 : decode cX12_deriveTwo 53 = .ok (.iconst 3, 1) := by decide +kernel
theorem dX12_deriveTwo_54 : decode cX12_deriveTwo 54 = .ok (.aload_n 0, 1) := by decide +kernel
theorem dX12_deriveTwo_55 : decode cX12_deriveTwo 55 = .ok (.iconst 0, 1) := by decide +kernel
theorem dX12_deriveTwo_56 : decode cX12_deriveTwo 56 = .ok (.invokevirtual 612, 3) := by decide +kernel
theorem dX12_deriveTwo_59 : decode cX12_deriveTwo 59 = .ok (.iconst 2, 1) := by decide +kernel
theorem dX12_deriveTwo_60 : decode cX12_deriveTwo 60 = .ok (.iconst 2, 1) := by decide +kernel
theorem dX12_deriveTwo_61 : decode cX12_deriveTwo 61 = .ok (.invokevirtual 615, 3) := by decide +kernel
theorem dX12_deriveTwo_64 : decode cX12_deriveTwo 64 = .ok (.aload_n 0, 1) := by decide +kernel
theorem dX12_deriveTwo_65 : decode cX12_deriveTwo 65 = .ok (.iconst 3, 1) := by decide +kernel
theorem dX12_deriveTwo_66 : decode cX12_deriveTwo 66 = .ok (.iload 6, 2) := by decide +kernel
theorem dX12_deriveTwo_68 : decode cX12_deriveTwo 68 = .ok (.iconst 2, 1) := by decide +kernel
theorem dX12_deriveTwo_69 : decode cX12_deriveTwo 69 = .ok (.iconst 2, 1) := by decide +kernel
theorem dX12_deriveTwo_70 : decode cX12_deriveTwo 70 = .ok (.invokevirtual 615, 3) := by decide +kernel
theorem dX12_deriveTwo_73 : decode cX12_deriveTwo 73 = .ok (.aload_n 0, 1) := by decide +kernel
theorem dX12_deriveTwo_74 : decode cX12_deriveTwo 74 = .ok (.iload 4, 2) := by decide +kernel
theorem dX12_deriveTwo_76 : decode cX12_deriveTwo 76 = .ok (.iload_n 2, 1) := by decide +kernel
theorem dX12_deriveTwo_77 : decode cX12_deriveTwo 77 = .ok (.invokevirtual 618, 3) := by decide +kernel
theorem dX12_deriveTwo_80 : decode cX12_deriveTwo 80 = .ok (.aload_n 0, 1) := by decide +kernel
theorem dX12_deriveTwo_81 : decode cX12_deriveTwo 81 = .ok (.iload 5, 2) := by decide +kernel
theorem dX12_deriveTwo_83 : decode cX12_deriveTwo 83 = .ok (.invokevirtual 621, 3) := by decide +kernel
theorem dX12_deriveTwo_86 : decode cX12_deriveTwo 86 = .ok (.aload_n 0, 1) := by decide +kernel
theorem dX12_deriveTwo_87 : decode cX12_deriveTwo 87 = .ok (.iconst 3, 1) := by decide +kernel
theorem dX12_deriveTwo_88 : decode cX12_deriveTwo 88 = .ok (.iload 6, 2) := by decide +kernel
theorem dX12_deriveTwo_90 : decode cX12_deriveTwo 90 = .ok (.iconst 2, 1) := by decide +kernel
theorem dX12_deriveTwo_91 : decode cX12_deriveTwo 91 = .ok (.iconst 2, 1) := by decide +kernel
theorem dX12_deriveTwo_92 : decode cX12_deriveTwo 92 = .ok (.invokevirtual 615, 3) := by decide +kernel
theorem dX12_deriveTwo_95 : decode cX12_deriveTwo 95 = .ok (.aload_n 0, 1) := by decide +kernel
theorem dX12_deriveTwo_96 : decode cX12_deriveTwo 96 = .ok (.iload 4, 2) := by decide +kernel
theorem dX12_deriveTwo_98 : decode cX12_deriveTwo 98 = .ok (.invokevirtual 621, 3) := by decide +kernel
theorem dX12_deriveTwo_101 : decode cX12_deriveTwo 101 = .ok (.aload_n 0, 1) := by decide +kernel
theorem dX12_deriveTwo_102 : decode cX12_deriveTwo 102 = .ok (.iload 5, 2) := by decide +kernel
theorem dX12_deriveTwo_104 : decode cX12_deriveTwo 104 = .ok (.iload_n 2, 1) := by decide +kernel
theorem dX12_deriveTwo_105 : decode cX12_deriveTwo 105 = .ok (.invokevirtual 618, 3) := by decide +kernel
theorem dX12_deriveTwo_108 : decode cX12_deriveTwo 108 = .ok (.goto 226, 3) := by decide +kernel
theorem dX12_deriveTwo_111 : decode cX12_deriveTwo 111 = .ok (.aload_n 0, 1) := by decide +kernel
theorem dX12_deriveTwo_112 : decode cX12_deriveTwo 112 = .ok (.iconst 3, 1) := by decide +kernel
theorem dX12_deriveTwo_113 : decode cX12_deriveTwo 113 = .ok (.iload 6, 2) := by decide +kernel
theorem dX12_deriveTwo_115 : decode cX12_deriveTwo 115 = .ok (.iconst 2, 1) := by decide +kernel
theorem dX12_deriveTwo_116 : decode cX12_deriveTwo 116 = .ok (.iconst 2, 1) := by decide +kernel
theorem dX12_deriveTwo_117 : decode cX12_deriveTwo 117 = .ok (.invokevirtual 615, 3) := by decide +kernel
theorem dX12_deriveTwo_120 : decode cX12_deriveTwo 120 = .ok (.aload_n 0, 1) := by decide +kernel
theorem dX12_deriveTwo_121 : decode cX12_deriveTwo 121 = .ok (.iconst 3, 1) := by decide +kernel
theorem dX12_deriveTwo_122 : decode cX12_deriveTwo 122 = .ok (.aload_n 0, 1) := by decide +kernel
theorem dX12_deriveTwo_123 : decode cX12_deriveTwo 123 = .ok (.iconst 1, 1) := by decide +kernel
theorem dX12_deriveTwo_124 : decode cX12_deriveTwo 124 = .ok (.invokevirtual 612, 3) := by decide +kernel
theorem dX12_deriveTwo_127 : decode cX12_deriveTwo 127 = .ok (.iconst 2, 1) := by decide +kernel
theorem dX12_deriveTwo_128 : decode cX12_deriveTwo 128 = .ok (.iconst 2, 1) := by decide +kernel
theorem dX12_deriveTwo_129 : decode cX12_deriveTwo 129 = .ok (.invokevirtual 615, 3) := by decide +kernel
theorem dX12_deriveTwo_132 : decode cX12_deriveTwo 132 = .ok (.aload_n 0, 1) := by decide +kernel
theorem dX12_deriveTwo_133 : decode cX12_deriveTwo 133 = .ok (.iconst 3, 1) := by decide +kernel
theorem dX12_deriveTwo_134 : decode cX12_deriveTwo 134 = .ok (.aload_n 0, 1) := by decide +kernel
theorem dX12_deriveTwo_135 : decode cX12_deriveTwo 135 = .ok (.iconst 2, 1) := by decide +kernel
theorem dX12_deriveTwo_136 : decode cX12_deriveTwo 136 = .ok (.invokevirtual 612, 3) := by decide +kernel
theorem dX12_deriveTwo_139 : decode cX12_deriveTwo 139 = .ok (.iconst 2, 1) := by decide +kernel
theorem dX12_deriveTwo_140 : decode cX12_deriveTwo 140 = .ok (.iconst 2, 1) := by decide +kernel
theorem dX12_deriveTwo_141 : decode cX12_deriveTwo 141 = .ok (.invokevirtual 615, 3) := by decide +kernel
theorem dX12_deriveTwo_144 : decode cX12_deriveTwo 144 = .ok (.aload_n 0, 1) := by decide +kernel
theorem dX12_deriveTwo_145 : decode cX12_deriveTwo 145 = .ok (.iload 4, 2) := by decide +kernel
theorem dX12_deriveTwo_147 : decode cX12_deriveTwo 147 = .ok (.iload_n 2, 1) := by decide +kernel
theorem dX12_deriveTwo_148 : decode cX12_deriveTwo 148 = .ok (.invokevirtual 618, 3) := by decide +kernel
theorem dX12_deriveTwo_151 : decode cX12_deriveTwo 151 = .ok (.aload_n 0, 1) := by decide +kernel
theorem dX12_deriveTwo_152 : decode cX12_deriveTwo 152 = .ok (.iload 5, 2) := by decide +kernel
theorem dX12_deriveTwo_154 : decode cX12_deriveTwo 154 = .ok (.invokevirtual 621, 3) := by decide +kernel
theorem dX12_deriveTwo_157 : decode cX12_deriveTwo 157 = .ok (.aload_n 0, 1) := by decide +kernel
theorem dX12_deriveTwo_158 : decode cX12_deriveTwo 158 = .ok (.iconst 3, 1) := by decide +kernel
theorem dX12_deriveTwo_159 : decode cX12_deriveTwo 159 = .ok (.aload_n 0, 1) := by decide +kernel
theorem dX12_deriveTwo_160 : decode cX12_deriveTwo 160 = .ok (.iconst 2, 1) := by decide +kernel
theorem dX12_deriveTwo_161 : decode cX12_deriveTwo 161 = .ok (.invokevirtual 612, 3) := by decide +kernel
theorem dX12_deriveTwo_164 : decode cX12_deriveTwo 164 = .ok (.iconst 2, 1) := by decide +kernel
theorem dX12_deriveTwo_165 : decode cX12_deriveTwo 165 = .ok (.iconst 2, 1) := by decide +kernel
theorem dX12_deriveTwo_166 : decode cX12_deriveTwo 166 = .ok (.invokevirtual 615, 3) := by decide +kernel
theorem dX12_deriveTwo_169 : decode cX12_deriveTwo 169 = .ok (.aload_n 0, 1) := by decide +kernel
theorem dX12_deriveTwo_170 : decode cX12_deriveTwo 170 = .ok (.iload 4, 2) := by decide +kernel
theorem dX12_deriveTwo_172 : decode cX12_deriveTwo 172 = .ok (.invokevirtual 621, 3) := by decide +kernel
theorem dX12_deriveTwo_175 : decode cX12_deriveTwo 175 = .ok (.aload_n 0, 1) := by decide +kernel
theorem dX12_deriveTwo_176 : decode cX12_deriveTwo 176 = .ok (.iload 5, 2) := by decide +kernel
theorem dX12_deriveTwo_178 : decode cX12_deriveTwo 178 = .ok (.iload_n 2, 1) := by decide +kernel
theorem dX12_deriveTwo_179 : decode cX12_deriveTwo 179 = .ok (.invokevirtual 618, 3) := by decide +kernel
theorem dX12_deriveTwo_182 : decode cX12_deriveTwo 182 = .ok (.aload_n 0, 1) := by decide +kernel
theorem dX12_deriveTwo_183 : decode cX12_deriveTwo 183 = .ok (.iconst 3, 1) := by decide +kernel
theorem dX12_deriveTwo_184 : decode cX12_deriveTwo 184 = .ok (.aload_n 0, 1) := by decide +kernel
theorem dX12_deriveTwo_185 : decode cX12_deriveTwo 185 = .ok (.iconst 5, 1) := by decide +kernel
theorem dX12_deriveTwo_186 : decode cX12_deriveTwo 186 = .ok (.invokevirtual 612, 3) := by decide +kernel
theorem dX12_deriveTwo_189 : decode cX12_deriveTwo 189 = .ok (.iconst 2, 1) := by decide +kernel
theorem dX12_deriveTwo_190 : decode cX12_deriveTwo 190 = .ok (.iconst 2, 1) := by decide +kernel
theorem dX12_deriveTwo_191 : decode cX12_deriveTwo 191 = .ok (.invokevirtual 615, 3) := by decide +kernel
theorem dX12_deriveTwo_194 : decode cX12_deriveTwo 194 = .ok (.aload_n 0, 1) := by decide +kernel
theorem dX12_deriveTwo_195 : decode cX12_deriveTwo 195 = .ok (.iload 5, 2) := by decide +kernel
theorem dX12_deriveTwo_197 : decode cX12_deriveTwo 197 = .ok (.invokevirtual 621, 3) := by decide +kernel
theorem dX12_deriveTwo_200 : decode cX12_deriveTwo 200 = .ok (.aload_n 0, 1) := by decide +kernel
theorem dX12_deriveTwo_201 : decode cX12_deriveTwo 201 = .ok (.iconst 0, 1) := by decide +kernel
theorem dX12_deriveTwo_202 : decode cX12_deriveTwo 202 = .ok (.iconst 2, 1) := by decide +kernel
theorem dX12_deriveTwo_203 : decode cX12_deriveTwo 203 = .ok (.iconst (-1), 1) := by decide +kernel
theorem dX12_deriveTwo_204 : decode cX12_deriveTwo 204 = .ok (.iconst 0, 1) := by decide +kernel
theorem dX12_deriveTwo_205 : decode cX12_deriveTwo 205 = .ok (.invokevirtual 615, 3) := by decide +kernel
theorem dX12_deriveTwo_208 : decode cX12_deriveTwo 208 = .ok (.goto 126, 3) := by decide +kernel
theorem dX12_deriveTwo_211 : decode cX12_deriveTwo 211 = .ok (.aload_n 0, 1) := by decide +kernel
theorem dX12_deriveTwo_212 : decode cX12_deriveTwo 212 = .ok (.getfield 138, 3) := by decide +kernel
theorem dX12_deriveTwo_215 : decode cX12_deriveTwo 215 = .ok (.iload 5, 2) := by decide +kernel
theorem dX12_deriveTwo_217 : decode cX12_deriveTwo 217 = .ok (.iaload, 1) := by decide +kernel
theorem dX12_deriveTwo_218 : decode cX12_deriveTwo 218 = .ok (.ifCond .ne 14, 3) := by decide +kernel
theorem dX12_deriveTwo_221 : decode cX12_deriveTwo 221 = .ok (.aload_n 0, 1) := by decide +kernel
theorem dX12_deriveTwo_222 : decode cX12_deriveTwo 222 = .ok (.iconst 0, 1) := by decide +kernel
theorem dX12_deriveTwo_223 : decode cX12_deriveTwo 223 = .ok (.iconst 0, 1) := by decide +kernel
theorem dX12_deriveTwo_224 : decode cX12_deriveTwo 224 = .ok (.iconst (-1), 1) := by decide +kernel
theorem dX12_deriveTwo_225 : decode cX12_deriveTwo 225 = .ok (.iconst 0, 1) := by decide +kernel
theorem dX12_deriveTwo_226 : decode cX12_deriveTwo 226 = .ok (.invokevirtual 615, 3) := by decide +kernel
theorem dX12_deriveTwo_229 : decode cX12_deriveTwo 229 = .ok (.goto 105, 3) := by decide +kernel
theorem dX12_deriveTwo_232 : decode cX12_deriveTwo 232 = .ok (.aload_n 0, 1) := by decide +kernel
theorem dX12_deriveTwo_233 : decode cX12_deriveTwo 233 = .ok (.iconst 3, 1) := by decide +kernel
theorem dX12_deriveTwo_234 : decode cX12_deriveTwo 234 = .ok (.aload_n 0, 1) := by decide +kernel
theorem dX12_deriveTwo_235 : decode cX12_deriveTwo 235 = .ok (.iconst 2, 1) := by decide +kernel
theorem dX12_deriveTwo_236 : decode cX12_deriveTwo 236 = .ok (.invokevirtual 612, 3) := by decide +kernel
theorem dX12_deriveTwo_239 : decode cX12_deriveTwo 239 = .ok (.iconst 2, 1) := by decide +kernel
theorem dX12_deriveTwo_240 : decode cX12_deriveTwo 240 = .ok (.iconst 2, 1) := by decide +kernel
theorem dX12_deriveTwo_241 : decode cX12_deriveTwo 241 = .ok (.invokevirtual 615, 3) := by decide +kernel
theorem dX12_deriveTwo_244 : decode cX12_deriveTwo 244 = .ok (.aload_n 0, 1) := by decide +kernel
theorem dX12_deriveTwo_245 : decode cX12_deriveTwo 245 = .ok (.iconst 3, 1) := by decide +kernel
theorem dX12_deriveTwo_246 : decode cX12_deriveTwo 246 = .ok (.aload_n 0, 1) := by decide +kernel
theorem dX12_deriveTwo_247 : decode cX12_deriveTwo 247 = .ok (.iconst 2, 1) := by decide +kernel
theorem dX12_deriveTwo_248 : decode cX12_deriveTwo 248 = .ok (.invokevirtual 612, 3) := by decide +kernel
theorem dX12_deriveTwo_251 : decode cX12_deriveTwo 251 = .ok (.iconst 2, 1) := by decide +kernel
theorem dX12_deriveTwo_252 : decode cX12_deriveTwo 252 = .ok (.iconst 2, 1) := by decide +kernel
theorem dX12_deriveTwo_253 : decode cX12_deriveTwo 253 = .ok (.invokevirtual 615, 3) := by decide +kernel
theorem dX12_deriveTwo_256 : decode cX12_deriveTwo 256 = .ok (.aload_n 0, 1) := by decide +kernel
theorem dX12_deriveTwo_257 : decode cX12_deriveTwo 257 = .ok (.iconst 0, 1) := by decide +kernel
theorem dX12_deriveTwo_258 : decode cX12_deriveTwo 258 = .ok (.aload_n 0, 1) := by decide +kernel
theorem dX12_deriveTwo_259 : decode cX12_deriveTwo 259 = .ok (.getfield 138, 3) := by decide +kernel
theorem dX12_deriveTwo_262 : decode cX12_deriveTwo 262 = .ok (.iload 5, 2) := by decide +kernel
theorem dX12_deriveTwo_264 : decode cX12_deriveTwo 264 = .ok (.iaload, 1) := by decide +kernel
theorem dX12_deriveTwo_265 : decode cX12_deriveTwo 265 = .ok (.iconst (-1), 1) := by decide +kernel
theorem dX12_deriveTwo_266 : decode cX12_deriveTwo 266 = .ok (.iconst 0, 1) := by decide +kernel
theorem dX12_deriveTwo_267 : decode cX12_deriveTwo 267 = .ok (.invokevirtual 615, 3) := by decide +kernel
theorem dX12_deriveTwo_270 : decode cX12_deriveTwo 270 = .ok (.aload_n 0, 1) := by decide +kernel
theorem dX12_deriveTwo_271 : decode cX12_deriveTwo 271 = .ok (.iconst 3, 1) := by decide +kernel
theorem dX12_deriveTwo_272 : decode cX12_deriveTwo 272 = .ok (.iload 6, 2) := by decide +kernel
theorem dX12_deriveTwo_274 : decode cX12_deriveTwo 274 = .ok (.iconst 2, 1) := by decide +kernel
theorem dX12_deriveTwo_275 : decode cX12_deriveTwo 275 = .ok (.iconst 2, 1) := by decide +kernel
theorem dX12_deriveTwo_276 : decode cX12_deriveTwo 276 = .ok (.invokevirtual 615, 3) := by decide +kernel
theorem dX12_deriveTwo_279 : decode cX12_deriveTwo 279 = .ok (.aload_n 0, 1) := by decide +kernel
theorem dX12_deriveTwo_280 : decode cX12_deriveTwo 280 = .ok (.iload 4, 2) := by decide +kernel
theorem dX12_deriveTwo_282 : decode cX12_deriveTwo 282 = .ok (.invokevirtual 621, 3) := by decide +kernel
theorem dX12_deriveTwo_285 : decode cX12_deriveTwo 285 = .ok (.aload_n 0, 1) := by decide +kernel
theorem dX12_deriveTwo_286 : decode cX12_deriveTwo 286 = .ok (.iconst 0, 1) := by decide +kernel
theorem dX12_deriveTwo_287 : decode cX12_deriveTwo 287 = .ok (.aload_n 0, 1) := by decide +kernel
theorem dX12_deriveTwo_288 : decode cX12_deriveTwo 288 = .ok (.getfield 138, 3) := by decide +kernel
theorem dX12_deriveTwo_291 : decode cX12_deriveTwo 291 = .ok (.iload 5, 2) := by decide +kernel
theorem dX12_deriveTwo_293 : decode cX12_deriveTwo 293 = .ok (.iaload, 1) := by decide +kernel
theorem dX12_deriveTwo_294 : decode cX12_deriveTwo 294 = .ok (.iconst 1, 1) := by decide +kernel
theorem dX12_deriveTwo_295 : decode cX12_deriveTwo 295 = .ok (.isub, 1) := by decide +kernel
theorem dX12_deriveTwo_296 : decode cX12_deriveTwo 296 = .ok (.iconst (-1), 1) := by decide +kernel
theorem dX12_deriveTwo_297 : decode cX12_deriveTwo 297 = .ok (.iconst 0, 1) := by decide +kernel
theorem dX12_deriveTwo_298 : decode cX12_deriveTwo 298 = .ok (.invokevirtual 615, 3) := by decide +kernel
theorem dX12_deriveTwo_301 : decode cX12_deriveTwo 301 = .ok (.aload_n 0, 1) := by decide +kernel
theorem dX12_deriveTwo_302 : decode cX12_deriveTwo 302 = .ok (.iload 4, 2) := by decide +kernel
theorem dX12_deriveTwo_304 : decode cX12_deriveTwo 304 = .ok (.iload_n 2, 1) := by decide +kernel
theorem dX12_deriveTwo_305 : decode cX12_deriveTwo 305 = .ok (.invokevirtual 618, 3) := by decide +kernel
theorem dX12_deriveTwo_308 : decode cX12_deriveTwo 308 = .ok (.goto 26, 3) := by decide +kernel
theorem dX12_deriveTwo_311 : decode cX12_deriveTwo 311 = .ok (.aload_n 0, 1) := by decide +kernel
theorem dX12_deriveTwo_312 : decode cX12_deriveTwo 312 = .ok (.iconst 3, 1) := by decide +kernel
theorem dX12_deriveTwo_313 : decode cX12_deriveTwo 313 = .ok (.iload 6, 2) := by decide +kernel
theorem dX12_deriveTwo_315 : decode cX12_deriveTwo 315 = .ok (.iconst 2, 1) := by decide +kernel
theorem dX12_deriveTwo_316 : decode cX12_deriveTwo 316 = .ok (.iconst 2, 1) := by decide +kernel
theorem dX12_deriveTwo_317 : decode cX12_deriveTwo 317 = .ok (.invokevirtual 615, 3) := by decide +kernel
theorem dX12_deriveTwo_320 : decode cX12_deriveTwo 320 = .ok (.aload_n 0, 1) := by decide +kernel
theorem dX12_deriveTwo_321 : decode cX12_deriveTwo 321 = .ok (.iload 4, 2) := by decide +kernel
theorem dX12_deriveTwo_323 : decode cX12_deriveTwo 323 = .ok (.iload_n 2, 1) := by decide +kernel
theorem dX12_deriveTwo_324 : decode cX12_deriveTwo 324 = .ok (.invokevirtual 618, 3) := by decide +kernel
theorem dX12_deriveTwo_327 : decode cX12_deriveTwo 327 = .ok (.aload_n 0, 1) := by decide +kernel
theorem dX12_deriveTwo_328 : decode cX12_deriveTwo 328 = .ok (.iload 5, 2) := by decide +kernel
theorem dX12_deriveTwo_330 : decode cX12_deriveTwo 330 = .ok (.iload_n 2, 1) := by decide +kernel
theorem dX12_deriveTwo_331 : decode cX12_deriveTwo 331 = .ok (.invokevirtual 618, 3) := by decide +kernel
theorem dX12_deriveTwo_334 : decode cX12_deriveTwo 334 = .ok (.return_, 1) := by decide +kernel
theorem dX12_derives_0 : decode cX12_derives 0 = .ok (.aload_n 0, 1) := by decide +kernel
theorem dX12_derives_1 : decode cX12_derives 1 = .ok (.iload_n 1, 1) := by decide +kernel
theorem dX12_derives_2 : decode cX12_derives 2 = .ok (.invokevirtual 624, 3) := by decide +kernel
theorem dX12_derives_5 : decode cX12_derives 5 = .ok (.ifCond .ne 5, 3) := by decide +kernel
theorem dX12_derives_8 : decode cX12_derives 8 = .ok (.iconst (-1), 1) := by decide +kernel
theorem dX12_derives_9 : decode cX12_derives 9 = .ok (.ireturn, 1) := by decide +kernel
theorem dX12_derives_10 : decode cX12_derives 10 = .ok (.aload_n 0, 1) := by decide +kernel
theorem dX12_derives_11 : decode cX12_derives 11 = .ok (.iload_n 1, 1) := by decide +kernel
theorem dX12_derives_12 : decode cX12_derives 12 = .ok (.invokevirtual 439, 3) := by decide +kernel
theorem dX12_derives_15 : decode cX12_derives 15 = .ok (.istore_n 3, 1) := by decide +kernel
theorem dX12_derives_16 : decode cX12_derives 16 = .ok (.iconst 0, 1) := by decide +kernel
theorem dX12_derives_17 : decode cX12_derives 17 = .ok (.istore 4, 2) := by decide +kernel
theorem dX12_derives_19 : decode cX12_derives 19 = .ok (.iload 4, 2) := by decide +kernel
theorem dX12_derives_21 : decode cX12_derives 21 = .ok (.iload_n 3, 1) := by decide +kernel
theorem dX12_derives_22 : decode cX12_derives 22 = .ok (.if_icmp .ge 174, 3) := by decide +kernel
theorem dX12_derives_25 : decode cX12_derives 25 = .ok (.aload_n 0, 1) := by decide +kernel
theorem dX12_derives_26 : decode cX12_derives 26 = .ok (.getfield 150, 3) := by decide +kernel
theorem dX12_derives_29 : decode cX12_derives 29 = .ok (.iload 4, 2) := by decide +kernel
theorem dX12_derives_31 : decode cX12_derives 31 = .ok (.iaload, 1) := by decide +kernel
theorem dX12_derives_32 : decode cX12_derives 32 = .ok (.istore 5, 2) := by decide +kernel
theorem dX12_derives_34 : decode cX12_derives 34 = .ok (.aload_n 0, 1) := by decide +kernel
theorem dX12_derives_35 : decode cX12_derives 35 = .ok (.sipush 13740, 3) := by decide +kernel
theorem dX12_derives_38 : decode cX12_derives 38 = .ok (.bipush 80, 2) := by decide +kernel
theorem dX12_derives_40 : decode cX12_derives 40 = .ok (.iload 5, 2) := by decide +kernel
theorem dX12_derives_42 : decode cX12_derives 42 = .ok (.iload_n 1, 1) := by decide +kernel
theorem dX12_derives_43 : decode cX12_derives 43 = .ok (.isub, 1) := by decide +kernel
theorem dX12_derives_44 : decode cX12_derives 44 = .ok (.imul, 1) := by decide +kernel
theorem dX12_derives_45 : decode cX12_derives 45 = .ok (.iadd, 1) := by decide +kernel
theorem dX12_derives_46 : decode cX12_derives 46 = .ok (.putfield 606, 3) := by decide +kernel
theorem dX12_derives_49 : decode cX12_derives 49 = .ok (.aload_n 0, 1) := by decide +kernel
theorem dX12_derives_50 : decode cX12_derives 50 = .ok (.iconst 0, 1) := by decide +kernel
theorem dX12_derives_51 : decode cX12_derives 51 = .ok (.putfield 603, 3) := by decide +kernel
theorem dX12_derives_54 : decode cX12_derives 54 = .ok (.aload_n 0, 1) := by decide +kernel
theorem dX12_derives_55 : decode cX12_derives 55 = .ok (.getfield 135, 3) := by decide +kernel
theorem dX12_derives_58 : decode cX12_derives 58 = .ok (.iload 5, 2) := by decide +kernel
theorem dX12_derives_60 : decode cX12_derives 60 = .ok (.iaload, 1) := by decide +kernel
theorem dX12_derives_61 : decode cX12_derives 61 = .ok (.iconst 3, 1) := by decide +kernel
theorem dX12_derives_62 : decode cX12_derives 62 = .ok (.if_icmp .eq 40, 3) := by decide +kernel
theorem dX12_derives_65 : decode cX12_derives 65 = .ok (.aload_n 0, 1) := by decide +kernel
theorem dX12_derives_66 : decode cX12_derives 66 = .ok (.iconst 0, 1) := by decide +kernel
theorem dX12_derives_67 : decode cX12_derives 67 = .ok (.aload_n 0, 1) := by decide +kernel
theorem dX12_derives_68 : decode cX12_derives 68 = .ok (.getfield 135, 3) := by decide +kernel
theorem dX12_derives_71 : decode cX12_derives 71 = .ok (.iload 5, 2) := by decide +kernel
theorem dX12_derives_73 : decode cX12_derives 73 = .ok (.iaload, 1) := by decide +kernel
theorem dX12_derives_74 : decode cX12_derives 74 = .ok (.iconst 1, 1) := by decide +kernel
theorem dX12_derives_75 : decode cX12_derives 75 = .ok (.if_icmp .ne 18, 3) := by decide +kernel
theorem dX12_derives_78 : decode cX12_derives 78 = .ok (.aload_n 0, 1) := by decide +kernel
theorem dX12_derives_79 : decode cX12_derives 79 = .ok (.getfield 138, 3) := by decide +kernel
theorem dX12_derives_82 : decode cX12_derives 82 = .ok (.iload 5, 2) := by decide +kernel
theorem dX12_derives_84 : decode cX12_derives 84 = .ok (.iaload, 1) := by decide +kernel
theorem dX12_derives_85 : decode cX12_derives 85 = .ok (.iload_n 2, 1) := by decide +kernel
theorem dX12_derives_86 : decode cX12_derives 86 = .ok (.if_icmp .ne 7, 3) := by decide +kernel
theorem dX12_derives_89 : decode cX12_derives 89 = .ok (.iconst 1, 1) := by decide +kernel
theorem dX12_derives_90 : decode cX12_derives 90 = .ok (.goto 4, 3) := by decide +kernel
theorem dX12_derives_93 : decode cX12_derives 93 = .ok (.iconst 0, 1) := by decide +kernel
theorem dX12_derives_94 : decode cX12_derives 94 = .ok (.iconst (-1), 1) := by decide +kernel
theorem dX12_derives_95 : decode cX12_derives 95 = .ok (.iconst 0, 1) := by decide +kernel
theorem dX12_derives_96 : decode cX12_derives 96 = .ok (.invokevirtual 615, 3) := by decide +kernel
theorem dX12_derives_99 : decode cX12_derives 99 = .ok (.goto 59, 3) := by decide +kernel
theorem dX12_derives_102 : decode cX12_derives 102 = .ok (.aload_n 0, 1) := by decide +kernel
theorem dX12_derives_103 : decode cX12_derives 103 = .ok (.getfield 144, 3) := by decide +kernel
theorem dX12_derives_106 : decode cX12_derives 106 = .ok (.iload 5, 2) := by decide +kernel
theorem dX12_derives_108 : decode cX12_derives 108 = .ok (.iaload, 1) := by decide +kernel
theorem dX12_derives_109 : decode cX12_derives 109 = .ok (.iconst 1, 1) := by decide +kernel
theorem dX12_derives_110 : decode cX12_derives 110 = .ok (.if_icmp .ne 35, 3) := by decide +kernel
theorem dX12_derives_113 : decode cX12_derives 113 = .ok (.aload_n 0, 1) := by decide +kernel
theorem dX12_derives_114 : decode cX12_derives 114 = .ok (.iconst 3, 1) := by decide +kernel
theorem dX12_derives_115 : decode cX12_derives 115 = .ok (.aload_n 0, 1) := by decide +kernel
theorem dX12_derives_116 : decode cX12_derives 116 = .ok (.getfield 138, 3) := by decide +kernel
theorem dX12_derives_119 : decode cX12_derives 119 = .ok (.iload 5, 2) := by decide +kernel
theorem dX12_derives_121 : decode cX12_derives 121 = .ok (.iaload, 1) := by decide +kernel
theorem dX12_derives_122 : decode cX12_derives 122 = .ok (.aload_n 0, 1) := by decide +kernel
theorem dX12_derives_123 : decode cX12_derives 123 = .ok (.getfield 141, 3) := by decide +kernel
theorem dX12_derives_126 : decode cX12_derives 126 = .ok (.iload 5, 2) := by decide +kernel
theorem dX12_derives_128 : decode cX12_derives 128 = .ok (.iaload, 1) := by decide +kernel
theorem dX12_derives_129 : decode cX12_derives 129 = .ok (.iconst 1, 1) := by decide +kernel
theorem dX12_derives_130 : decode cX12_derives 130 = .ok (.invokevirtual 615, 3) := by decide +kernel
theorem dX12_derives_133 : decode cX12_derives 133 = .ok (.aload_n 0, 1) := by decide +kernel
theorem dX12_derives_134 : decode cX12_derives 134 = .ok (.iload 5, 2) := by decide +kernel
theorem dX12_derives_136 : decode cX12_derives 136 = .ok (.iconst 1, 1) := by decide +kernel
theorem dX12_derives_137 : decode cX12_derives 137 = .ok (.iadd, 1) := by decide +kernel
theorem dX12_derives_138 : decode cX12_derives 138 = .ok (.iload_n 1, 1) := by decide +kernel
theorem dX12_derives_139 : decode cX12_derives 139 = .ok (.invokevirtual 618, 3) := by decide +kernel
theorem dX12_derives_142 : decode cX12_derives 142 = .ok (.goto 16, 3) := by decide +kernel
theorem dX12_derives_145 : decode cX12_derives 145 = .ok (.aload_n 0, 1) := by decide +kernel
theorem dX12_derives_146 : decode cX12_derives 146 = .ok (.iload 5, 2) := by decide +kernel
theorem dX12_derives_148 : decode cX12_derives 148 = .ok (.iload_n 1, 1) := by decide +kernel
theorem dX12_derives_149 : decode cX12_derives 149 = .ok (.aload_n 0, 1) := by decide +kernel
theorem dX12_derives_150 : decode cX12_derives 150 = .ok (.iload 5, 2) := by decide +kernel
theorem dX12_derives_152 : decode cX12_derives 152 = .ok (.invokevirtual 484, 3) := by decide +kernel
theorem dX12_derives_155 : decode cX12_derives 155 = .ok (.invokevirtual 627, 3) := by decide +kernel
theorem dX12_derives_158 : decode cX12_derives 158 = .ok (.aload_n 0, 1) := by decide +kernel
theorem dX12_derives_159 : decode cX12_derives 159 = .ok (.getfield 299, 3) := by decide +kernel
theorem dX12_derives_162 : decode cX12_derives 162 = .ok (.iload 5, 2) := by decide +kernel
theorem dX12_derives_164 : decode cX12_derives 164 = .ok (.iload_n 1, 1) := by decide +kernel
theorem dX12_derives_165 : decode cX12_derives 165 = .ok (.isub, 1) := by decide +kernel
theorem dX12_derives_166 : decode cX12_derives 166 = .ok (.aload_n 0, 1) := by decide +kernel
theorem dX12_derives_167 : decode cX12_derives 167 = .ok (.getfield 603, 3) := by decide +kernel
theorem dX12_derives_170 : decode cX12_derives 170 = .ok (.iastore, 1) := by decide +kernel
theorem dX12_derives_171 : decode cX12_derives 171 = .ok (.aload_n 0, 1) := by decide +kernel
theorem dX12_derives_172 : decode cX12_derives 172 = .ok (.getfield 603, 3) := by decide +kernel
theorem dX12_derives_175 : decode cX12_derives 175 = .ok (.ifCond .le 15, 3) := by decide +kernel
theorem dX12_derives_178 : decode cX12_derives 178 = .ok (.aload_n 0, 1) := by decide +kernel
theorem dX12_derives_179 : decode cX12_derives 179 = .ok (.aload_n 0, 1) := by decide +kernel
theorem dX12_derives_180 : decode cX12_derives 180 = .ok (.getfield 606, 3) := by decide +kernel
theorem dX12_derives_183 : decode cX12_derives 183 = .ok (.aload_n 0, 1) := by decide +kernel
theorem dX12_derives_184 : decode cX12_derives 184 = .ok (.getfield 603, 3) := by decide +kernel
theorem dX12_derives_187 : decode cX12_derives 187 = .ok (.invokevirtual 389, 3) := by decide +kernel
theorem dX12_derives_190 : decode cX12_derives 190 = .ok (.iinc 4 1, 3) := by decide +kernel
theorem dX12_derives_193 : decode cX12_derives 193 = .ok (.goto (-174), 3) := by decide +kernel
theorem dX12_derives_196 : decode cX12_derives 196 = .ok (.aload_n 0, 1) := by decide +kernel
theorem dX12_derives_197 : decode cX12_derives 197 = .ok (.getfield 299, 3) := by decide +kernel
theorem dX12_derives_200 : decode cX12_derives 200 = .ok (.iconst 0, 1) := by decide +kernel
theorem dX12_derives_201 : decode cX12_derives 201 = .ok (.iaload, 1) := by decide +kernel
theorem dX12_derives_202 : decode cX12_derives 202 = .ok (.ireturn, 1) := by decide +kernel
theorem dX12_valueAt_0 : decode cX12_valueAt 0 = .ok (.sipush 2500, 3) := by decide +kernel
theorem dX12_valueAt_3 : decode cX12_valueAt 3 = .ok (.iconst 2, 1) := by decide +kernel
theorem dX12_valueAt_4 : decode cX12_valueAt 4 = .ok (.iload_n 0, 1) := by decide +kernel
theorem dX12_valueAt_5 : decode cX12_valueAt 5 = .ok (.imul, 1) := by decide +kernel
theorem dX12_valueAt_6 : decode cX12_valueAt 6 = .ok (.iadd, 1) := by decide +kernel
theorem dX12_valueAt_7 : decode cX12_valueAt 7 = .ok (.ireturn, 1) := by decide +kernel
theorem dX12_partAt_0 : decode cX12_partAt 0 = .ok (.sipush 2500, 3) := by decide +kernel
theorem dX12_partAt_3 : decode cX12_partAt 3 = .ok (.iconst 2, 1) := by decide +kernel
theorem dX12_partAt_4 : decode cX12_partAt 4 = .ok (.iload_n 0, 1) := by decide +kernel
theorem dX12_partAt_5 : decode cX12_partAt 5 = .ok (.imul, 1) := by decide +kernel
theorem dX12_partAt_6 : decode cX12_partAt 6 = .ok (.iadd, 1) := by decide +kernel
theorem dX12_partAt_7 : decode cX12_partAt 7 = .ok (.iconst 1, 1) := by decide +kernel
theorem dX12_partAt_8 : decode cX12_partAt 8 = .ok (.iadd, 1) := by decide +kernel
theorem dX12_partAt_9 : decode cX12_partAt 9 = .ok (.ireturn, 1) := by decide +kernel
theorem dX12_partOfPower_0 : decode cX12_partOfPower 0 = .ok (.sipush 3602, 3) := by decide +kernel
theorem dX12_partOfPower_3 : decode cX12_partOfPower 3 = .ok (.istore_n 3, 1) := by decide +kernel
theorem dX12_partOfPower_4 : decode cX12_partOfPower 4 = .ok (.aload_n 0, 1) := by decide +kernel
theorem dX12_partOfPower_5 : decode cX12_partOfPower 5 = .ok (.iload_n 3, 1) := by decide +kernel
theorem dX12_partOfPower_6 : decode cX12_partOfPower 6 = .ok (.iload_n 1, 1) := by decide +kernel
theorem dX12_partOfPower_7 : decode cX12_partOfPower 7 = .ok (.iload_n 2, 1) := by decide +kernel
theorem dX12_partOfPower_8 : decode cX12_partOfPower 8 = .ok (.iconst 1, 1) := by decide +kernel
theorem dX12_partOfPower_9 : decode cX12_partOfPower 9 = .ok (.isub, 1) := by decide +kernel
theorem dX12_partOfPower_10 : decode cX12_partOfPower 10 = .ok (.invokevirtual 109, 3) := by decide +kernel
theorem dX12_partOfPower_13 : decode cX12_partOfPower 13 = .ok (.pop, 1) := by decide +kernel
theorem dX12_partOfPower_14 : decode cX12_partOfPower 14 = .ok (.aload_n 0, 1) := by decide +kernel
theorem dX12_partOfPower_15 : decode cX12_partOfPower 15 = .ok (.sipush 3603, 3) := by decide +kernel
theorem dX12_partOfPower_18 : decode cX12_partOfPower 18 = .ok (.iload_n 2, 1) := by decide +kernel
theorem dX12_partOfPower_19 : decode cX12_partOfPower 19 = .ok (.invokevirtual 96, 3) := by decide +kernel
theorem dX12_partOfPower_22 : decode cX12_partOfPower 22 = .ok (.aload_n 0, 1) := by decide +kernel
theorem dX12_partOfPower_23 : decode cX12_partOfPower 23 = .ok (.iconst 2, 1) := by decide +kernel
theorem dX12_partOfPower_24 : decode cX12_partOfPower 24 = .ok (.iload_n 3, 1) := by decide +kernel
theorem dX12_partOfPower_25 : decode cX12_partOfPower 25 = .ok (.invokevirtual 72, 3) := by decide +kernel
theorem dX12_partOfPower_28 : decode cX12_partOfPower 28 = .ok (.aload_n 0, 1) := by decide +kernel
theorem dX12_partOfPower_29 : decode cX12_partOfPower 29 = .ok (.iconst 3, 1) := by decide +kernel
theorem dX12_partOfPower_30 : decode cX12_partOfPower 30 = .ok (.sipush 3603, 3) := by decide +kernel
theorem dX12_partOfPower_33 : decode cX12_partOfPower 33 = .ok (.invokevirtual 72, 3) := by decide +kernel
theorem dX12_partOfPower_36 : decode cX12_partOfPower 36 = .ok (.aload_n 0, 1) := by decide +kernel
theorem dX12_partOfPower_37 : decode cX12_partOfPower 37 = .ok (.iconst 4, 1) := by decide +kernel
theorem dX12_partOfPower_38 : decode cX12_partOfPower 38 = .ok (.iconst 2, 1) := by decide +kernel
theorem dX12_partOfPower_39 : decode cX12_partOfPower 39 = .ok (.iconst 3, 1) := by decide +kernel
theorem dX12_partOfPower_40 : decode cX12_partOfPower 40 = .ok (.invokevirtual 78, 3) := by decide +kernel
theorem dX12_partOfPower_43 : decode cX12_partOfPower 43 = .ok (.aload_n 0, 1) := by decide +kernel
theorem dX12_partOfPower_44 : decode cX12_partOfPower 44 = .ok (.iconst 2, 1) := by decide +kernel
theorem dX12_partOfPower_45 : decode cX12_partOfPower 45 = .ok (.iload_n 1, 1) := by decide +kernel
theorem dX12_partOfPower_46 : decode cX12_partOfPower 46 = .ok (.iconst 1, 1) := by decide +kernel
theorem dX12_partOfPower_47 : decode cX12_partOfPower 47 = .ok (.iadd, 1) := by decide +kernel
theorem dX12_partOfPower_48 : decode cX12_partOfPower 48 = .ok (.invokevirtual 72, 3) := by decide +kernel
theorem dX12_partOfPower_51 : decode cX12_partOfPower 51 = .ok (.aload_n 0, 1) := by decide +kernel
theorem dX12_partOfPower_52 : decode cX12_partOfPower 52 = .ok (.iconst 0, 1) := by decide +kernel
theorem dX12_partOfPower_53 : decode cX12_partOfPower 53 = .ok (.iconst 4, 1) := by decide +kernel
theorem dX12_partOfPower_54 : decode cX12_partOfPower 54 = .ok (.iconst 2, 1) := by decide +kernel
theorem dX12_partOfPower_55 : decode cX12_partOfPower 55 = .ok (.invokevirtual 78, 3) := by decide +kernel
theorem dX12_partOfPower_58 : decode cX12_partOfPower 58 = .ok (.aload_n 0, 1) := by decide +kernel
theorem dX12_partOfPower_59 : decode cX12_partOfPower 59 = .ok (.iconst 2, 1) := by decide +kernel
theorem dX12_partOfPower_60 : decode cX12_partOfPower 60 = .ok (.iload_n 3, 1) := by decide +kernel
theorem dX12_partOfPower_61 : decode cX12_partOfPower 61 = .ok (.invokevirtual 75, 3) := by decide +kernel
theorem dX12_partOfPower_64 : decode cX12_partOfPower 64 = .ok (.aload_n 0, 1) := by decide +kernel
theorem dX12_partOfPower_65 : decode cX12_partOfPower 65 = .ok (.iconst 3, 1) := by decide +kernel
theorem dX12_partOfPower_66 : decode cX12_partOfPower 66 = .ok (.iload_n 1, 1) := by decide +kernel
theorem dX12_partOfPower_67 : decode cX12_partOfPower 67 = .ok (.iconst 1, 1) := by decide +kernel
theorem dX12_partOfPower_68 : decode cX12_partOfPower 68 = .ok (.iadd, 1) := by decide +kernel
theorem dX12_partOfPower_69 : decode cX12_partOfPower 69 = .ok (.invokevirtual 75, 3) := by decide +kernel
theorem dX12_partOfPower_72 : decode cX12_partOfPower 72 = .ok (.aload_n 0, 1) := by decide +kernel
theorem dX12_partOfPower_73 : decode cX12_partOfPower 73 = .ok (.iconst 1, 1) := by decide +kernel
theorem dX12_partOfPower_74 : decode cX12_partOfPower 74 = .ok (.iconst 2, 1) := by decide +kernel
theorem dX12_partOfPower_75 : decode cX12_partOfPower 75 = .ok (.iconst 3, 1) := by decide +kernel
theorem dX12_partOfPower_76 : decode cX12_partOfPower 76 = .ok (.invokevirtual 78, 3) := by decide +kernel
theorem dX12_partOfPower_79 : decode cX12_partOfPower 79 = .ok (.aload_n 0, 1) := by decide +kernel
theorem dX12_partOfPower_80 : decode cX12_partOfPower 80 = .ok (.iload_n 1, 1) := by decide +kernel
theorem dX12_partOfPower_81 : decode cX12_partOfPower 81 = .ok (.iconst 1, 1) := by decide +kernel
theorem dX12_partOfPower_82 : decode cX12_partOfPower 82 = .ok (.iadd, 1) := by decide +kernel
theorem dX12_partOfPower_83 : decode cX12_partOfPower 83 = .ok (.aload_n 0, 1) := by decide +kernel
theorem dX12_partOfPower_84 : decode cX12_partOfPower 84 = .ok (.iload_n 3, 1) := by decide +kernel
theorem dX12_partOfPower_85 : decode cX12_partOfPower 85 = .ok (.invokevirtual 81, 3) := by decide +kernel
theorem dX12_partOfPower_88 : decode cX12_partOfPower 88 = .ok (.aload_n 0, 1) := by decide +kernel
theorem dX12_partOfPower_89 : decode cX12_partOfPower 89 = .ok (.iload_n 1, 1) := by decide +kernel
theorem dX12_partOfPower_90 : decode cX12_partOfPower 90 = .ok (.iconst 1, 1) := by decide +kernel
theorem dX12_partOfPower_91 : decode cX12_partOfPower 91 = .ok (.iadd, 1) := by decide +kernel
theorem dX12_partOfPower_92 : decode cX12_partOfPower 92 = .ok (.invokevirtual 81, 3) := by decide +kernel
theorem dX12_partOfPower_95 : decode cX12_partOfPower 95 = .ok (.imul, 1) := by decide +kernel
theorem dX12_partOfPower_96 : decode cX12_partOfPower 96 = .ok (.invokevirtual 88, 3) := by decide +kernel
theorem dX12_partOfPower_99 : decode cX12_partOfPower 99 = .ok (.ireturn, 1) := by decide +kernel
theorem dX12_partOfQuotient_0 : decode cX12_partOfQuotient 0 = .ok (.aload_n 0, 1) := by decide +kernel
theorem dX12_partOfQuotient_1 : decode cX12_partOfQuotient 1 = .ok (.invokevirtual 555, 3) := by decide +kernel
theorem dX12_partOfQuotient_4 : decode cX12_partOfQuotient 4 = .ok (.aload_n 0, 1) := by decide +kernel
theorem dX12_partOfQuotient_5 : decode cX12_partOfQuotient 5 = .ok (.iload_n 1, 1) := by decide +kernel
theorem dX12_partOfQuotient_6 : decode cX12_partOfQuotient 6 = .ok (.iconst 1, 1) := by decide +kernel
theorem dX12_partOfQuotient_7 : decode cX12_partOfQuotient 7 = .ok (.iadd, 1) := by decide +kernel
theorem dX12_partOfQuotient_8 : decode cX12_partOfQuotient 8 = .ok (.iload_n 2, 1) := by decide +kernel
theorem dX12_partOfQuotient_9 : decode cX12_partOfQuotient 9 = .ok (.iconst 1, 1) := by decide +kernel
theorem dX12_partOfQuotient_10 : decode cX12_partOfQuotient 10 = .ok (.invokevirtual 558, 3) := by decide +kernel
theorem dX12_partOfQuotient_13 : decode cX12_partOfQuotient 13 = .ok (.aload_n 0, 1) := by decide +kernel
theorem dX12_partOfQuotient_14 : decode cX12_partOfQuotient 14 = .ok (.iload_n 1, 1) := by decide +kernel
theorem dX12_partOfQuotient_15 : decode cX12_partOfQuotient 15 = .ok (.iload_n 2, 1) := by decide +kernel
theorem dX12_partOfQuotient_16 : decode cX12_partOfQuotient 16 = .ok (.iconst 1, 1) := by decide +kernel
theorem dX12_partOfQuotient_17 : decode cX12_partOfQuotient 17 = .ok (.iadd, 1) := by decide +kernel
theorem dX12_partOfQuotient_18 : decode cX12_partOfQuotient 18 = .ok (.iconst (-1), 1) := by decide +kernel
theorem dX12_partOfQuotient_19 : decode cX12_partOfQuotient 19 = .ok (.invokevirtual 558, 3) := by decide +kernel
theorem dX12_partOfQuotient_22 : decode cX12_partOfQuotient 22 = .ok (.aload_n 0, 1) := by decide +kernel
theorem dX12_partOfQuotient_23 : decode cX12_partOfQuotient 23 = .ok (.iconst 2, 1) := by decide +kernel
theorem dX12_partOfQuotient_24 : decode cX12_partOfQuotient 24 = .ok (.iload_n 2, 1) := by decide +kernel
theorem dX12_partOfQuotient_25 : decode cX12_partOfQuotient 25 = .ok (.invokevirtual 72, 3) := by decide +kernel
theorem dX12_partOfQuotient_28 : decode cX12_partOfQuotient 28 = .ok (.aload_n 0, 1) := by decide +kernel
theorem dX12_partOfQuotient_29 : decode cX12_partOfQuotient 29 = .ok (.iconst 3, 1) := by decide +kernel
theorem dX12_partOfQuotient_30 : decode cX12_partOfQuotient 30 = .ok (.iconst 2, 1) := by decide +kernel
theorem dX12_partOfQuotient_31 : decode cX12_partOfQuotient 31 = .ok (.iconst 2, 1) := by decide +kernel
theorem dX12_partOfQuotient_32 : decode cX12_partOfQuotient 32 = .ok (.invokevirtual 78, 3) := by decide +kernel
theorem dX12_partOfQuotient_35 : decode cX12_partOfQuotient 35 = .ok (.aload_n 0, 1) := by decide +kernel
theorem dX12_partOfQuotient_36 : decode cX12_partOfQuotient 36 = .ok (.iconst 1, 1) := by decide +kernel
theorem dX12_partOfQuotient_37 : decode cX12_partOfQuotient 37 = .ok (.bipush 9, 2) := by decide +kernel
theorem dX12_partOfQuotient_39 : decode cX12_partOfQuotient 39 = .ok (.iconst 3, 1) := by decide +kernel
theorem dX12_partOfQuotient_40 : decode cX12_partOfQuotient 40 = .ok (.invokevirtual 78, 3) := by decide +kernel
theorem dX12_partOfQuotient_43 : decode cX12_partOfQuotient 43 = .ok (.aload_n 0, 1) := by decide +kernel
theorem dX12_partOfQuotient_44 : decode cX12_partOfQuotient 44 = .ok (.iconst 2, 1) := by decide +kernel
theorem dX12_partOfQuotient_45 : decode cX12_partOfQuotient 45 = .ok (.iload_n 2, 1) := by decide +kernel
theorem dX12_partOfQuotient_46 : decode cX12_partOfQuotient 46 = .ok (.invokevirtual 75, 3) := by decide +kernel
theorem dX12_partOfQuotient_49 : decode cX12_partOfQuotient 49 = .ok (.aload_n 0, 1) := by decide +kernel
theorem dX12_partOfQuotient_50 : decode cX12_partOfQuotient 50 = .ok (.iconst 3, 1) := by decide +kernel
theorem dX12_partOfQuotient_51 : decode cX12_partOfQuotient 51 = .ok (.iconst 2, 1) := by decide +kernel
theorem dX12_partOfQuotient_52 : decode cX12_partOfQuotient 52 = .ok (.iconst 2, 1) := by decide +kernel
theorem dX12_partOfQuotient_53 : decode cX12_partOfQuotient 53 = .ok (.invokevirtual 78, 3) := by decide +kernel
theorem dX12_partOfQuotient_56 : decode cX12_partOfQuotient 56 = .ok (.aload_n 0, 1) := by decide +kernel
theorem dX12_partOfQuotient_57 : decode cX12_partOfQuotient 57 = .ok (.iconst 0, 1) := by decide +kernel
theorem dX12_partOfQuotient_58 : decode cX12_partOfQuotient 58 = .ok (.bipush 8, 2) := by decide +kernel
theorem dX12_partOfQuotient_60 : decode cX12_partOfQuotient 60 = .ok (.iconst 3, 1) := by decide +kernel
theorem dX12_partOfQuotient_61 : decode cX12_partOfQuotient 61 = .ok (.invokevirtual 78, 3) := by decide +kernel
theorem dX12_partOfQuotient_64 : decode cX12_partOfQuotient 64 = .ok (.aload_n 0, 1) := by decide +kernel
theorem dX12_partOfQuotient_65 : decode cX12_partOfQuotient 65 = .ok (.sipush 3604, 3) := by decide +kernel
theorem dX12_partOfQuotient_68 : decode cX12_partOfQuotient 68 = .ok (.aload_n 0, 1) := by decide +kernel
theorem dX12_partOfQuotient_69 : decode cX12_partOfQuotient 69 = .ok (.getfield 549, 3) := by decide +kernel
theorem dX12_partOfQuotient_72 : decode cX12_partOfQuotient 72 = .ok (.invokevirtual 88, 3) := by decide +kernel
theorem dX12_partOfQuotient_75 : decode cX12_partOfQuotient 75 = .ok (.ireturn, 1) := by decide +kernel
theorem dX12_pairTwo_0 : decode cX12_pairTwo 0 = .ok (.aload_n 0, 1) := by decide +kernel
theorem dX12_pairTwo_1 : decode cX12_pairTwo 1 = .ok (.dup, 1) := by decide +kernel
theorem dX12_pairTwo_2 : decode cX12_pairTwo 2 = .ok (.getfield 630, 3) := by decide +kernel
theorem dX12_pairTwo_5 : decode cX12_pairTwo 5 = .ok (.iconst 1, 1) := by decide +kernel
theorem dX12_pairTwo_6 : decode cX12_pairTwo 6 = .ok (.isub, 1) := by decide +kernel
theorem dX12_pairTwo_7 : decode cX12_pairTwo 7 = .ok (.putfield 630, 3) := by decide +kernel
theorem dX12_pairTwo_10 : decode cX12_pairTwo 10 = .ok (.aload_n 0, 1) := by decide +kernel
theorem dX12_pairTwo_11 : decode cX12_pairTwo 11 = .ok (.getfield 630, 3) := by decide +kernel
theorem dX12_pairTwo_14 : decode cX12_pairTwo 14 = .ok (.iconst 1, 1) := by decide +kernel
theorem dX12_pairTwo_15 : decode cX12_pairTwo 15 = .ok (.isub, 1) := by decide +kernel
theorem dX12_pairTwo_16 : decode cX12_pairTwo 16 = .ok (.invokestatic 633, 3) := by decide +kernel
theorem dX12_pairTwo_19 : decode cX12_pairTwo 19 = .ok (.istore_n 3, 1) := by decide +kernel
theorem dX12_pairTwo_20 : decode cX12_pairTwo 20 = .ok (.aload_n 0, 1) := by decide +kernel
theorem dX12_pairTwo_21 : decode cX12_pairTwo 21 = .ok (.getfield 630, 3) := by decide +kernel
theorem dX12_pairTwo_24 : decode cX12_pairTwo 24 = .ok (.invokestatic 633, 3) := by decide +kernel
theorem dX12_pairTwo_27 : decode cX12_pairTwo 27 = .ok (.istore 4, 2) := by decide +kernel
theorem dX12_pairTwo_29 : decode cX12_pairTwo 29 = .ok (.iconst 1, 1) := by decide +kernel
theorem dX12_pairTwo_30 : decode cX12_pairTwo 30 = .ok (.istore 5, 2) := by decide +kernel
theorem dX12_pairTwo_32 : decode cX12_pairTwo 32 = .ok (.aload_n 0, 1) := by decide +kernel
theorem dX12_pairTwo_33 : decode cX12_pairTwo 33 = .ok (.iload_n 1, 1) := by decide +kernel
theorem dX12_pairTwo_34 : decode cX12_pairTwo 34 = .ok (.iconst 1, 1) := by decide +kernel
theorem dX12_pairTwo_35 : decode cX12_pairTwo 35 = .ok (.invokevirtual 405, 3) := by decide +kernel
theorem dX12_pairTwo_38 : decode cX12_pairTwo 38 = .ok (.istore 6, 2) := by decide +kernel
theorem dX12_pairTwo_40 : decode cX12_pairTwo 40 = .ok (.iload_n 2, 1) := by decide +kernel
theorem dX12_pairTwo_41 : decode cX12_pairTwo 41 = .ok (.iconst 5, 1) := by decide +kernel
theorem dX12_pairTwo_42 : decode cX12_pairTwo 42 = .ok (.if_icmp .ne 77, 3) := by decide +kernel
theorem dX12_pairTwo_45 : decode cX12_pairTwo 45 = .ok (.aload_n 0, 1) := by decide +kernel
theorem dX12_pairTwo_46 : decode cX12_pairTwo 46 = .ok (.sipush 3605, 3) := by decide +kernel
theorem dX12_pairTwo_49 : decode cX12_pairTwo 49 = .ok (.iload_n 3, 1) := by decide +kernel
theorem dX12_pairTwo_50 : decode cX12_pairTwo 50 = .ok (.iload 4, 2) := by decide +kernel
theorem dX12_pairTwo_52 : decode cX12_pairTwo 52 = .ok (.invokevirtual 129, 3) := by decide +kernel
theorem dX12_pairTwo_55 : decode cX12_pairTwo 55 = .ok (.istore 7, 2) := by decide +kernel
theorem dX12_pairTwo_57 : decode cX12_pairTwo 57 = .ok (.iload 7, 2) := by decide +kernel
theorem dX12_pairTwo_59 : decode cX12_pairTwo 59 = .ok (.ifCond .le 6, 3) := by decide +kernel
theorem dX12_pairTwo_62 : decode cX12_pairTwo 62 = .ok (.iload 7, 2) := by decide +kernel
theorem dX12_pairTwo_64 : decode cX12_pairTwo 64 = .ok (.ireturn, 1) := by decide +kernel
theorem dX12_pairTwo_65 : decode cX12_pairTwo 65 = .ok (.aload_n 0, 1) := by decide +kernel
theorem dX12_pairTwo_66 : decode cX12_pairTwo 66 = .ok (.getfield 138, 3) := by decide +kernel
theorem dX12_pairTwo_69 : decode cX12_pairTwo 69 = .ok (.iload 6, 2) := by decide +kernel
theorem dX12_pairTwo_71 : decode cX12_pairTwo 71 = .ok (.iaload, 1) := by decide +kernel
theorem dX12_pairTwo_72 : decode cX12_pairTwo 72 = .ok (.ifCond .ne 14, 3) := by decide +kernel
theorem dX12_pairTwo_75 : decode cX12_pairTwo 75 = .ok (.aload_n 0, 1) := by decide +kernel
theorem dX12_pairTwo_76 : decode cX12_pairTwo 76 = .ok (.iload_n 3, 1) := by decide +kernel
theorem dX12_pairTwo_77 : decode cX12_pairTwo 77 = .ok (.iconst 1, 1) := by decide +kernel
theorem dX12_pairTwo_78 : decode cX12_pairTwo 78 = .ok (.iadd, 1) := by decide +kernel
theorem dX12_pairTwo_79 : decode cX12_pairTwo 79 = .ok (.iconst 0, 1) := by decide +kernel
theorem dX12_pairTwo_80 : decode cX12_pairTwo 80 = .ok (.invokevirtual 96, 3) := by decide +kernel
theorem dX12_pairTwo_83 : decode cX12_pairTwo 83 = .ok (.goto 17, 3) := by decide +kernel
theorem dX12_pairTwo_86 : decode cX12_pairTwo 86 = .ok (.aload_n 0, 1) := by decide +kernel
theorem dX12_pairTwo_87 : decode cX12_pairTwo 87 = .ok (.iload_n 3, 1) := by decide +kernel
theorem dX12_pairTwo_88 : decode cX12_pairTwo 88 = .ok (.aload_n 0, 1) := by decide +kernel
theorem dX12_pairTwo_89 : decode cX12_pairTwo 89 = .ok (.getfield 138, 3) := by decide +kernel
theorem dX12_pairTwo_92 : decode cX12_pairTwo 92 = .ok (.iload 6, 2) := by decide +kernel
theorem dX12_pairTwo_94 : decode cX12_pairTwo 94 = .ok (.iaload, 1) := by decide +kernel
theorem dX12_pairTwo_95 : decode cX12_pairTwo 95 = .ok (.invokevirtual 636, 3) := by decide +kernel
theorem dX12_pairTwo_98 : decode cX12_pairTwo 98 = .ok (.istore 5, 2) := by decide +kernel
theorem dX12_pairTwo_100 : decode cX12_pairTwo 100 = .ok (.aload_n 0, 1) := by decide +kernel
theorem dX12_pairTwo_101 : decode cX12_pairTwo 101 = .ok (.iload_n 3, 1) := by decide +kernel
theorem dX12_pairTwo_102 : decode cX12_pairTwo 102 = .ok (.sipush 3605, 3) := by decide +kernel
theorem dX12_pairTwo_105 : decode cX12_pairTwo 105 = .ok (.invokevirtual 115, 3) := by decide +kernel
theorem dX12_pairTwo_108 : decode cX12_pairTwo 108 = .ok (.iload 5, 2) := by decide +kernel
theorem dX12_pairTwo_110 : decode cX12_pairTwo 110 = .ok (.ifCond .eq 7, 3) := by decide +kernel
theorem dX12_pairTwo_113 : decode cX12_pairTwo 113 = .ok (.iconst 0, 1) := by decide +kernel
theorem dX12_pairTwo_114 : decode cX12_pairTwo 114 = .ok (.goto 4, 3) := by decide +kernel
theorem dX12_pairTwo_117 : decode cX12_pairTwo 117 = .ok (.iconst 3, 1) := by decide +kernel
theorem dX12_pairTwo_118 : decode cX12_pairTwo 118 = .ok (.ireturn, 1) := by decide +kernel
theorem dX12_pairTwo_119 : decode cX12_pairTwo 119 = .ok (.aload_n 0, 1) := by decide +kernel
theorem dX12_pairTwo_120 : decode cX12_pairTwo 120 = .ok (.sipush 3605, 3) := by decide +kernel
theorem dX12_pairTwo_123 : decode cX12_pairTwo 123 = .ok (.iload_n 3, 1) := by decide +kernel
theorem dX12_pairTwo_124 : decode cX12_pairTwo 124 = .ok (.invokevirtual 115, 3) := by decide +kernel
theorem dX12_pairTwo_127 : decode cX12_pairTwo 127 = .ok (.aload_n 0, 1) := by decide +kernel
theorem dX12_pairTwo_128 : decode cX12_pairTwo 128 = .ok (.iload_n 2, 1) := by decide +kernel
theorem dX12_pairTwo_129 : decode cX12_pairTwo 129 = .ok (.sipush 3605, 3) := by decide +kernel
theorem dX12_pairTwo_132 : decode cX12_pairTwo 132 = .ok (.iload 4, 2) := by decide +kernel
theorem dX12_pairTwo_134 : decode cX12_pairTwo 134 = .ok (.invokevirtual 493, 3) := by decide +kernel
theorem dX12_pairTwo_137 : decode cX12_pairTwo 137 = .ok (.istore 7, 2) := by decide +kernel
theorem dX12_pairTwo_139 : decode cX12_pairTwo 139 = .ok (.iload 7, 2) := by decide +kernel
theorem dX12_pairTwo_141 : decode cX12_pairTwo 141 = .ok (.ifCond .le 6, 3) := by decide +kernel
theorem dX12_pairTwo_144 : decode cX12_pairTwo 144 = .ok (.iload 7, 2) := by decide +kernel
theorem dX12_pairTwo_146 : decode cX12_pairTwo 146 = .ok (.ireturn, 1) := by decide +kernel
theorem dX12_pairTwo_147 : decode cX12_pairTwo 147 = .ok (.iload_n 2, 1) := by decide +kernel
theorem dX12_pairTwo_148 : decode cX12_pairTwo 148 = .ok (.iconst 3, 1) := by decide +kernel
theorem dX12_pairTwo_149 : decode cX12_pairTwo 149 = .ok (.if_icmp .ne 25, 3) := by decide +kernel
theorem dX12_pairTwo_152 : decode cX12_pairTwo 152 = .ok (.aload_n 0, 1) := by decide +kernel
theorem dX12_pairTwo_153 : decode cX12_pairTwo 153 = .ok (.iload_n 3, 1) := by decide +kernel
theorem dX12_pairTwo_154 : decode cX12_pairTwo 154 = .ok (.iload 4, 2) := by decide +kernel
theorem dX12_pairTwo_156 : decode cX12_pairTwo 156 = .ok (.invokevirtual 639, 3) := by decide +kernel
theorem dX12_pairTwo_159 : decode cX12_pairTwo 159 = .ok (.istore 5, 2) := by decide +kernel
theorem dX12_pairTwo_161 : decode cX12_pairTwo 161 = .ok (.aload_n 0, 1) := by decide +kernel
theorem dX12_pairTwo_162 : decode cX12_pairTwo 162 = .ok (.iload_n 3, 1) := by decide +kernel
theorem dX12_pairTwo_163 : decode cX12_pairTwo 163 = .ok (.iconst 1, 1) := by decide +kernel
theorem dX12_pairTwo_164 : decode cX12_pairTwo 164 = .ok (.iadd, 1) := by decide +kernel
theorem dX12_pairTwo_165 : decode cX12_pairTwo 165 = .ok (.sipush 3604, 3) := by decide +kernel
theorem dX12_pairTwo_168 : decode cX12_pairTwo 168 = .ok (.invokevirtual 115, 3) := by decide +kernel
theorem dX12_pairTwo_171 : decode cX12_pairTwo 171 = .ok (.goto 69, 3) := by decide +kernel
theorem dX12_pairTwo_174 : decode cX12_pairTwo 174 = .ok (.iload_n 2, 1) := by decide +kernel
theorem dX12_pairTwo_175 : decode cX12_pairTwo 175 = .ok (.iconst 2, 1) := by decide +kernel
theorem dX12_pairTwo_176 : decode cX12_pairTwo 176 = .ok (.if_icmp .ne 39, 3) := by decide +kernel
theorem dX12_pairTwo_179 : decode cX12_pairTwo 179 = .ok (.aload_n 0, 1) := by decide +kernel
theorem dX12_pairTwo_180 : decode cX12_pairTwo 180 = .ok (.invokevirtual 555, 3) := by decide +kernel
theorem dX12_pairTwo_183 : decode cX12_pairTwo 183 = .ok (.aload_n 0, 1) := by decide +kernel
theorem dX12_pairTwo_184 : decode cX12_pairTwo 184 = .ok (.iload_n 3, 1) := by decide +kernel
theorem dX12_pairTwo_185 : decode cX12_pairTwo 185 = .ok (.iconst 1, 1) := by decide +kernel
theorem dX12_pairTwo_186 : decode cX12_pairTwo 186 = .ok (.iadd, 1) := by decide +kernel
theorem dX12_pairTwo_187 : decode cX12_pairTwo 187 = .ok (.iload 4, 2) := by decide +kernel
theorem dX12_pairTwo_189 : decode cX12_pairTwo 189 = .ok (.iconst 1, 1) := by decide +kernel
theorem dX12_pairTwo_190 : decode cX12_pairTwo 190 = .ok (.invokevirtual 558, 3) := by decide +kernel
theorem dX12_pairTwo_193 : decode cX12_pairTwo 193 = .ok (.aload_n 0, 1) := by decide +kernel
theorem dX12_pairTwo_194 : decode cX12_pairTwo 194 = .ok (.iload_n 3, 1) := by decide +kernel
theorem dX12_pairTwo_195 : decode cX12_pairTwo 195 = .ok (.iload 4, 2) := by decide +kernel
theorem dX12_pairTwo_197 : decode cX12_pairTwo 197 = .ok (.iconst 1, 1) := by decide +kernel
theorem dX12_pairTwo_198 : decode cX12_pairTwo 198 = .ok (.iadd, 1) := by decide +kernel
theorem dX12_pairTwo_199 : decode cX12_pairTwo 199 = .ok (.iconst 1, 1) := by decide +kernel
theorem dX12_pairTwo_200 : decode cX12_pairTwo 200 = .ok (.invokevirtual 558, 3) := by decide +kernel
theorem dX12_pairTwo_203 : decode cX12_pairTwo 203 = .ok (.aload_n 0, 1) := by decide +kernel
theorem dX12_pairTwo_204 : decode cX12_pairTwo 204 = .ok (.iload_n 3, 1) := by decide +kernel
theorem dX12_pairTwo_205 : decode cX12_pairTwo 205 = .ok (.iconst 1, 1) := by decide +kernel
theorem dX12_pairTwo_206 : decode cX12_pairTwo 206 = .ok (.iadd, 1) := by decide +kernel
theorem dX12_pairTwo_207 : decode cX12_pairTwo 207 = .ok (.invokevirtual 561, 3) := by decide +kernel
theorem dX12_pairTwo_210 : decode cX12_pairTwo 210 = .ok (.istore 5, 2) := by decide +kernel
theorem dX12_pairTwo_212 : decode cX12_pairTwo 212 = .ok (.goto 28, 3) := by decide +kernel
theorem dX12_pairTwo_215 : decode cX12_pairTwo 215 = .ok (.aload_n 0, 1) := by decide +kernel
theorem dX12_pairTwo_216 : decode cX12_pairTwo 216 = .ok (.iload_n 3, 1) := by decide +kernel
theorem dX12_pairTwo_217 : decode cX12_pairTwo 217 = .ok (.iconst 1, 1) := by decide +kernel
theorem dX12_pairTwo_218 : decode cX12_pairTwo 218 = .ok (.iadd, 1) := by decide +kernel
theorem dX12_pairTwo_219 : decode cX12_pairTwo 219 = .ok (.iload_n 3, 1) := by decide +kernel
theorem dX12_pairTwo_220 : decode cX12_pairTwo 220 = .ok (.iconst 1, 1) := by decide +kernel
theorem dX12_pairTwo_221 : decode cX12_pairTwo 221 = .ok (.iadd, 1) := by decide +kernel
theorem dX12_pairTwo_222 : decode cX12_pairTwo 222 = .ok (.iload 4, 2) := by decide +kernel
theorem dX12_pairTwo_224 : decode cX12_pairTwo 224 = .ok (.iconst 1, 1) := by decide +kernel
theorem dX12_pairTwo_225 : decode cX12_pairTwo 225 = .ok (.iadd, 1) := by decide +kernel
theorem dX12_pairTwo_226 : decode cX12_pairTwo 226 = .ok (.iload_n 2, 1) := by decide +kernel
theorem dX12_pairTwo_227 : decode cX12_pairTwo 227 = .ok (.ifCond .ne 7, 3) := by decide +kernel
theorem dX12_pairTwo_230 : decode cX12_pairTwo 230 = .ok (.iconst 1, 1) := by decide +kernel
theorem dX12_pairTwo_231 : decode cX12_pairTwo 231 = .ok (.goto 4, 3) := by decide +kernel
theorem dX12_pairTwo_234 : decode cX12_pairTwo 234 = .ok (.iconst (-1), 1) := by decide +kernel
theorem dX12_pairTwo_235 : decode cX12_pairTwo 235 = .ok (.invokevirtual 121, 3) := by decide +kernel
theorem dX12_pairTwo_238 : decode cX12_pairTwo 238 = .ok (.istore 5, 2) := by decide +kernel
theorem dX12_pairTwo_240 : decode cX12_pairTwo 240 = .ok (.aload_n 0, 1) := by decide +kernel
theorem dX12_pairTwo_241 : decode cX12_pairTwo 241 = .ok (.iload_n 3, 1) := by decide +kernel
theorem dX12_pairTwo_242 : decode cX12_pairTwo 242 = .ok (.sipush 3605, 3) := by decide +kernel
theorem dX12_pairTwo_245 : decode cX12_pairTwo 245 = .ok (.invokevirtual 115, 3) := by decide +kernel
theorem dX12_pairTwo_248 : decode cX12_pairTwo 248 = .ok (.iload 5, 2) := by decide +kernel
theorem dX12_pairTwo_250 : decode cX12_pairTwo 250 = .ok (.ifCond .eq 7, 3) := by decide +kernel
theorem dX12_pairTwo_253 : decode cX12_pairTwo 253 = .ok (.iconst 0, 1) := by decide +kernel
theorem dX12_pairTwo_254 : decode cX12_pairTwo 254 = .ok (.goto 4, 3) := by decide +kernel
theorem dX12_pairTwo_257 : decode cX12_pairTwo 257 = .ok (.iconst 3, 1) := by decide +kernel
theorem dX12_pairTwo_258 : decode cX12_pairTwo 258 = .ok (.ireturn, 1) := by decide +kernel
theorem dX12_pairNode_0 : decode cX12_pairNode 0 = .ok (.aload_n 0, 1) := by decide +kernel
theorem dX12_pairNode_1 : decode cX12_pairNode 1 = .ok (.getfield 135, 3) := by decide +kernel
theorem dX12_pairNode_4 : decode cX12_pairNode 4 = .ok (.iload_n 1, 1) := by decide +kernel
theorem dX12_pairNode_5 : decode cX12_pairNode 5 = .ok (.iaload, 1) := by decide +kernel
theorem dX12_pairNode_6 : decode cX12_pairNode 6 = .ok (.iconst 3, 1) := by decide +kernel
theorem dX12_pairNode_7 : decode cX12_pairNode 7 = .ok (.if_icmp .ne 24, 3) := by decide +kernel
theorem dX12_pairNode_10 : decode cX12_pairNode 10 = .ok (.aload_n 0, 1) := by decide +kernel
theorem dX12_pairNode_11 : decode cX12_pairNode 11 = .ok (.getfield 144, 3) := by decide +kernel
theorem dX12_pairNode_14 : decode cX12_pairNode 14 = .ok (.iload_n 1, 1) := by decide +kernel
theorem dX12_pairNode_15 : decode cX12_pairNode 15 = .ok (.iaload, 1) := by decide +kernel
theorem dX12_pairNode_16 : decode cX12_pairNode 16 = .ok (.iconst 2, 1) := by decide +kernel
theorem dX12_pairNode_17 : decode cX12_pairNode 17 = .ok (.if_icmp .ne 14, 3) := by decide +kernel
theorem dX12_pairNode_20 : decode cX12_pairNode 20 = .ok (.aload_n 0, 1) := by decide +kernel
theorem dX12_pairNode_21 : decode cX12_pairNode 21 = .ok (.iload_n 1, 1) := by decide +kernel
theorem dX12_pairNode_22 : decode cX12_pairNode 22 = .ok (.aload_n 0, 1) := by decide +kernel
theorem dX12_pairNode_23 : decode cX12_pairNode 23 = .ok (.iload_n 1, 1) := by decide +kernel
theorem dX12_pairNode_24 : decode cX12_pairNode 24 = .ok (.invokevirtual 484, 3) := by decide +kernel
theorem dX12_pairNode_27 : decode cX12_pairNode 27 = .ok (.invokevirtual 642, 3) := by decide +kernel
theorem dX12_pairNode_30 : decode cX12_pairNode 30 = .ok (.ireturn, 1) := by decide +kernel
theorem dX12_pairNode_31 : decode cX12_pairNode 31 = .ok (.aload_n 0, 1) := by decide +kernel
theorem dX12_pairNode_32 : decode cX12_pairNode 32 = .ok (.getfield 135, 3) := by decide +kernel
theorem dX12_pairNode_35 : decode cX12_pairNode 35 = .ok (.iload_n 1, 1) := by decide +kernel
theorem dX12_pairNode_36 : decode cX12_pairNode 36 = .ok (.iaload, 1) := by decide +kernel
theorem dX12_pairNode_37 : decode cX12_pairNode 37 = .ok (.iconst 3, 1) := by decide +kernel
theorem dX12_pairNode_38 : decode cX12_pairNode 38 = .ok (.if_icmp .ne 67, 3) := by decide +kernel
theorem dX12_pairNode_41 : decode cX12_pairNode 41 = .ok (.aload_n 0, 1) := by decide +kernel
theorem dX12_pairNode_42 : decode cX12_pairNode 42 = .ok (.getfield 46, 3) := by decide +kernel
theorem dX12_pairNode_45 : decode cX12_pairNode 45 = .ok (.bipush 28, 2) := by decide +kernel
theorem dX12_pairNode_47 : decode cX12_pairNode 47 = .ok (.aload_n 0, 1) := by decide +kernel
theorem dX12_pairNode_48 : decode cX12_pairNode 48 = .ok (.getfield 630, 3) := by decide +kernel
theorem dX12_pairNode_51 : decode cX12_pairNode 51 = .ok (.iconst 1, 1) := by decide +kernel
theorem dX12_pairNode_52 : decode cX12_pairNode 52 = .ok (.isub, 1) := by decide +kernel
theorem dX12_pairNode_53 : decode cX12_pairNode 53 = .ok (.invokestatic 633, 3) := by decide +kernel
theorem dX12_pairNode_56 : decode cX12_pairNode 56 = .ok (.imul, 1) := by decide +kernel
theorem dX12_pairNode_57 : decode cX12_pairNode 57 = .ok (.aload_n 0, 1) := by decide +kernel
theorem dX12_pairNode_58 : decode cX12_pairNode 58 = .ok (.aload_n 0, 1) := by decide +kernel
theorem dX12_pairNode_59 : decode cX12_pairNode 59 = .ok (.getfield 630, 3) := by decide +kernel
theorem dX12_pairNode_62 : decode cX12_pairNode 62 = .ok (.iconst 1, 1) := by decide +kernel
theorem dX12_pairNode_63 : decode cX12_pairNode 63 = .ok (.isub, 1) := by decide +kernel
theorem dX12_pairNode_64 : decode cX12_pairNode 64 = .ok (.invokestatic 633, 3) := by decide +kernel
theorem dX12_pairNode_67 : decode cX12_pairNode 67 = .ok (.invokevirtual 81, 3) := by decide +kernel
theorem dX12_pairNode_70 : decode cX12_pairNode 70 = .ok (.ineg, 1) := by decide +kernel
theorem dX12_pairNode_71 : decode cX12_pairNode 71 = .ok (.iastore, 1) := by decide +kernel
theorem dX12_pairNode_72 : decode cX12_pairNode 72 = .ok (.aload_n 0, 1) := by decide +kernel
theorem dX12_pairNode_73 : decode cX12_pairNode 73 = .ok (.getfield 46, 3) := by decide +kernel
theorem dX12_pairNode_76 : decode cX12_pairNode 76 = .ok (.bipush 28, 2) := by decide +kernel
theorem dX12_pairNode_78 : decode cX12_pairNode 78 = .ok (.aload_n 0, 1) := by decide +kernel
theorem dX12_pairNode_79 : decode cX12_pairNode 79 = .ok (.getfield 630, 3) := by decide +kernel
theorem dX12_pairNode_82 : decode cX12_pairNode 82 = .ok (.iconst 1, 1) := by decide +kernel
theorem dX12_pairNode_83 : decode cX12_pairNode 83 = .ok (.isub, 1) := by decide +kernel
theorem dX12_pairNode_84 : decode cX12_pairNode 84 = .ok (.invokestatic 645, 3) := by decide +kernel
theorem dX12_pairNode_87 : decode cX12_pairNode 87 = .ok (.imul, 1) := by decide +kernel
theorem dX12_pairNode_88 : decode cX12_pairNode 88 = .ok (.aload_n 0, 1) := by decide +kernel
theorem dX12_pairNode_89 : decode cX12_pairNode 89 = .ok (.aload_n 0, 1) := by decide +kernel
theorem dX12_pairNode_90 : decode cX12_pairNode 90 = .ok (.getfield 630, 3) := by decide +kernel
theorem dX12_pairNode_93 : decode cX12_pairNode 93 = .ok (.iconst 1, 1) := by decide +kernel
theorem dX12_pairNode_94 : decode cX12_pairNode 94 = .ok (.isub, 1) := by decide +kernel
theorem dX12_pairNode_95 : decode cX12_pairNode 95 = .ok (.invokestatic 645, 3) := by decide +kernel
theorem dX12_pairNode_98 : decode cX12_pairNode 98 = .ok (.invokevirtual 81, 3) := by decide +kernel
theorem dX12_pairNode_101 : decode cX12_pairNode 101 = .ok (.ineg, 1) := by decide +kernel
theorem dX12_pairNode_102 : decode cX12_pairNode 102 = .ok (.iastore, 1) := by decide +kernel
theorem dX12_pairNode_103 : decode cX12_pairNode 103 = .ok (.iconst 0, 1) := by decide +kernel
theorem dX12_pairNode_104 : decode cX12_pairNode 104 = .ok (.ireturn, 1) := by decide +kernel
theorem dX12_pairNode_105 : decode cX12_pairNode 105 = .ok (.aload_n 0, 1) := by decide +kernel
theorem dX12_pairNode_106 : decode cX12_pairNode 106 = .ok (.getfield 135, 3) := by decide +kernel
theorem dX12_pairNode_109 : decode cX12_pairNode 109 = .ok (.iload_n 1, 1) := by decide +kernel
theorem dX12_pairNode_110 : decode cX12_pairNode 110 = .ok (.iaload, 1) := by decide +kernel
theorem dX12_pairNode_111 : decode cX12_pairNode 111 = .ok (.iconst 1, 1) := by decide +kernel
theorem dX12_pairNode_112 : decode cX12_pairNode 112 = .ok (.if_icmp .ne 7, 3) := by decide +kernel
theorem dX12_pairNode_115 : decode cX12_pairNode 115 = .ok (.iconst 1, 1) := by decide +kernel
theorem dX12_pairNode_116 : decode cX12_pairNode 116 = .ok (.goto 4, 3) := by decide +kernel
theorem dX12_pairNode_119 : decode cX12_pairNode 119 = .ok (.iconst 0, 1) := by decide +kernel
theorem dX12_pairNode_120 : decode cX12_pairNode 120 = .ok (.istore_n 3, 1) := by decide +kernel
theorem dX12_pairNode_121 : decode cX12_pairNode 121 = .ok (.iload_n 3, 1) := by decide +kernel
theorem dX12_pairNode_122 : decode cX12_pairNode 122 = .ok (.ifCond .eq 22, 3) := by decide +kernel
theorem dX12_pairNode_125 : decode cX12_pairNode 125 = .ok (.aload_n 0, 1) := by decide +kernel
theorem dX12_pairNode_126 : decode cX12_pairNode 126 = .ok (.getfield 248, 3) := by decide +kernel
theorem dX12_pairNode_129 : decode cX12_pairNode 129 = .ok (.aload_n 0, 1) := by decide +kernel
theorem dX12_pairNode_130 : decode cX12_pairNode 130 = .ok (.getfield 138, 3) := by decide +kernel
theorem dX12_pairNode_133 : decode cX12_pairNode 133 = .ok (.iload_n 1, 1) := by decide +kernel
theorem dX12_pairNode_134 : decode cX12_pairNode 134 = .ok (.iaload, 1) := by decide +kernel
theorem dX12_pairNode_135 : decode cX12_pairNode 135 = .ok (.bipush 97, 2) := by decide +kernel
theorem dX12_pairNode_137 : decode cX12_pairNode 137 = .ok (.isub, 1) := by decide +kernel
theorem dX12_pairNode_138 : decode cX12_pairNode 138 = .ok (.baload, 1) := by decide +kernel
theorem dX12_pairNode_139 : decode cX12_pairNode 139 = .ok (.ifCond .ne 5, 3) := by decide +kernel
theorem dX12_pairNode_142 : decode cX12_pairNode 142 = .ok (.iconst 4, 1) := by decide +kernel
theorem dX12_pairNode_143 : decode cX12_pairNode 143 = .ok (.ireturn, 1) := by decide +kernel
theorem dX12_pairNode_144 : decode cX12_pairNode 144 = .ok (.iload_n 3, 1) := by decide +kernel
theorem dX12_pairNode_145 : decode cX12_pairNode 145 = .ok (.ifCond .eq 26, 3) := by decide +kernel
theorem dX12_pairNode_148 : decode cX12_pairNode 148 = .ok (.aload_n 0, 1) := by decide +kernel
theorem dX12_pairNode_149 : decode cX12_pairNode 149 = .ok (.aload_n 0, 1) := by decide +kernel
theorem dX12_pairNode_150 : decode cX12_pairNode 150 = .ok (.getfield 630, 3) := by decide +kernel
theorem dX12_pairNode_153 : decode cX12_pairNode 153 = .ok (.invokestatic 633, 3) := by decide +kernel
theorem dX12_pairNode_156 : decode cX12_pairNode 156 = .ok (.aload_n 0, 1) := by decide +kernel
theorem dX12_pairNode_157 : decode cX12_pairNode 157 = .ok (.getfield 138, 3) := by decide +kernel
theorem dX12_pairNode_160 : decode cX12_pairNode 160 = .ok (.iload_n 1, 1) := by decide +kernel
theorem dX12_pairNode_161 : decode cX12_pairNode 161 = .ok (.iaload, 1) := by decide +kernel
theorem dX12_pairNode_162 : decode cX12_pairNode 162 = .ok (.bipush 97, 2) := by decide +kernel
theorem dX12_pairNode_164 : decode cX12_pairNode 164 = .ok (.isub, 1) := by decide +kernel
theorem dX12_pairNode_165 : decode cX12_pairNode 165 = .ok (.invokevirtual 115, 3) := by decide +kernel
theorem dX12_pairNode_168 : decode cX12_pairNode 168 = .ok (.goto 20, 3) := by decide +kernel
theorem dX12_pairNode_171 : decode cX12_pairNode 171 = .ok (.aload_n 0, 1) := by decide +kernel
theorem dX12_pairNode_172 : decode cX12_pairNode 172 = .ok (.aload_n 0, 1) := by decide +kernel
theorem dX12_pairNode_173 : decode cX12_pairNode 173 = .ok (.getfield 630, 3) := by decide +kernel
theorem dX12_pairNode_176 : decode cX12_pairNode 176 = .ok (.invokestatic 633, 3) := by decide +kernel
theorem dX12_pairNode_179 : decode cX12_pairNode 179 = .ok (.aload_n 0, 1) := by decide +kernel
theorem dX12_pairNode_180 : decode cX12_pairNode 180 = .ok (.getfield 138, 3) := by decide +kernel
theorem dX12_pairNode_183 : decode cX12_pairNode 183 = .ok (.iload_n 1, 1) := by decide +kernel
theorem dX12_pairNode_184 : decode cX12_pairNode 184 = .ok (.iaload, 1) := by decide +kernel
theorem dX12_pairNode_185 : decode cX12_pairNode 185 = .ok (.invokevirtual 96, 3) := by decide +kernel
theorem dX12_pairNode_188 : decode cX12_pairNode 188 = .ok (.aload_n 0, 1) := by decide +kernel
theorem dX12_pairNode_189 : decode cX12_pairNode 189 = .ok (.aload_n 0, 1) := by decide +kernel
theorem dX12_pairNode_190 : decode cX12_pairNode 190 = .ok (.getfield 630, 3) := by decide +kernel
theorem dX12_pairNode_193 : decode cX12_pairNode 193 = .ok (.invokestatic 645, 3) := by decide +kernel
theorem dX12_pairNode_196 : decode cX12_pairNode 196 = .ok (.iload_n 3, 1) := by decide +kernel
theorem dX12_pairNode_197 : decode cX12_pairNode 197 = .ok (.ifCond .eq 17, 3) := by decide +kernel
theorem dX12_pairNode_200 : decode cX12_pairNode 200 = .ok (.aload_n 0, 1) := by decide +kernel
theorem dX12_pairNode_201 : decode cX12_pairNode 201 = .ok (.getfield 138, 3) := by decide +kernel
theorem dX12_pairNode_204 : decode cX12_pairNode 204 = .ok (.iload_n 1, 1) := by decide +kernel
theorem dX12_pairNode_205 : decode cX12_pairNode 205 = .ok (.iaload, 1) := by decide +kernel
theorem dX12_pairNode_206 : decode cX12_pairNode 206 = .ok (.iload_n 2, 1) := by decide +kernel
theorem dX12_pairNode_207 : decode cX12_pairNode 207 = .ok (.if_icmp .ne 7, 3) := by decide +kernel
theorem dX12_pairNode_210 : decode cX12_pairNode 210 = .ok (.iconst 1, 1) := by decide +kernel
theorem dX12_pairNode_211 : decode cX12_pairNode 211 = .ok (.goto 4, 3) := by decide +kernel
theorem dX12_pairNode_214 : decode cX12_pairNode 214 = .ok (.iconst 0, 1) := by decide +kernel
theorem dX12_pairNode_215 : decode cX12_pairNode 215 = .ok (.invokevirtual 96, 3) := by decide +kernel
theorem dX12_pairNode_218 : decode cX12_pairNode 218 = .ok (.aload_n 0, 1) := by decide +kernel
theorem dX12_pairNode_219 : decode cX12_pairNode 219 = .ok (.dup, 1) := by decide +kernel
theorem dX12_pairNode_220 : decode cX12_pairNode 220 = .ok (.getfield 630, 3) := by decide +kernel
theorem dX12_pairNode_223 : decode cX12_pairNode 223 = .ok (.iconst 1, 1) := by decide +kernel
theorem dX12_pairNode_224 : decode cX12_pairNode 224 = .ok (.iadd, 1) := by decide +kernel
theorem dX12_pairNode_225 : decode cX12_pairNode 225 = .ok (.putfield 630, 3) := by decide +kernel
theorem dX12_pairNode_228 : decode cX12_pairNode 228 = .ok (.iconst 0, 1) := by decide +kernel
theorem dX12_pairNode_229 : decode cX12_pairNode 229 = .ok (.ireturn, 1) := by decide +kernel
theorem dX12_slopes_0 : decode cX12_slopes 0 = .ok (.aload_n 0, 1) := by decide +kernel
theorem dX12_slopes_1 : decode cX12_slopes 1 = .ok (.iconst 0, 1) := by decide +kernel
theorem dX12_slopes_2 : decode cX12_slopes 2 = .ok (.putfield 630, 3) := by decide +kernel
theorem dX12_slopes_5 : decode cX12_slopes 5 = .ok (.aload_n 0, 1) := by decide +kernel
theorem dX12_slopes_6 : decode cX12_slopes 6 = .ok (.iload_n 1, 1) := by decide +kernel
theorem dX12_slopes_7 : decode cX12_slopes 7 = .ok (.invokevirtual 439, 3) := by decide +kernel
theorem dX12_slopes_10 : decode cX12_slopes 10 = .ok (.istore_n 3, 1) := by decide +kernel
theorem dX12_slopes_11 : decode cX12_slopes 11 = .ok (.iconst 0, 1) := by decide +kernel
theorem dX12_slopes_12 : decode cX12_slopes 12 = .ok (.istore 4, 2) := by decide +kernel
theorem dX12_slopes_14 : decode cX12_slopes 14 = .ok (.iconst 0, 1) := by decide +kernel
theorem dX12_slopes_15 : decode cX12_slopes 15 = .ok (.istore 5, 2) := by decide +kernel
theorem dX12_slopes_17 : decode cX12_slopes 17 = .ok (.iload 5, 2) := by decide +kernel
theorem dX12_slopes_19 : decode cX12_slopes 19 = .ok (.iload_n 3, 1) := by decide +kernel
theorem dX12_slopes_20 : decode cX12_slopes 20 = .ok (.if_icmp .ge 28, 3) := by decide +kernel
theorem dX12_slopes_23 : decode cX12_slopes 23 = .ok (.iload 4, 2) := by decide +kernel
theorem dX12_slopes_25 : decode cX12_slopes 25 = .ok (.ifCond .ne 23, 3) := by decide +kernel
theorem dX12_slopes_28 : decode cX12_slopes 28 = .ok (.aload_n 0, 1) := by decide +kernel
theorem dX12_slopes_29 : decode cX12_slopes 29 = .ok (.aload_n 0, 1) := by decide +kernel
theorem dX12_slopes_30 : decode cX12_slopes 30 = .ok (.getfield 150, 3) := by decide +kernel
theorem dX12_slopes_33 : decode cX12_slopes 33 = .ok (.iload 5, 2) := by decide +kernel
theorem dX12_slopes_35 : decode cX12_slopes 35 = .ok (.iaload, 1) := by decide +kernel
theorem dX12_slopes_36 : decode cX12_slopes 36 = .ok (.iload_n 2, 1) := by decide +kernel
theorem dX12_slopes_37 : decode cX12_slopes 37 = .ok (.invokevirtual 648, 3) := by decide +kernel
theorem dX12_slopes_40 : decode cX12_slopes 40 = .ok (.istore 4, 2) := by decide +kernel
theorem dX12_slopes_42 : decode cX12_slopes 42 = .ok (.iinc 5 1, 3) := by decide +kernel
theorem dX12_slopes_45 : decode cX12_slopes 45 = .ok (.goto (-28), 3) := by decide +kernel
theorem dX12_slopes_48 : decode cX12_slopes 48 = .ok (.iload 4, 2) := by decide +kernel
theorem dX12_slopes_50 : decode cX12_slopes 50 = .ok (.ireturn, 1) := by decide +kernel
theorem dX12_note_0 : decode cX12_note 0 = .ok (.aload_n 0, 1) := by decide +kernel
theorem dX12_note_1 : decode cX12_note 1 = .ok (.getfield 651, 3) := by decide +kernel
theorem dX12_note_4 : decode cX12_note 4 = .ok (.bipush 20, 2) := by decide +kernel
theorem dX12_note_6 : decode cX12_note 6 = .ok (.if_icmp .ne 26, 3) := by decide +kernel
theorem dX12_note_9 : decode cX12_note 9 = .ok (.aload_n 0, 1) := by decide +kernel
theorem dX12_note_10 : decode cX12_note 10 = .ok (.aload_n 0, 1) := by decide +kernel
theorem dX12_note_11 : decode cX12_note 11 = .ok (.getfield 654, 3) := by decide +kernel
theorem dX12_note_14 : decode cX12_note 14 = .ok (.iconst 1, 1) := by decide +kernel
theorem dX12_note_15 : decode cX12_note 15 = .ok (.iadd, 1) := by decide +kernel
theorem dX12_note_16 : decode cX12_note 16 = .ok (.bipush 20, 2) := by decide +kernel
theorem dX12_note_18 : decode cX12_note 18 = .ok (.irem, 1) := by decide +kernel
theorem dX12_note_19 : decode cX12_note 19 = .ok (.putfield 654, 3) := by decide +kernel
theorem dX12_note_22 : decode cX12_note 22 = .ok (.aload_n 0, 1) := by decide +kernel
theorem dX12_note_23 : decode cX12_note 23 = .ok (.dup, 1) := by decide +kernel
theorem dX12_note_24 : decode cX12_note 24 = .ok (.getfield 651, 3) := by decide +kernel
theorem dX12_note_27 : decode cX12_note 27 = .ok (.iconst 1, 1) := by decide +kernel
theorem dX12_note_28 : decode cX12_note 28 = .ok (.isub, 1) := by decide +kernel
theorem dX12_note_29 : decode cX12_note 29 = .ok (.putfield 651, 3) := by decide +kernel
theorem dX12_note_32 : decode cX12_note 32 = .ok (.aload_n 0, 1) := by decide +kernel
theorem dX12_note_33 : decode cX12_note 33 = .ok (.getfield 654, 3) := by decide +kernel
theorem dX12_note_36 : decode cX12_note 36 = .ok (.aload_n 0, 1) := by decide +kernel
theorem dX12_note_37 : decode cX12_note 37 = .ok (.getfield 651, 3) := by decide +kernel
theorem dX12_note_40 : decode cX12_note 40 = .ok (.iadd, 1) := by decide +kernel
theorem dX12_note_41 : decode cX12_note 41 = .ok (.bipush 20, 2) := by decide +kernel
theorem dX12_note_43 : decode cX12_note 43 = .ok (.irem, 1) := by decide +kernel
theorem dX12_note_44 : decode cX12_note 44 = .ok (.istore 6, 2) := by decide +kernel
theorem dX12_note_46 : decode cX12_note 46 = .ok (.aload_n 0, 1) := by decide +kernel
theorem dX12_note_47 : decode cX12_note 47 = .ok (.getfield 302, 3) := by decide +kernel
theorem dX12_note_50 : decode cX12_note 50 = .ok (.iload 6, 2) := by decide +kernel
theorem dX12_note_52 : decode cX12_note 52 = .ok (.iload_n 1, 1) := by decide +kernel
theorem dX12_note_53 : decode cX12_note 53 = .ok (.iastore, 1) := by decide +kernel
theorem dX12_note_54 : decode cX12_note 54 = .ok (.aload_n 0, 1) := by decide +kernel
theorem dX12_note_55 : decode cX12_note 55 = .ok (.getfield 305, 3) := by decide +kernel
theorem dX12_note_58 : decode cX12_note 58 = .ok (.iload 6, 2) := by decide +kernel
theorem dX12_note_60 : decode cX12_note 60 = .ok (.iload_n 2, 1) := by decide +kernel
theorem dX12_note_61 : decode cX12_note 61 = .ok (.iastore, 1) := by decide +kernel
theorem dX12_note_62 : decode cX12_note 62 = .ok (.aload_n 0, 1) := by decide +kernel
theorem dX12_note_63 : decode cX12_note 63 = .ok (.getfield 308, 3) := by decide +kernel
theorem dX12_note_66 : decode cX12_note 66 = .ok (.iload 6, 2) := by decide +kernel
theorem dX12_note_68 : decode cX12_note 68 = .ok (.iload_n 3, 1) := by decide +kernel
theorem dX12_note_69 : decode cX12_note 69 = .ok (.iastore, 1) := by decide +kernel
theorem dX12_note_70 : decode cX12_note 70 = .ok (.aload_n 0, 1) := by decide +kernel
theorem dX12_note_71 : decode cX12_note 71 = .ok (.getfield 311, 3) := by decide +kernel
theorem dX12_note_74 : decode cX12_note 74 = .ok (.iload 6, 2) := by decide +kernel
theorem dX12_note_76 : decode cX12_note 76 = .ok (.iload 4, 2) := by decide +kernel
theorem dX12_note_78 : decode cX12_note 78 = .ok (.iastore, 1) := by decide +kernel
theorem dX12_note_79 : decode cX12_note 79 = .ok (.aload_n 0, 1) := by decide +kernel
theorem dX12_note_80 : decode cX12_note 80 = .ok (.getfield 314, 3) := by decide +kernel
theorem dX12_note_83 : decode cX12_note 83 = .ok (.iload 6, 2) := by decide +kernel
theorem dX12_note_85 : decode cX12_note 85 = .ok (.iload 5, 2) := by decide +kernel
theorem dX12_note_87 : decode cX12_note 87 = .ok (.iastore, 1) := by decide +kernel
theorem dX12_note_88 : decode cX12_note 88 = .ok (.aload_n 0, 1) := by decide +kernel
theorem dX12_note_89 : decode cX12_note 89 = .ok (.dup, 1) := by decide +kernel
theorem dX12_note_90 : decode cX12_note 90 = .ok (.getfield 651, 3) := by decide +kernel
theorem dX12_note_93 : decode cX12_note 93 = .ok (.iconst 1, 1) := by decide +kernel
theorem dX12_note_94 : decode cX12_note 94 = .ok (.iadd, 1) := by decide +kernel
theorem dX12_note_95 : decode cX12_note 95 = .ok (.putfield 651, 3) := by decide +kernel
theorem dX12_note_98 : decode cX12_note 98 = .ok (.iload 6, 2) := by decide +kernel
theorem dX12_note_100 : decode cX12_note 100 = .ok (.ireturn, 1) := by decide +kernel
theorem dX12_noteValue_0 : decode cX12_noteValue 0 = .ok (.aload_n 0, 1) := by decide +kernel
theorem dX12_noteValue_1 : decode cX12_noteValue 1 = .ok (.iconst 2, 1) := by decide +kernel
theorem dX12_noteValue_2 : decode cX12_noteValue 2 = .ok (.iload_n 1, 1) := by decide +kernel
theorem dX12_noteValue_3 : decode cX12_noteValue 3 = .ok (.aload_n 0, 1) := by decide +kernel
theorem dX12_noteValue_4 : decode cX12_noteValue 4 = .ok (.getfield 248, 3) := by decide +kernel
theorem dX12_noteValue_7 : decode cX12_noteValue 7 = .ok (.iload_n 1, 1) := by decide +kernel
theorem dX12_noteValue_8 : decode cX12_noteValue 8 = .ok (.baload, 1) := by decide +kernel
theorem dX12_noteValue_9 : decode cX12_noteValue 9 = .ok (.ifCond .eq 7, 3) := by decide +kernel
theorem dX12_noteValue_12 : decode cX12_noteValue 12 = .ok (.iconst 1, 1) := by decide +kernel
theorem dX12_noteValue_13 : decode cX12_noteValue 13 = .ok (.goto 4, 3) := by decide +kernel
theorem dX12_noteValue_16 : decode cX12_noteValue 16 = .ok (.iconst 0, 1) := by decide +kernel
theorem dX12_noteValue_17 : decode cX12_noteValue 17 = .ok (.iconst 0, 1) := by decide +kernel
theorem dX12_noteValue_18 : decode cX12_noteValue 18 = .ok (.iconst 0, 1) := by decide +kernel
theorem dX12_noteValue_19 : decode cX12_noteValue 19 = .ok (.invokevirtual 657, 3) := by decide +kernel
theorem dX12_noteValue_22 : decode cX12_noteValue 22 = .ok (.istore_n 2, 1) := by decide +kernel
theorem dX12_noteValue_23 : decode cX12_noteValue 23 = .ok (.aload_n 0, 1) := by decide +kernel
theorem dX12_noteValue_24 : decode cX12_noteValue 24 = .ok (.bipush 27, 2) := by decide +kernel
theorem dX12_noteValue_26 : decode cX12_noteValue 26 = .ok (.iload_n 2, 1) := by decide +kernel
theorem dX12_noteValue_27 : decode cX12_noteValue 27 = .ok (.iadd, 1) := by decide +kernel
theorem dX12_noteValue_28 : decode cX12_noteValue 28 = .ok (.iload_n 1, 1) := by decide +kernel
theorem dX12_noteValue_29 : decode cX12_noteValue 29 = .ok (.invokevirtual 115, 3) := by decide +kernel
theorem dX12_noteValue_32 : decode cX12_noteValue 32 = .ok (.return_, 1) := by decide +kernel
theorem dX12_noteFunction_0 : decode cX12_noteFunction 0 = .ok (.aload_n 0, 1) := by decide +kernel
theorem dX12_noteFunction_1 : decode cX12_noteFunction 1 = .ok (.iconst 3, 1) := by decide +kernel
theorem dX12_noteFunction_2 : decode cX12_noteFunction 2 = .ok (.iload_n 1, 1) := by decide +kernel
theorem dX12_noteFunction_3 : decode cX12_noteFunction 3 = .ok (.aload_n 0, 1) := by decide +kernel
theorem dX12_noteFunction_4 : decode cX12_noteFunction 4 = .ok (.getfield 175, 3) := by decide +kernel
theorem dX12_noteFunction_7 : decode cX12_noteFunction 7 = .ok (.iload_n 1, 1) := by decide +kernel
theorem dX12_noteFunction_8 : decode cX12_noteFunction 8 = .ok (.iaload, 1) := by decide +kernel
theorem dX12_noteFunction_9 : decode cX12_noteFunction 9 = .ok (.aload_n 0, 1) := by decide +kernel
theorem dX12_noteFunction_10 : decode cX12_noteFunction 10 = .ok (.getfield 178, 3) := by decide +kernel
theorem dX12_noteFunction_13 : decode cX12_noteFunction 13 = .ok (.iload_n 1, 1) := by decide +kernel
theorem dX12_noteFunction_14 : decode cX12_noteFunction 14 = .ok (.iaload, 1) := by decide +kernel
theorem dX12_noteFunction_15 : decode cX12_noteFunction 15 = .ok (.iconst 0, 1) := by decide +kernel
theorem dX12_noteFunction_16 : decode cX12_noteFunction 16 = .ok (.invokevirtual 657, 3) := by decide +kernel
theorem dX12_noteFunction_19 : decode cX12_noteFunction 19 = .ok (.istore_n 2, 1) := by decide +kernel
theorem dX12_noteFunction_20 : decode cX12_noteFunction 20 = .ok (.iconst 0, 1) := by decide +kernel
theorem dX12_noteFunction_21 : decode cX12_noteFunction 21 = .ok (.istore_n 3, 1) := by decide +kernel
theorem dX12_noteFunction_22 : decode cX12_noteFunction 22 = .ok (.iload_n 3, 1) := by decide +kernel
theorem dX12_noteFunction_23 : decode cX12_noteFunction 23 = .ok (.bipush 8, 2) := by decide +kernel
theorem dX12_noteFunction_25 : decode cX12_noteFunction 25 = .ok (.if_icmp .ge 72, 3) := by decide +kernel
theorem dX12_noteFunction_28 : decode cX12_noteFunction 28 = .ok (.aload_n 0, 1) := by decide +kernel
theorem dX12_noteFunction_29 : decode cX12_noteFunction 29 = .ok (.getfield 317, 3) := by decide +kernel
theorem dX12_noteFunction_32 : decode cX12_noteFunction 32 = .ok (.bipush 8, 2) := by decide +kernel
theorem dX12_noteFunction_34 : decode cX12_noteFunction 34 = .ok (.iload_n 2, 1) := by decide +kernel
theorem dX12_noteFunction_35 : decode cX12_noteFunction 35 = .ok (.imul, 1) := by decide +kernel
theorem dX12_noteFunction_36 : decode cX12_noteFunction 36 = .ok (.iload_n 3, 1) := by decide +kernel
theorem dX12_noteFunction_37 : decode cX12_noteFunction 37 = .ok (.iadd, 1) := by decide +kernel
theorem dX12_noteFunction_38 : decode cX12_noteFunction 38 = .ok (.aload_n 0, 1) := by decide +kernel
theorem dX12_noteFunction_39 : decode cX12_noteFunction 39 = .ok (.getfield 181, 3) := by decide +kernel
theorem dX12_noteFunction_42 : decode cX12_noteFunction 42 = .ok (.bipush 8, 2) := by decide +kernel
theorem dX12_noteFunction_44 : decode cX12_noteFunction 44 = .ok (.iload_n 1, 1) := by decide +kernel
theorem dX12_noteFunction_45 : decode cX12_noteFunction 45 = .ok (.imul, 1) := by decide +kernel
theorem dX12_noteFunction_46 : decode cX12_noteFunction 46 = .ok (.iload_n 3, 1) := by decide +kernel
theorem dX12_noteFunction_47 : decode cX12_noteFunction 47 = .ok (.iadd, 1) := by decide +kernel
theorem dX12_noteFunction_48 : decode cX12_noteFunction 48 = .ok (.iaload, 1) := by decide +kernel
theorem dX12_noteFunction_49 : decode cX12_noteFunction 49 = .ok (.iastore, 1) := by decide +kernel
theorem dX12_noteFunction_50 : decode cX12_noteFunction 50 = .ok (.aload_n 0, 1) := by decide +kernel
theorem dX12_noteFunction_51 : decode cX12_noteFunction 51 = .ok (.sipush 8640, 3) := by decide +kernel
theorem dX12_noteFunction_54 : decode cX12_noteFunction 54 = .ok (.bipush 30, 2) := by decide +kernel
theorem dX12_noteFunction_56 : decode cX12_noteFunction 56 = .ok (.bipush 8, 2) := by decide +kernel
theorem dX12_noteFunction_58 : decode cX12_noteFunction 58 = .ok (.iload_n 2, 1) := by decide +kernel
theorem dX12_noteFunction_59 : decode cX12_noteFunction 59 = .ok (.imul, 1) := by decide +kernel
theorem dX12_noteFunction_60 : decode cX12_noteFunction 60 = .ok (.iload_n 3, 1) := by decide +kernel
theorem dX12_noteFunction_61 : decode cX12_noteFunction 61 = .ok (.iadd, 1) := by decide +kernel
theorem dX12_noteFunction_62 : decode cX12_noteFunction 62 = .ok (.imul, 1) := by decide +kernel
theorem dX12_noteFunction_63 : decode cX12_noteFunction 63 = .ok (.iadd, 1) := by decide +kernel
theorem dX12_noteFunction_64 : decode cX12_noteFunction 64 = .ok (.sipush 2400, 3) := by decide +kernel
theorem dX12_noteFunction_67 : decode cX12_noteFunction 67 = .ok (.bipush 30, 2) := by decide +kernel
theorem dX12_noteFunction_69 : decode cX12_noteFunction 69 = .ok (.bipush 8, 2) := by decide +kernel
theorem dX12_noteFunction_71 : decode cX12_noteFunction 71 = .ok (.iload_n 1, 1) := by decide +kernel
theorem dX12_noteFunction_72 : decode cX12_noteFunction 72 = .ok (.imul, 1) := by decide +kernel
theorem dX12_noteFunction_73 : decode cX12_noteFunction 73 = .ok (.iload_n 3, 1) := by decide +kernel
theorem dX12_noteFunction_74 : decode cX12_noteFunction 74 = .ok (.iadd, 1) := by decide +kernel
theorem dX12_noteFunction_75 : decode cX12_noteFunction 75 = .ok (.imul, 1) := by decide +kernel
theorem dX12_noteFunction_76 : decode cX12_noteFunction 76 = .ok (.iadd, 1) := by decide +kernel
theorem dX12_noteFunction_77 : decode cX12_noteFunction 77 = .ok (.aload_n 0, 1) := by decide +kernel
theorem dX12_noteFunction_78 : decode cX12_noteFunction 78 = .ok (.getfield 181, 3) := by decide +kernel
theorem dX12_noteFunction_81 : decode cX12_noteFunction 81 = .ok (.bipush 8, 2) := by decide +kernel
theorem dX12_noteFunction_83 : decode cX12_noteFunction 83 = .ok (.iload_n 1, 1) := by decide +kernel
theorem dX12_noteFunction_84 : decode cX12_noteFunction 84 = .ok (.imul, 1) := by decide +kernel
theorem dX12_noteFunction_85 : decode cX12_noteFunction 85 = .ok (.iload_n 3, 1) := by decide +kernel
theorem dX12_noteFunction_86 : decode cX12_noteFunction 86 = .ok (.iadd, 1) := by decide +kernel
theorem dX12_noteFunction_87 : decode cX12_noteFunction 87 = .ok (.iaload, 1) := by decide +kernel
theorem dX12_noteFunction_88 : decode cX12_noteFunction 88 = .ok (.invokevirtual 515, 3) := by decide +kernel
theorem dX12_noteFunction_91 : decode cX12_noteFunction 91 = .ok (.iinc 3 1, 3) := by decide +kernel
theorem dX12_noteFunction_94 : decode cX12_noteFunction 94 = .ok (.goto (-72), 3) := by decide +kernel
theorem dX12_noteFunction_97 : decode cX12_noteFunction 97 = .ok (.return_, 1) := by decide +kernel
theorem dX12_undo_0 : decode cX12_undo 0 = .ok (.aload_n 0, 1) := by decide +kernel
theorem dX12_undo_1 : decode cX12_undo 1 = .ok (.iconst 0, 1) := by decide +kernel
theorem dX12_undo_2 : decode cX12_undo 2 = .ok (.putfield 1, 3) := by decide +kernel
theorem dX12_undo_5 : decode cX12_undo 5 = .ok (.aload_n 0, 1) := by decide +kernel
theorem dX12_undo_6 : decode cX12_undo 6 = .ok (.getfield 651, 3) := by decide +kernel
theorem dX12_undo_9 : decode cX12_undo 9 = .ok (.ifCond .ne 5, 3) := by decide +kernel
theorem dX12_undo_12 : decode cX12_undo 12 = .ok (.iconst (-1), 1) := by decide +kernel
theorem dX12_undo_13 : decode cX12_undo 13 = .ok (.ireturn, 1) := by decide +kernel
theorem dX12_undo_14 : decode cX12_undo 14 = .ok (.aload_n 0, 1) := by decide +kernel
theorem dX12_undo_15 : decode cX12_undo 15 = .ok (.dup, 1) := by decide +kernel
theorem dX12_undo_16 : decode cX12_undo 16 = .ok (.getfield 651, 3) := by decide +kernel
theorem dX12_undo_19 : decode cX12_undo 19 = .ok (.iconst 1, 1) := by decide +kernel
theorem dX12_undo_20 : decode cX12_undo 20 = .ok (.isub, 1) := by decide +kernel
theorem dX12_undo_21 : decode cX12_undo 21 = .ok (.putfield 651, 3) := by decide +kernel
theorem dX12_undo_24 : decode cX12_undo 24 = .ok (.aload_n 0, 1) := by decide +kernel
theorem dX12_undo_25 : decode cX12_undo 25 = .ok (.getfield 654, 3) := by decide +kernel
theorem dX12_undo_28 : decode cX12_undo 28 = .ok (.aload_n 0, 1) := by decide +kernel
theorem dX12_undo_29 : decode cX12_undo 29 = .ok (.getfield 651, 3) := by decide +kernel
theorem dX12_undo_32 : decode cX12_undo 32 = .ok (.iadd, 1) := by decide +kernel
theorem dX12_undo_33 : decode cX12_undo 33 = .ok (.bipush 20, 2) := by decide +kernel
theorem dX12_undo_35 : decode cX12_undo 35 = .ok (.irem, 1) := by decide +kernel
theorem dX12_undo_36 : decode cX12_undo 36 = .ok (.istore_n 1, 1) := by decide +kernel
theorem dX12_undo_37 : decode cX12_undo 37 = .ok (.aload_n 0, 1) := by decide +kernel
theorem dX12_undo_38 : decode cX12_undo 38 = .ok (.getfield 305, 3) := by decide +kernel
theorem dX12_undo_41 : decode cX12_undo 41 = .ok (.iload_n 1, 1) := by decide +kernel
theorem dX12_undo_42 : decode cX12_undo 42 = .ok (.iaload, 1) := by decide +kernel
theorem dX12_undo_43 : decode cX12_undo 43 = .ok (.istore_n 2, 1) := by decide +kernel
theorem dX12_undo_44 : decode cX12_undo 44 = .ok (.aload_n 0, 1) := by decide +kernel
theorem dX12_undo_45 : decode cX12_undo 45 = .ok (.getfield 302, 3) := by decide +kernel
theorem dX12_undo_48 : decode cX12_undo 48 = .ok (.iload_n 1, 1) := by decide +kernel
theorem dX12_undo_49 : decode cX12_undo 49 = .ok (.iaload, 1) := by decide +kernel
theorem dX12_undo_50 : decode cX12_undo 50 = .ok (.tableswitch 111 0 2 #[26, 39, 78], 26) := by decide +kernel
theorem dX12_undo_76 : decode cX12_undo 76 = .ok (.aload_n 0, 1) := by decide +kernel
theorem dX12_undo_77 : decode cX12_undo 77 = .ok (.dup, 1) := by decide +kernel
theorem dX12_undo_78 : decode cX12_undo 78 = .ok (.getfield 661, 3) := by decide +kernel
theorem dX12_undo_81 : decode cX12_undo 81 = .ok (.iconst 1, 1) := by decide +kernel
theorem dX12_undo_82 : decode cX12_undo 82 = .ok (.isub, 1) := by decide +kernel
theorem dX12_undo_83 : decode cX12_undo 83 = .ok (.putfield 661, 3) := by decide +kernel
theorem dX12_undo_86 : decode cX12_undo 86 = .ok (.goto 176, 3) := by decide +kernel
theorem dX12_undo_89 : decode cX12_undo 89 = .ok (.aload_n 0, 1) := by decide +kernel
theorem dX12_undo_90 : decode cX12_undo 90 = .ok (.getfield 153, 3) := by decide +kernel
theorem dX12_undo_93 : decode cX12_undo 93 = .ok (.iload_n 2, 1) := by decide +kernel
theorem dX12_undo_94 : decode cX12_undo 94 = .ok (.aload_n 0, 1) := by decide +kernel
theorem dX12_undo_95 : decode cX12_undo 95 = .ok (.getfield 308, 3) := by decide +kernel
theorem dX12_undo_98 : decode cX12_undo 98 = .ok (.iload_n 1, 1) := by decide +kernel
theorem dX12_undo_99 : decode cX12_undo 99 = .ok (.iaload, 1) := by decide +kernel
theorem dX12_undo_100 : decode cX12_undo 100 = .ok (.iastore, 1) := by decide +kernel
theorem dX12_undo_101 : decode cX12_undo 101 = .ok (.aload_n 0, 1) := by decide +kernel
theorem dX12_undo_102 : decode cX12_undo 102 = .ok (.getfield 159, 3) := by decide +kernel
theorem dX12_undo_105 : decode cX12_undo 105 = .ok (.iload_n 2, 1) := by decide +kernel
theorem dX12_undo_106 : decode cX12_undo 106 = .ok (.aload_n 0, 1) := by decide +kernel
theorem dX12_undo_107 : decode cX12_undo 107 = .ok (.getfield 311, 3) := by decide +kernel
theorem dX12_undo_110 : decode cX12_undo 110 = .ok (.iload_n 1, 1) := by decide +kernel
theorem dX12_undo_111 : decode cX12_undo 111 = .ok (.iaload, 1) := by decide +kernel
theorem dX12_undo_112 : decode cX12_undo 112 = .ok (.iastore, 1) := by decide +kernel
theorem dX12_undo_113 : decode cX12_undo 113 = .ok (.aload_n 0, 1) := by decide +kernel
theorem dX12_undo_114 : decode cX12_undo 114 = .ok (.getfield 162, 3) := by decide +kernel
theorem dX12_undo_117 : decode cX12_undo 117 = .ok (.iload_n 2, 1) := by decide +kernel
theorem dX12_undo_118 : decode cX12_undo 118 = .ok (.aload_n 0, 1) := by decide +kernel
theorem dX12_undo_119 : decode cX12_undo 119 = .ok (.getfield 314, 3) := by decide +kernel
theorem dX12_undo_122 : decode cX12_undo 122 = .ok (.iload_n 1, 1) := by decide +kernel
theorem dX12_undo_123 : decode cX12_undo 123 = .ok (.iaload, 1) := by decide +kernel
theorem dX12_undo_124 : decode cX12_undo 124 = .ok (.iastore, 1) := by decide +kernel
theorem dX12_undo_125 : decode cX12_undo 125 = .ok (.goto 137, 3) := by decide +kernel
theorem dX12_undo_128 : decode cX12_undo 128 = .ok (.aload_n 0, 1) := by decide +kernel
theorem dX12_undo_129 : decode cX12_undo 129 = .ok (.getfield 248, 3) := by decide +kernel
theorem dX12_undo_132 : decode cX12_undo 132 = .ok (.iload_n 2, 1) := by decide +kernel
theorem dX12_undo_133 : decode cX12_undo 133 = .ok (.aload_n 0, 1) := by decide +kernel
theorem dX12_undo_134 : decode cX12_undo 134 = .ok (.getfield 308, 3) := by decide +kernel
theorem dX12_undo_137 : decode cX12_undo 137 = .ok (.iload_n 1, 1) := by decide +kernel
theorem dX12_undo_138 : decode cX12_undo 138 = .ok (.iaload, 1) := by decide +kernel
theorem dX12_undo_139 : decode cX12_undo 139 = .ok (.iconst 1, 1) := by decide +kernel
theorem dX12_undo_140 : decode cX12_undo 140 = .ok (.if_icmp .ne 7, 3) := by decide +kernel
theorem dX12_undo_143 : decode cX12_undo 143 = .ok (.iconst 1, 1) := by decide +kernel
theorem dX12_undo_144 : decode cX12_undo 144 = .ok (.goto 4, 3) := by decide +kernel
theorem dX12_undo_147 : decode cX12_undo 147 = .ok (.iconst 0, 1) := by decide +kernel
theorem dX12_undo_148 : decode cX12_undo 148 = .ok (.bastore, 1) := by decide +kernel
theorem dX12_undo_149 : decode cX12_undo 149 = .ok (.aload_n 0, 1) := by decide +kernel
theorem dX12_undo_150 : decode cX12_undo 150 = .ok (.iload_n 2, 1) := by decide +kernel
theorem dX12_undo_151 : decode cX12_undo 151 = .ok (.bipush 27, 2) := by decide +kernel
theorem dX12_undo_153 : decode cX12_undo 153 = .ok (.iload_n 1, 1) := by decide +kernel
theorem dX12_undo_154 : decode cX12_undo 154 = .ok (.iadd, 1) := by decide +kernel
theorem dX12_undo_155 : decode cX12_undo 155 = .ok (.invokevirtual 115, 3) := by decide +kernel
theorem dX12_undo_158 : decode cX12_undo 158 = .ok (.goto 104, 3) := by decide +kernel
theorem dX12_undo_161 : decode cX12_undo 161 = .ok (.aload_n 0, 1) := by decide +kernel
theorem dX12_undo_162 : decode cX12_undo 162 = .ok (.getfield 175, 3) := by decide +kernel
theorem dX12_undo_165 : decode cX12_undo 165 = .ok (.iload_n 2, 1) := by decide +kernel
theorem dX12_undo_166 : decode cX12_undo 166 = .ok (.aload_n 0, 1) := by decide +kernel
theorem dX12_undo_167 : decode cX12_undo 167 = .ok (.getfield 308, 3) := by decide +kernel
theorem dX12_undo_170 : decode cX12_undo 170 = .ok (.iload_n 1, 1) := by decide +kernel
theorem dX12_undo_171 : decode cX12_undo 171 = .ok (.iaload, 1) := by decide +kernel
theorem dX12_undo_172 : decode cX12_undo 172 = .ok (.iastore, 1) := by decide +kernel
theorem dX12_undo_173 : decode cX12_undo 173 = .ok (.aload_n 0, 1) := by decide +kernel
theorem dX12_undo_174 : decode cX12_undo 174 = .ok (.getfield 178, 3) := by decide +kernel
theorem dX12_undo_177 : decode cX12_undo 177 = .ok (.iload_n 2, 1) := by decide +kernel
theorem dX12_undo_178 : decode cX12_undo 178 = .ok (.aload_n 0, 1) := by decide +kernel
theorem dX12_undo_179 : decode cX12_undo 179 = .ok (.getfield 311, 3) := by decide +kernel
theorem dX12_undo_182 : decode cX12_undo 182 = .ok (.iload_n 1, 1) := by decide +kernel
theorem dX12_undo_183 : decode cX12_undo 183 = .ok (.iaload, 1) := by decide +kernel
theorem dX12_undo_184 : decode cX12_undo 184 = .ok (.iastore, 1) := by decide +kernel
theorem dX12_undo_185 : decode cX12_undo 185 = .ok (.iconst 0, 1) := by decide +kernel
theorem dX12_undo_186 : decode cX12_undo 186 = .ok (.istore_n 3, 1) := by decide +kernel
theorem dX12_undo_187 : decode cX12_undo 187 = .ok (.iload_n 3, 1) := by decide +kernel
theorem dX12_undo_188 : decode cX12_undo 188 = .ok (.bipush 8, 2) := by decide +kernel
theorem dX12_undo_190 : decode cX12_undo 190 = .ok (.if_icmp .ge 72, 3) := by decide +kernel
theorem dX12_undo_193 : decode cX12_undo 193 = .ok (.aload_n 0, 1) := by decide +kernel
theorem dX12_undo_194 : decode cX12_undo 194 = .ok (.getfield 181, 3) := by decide +kernel
theorem dX12_undo_197 : decode cX12_undo 197 = .ok (.bipush 8, 2) := by decide +kernel
theorem dX12_undo_199 : decode cX12_undo 199 = .ok (.iload_n 2, 1) := by decide +kernel
theorem dX12_undo_200 : decode cX12_undo 200 = .ok (.imul, 1) := by decide +kernel
theorem dX12_undo_201 : decode cX12_undo 201 = .ok (.iload_n 3, 1) := by decide +kernel
theorem dX12_undo_202 : decode cX12_undo 202 = .ok (.iadd, 1) := by decide +kernel
theorem dX12_undo_203 : decode cX12_undo 203 = .ok (.aload_n 0, 1) := by decide +kernel
theorem dX12_undo_204 : decode cX12_undo 204 = .ok (.getfield 317, 3) := by decide +kernel
theorem dX12_undo_207 : decode cX12_undo 207 = .ok (.bipush 8, 2) := by decide +kernel
theorem dX12_undo_209 : decode cX12_undo 209 = .ok (.iload_n 1, 1) := by decide +kernel
theorem dX12_undo_210 : decode cX12_undo 210 = .ok (.imul, 1) := by decide +kernel
theorem dX12_undo_211 : decode cX12_undo 211 = .ok (.iload_n 3, 1) := by decide +kernel
theorem dX12_undo_212 : decode cX12_undo 212 = .ok (.iadd, 1) := by decide +kernel
theorem dX12_undo_213 : decode cX12_undo 213 = .ok (.iaload, 1) := by decide +kernel
theorem dX12_undo_214 : decode cX12_undo 214 = .ok (.iastore, 1) := by decide +kernel
theorem dX12_undo_215 : decode cX12_undo 215 = .ok (.aload_n 0, 1) := by decide +kernel
theorem dX12_undo_216 : decode cX12_undo 216 = .ok (.sipush 2400, 3) := by decide +kernel
theorem dX12_undo_219 : decode cX12_undo 219 = .ok (.bipush 30, 2) := by decide +kernel
theorem dX12_undo_221 : decode cX12_undo 221 = .ok (.bipush 8, 2) := by decide +kernel
theorem dX12_undo_223 : decode cX12_undo 223 = .ok (.iload_n 2, 1) := by decide +kernel
theorem dX12_undo_224 : decode cX12_undo 224 = .ok (.imul, 1) := by decide +kernel
theorem dX12_undo_225 : decode cX12_undo 225 = .ok (.iload_n 3, 1) := by decide +kernel
theorem dX12_undo_226 : decode cX12_undo 226 = .ok (.iadd, 1) := by decide +kernel
theorem dX12_undo_227 : decode cX12_undo 227 = .ok (.imul, 1) := by decide +kernel
theorem dX12_undo_228 : decode cX12_undo 228 = .ok (.iadd, 1) := by decide +kernel
theorem dX12_undo_229 : decode cX12_undo 229 = .ok (.sipush 8640, 3) := by decide +kernel
theorem dX12_undo_232 : decode cX12_undo 232 = .ok (.bipush 30, 2) := by decide +kernel
theorem dX12_undo_234 : decode cX12_undo 234 = .ok (.bipush 8, 2) := by decide +kernel
theorem dX12_undo_236 : decode cX12_undo 236 = .ok (.iload_n 1, 1) := by decide +kernel
theorem dX12_undo_237 : decode cX12_undo 237 = .ok (.imul, 1) := by decide +kernel
theorem dX12_undo_238 : decode cX12_undo 238 = .ok (.iload_n 3, 1) := by decide +kernel
theorem dX12_undo_239 : decode cX12_undo 239 = .ok (.iadd, 1) := by decide +kernel
theorem dX12_undo_240 : decode cX12_undo 240 = .ok (.imul, 1) := by decide +kernel
theorem dX12_undo_241 : decode cX12_undo 241 = .ok (.iadd, 1) := by decide +kernel
theorem dX12_undo_242 : decode cX12_undo 242 = .ok (.aload_n 0, 1) := by decide +kernel
theorem dX12_undo_243 : decode cX12_undo 243 = .ok (.getfield 181, 3) := by decide +kernel
theorem dX12_undo_246 : decode cX12_undo 246 = .ok (.bipush 8, 2) := by decide +kernel
theorem dX12_undo_248 : decode cX12_undo 248 = .ok (.iload_n 2, 1) := by decide +kernel
theorem dX12_undo_249 : decode cX12_undo 249 = .ok (.imul, 1) := by decide +kernel
theorem dX12_undo_250 : decode cX12_undo 250 = .ok (.iload_n 3, 1) := by decide +kernel
theorem dX12_undo_251 : decode cX12_undo 251 = .ok (.iadd, 1) := by decide +kernel
theorem dX12_undo_252 : decode cX12_undo 252 = .ok (.iaload, 1) := by decide +kernel
theorem dX12_undo_253 : decode cX12_undo 253 = .ok (.invokevirtual 515, 3) := by decide +kernel
theorem dX12_undo_256 : decode cX12_undo 256 = .ok (.iinc 3 1, 3) := by decide +kernel
theorem dX12_undo_259 : decode cX12_undo 259 = .ok (.goto (-72), 3) := by decide +kernel
theorem dX12_undo_262 : decode cX12_undo 262 = .ok (.aload_n 0, 1) := by decide +kernel
theorem dX12_undo_263 : decode cX12_undo 263 = .ok (.getfield 302, 3) := by decide +kernel
theorem dX12_undo_266 : decode cX12_undo 266 = .ok (.iload_n 1, 1) := by decide +kernel
theorem dX12_undo_267 : decode cX12_undo 267 = .ok (.iaload, 1) := by decide +kernel
theorem dX12_undo_268 : decode cX12_undo 268 = .ok (.ireturn, 1) := by decide +kernel
theorem dX12_shelf_0 : decode cX12_shelf 0 = .ok (.bipush 80, 2) := by decide +kernel
theorem dX12_shelf_2 : decode cX12_shelf 2 = .ok (.iload_n 0, 1) := by decide +kernel
theorem dX12_shelf_3 : decode cX12_shelf 3 = .ok (.imul, 1) := by decide +kernel
theorem dX12_shelf_4 : decode cX12_shelf 4 = .ok (.ireturn, 1) := by decide +kernel
theorem dX12_isTree_0 : decode cX12_isTree 0 = .ok (.iload_n 1, 1) := by decide +kernel
theorem dX12_isTree_1 : decode cX12_isTree 1 = .ok (.iconst 0, 1) := by decide +kernel
theorem dX12_isTree_2 : decode cX12_isTree 2 = .ok (.aload_n 0, 1) := by decide +kernel
theorem dX12_isTree_3 : decode cX12_isTree 3 = .ok (.getfield 661, 3) := by decide +kernel
theorem dX12_isTree_6 : decode cX12_isTree 6 = .ok (.iconst 1, 1) := by decide +kernel
theorem dX12_isTree_7 : decode cX12_isTree 7 = .ok (.isub, 1) := by decide +kernel
theorem dX12_isTree_8 : decode cX12_isTree 8 = .ok (.invokestatic 106, 3) := by decide +kernel
theorem dX12_isTree_11 : decode cX12_isTree 11 = .ok (.ireturn, 1) := by decide +kernel
theorem dX12_isNode_0 : decode cX12_isNode 0 = .ok (.aload_n 0, 1) := by decide +kernel
theorem dX12_isNode_1 : decode cX12_isNode 1 = .ok (.iload_n 1, 1) := by decide +kernel
theorem dX12_isNode_2 : decode cX12_isNode 2 = .ok (.invokevirtual 664, 3) := by decide +kernel
theorem dX12_isNode_5 : decode cX12_isNode 5 = .ok (.ifCond .eq 23, 3) := by decide +kernel
theorem dX12_isNode_8 : decode cX12_isNode 8 = .ok (.iload_n 2, 1) := by decide +kernel
theorem dX12_isNode_9 : decode cX12_isNode 9 = .ok (.iconst 0, 1) := by decide +kernel
theorem dX12_isNode_10 : decode cX12_isNode 10 = .ok (.aload_n 0, 1) := by decide +kernel
theorem dX12_isNode_11 : decode cX12_isNode 11 = .ok (.getfield 172, 3) := by decide +kernel
theorem dX12_isNode_14 : decode cX12_isNode 14 = .ok (.iload_n 1, 1) := by decide +kernel
theorem dX12_isNode_15 : decode cX12_isNode 15 = .ok (.iaload, 1) := by decide +kernel
theorem dX12_isNode_16 : decode cX12_isNode 16 = .ok (.iconst 1, 1) := by decide +kernel
theorem dX12_isNode_17 : decode cX12_isNode 17 = .ok (.isub, 1) := by decide +kernel
theorem dX12_isNode_18 : decode cX12_isNode 18 = .ok (.invokestatic 106, 3) := by decide +kernel
theorem dX12_isNode_21 : decode cX12_isNode 21 = .ok (.ifCond .eq 7, 3) := by decide +kernel
theorem dX12_isNode_24 : decode cX12_isNode 24 = .ok (.iconst 1, 1) := by decide +kernel
theorem dX12_isNode_25 : decode cX12_isNode 25 = .ok (.goto 4, 3) := by decide +kernel
theorem dX12_isNode_28 : decode cX12_isNode 28 = .ok (.iconst 0, 1) := by decide +kernel
theorem dX12_isNode_29 : decode cX12_isNode 29 = .ok (.ireturn, 1) := by decide +kernel
theorem dX12_isName_0 : decode cX12_isName 0 = .ok (.iload_n 0, 1) := by decide +kernel
theorem dX12_isName_1 : decode cX12_isName 1 = .ok (.bipush 97, 2) := by decide +kernel
theorem dX12_isName_3 : decode cX12_isName 3 = .ok (.bipush 122, 2) := by decide +kernel
theorem dX12_isName_5 : decode cX12_isName 5 = .ok (.invokestatic 106, 3) := by decide +kernel
theorem dX12_isName_8 : decode cX12_isName 8 = .ok (.ireturn, 1) := by decide +kernel
theorem dX12_shelve_0 : decode cX12_shelve 0 = .ok (.aload_n 0, 1) := by decide +kernel
theorem dX12_shelve_1 : decode cX12_shelve 1 = .ok (.aload_n 0, 1) := by decide +kernel
theorem dX12_shelve_2 : decode cX12_shelve 2 = .ok (.getfield 661, 3) := by decide +kernel
theorem dX12_shelve_5 : decode cX12_shelve 5 = .ok (.invokestatic 667, 3) := by decide +kernel
theorem dX12_shelve_8 : decode cX12_shelve 8 = .ok (.iload_n 1, 1) := by decide +kernel
theorem dX12_shelve_9 : decode cX12_shelve 9 = .ok (.iload_n 2, 1) := by decide +kernel
theorem dX12_shelve_10 : decode cX12_shelve 10 = .ok (.invokevirtual 515, 3) := by decide +kernel
theorem dX12_shelve_13 : decode cX12_shelve 13 = .ok (.aload_n 0, 1) := by decide +kernel
theorem dX12_shelve_14 : decode cX12_shelve 14 = .ok (.getfield 172, 3) := by decide +kernel
theorem dX12_shelve_17 : decode cX12_shelve 17 = .ok (.aload_n 0, 1) := by decide +kernel
theorem dX12_shelve_18 : decode cX12_shelve 18 = .ok (.getfield 661, 3) := by decide +kernel
theorem dX12_shelve_21 : decode cX12_shelve 21 = .ok (.iload_n 2, 1) := by decide +kernel
theorem dX12_shelve_22 : decode cX12_shelve 22 = .ok (.iastore, 1) := by decide +kernel
theorem dX12_shelve_23 : decode cX12_shelve 23 = .ok (.aload_n 0, 1) := by decide +kernel
theorem dX12_shelve_24 : decode cX12_shelve 24 = .ok (.aload_n 0, 1) := by decide +kernel
theorem dX12_shelve_25 : decode cX12_shelve 25 = .ok (.getfield 661, 3) := by decide +kernel
theorem dX12_shelve_28 : decode cX12_shelve 28 = .ok (.invokestatic 667, 3) := by decide +kernel
theorem dX12_shelve_31 : decode cX12_shelve 31 = .ok (.iload_n 2, 1) := by decide +kernel
theorem dX12_shelve_32 : decode cX12_shelve 32 = .ok (.invokevirtual 389, 3) := by decide +kernel
theorem dX12_shelve_35 : decode cX12_shelve 35 = .ok (.aload_n 0, 1) := by decide +kernel
theorem dX12_shelve_36 : decode cX12_shelve 36 = .ok (.dup, 1) := by decide +kernel
theorem dX12_shelve_37 : decode cX12_shelve 37 = .ok (.getfield 661, 3) := by decide +kernel
theorem dX12_shelve_40 : decode cX12_shelve 40 = .ok (.iconst 1, 1) := by decide +kernel
theorem dX12_shelve_41 : decode cX12_shelve 41 = .ok (.iadd, 1) := by decide +kernel
theorem dX12_shelve_42 : decode cX12_shelve 42 = .ok (.putfield 661, 3) := by decide +kernel
theorem dX12_shelve_45 : decode cX12_shelve 45 = .ok (.aload_n 0, 1) := by decide +kernel
theorem dX12_shelve_46 : decode cX12_shelve 46 = .ok (.iconst 0, 1) := by decide +kernel
theorem dX12_shelve_47 : decode cX12_shelve 47 = .ok (.iconst 0, 1) := by decide +kernel
theorem dX12_shelve_48 : decode cX12_shelve 48 = .ok (.iconst 0, 1) := by decide +kernel
theorem dX12_shelve_49 : decode cX12_shelve 49 = .ok (.iconst 0, 1) := by decide +kernel
theorem dX12_shelve_50 : decode cX12_shelve 50 = .ok (.iconst 0, 1) := by decide +kernel
theorem dX12_shelve_51 : decode cX12_shelve 51 = .ok (.invokevirtual 657, 3) := by decide +kernel
theorem dX12_shelve_54 : decode cX12_shelve 54 = .ok (.pop, 1) := by decide +kernel
theorem dX12_shelve_55 : decode cX12_shelve 55 = .ok (.aload_n 0, 1) := by decide +kernel
theorem dX12_shelve_56 : decode cX12_shelve 56 = .ok (.getfield 661, 3) := by decide +kernel
theorem dX12_shelve_59 : decode cX12_shelve 59 = .ok (.iconst 1, 1) := by decide +kernel
theorem dX12_shelve_60 : decode cX12_shelve 60 = .ok (.isub, 1) := by decide +kernel
theorem dX12_shelve_61 : decode cX12_shelve 61 = .ok (.ireturn, 1) := by decide +kernel
theorem dX12_type_0 : decode cX12_type 0 = .ok (.aload_n 0, 1) := by decide +kernel
theorem dX12_type_1 : decode cX12_type 1 = .ok (.aload_n 0, 1) := by decide +kernel
theorem dX12_type_2 : decode cX12_type 2 = .ok (.getfield 330, 3) := by decide +kernel
theorem dX12_type_5 : decode cX12_type 5 = .ok (.bipush 60, 2) := by decide +kernel
theorem dX12_type_7 : decode cX12_type 7 = .ok (.if_icmp .ne 7, 3) := by decide +kernel
theorem dX12_type_10 : decode cX12_type 10 = .ok (.iconst 1, 1) := by decide +kernel
theorem dX12_type_11 : decode cX12_type 11 = .ok (.goto 4, 3) := by decide +kernel
theorem dX12_type_14 : decode cX12_type 14 = .ok (.iconst 0, 1) := by decide +kernel
theorem dX12_type_15 : decode cX12_type 15 = .ok (.iconst 0, 1) := by decide +kernel
theorem dX12_type_16 : decode cX12_type 16 = .ok (.iconst 0, 1) := by decide +kernel
theorem dX12_type_17 : decode cX12_type 17 = .ok (.invokevirtual 670, 3) := by decide +kernel
theorem dX12_type_20 : decode cX12_type 20 = .ok (.ifCond .eq 5, 3) := by decide +kernel
theorem dX12_type_23 : decode cX12_type 23 = .ok (.iconst 0, 1) := by decide +kernel
theorem dX12_type_24 : decode cX12_type 24 = .ok (.ireturn, 1) := by decide +kernel
theorem dX12_type_25 : decode cX12_type 25 = .ok (.aload_n 0, 1) := by decide +kernel
theorem dX12_type_26 : decode cX12_type 26 = .ok (.getfield 184, 3) := by decide +kernel
theorem dX12_type_29 : decode cX12_type 29 = .ok (.aload_n 0, 1) := by decide +kernel
theorem dX12_type_30 : decode cX12_type 30 = .ok (.getfield 330, 3) := by decide +kernel
theorem dX12_type_33 : decode cX12_type 33 = .ok (.iload_n 1, 1) := by decide +kernel
theorem dX12_type_34 : decode cX12_type 34 = .ok (.iastore, 1) := by decide +kernel
theorem dX12_type_35 : decode cX12_type 35 = .ok (.aload_n 0, 1) := by decide +kernel
theorem dX12_type_36 : decode cX12_type 36 = .ok (.dup, 1) := by decide +kernel
theorem dX12_type_37 : decode cX12_type 37 = .ok (.getfield 330, 3) := by decide +kernel
theorem dX12_type_40 : decode cX12_type 40 = .ok (.iconst 1, 1) := by decide +kernel
theorem dX12_type_41 : decode cX12_type 41 = .ok (.iadd, 1) := by decide +kernel
theorem dX12_type_42 : decode cX12_type 42 = .ok (.putfield 330, 3) := by decide +kernel
theorem dX12_type_45 : decode cX12_type 45 = .ok (.aload_n 0, 1) := by decide +kernel
theorem dX12_type_46 : decode cX12_type 46 = .ok (.getfield 330, 3) := by decide +kernel
theorem dX12_type_49 : decode cX12_type 49 = .ok (.ireturn, 1) := by decide +kernel
theorem dX12_drop_0 : decode cX12_drop 0 = .ok (.aload_n 0, 1) := by decide +kernel
theorem dX12_drop_1 : decode cX12_drop 1 = .ok (.iconst 0, 1) := by decide +kernel
theorem dX12_drop_2 : decode cX12_drop 2 = .ok (.putfield 1, 3) := by decide +kernel
theorem dX12_drop_5 : decode cX12_drop 5 = .ok (.aload_n 0, 1) := by decide +kernel
theorem dX12_drop_6 : decode cX12_drop 6 = .ok (.getfield 330, 3) := by decide +kernel
theorem dX12_drop_9 : decode cX12_drop 9 = .ok (.istore_n 1, 1) := by decide +kernel
theorem dX12_drop_10 : decode cX12_drop 10 = .ok (.aload_n 0, 1) := by decide +kernel
theorem dX12_drop_11 : decode cX12_drop 11 = .ok (.iconst 0, 1) := by decide +kernel
theorem dX12_drop_12 : decode cX12_drop 12 = .ok (.putfield 330, 3) := by decide +kernel
theorem dX12_drop_15 : decode cX12_drop 15 = .ok (.iload_n 1, 1) := by decide +kernel
theorem dX12_drop_16 : decode cX12_drop 16 = .ok (.ireturn, 1) := by decide +kernel
theorem dX12_fault_0 : decode cX12_fault 0 = .ok (.aload_n 0, 1) := by decide +kernel
theorem dX12_fault_1 : decode cX12_fault 1 = .ok (.iconst 0, 1) := by decide +kernel
theorem dX12_fault_2 : decode cX12_fault 2 = .ok (.putfield 1, 3) := by decide +kernel
theorem dX12_fault_5 : decode cX12_fault 5 = .ok (.aload_n 0, 1) := by decide +kernel
theorem dX12_fault_6 : decode cX12_fault 6 = .ok (.invokevirtual 674, 3) := by decide +kernel
theorem dX12_fault_9 : decode cX12_fault 9 = .ok (.ireturn, 1) := by decide +kernel
theorem dX12_read_0 : decode cX12_read 0 = .ok (.aload_n 0, 1) := by decide +kernel
theorem dX12_read_1 : decode cX12_read 1 = .ok (.aload_n 0, 1) := by decide +kernel
theorem dX12_read_2 : decode cX12_read 2 = .ok (.getfield 661, 3) := by decide +kernel
theorem dX12_read_5 : decode cX12_read 5 = .ok (.bipush 30, 2) := by decide +kernel
theorem dX12_read_7 : decode cX12_read 7 = .ok (.if_icmp .eq 11, 3) := by decide +kernel
theorem dX12_read_10 : decode cX12_read 10 = .ok (.aload_n 0, 1) := by decide +kernel
theorem dX12_read_11 : decode cX12_read 11 = .ok (.invokevirtual 674, 3) := by decide +kernel
theorem dX12_read_14 : decode cX12_read 14 = .ok (.iconst (-1), 1) := by decide +kernel
theorem dX12_read_15 : decode cX12_read 15 = .ok (.if_icmp .eq 7, 3) := by decide +kernel
theorem dX12_read_18 : decode cX12_read 18 = .ok (.iconst 1, 1) := by decide +kernel
theorem dX12_read_19 : decode cX12_read 19 = .ok (.goto 4, 3) := by decide +kernel
theorem dX12_read_22 : decode cX12_read 22 = .ok (.iconst 0, 1) := by decide +kernel
theorem dX12_read_23 : decode cX12_read 23 = .ok (.iconst 0, 1) := by decide +kernel
theorem dX12_read_24 : decode cX12_read 24 = .ok (.iconst 0, 1) := by decide +kernel
theorem dX12_read_25 : decode cX12_read 25 = .ok (.invokevirtual 670, 3) := by decide +kernel
theorem dX12_read_28 : decode cX12_read 28 = .ok (.ifCond .eq 5, 3) := by decide +kernel
theorem dX12_read_31 : decode cX12_read 31 = .ok (.iconst 0, 1) := by decide +kernel
theorem dX12_read_32 : decode cX12_read 32 = .ok (.ireturn, 1) := by decide +kernel
theorem dX12_read_33 : decode cX12_read 33 = .ok (.aload_n 0, 1) := by decide +kernel
theorem dX12_read_34 : decode cX12_read 34 = .ok (.sipush 13440, 3) := by decide +kernel
theorem dX12_read_37 : decode cX12_read 37 = .ok (.invokevirtual 414, 3) := by decide +kernel
theorem dX12_read_40 : decode cX12_read 40 = .ok (.istore_n 1, 1) := by decide +kernel
theorem dX12_read_41 : decode cX12_read 41 = .ok (.aload_n 0, 1) := by decide +kernel
theorem dX12_read_42 : decode cX12_read 42 = .ok (.iconst 0, 1) := by decide +kernel
theorem dX12_read_43 : decode cX12_read 43 = .ok (.putfield 330, 3) := by decide +kernel
theorem dX12_read_46 : decode cX12_read 46 = .ok (.aload_n 0, 1) := by decide +kernel
theorem dX12_read_47 : decode cX12_read 47 = .ok (.sipush 13440, 3) := by decide +kernel
theorem dX12_read_50 : decode cX12_read 50 = .ok (.iload_n 1, 1) := by decide +kernel
theorem dX12_read_51 : decode cX12_read 51 = .ok (.invokevirtual 677, 3) := by decide +kernel
theorem dX12_read_54 : decode cX12_read 54 = .ok (.ireturn, 1) := by decide +kernel
theorem dX12_trees_0 : decode cX12_trees 0 = .ok (.aload_n 0, 1) := by decide +kernel
theorem dX12_trees_1 : decode cX12_trees 1 = .ok (.iconst 0, 1) := by decide +kernel
theorem dX12_trees_2 : decode cX12_trees 2 = .ok (.putfield 1, 3) := by decide +kernel
theorem dX12_trees_5 : decode cX12_trees 5 = .ok (.aload_n 0, 1) := by decide +kernel
theorem dX12_trees_6 : decode cX12_trees 6 = .ok (.getfield 661, 3) := by decide +kernel
theorem dX12_trees_9 : decode cX12_trees 9 = .ok (.ireturn, 1) := by decide +kernel
theorem dX12_parentOf_0 : decode cX12_parentOf 0 = .ok (.iload_n 2, 1) := by decide +kernel
theorem dX12_parentOf_1 : decode cX12_parentOf 1 = .ok (.iconst 1, 1) := by decide +kernel
theorem dX12_parentOf_2 : decode cX12_parentOf 2 = .ok (.isub, 1) := by decide +kernel
theorem dX12_parentOf_3 : decode cX12_parentOf 3 = .ok (.istore_n 3, 1) := by decide +kernel
theorem dX12_parentOf_4 : decode cX12_parentOf 4 = .ok (.iload_n 3, 1) := by decide +kernel
theorem dX12_parentOf_5 : decode cX12_parentOf 5 = .ok (.iload_n 1, 1) := by decide +kernel
theorem dX12_parentOf_6 : decode cX12_parentOf 6 = .ok (.if_icmp .lt 21, 3) := by decide +kernel
theorem dX12_parentOf_9 : decode cX12_parentOf 9 = .ok (.iload_n 3, 1) := by decide +kernel
theorem dX12_parentOf_10 : decode cX12_parentOf 10 = .ok (.aload_n 0, 1) := by decide +kernel
theorem dX12_parentOf_11 : decode cX12_parentOf 11 = .ok (.getfield 147, 3) := by decide +kernel
theorem dX12_parentOf_14 : decode cX12_parentOf 14 = .ok (.iload_n 3, 1) := by decide +kernel
theorem dX12_parentOf_15 : decode cX12_parentOf 15 = .ok (.iaload, 1) := by decide +kernel
theorem dX12_parentOf_16 : decode cX12_parentOf 16 = .ok (.iadd, 1) := by decide +kernel
theorem dX12_parentOf_17 : decode cX12_parentOf 17 = .ok (.iload_n 2, 1) := by decide +kernel
theorem dX12_parentOf_18 : decode cX12_parentOf 18 = .ok (.if_icmp .gt 9, 3) := by decide +kernel
theorem dX12_parentOf_21 : decode cX12_parentOf 21 = .ok (.iinc 3 (-1), 3) := by decide +kernel
theorem dX12_parentOf_24 : decode cX12_parentOf 24 = .ok (.goto (-20), 3) := by decide +kernel
theorem dX12_parentOf_27 : decode cX12_parentOf 27 = .ok (.iload_n 3, 1) := by decide +kernel
theorem dX12_parentOf_28 : decode cX12_parentOf 28 = .ok (.iload_n 1, 1) := by decide +kernel
theorem dX12_parentOf_29 : decode cX12_parentOf 29 = .ok (.if_icmp .ge 7, 3) := by decide +kernel
theorem dX12_parentOf_32 : decode cX12_parentOf 32 = .ok (.iconst (-1), 1) := by decide +kernel
theorem dX12_parentOf_33 : decode cX12_parentOf 33 = .ok (.goto 6, 3) := by decide +kernel
theorem dX12_parentOf_36 : decode cX12_parentOf 36 = .ok (.iload_n 3, 1) := by decide +kernel
theorem dX12_parentOf_37 : decode cX12_parentOf 37 = .ok (.iload_n 1, 1) := by decide +kernel
theorem dX12_parentOf_38 : decode cX12_parentOf 38 = .ok (.isub, 1) := by decide +kernel
theorem dX12_parentOf_39 : decode cX12_parentOf 39 = .ok (.ireturn, 1) := by decide +kernel
theorem dX12_node__0 : decode cX12_node_ 0 = .ok (.aload_n 0, 1) := by decide +kernel
theorem dX12_node__1 : decode cX12_node_ 1 = .ok (.aload_n 0, 1) := by decide +kernel
theorem dX12_node__2 : decode cX12_node_ 2 = .ok (.iload_n 1, 1) := by decide +kernel
theorem dX12_node__3 : decode cX12_node_ 3 = .ok (.iload_n 2, 1) := by decide +kernel
theorem dX12_node__4 : decode cX12_node_ 4 = .ok (.invokevirtual 680, 3) := by decide +kernel
theorem dX12_node__7 : decode cX12_node_ 7 = .ok (.ifCond .ne 7, 3) := by decide +kernel
theorem dX12_node__10 : decode cX12_node_ 10 = .ok (.iconst 1, 1) := by decide +kernel
theorem dX12_node__11 : decode cX12_node_ 11 = .ok (.goto 4, 3) := by decide +kernel
theorem dX12_node__14 : decode cX12_node_ 14 = .ok (.iconst 0, 1) := by decide +kernel
theorem dX12_node__15 : decode cX12_node_ 15 = .ok (.iload_n 3, 1) := by decide +kernel
theorem dX12_node__16 : decode cX12_node_ 16 = .ok (.iconst 0, 1) := by decide +kernel
theorem dX12_node__17 : decode cX12_node_ 17 = .ok (.iconst 5, 1) := by decide +kernel
theorem dX12_node__18 : decode cX12_node_ 18 = .ok (.invokestatic 106, 3) := by decide +kernel
theorem dX12_node__21 : decode cX12_node_ 21 = .ok (.ifCond .ne 7, 3) := by decide +kernel
theorem dX12_node__24 : decode cX12_node_ 24 = .ok (.iconst 1, 1) := by decide +kernel
theorem dX12_node__25 : decode cX12_node_ 25 = .ok (.goto 4, 3) := by decide +kernel
theorem dX12_node__28 : decode cX12_node_ 28 = .ok (.iconst 0, 1) := by decide +kernel
theorem dX12_node__29 : decode cX12_node_ 29 = .ok (.iconst 0, 1) := by decide +kernel
theorem dX12_node__30 : decode cX12_node_ 30 = .ok (.invokevirtual 670, 3) := by decide +kernel
theorem dX12_node__33 : decode cX12_node_ 33 = .ok (.ifCond .eq 5, 3) := by decide +kernel
theorem dX12_node__36 : decode cX12_node_ 36 = .ok (.iconst 0, 1) := by decide +kernel
theorem dX12_node__37 : decode cX12_node_ 37 = .ok (.ireturn, 1) := by decide +kernel
theorem dX12_node__38 : decode cX12_node_ 38 = .ok (.iload_n 1, 1) := by decide +kernel
theorem dX12_node__39 : decode cX12_node_ 39 = .ok (.invokestatic 667, 3) := by decide +kernel
theorem dX12_node__42 : decode cX12_node_ 42 = .ok (.iload_n 2, 1) := by decide +kernel
theorem dX12_node__43 : decode cX12_node_ 43 = .ok (.iadd, 1) := by decide +kernel
theorem dX12_node__44 : decode cX12_node_ 44 = .ok (.istore 4, 2) := by decide +kernel
theorem dX12_node__46 : decode cX12_node_ 46 = .ok (.iload_n 3, 1) := by decide +kernel
theorem dX12_node__47 : decode cX12_node_ 47 = .ok (.tableswitch 76 0 4 #[33, 41, 49, 57, 65], 33) := by decide +kernel
theorem dX12_node__80 : decode cX12_node_ 80 = .ok (.aload_n 0, 1) := by decide +kernel
theorem dX12_node__81 : decode cX12_node_ 81 = .ok (.getfield 135, 3) := by decide +kernel
theorem dX12_node__84 : decode cX12_node_ 84 = .ok (.iload 4, 2) := by decide +kernel
theorem dX12_node__86 : decode cX12_node_ 86 = .ok (.iaload, 1) := by decide +kernel
theorem dX12_node__87 : decode cX12_node_ 87 = .ok (.ireturn, 1) := by decide +kernel
theorem dX12_node__88 : decode cX12_node_ 88 = .ok (.aload_n 0, 1) := by decide +kernel
theorem dX12_node__89 : decode cX12_node_ 89 = .ok (.getfield 138, 3) := by decide +kernel
theorem dX12_node__92 : decode cX12_node_ 92 = .ok (.iload 4, 2) := by decide +kernel
theorem dX12_node__94 : decode cX12_node_ 94 = .ok (.iaload, 1) := by decide +kernel
theorem dX12_node__95 : decode cX12_node_ 95 = .ok (.ireturn, 1) := by decide +kernel
theorem dX12_node__96 : decode cX12_node_ 96 = .ok (.aload_n 0, 1) := by decide +kernel
theorem dX12_node__97 : decode cX12_node_ 97 = .ok (.getfield 141, 3) := by decide +kernel
theorem dX12_node__100 : decode cX12_node_ 100 = .ok (.iload 4, 2) := by decide +kernel
theorem dX12_node__102 : decode cX12_node_ 102 = .ok (.iaload, 1) := by decide +kernel
theorem dX12_node__103 : decode cX12_node_ 103 = .ok (.ireturn, 1) := by decide +kernel
theorem dX12_node__104 : decode cX12_node_ 104 = .ok (.aload_n 0, 1) := by decide +kernel
theorem dX12_node__105 : decode cX12_node_ 105 = .ok (.getfield 144, 3) := by decide +kernel
theorem dX12_node__108 : decode cX12_node_ 108 = .ok (.iload 4, 2) := by decide +kernel
theorem dX12_node__110 : decode cX12_node_ 110 = .ok (.iaload, 1) := by decide +kernel
theorem dX12_node__111 : decode cX12_node_ 111 = .ok (.ireturn, 1) := by decide +kernel
theorem dX12_node__112 : decode cX12_node_ 112 = .ok (.aload_n 0, 1) := by decide +kernel
theorem dX12_node__113 : decode cX12_node_ 113 = .ok (.iload_n 1, 1) := by decide +kernel
theorem dX12_node__114 : decode cX12_node_ 114 = .ok (.invokestatic 667, 3) := by decide +kernel
theorem dX12_node__117 : decode cX12_node_ 117 = .ok (.iload 4, 2) := by decide +kernel
theorem dX12_node__119 : decode cX12_node_ 119 = .ok (.invokevirtual 683, 3) := by decide +kernel
theorem dX12_node__122 : decode cX12_node_ 122 = .ok (.ireturn, 1) := by decide +kernel
theorem dX12_node__123 : decode cX12_node_ 123 = .ok (.aload_n 0, 1) := by decide +kernel
theorem dX12_node__124 : decode cX12_node_ 124 = .ok (.getfield 147, 3) := by decide +kernel
theorem dX12_node__127 : decode cX12_node_ 127 = .ok (.iload 4, 2) := by decide +kernel
theorem dX12_node__129 : decode cX12_node_ 129 = .ok (.iaload, 1) := by decide +kernel
theorem dX12_node__130 : decode cX12_node_ 130 = .ok (.ireturn, 1) := by decide +kernel
theorem dX12_isSame_0 : decode cX12_isSame 0 = .ok (.aload_n 0, 1) := by decide +kernel
theorem dX12_isSame_1 : decode cX12_isSame 1 = .ok (.aload_n 0, 1) := by decide +kernel
theorem dX12_isSame_2 : decode cX12_isSame 2 = .ok (.iload_n 1, 1) := by decide +kernel
theorem dX12_isSame_3 : decode cX12_isSame 3 = .ok (.invokevirtual 664, 3) := by decide +kernel
theorem dX12_isSame_6 : decode cX12_isSame 6 = .ok (.ifCond .eq 11, 3) := by decide +kernel
theorem dX12_isSame_9 : decode cX12_isSame 9 = .ok (.aload_n 0, 1) := by decide +kernel
theorem dX12_isSame_10 : decode cX12_isSame 10 = .ok (.iload_n 2, 1) := by decide +kernel
theorem dX12_isSame_11 : decode cX12_isSame 11 = .ok (.invokevirtual 664, 3) := by decide +kernel
theorem dX12_isSame_14 : decode cX12_isSame 14 = .ok (.ifCond .ne 7, 3) := by decide +kernel
theorem dX12_isSame_17 : decode cX12_isSame 17 = .ok (.iconst 1, 1) := by decide +kernel
theorem dX12_isSame_18 : decode cX12_isSame 18 = .ok (.goto 4, 3) := by decide +kernel
theorem dX12_isSame_21 : decode cX12_isSame 21 = .ok (.iconst 0, 1) := by decide +kernel
theorem dX12_isSame_22 : decode cX12_isSame 22 = .ok (.iconst 0, 1) := by decide +kernel
theorem dX12_isSame_23 : decode cX12_isSame 23 = .ok (.iconst 0, 1) := by decide +kernel
theorem dX12_isSame_24 : decode cX12_isSame 24 = .ok (.invokevirtual 670, 3) := by decide +kernel
theorem dX12_isSame_27 : decode cX12_isSame 27 = .ok (.ifCond .ne 22, 3) := by decide +kernel
theorem dX12_isSame_30 : decode cX12_isSame 30 = .ok (.aload_n 0, 1) := by decide +kernel
theorem dX12_isSame_31 : decode cX12_isSame 31 = .ok (.iload_n 1, 1) := by decide +kernel
theorem dX12_isSame_32 : decode cX12_isSame 32 = .ok (.invokestatic 667, 3) := by decide +kernel
theorem dX12_isSame_35 : decode cX12_isSame 35 = .ok (.iload_n 2, 1) := by decide +kernel
theorem dX12_isSame_36 : decode cX12_isSame 36 = .ok (.invokestatic 667, 3) := by decide +kernel
theorem dX12_isSame_39 : decode cX12_isSame 39 = .ok (.invokevirtual 417, 3) := by decide +kernel
theorem dX12_isSame_42 : decode cX12_isSame 42 = .ok (.ifCond .eq 7, 3) := by decide +kernel
theorem dX12_isSame_45 : decode cX12_isSame 45 = .ok (.iconst 1, 1) := by decide +kernel
theorem dX12_isSame_46 : decode cX12_isSame 46 = .ok (.goto 4, 3) := by decide +kernel
theorem dX12_isSame_49 : decode cX12_isSame 49 = .ok (.iconst 0, 1) := by decide +kernel
theorem dX12_isSame_50 : decode cX12_isSame 50 = .ok (.ireturn, 1) := by decide +kernel
theorem dX12_part_0 : decode cX12_part 0 = .ok (.aload_n 0, 1) := by decide +kernel
theorem dX12_part_1 : decode cX12_part 1 = .ok (.aload_n 0, 1) := by decide +kernel
theorem dX12_part_2 : decode cX12_part 2 = .ok (.iload_n 1, 1) := by decide +kernel
theorem dX12_part_3 : decode cX12_part 3 = .ok (.iload_n 2, 1) := by decide +kernel
theorem dX12_part_4 : decode cX12_part 4 = .ok (.invokevirtual 680, 3) := by decide +kernel
theorem dX12_part_7 : decode cX12_part 7 = .ok (.ifCond .ne 7, 3) := by decide +kernel
theorem dX12_part_10 : decode cX12_part 10 = .ok (.iconst 1, 1) := by decide +kernel
theorem dX12_part_11 : decode cX12_part 11 = .ok (.goto 4, 3) := by decide +kernel
theorem dX12_part_14 : decode cX12_part 14 = .ok (.iconst 0, 1) := by decide +kernel
theorem dX12_part_15 : decode cX12_part 15 = .ok (.aload_n 0, 1) := by decide +kernel
theorem dX12_part_16 : decode cX12_part 16 = .ok (.getfield 661, 3) := by decide +kernel
theorem dX12_part_19 : decode cX12_part 19 = .ok (.bipush 30, 2) := by decide +kernel
theorem dX12_part_21 : decode cX12_part 21 = .ok (.if_icmp .ne 7, 3) := by decide +kernel
theorem dX12_part_24 : decode cX12_part 24 = .ok (.iconst 1, 1) := by decide +kernel
theorem dX12_part_25 : decode cX12_part 25 = .ok (.goto 4, 3) := by decide +kernel
theorem dX12_part_28 : decode cX12_part 28 = .ok (.iconst 0, 1) := by decide +kernel
theorem dX12_part_29 : decode cX12_part 29 = .ok (.iconst 0, 1) := by decide +kernel
theorem dX12_part_30 : decode cX12_part 30 = .ok (.invokevirtual 670, 3) := by decide +kernel
theorem dX12_part_33 : decode cX12_part 33 = .ok (.ifCond .eq 5, 3) := by decide +kernel
theorem dX12_part_36 : decode cX12_part 36 = .ok (.iconst 0, 1) := by decide +kernel
theorem dX12_part_37 : decode cX12_part 37 = .ok (.ireturn, 1) := by decide +kernel
theorem dX12_part_38 : decode cX12_part 38 = .ok (.aload_n 0, 1) := by decide +kernel
theorem dX12_part_39 : decode cX12_part 39 = .ok (.iload_n 1, 1) := by decide +kernel
theorem dX12_part_40 : decode cX12_part 40 = .ok (.invokestatic 667, 3) := by decide +kernel
theorem dX12_part_43 : decode cX12_part 43 = .ok (.iload_n 2, 1) := by decide +kernel
theorem dX12_part_44 : decode cX12_part 44 = .ok (.iadd, 1) := by decide +kernel
theorem dX12_part_45 : decode cX12_part 45 = .ok (.aload_n 0, 1) := by decide +kernel
theorem dX12_part_46 : decode cX12_part 46 = .ok (.getfield 147, 3) := by decide +kernel
theorem dX12_part_49 : decode cX12_part 49 = .ok (.iload_n 1, 1) := by decide +kernel
theorem dX12_part_50 : decode cX12_part 50 = .ok (.invokestatic 667, 3) := by decide +kernel
theorem dX12_part_53 : decode cX12_part 53 = .ok (.iload_n 2, 1) := by decide +kernel
theorem dX12_part_54 : decode cX12_part 54 = .ok (.iadd, 1) := by decide +kernel
theorem dX12_part_55 : decode cX12_part 55 = .ok (.iaload, 1) := by decide +kernel
theorem dX12_part_56 : decode cX12_part 56 = .ok (.invokevirtual 677, 3) := by decide +kernel
theorem dX12_part_59 : decode cX12_part 59 = .ok (.ireturn, 1) := by decide +kernel
theorem dX12_isRange_0 : decode cX12_isRange 0 = .ok (.iload_n 2, 1) := by decide +kernel
theorem dX12_isRange_1 : decode cX12_isRange 1 = .ok (.iload_n 1, 1) := by decide +kernel
theorem dX12_isRange_2 : decode cX12_isRange 2 = .ok (.if_icmp .le 43, 3) := by decide +kernel
theorem dX12_isRange_5 : decode cX12_isRange 5 = .ok (.aload_n 0, 1) := by decide +kernel
theorem dX12_isRange_6 : decode cX12_isRange 6 = .ok (.getfield 135, 3) := by decide +kernel
theorem dX12_isRange_9 : decode cX12_isRange 9 = .ok (.iload_n 2, 1) := by decide +kernel
theorem dX12_isRange_10 : decode cX12_isRange 10 = .ok (.iconst 1, 1) := by decide +kernel
theorem dX12_isRange_11 : decode cX12_isRange 11 = .ok (.isub, 1) := by decide +kernel
theorem dX12_isRange_12 : decode cX12_isRange 12 = .ok (.iaload, 1) := by decide +kernel
theorem dX12_isRange_13 : decode cX12_isRange 13 = .ok (.iconst 2, 1) := by decide +kernel
theorem dX12_isRange_14 : decode cX12_isRange 14 = .ok (.if_icmp .ne 31, 3) := by decide +kernel
theorem dX12_isRange_17 : decode cX12_isRange 17 = .ok (.aload_n 0, 1) := by decide +kernel
theorem dX12_isRange_18 : decode cX12_isRange 18 = .ok (.getfield 138, 3) := by decide +kernel
theorem dX12_isRange_21 : decode cX12_isRange 21 = .ok (.iload_n 2, 1) := by decide +kernel
theorem dX12_isRange_22 : decode cX12_isRange 22 = .ok (.iconst 1, 1) := by decide +kernel
theorem dX12_isRange_23 : decode cX12_isRange 23 = .ok (.isub, 1) := by decide +kernel
theorem dX12_isRange_24 : decode cX12_isRange 24 = .ok (.iaload, 1) := by decide +kernel
theorem dX12_isRange_25 : decode cX12_isRange 25 = .ok (.bipush 115, 2) := by decide +kernel
theorem dX12_isRange_27 : decode cX12_isRange 27 = .ok (.if_icmp .ne 18, 3) := by decide +kernel
theorem dX12_isRange_30 : decode cX12_isRange 30 = .ok (.aload_n 0, 1) := by decide +kernel
theorem dX12_isRange_31 : decode cX12_isRange 31 = .ok (.getfield 144, 3) := by decide +kernel
theorem dX12_isRange_34 : decode cX12_isRange 34 = .ok (.iload_n 2, 1) := by decide +kernel
theorem dX12_isRange_35 : decode cX12_isRange 35 = .ok (.iconst 1, 1) := by decide +kernel
theorem dX12_isRange_36 : decode cX12_isRange 36 = .ok (.isub, 1) := by decide +kernel
theorem dX12_isRange_37 : decode cX12_isRange 37 = .ok (.iaload, 1) := by decide +kernel
theorem dX12_isRange_38 : decode cX12_isRange 38 = .ok (.ifCond .le 7, 3) := by decide +kernel
theorem dX12_isRange_41 : decode cX12_isRange 41 = .ok (.iconst 1, 1) := by decide +kernel
theorem dX12_isRange_42 : decode cX12_isRange 42 = .ok (.goto 4, 3) := by decide +kernel
theorem dX12_isRange_45 : decode cX12_isRange 45 = .ok (.iconst 0, 1) := by decide +kernel
theorem dX12_isRange_46 : decode cX12_isRange 46 = .ok (.ireturn, 1) := by decide +kernel
theorem dX12_grafted_0 : decode cX12_grafted 0 = .ok (.iconst 0, 1) := by decide +kernel
theorem dX12_grafted_1 : decode cX12_grafted 1 = .ok (.istore 4, 2) := by decide +kernel
theorem dX12_grafted_3 : decode cX12_grafted 3 = .ok (.iload_n 1, 1) := by decide +kernel
theorem dX12_grafted_4 : decode cX12_grafted 4 = .ok (.istore 5, 2) := by decide +kernel
theorem dX12_grafted_6 : decode cX12_grafted 6 = .ok (.iload 5, 2) := by decide +kernel
theorem dX12_grafted_8 : decode cX12_grafted 8 = .ok (.iload_n 1, 1) := by decide +kernel
theorem dX12_grafted_9 : decode cX12_grafted 9 = .ok (.aload_n 0, 1) := by decide +kernel
theorem dX12_grafted_10 : decode cX12_grafted 10 = .ok (.getfield 147, 3) := by decide +kernel
theorem dX12_grafted_13 : decode cX12_grafted 13 = .ok (.iload_n 1, 1) := by decide +kernel
theorem dX12_grafted_14 : decode cX12_grafted 14 = .ok (.iaload, 1) := by decide +kernel
theorem dX12_grafted_15 : decode cX12_grafted 15 = .ok (.iadd, 1) := by decide +kernel
theorem dX12_grafted_16 : decode cX12_grafted 16 = .ok (.if_icmp .ge 108, 3) := by decide +kernel
theorem dX12_grafted_19 : decode cX12_grafted 19 = .ok (.aload_n 0, 1) := by decide +kernel
theorem dX12_grafted_20 : decode cX12_grafted 20 = .ok (.getfield 135, 3) := by decide +kernel
theorem dX12_grafted_23 : decode cX12_grafted 23 = .ok (.iload 5, 2) := by decide +kernel
theorem dX12_grafted_25 : decode cX12_grafted 25 = .ok (.iaload, 1) := by decide +kernel
theorem dX12_grafted_26 : decode cX12_grafted 26 = .ok (.iconst 1, 1) := by decide +kernel
theorem dX12_grafted_27 : decode cX12_grafted 27 = .ok (.if_icmp .ne 28, 3) := by decide +kernel
theorem dX12_grafted_30 : decode cX12_grafted 30 = .ok (.aload_n 0, 1) := by decide +kernel
theorem dX12_grafted_31 : decode cX12_grafted 31 = .ok (.getfield 138, 3) := by decide +kernel
theorem dX12_grafted_34 : decode cX12_grafted 34 = .ok (.iload 5, 2) := by decide +kernel
theorem dX12_grafted_36 : decode cX12_grafted 36 = .ok (.iaload, 1) := by decide +kernel
theorem dX12_grafted_37 : decode cX12_grafted 37 = .ok (.iload_n 2, 1) := by decide +kernel
theorem dX12_grafted_38 : decode cX12_grafted 38 = .ok (.if_icmp .ne 17, 3) := by decide +kernel
theorem dX12_grafted_41 : decode cX12_grafted 41 = .ok (.aload_n 0, 1) := by decide +kernel
theorem dX12_grafted_42 : decode cX12_grafted 42 = .ok (.iload_n 1, 1) := by decide +kernel
theorem dX12_grafted_43 : decode cX12_grafted 43 = .ok (.iload 5, 2) := by decide +kernel
theorem dX12_grafted_45 : decode cX12_grafted 45 = .ok (.invokevirtual 686, 3) := by decide +kernel
theorem dX12_grafted_48 : decode cX12_grafted 48 = .ok (.ifCond .ne 7, 3) := by decide +kernel
theorem dX12_grafted_51 : decode cX12_grafted 51 = .ok (.iconst 1, 1) := by decide +kernel
theorem dX12_grafted_52 : decode cX12_grafted 52 = .ok (.goto 4, 3) := by decide +kernel
theorem dX12_grafted_55 : decode cX12_grafted 55 = .ok (.iconst 0, 1) := by decide +kernel
theorem dX12_grafted_56 : decode cX12_grafted 56 = .ok (.istore 6, 2) := by decide +kernel
theorem dX12_grafted_58 : decode cX12_grafted 58 = .ok (.iload 6, 2) := by decide +kernel
theorem dX12_grafted_60 : decode cX12_grafted 60 = .ok (.ifCond .eq 12, 3) := by decide +kernel
theorem dX12_grafted_63 : decode cX12_grafted 63 = .ok (.aload_n 0, 1) := by decide +kernel
theorem dX12_grafted_64 : decode cX12_grafted 64 = .ok (.getfield 147, 3) := by decide +kernel
theorem dX12_grafted_67 : decode cX12_grafted 67 = .ok (.iload_n 3, 1) := by decide +kernel
theorem dX12_grafted_68 : decode cX12_grafted 68 = .ok (.iaload, 1) := by decide +kernel
theorem dX12_grafted_69 : decode cX12_grafted 69 = .ok (.goto 4, 3) := by decide +kernel
theorem dX12_grafted_72 : decode cX12_grafted 72 = .ok (.iconst 1, 1) := by decide +kernel
theorem dX12_grafted_73 : decode cX12_grafted 73 = .ok (.istore 7, 2) := by decide +kernel
theorem dX12_grafted_75 : decode cX12_grafted 75 = .ok (.iload 4, 2) := by decide +kernel
theorem dX12_grafted_77 : decode cX12_grafted 77 = .ok (.iload 7, 2) := by decide +kernel
theorem dX12_grafted_79 : decode cX12_grafted 79 = .ok (.iadd, 1) := by decide +kernel
theorem dX12_grafted_80 : decode cX12_grafted 80 = .ok (.bipush 80, 2) := by decide +kernel
theorem dX12_grafted_82 : decode cX12_grafted 82 = .ok (.if_icmp .le 6, 3) := by decide +kernel
theorem dX12_grafted_85 : decode cX12_grafted 85 = .ok (.bipush 81, 2) := by decide +kernel
theorem dX12_grafted_87 : decode cX12_grafted 87 = .ok (.ireturn, 1) := by decide +kernel
theorem dX12_grafted_88 : decode cX12_grafted 88 = .ok (.aload_n 0, 1) := by decide +kernel
theorem dX12_grafted_89 : decode cX12_grafted 89 = .ok (.sipush 13540, 3) := by decide +kernel
theorem dX12_grafted_92 : decode cX12_grafted 92 = .ok (.iload 4, 2) := by decide +kernel
theorem dX12_grafted_94 : decode cX12_grafted 94 = .ok (.iadd, 1) := by decide +kernel
theorem dX12_grafted_95 : decode cX12_grafted 95 = .ok (.iload 6, 2) := by decide +kernel
theorem dX12_grafted_97 : decode cX12_grafted 97 = .ok (.ifCond .eq 7, 3) := by decide +kernel
theorem dX12_grafted_100 : decode cX12_grafted 100 = .ok (.iload_n 3, 1) := by decide +kernel
theorem dX12_grafted_101 : decode cX12_grafted 101 = .ok (.goto 5, 3) := by decide +kernel
theorem dX12_grafted_104 : decode cX12_grafted 104 = .ok (.iload 5, 2) := by decide +kernel
theorem dX12_grafted_106 : decode cX12_grafted 106 = .ok (.iload 7, 2) := by decide +kernel
theorem dX12_grafted_108 : decode cX12_grafted 108 = .ok (.invokevirtual 515, 3) := by decide +kernel
theorem dX12_grafted_111 : decode cX12_grafted 111 = .ok (.iload 4, 2) := by decide +kernel
theorem dX12_grafted_113 : decode cX12_grafted 113 = .ok (.iload 7, 2) := by decide +kernel
theorem dX12_grafted_115 : decode cX12_grafted 115 = .ok (.iadd, 1) := by decide +kernel
theorem dX12_grafted_116 : decode cX12_grafted 116 = .ok (.istore 4, 2) := by decide +kernel
theorem dX12_grafted_118 : decode cX12_grafted 118 = .ok (.iinc 5 1, 3) := by decide +kernel
theorem dX12_grafted_121 : decode cX12_grafted 121 = .ok (.goto (-115), 3) := by decide +kernel
theorem dX12_grafted_124 : decode cX12_grafted 124 = .ok (.iload 4, 2) := by decide +kernel
theorem dX12_grafted_126 : decode cX12_grafted 126 = .ok (.ireturn, 1) := by decide +kernel
theorem dX12_graft_0 : decode cX12_graft 0 = .ok (.aload_n 0, 1) := by decide +kernel
theorem dX12_graft_1 : decode cX12_graft 1 = .ok (.aload_n 0, 1) := by decide +kernel
theorem dX12_graft_2 : decode cX12_graft 2 = .ok (.iload_n 1, 1) := by decide +kernel
theorem dX12_graft_3 : decode cX12_graft 3 = .ok (.invokevirtual 664, 3) := by decide +kernel
theorem dX12_graft_6 : decode cX12_graft 6 = .ok (.ifCond .eq 11, 3) := by decide +kernel
theorem dX12_graft_9 : decode cX12_graft 9 = .ok (.aload_n 0, 1) := by decide +kernel
theorem dX12_graft_10 : decode cX12_graft 10 = .ok (.iload_n 3, 1) := by decide +kernel
theorem dX12_graft_11 : decode cX12_graft 11 = .ok (.invokevirtual 664, 3) := by decide +kernel
theorem dX12_graft_14 : decode cX12_graft 14 = .ok (.ifCond .ne 7, 3) := by decide +kernel
theorem dX12_graft_17 : decode cX12_graft 17 = .ok (.iconst 1, 1) := by decide +kernel
theorem dX12_graft_18 : decode cX12_graft 18 = .ok (.goto 4, 3) := by decide +kernel
theorem dX12_graft_21 : decode cX12_graft 21 = .ok (.iconst 0, 1) := by decide +kernel
theorem dX12_graft_22 : decode cX12_graft 22 = .ok (.iload_n 2, 1) := by decide +kernel
theorem dX12_graft_23 : decode cX12_graft 23 = .ok (.invokestatic 689, 3) := by decide +kernel
theorem dX12_graft_26 : decode cX12_graft 26 = .ok (.ifCond .ne 7, 3) := by decide +kernel
theorem dX12_graft_29 : decode cX12_graft 29 = .ok (.iconst 1, 1) := by decide +kernel
theorem dX12_graft_30 : decode cX12_graft 30 = .ok (.goto 4, 3) := by decide +kernel
theorem dX12_graft_33 : decode cX12_graft 33 = .ok (.iconst 0, 1) := by decide +kernel
theorem dX12_graft_34 : decode cX12_graft 34 = .ok (.iconst 0, 1) := by decide +kernel
theorem dX12_graft_35 : decode cX12_graft 35 = .ok (.invokevirtual 670, 3) := by decide +kernel
theorem dX12_graft_38 : decode cX12_graft 38 = .ok (.ifCond .eq 5, 3) := by decide +kernel
theorem dX12_graft_41 : decode cX12_graft 41 = .ok (.iconst 0, 1) := by decide +kernel
theorem dX12_graft_42 : decode cX12_graft 42 = .ok (.ireturn, 1) := by decide +kernel
theorem dX12_graft_43 : decode cX12_graft 43 = .ok (.aload_n 0, 1) := by decide +kernel
theorem dX12_graft_44 : decode cX12_graft 44 = .ok (.iload_n 1, 1) := by decide +kernel
theorem dX12_graft_45 : decode cX12_graft 45 = .ok (.invokestatic 667, 3) := by decide +kernel
theorem dX12_graft_48 : decode cX12_graft 48 = .ok (.iload_n 2, 1) := by decide +kernel
theorem dX12_graft_49 : decode cX12_graft 49 = .ok (.iload_n 3, 1) := by decide +kernel
theorem dX12_graft_50 : decode cX12_graft 50 = .ok (.invokestatic 667, 3) := by decide +kernel
theorem dX12_graft_53 : decode cX12_graft 53 = .ok (.invokevirtual 692, 3) := by decide +kernel
theorem dX12_graft_56 : decode cX12_graft 56 = .ok (.istore 4, 2) := by decide +kernel
theorem dX12_graft_58 : decode cX12_graft 58 = .ok (.aload_n 0, 1) := by decide +kernel
theorem dX12_graft_59 : decode cX12_graft 59 = .ok (.iconst 0, 1) := by decide +kernel
theorem dX12_graft_60 : decode cX12_graft 60 = .ok (.iconst 0, 1) := by decide +kernel
theorem dX12_graft_61 : decode cX12_graft 61 = .ok (.aload_n 0, 1) := by decide +kernel
theorem dX12_graft_62 : decode cX12_graft 62 = .ok (.getfield 661, 3) := by decide +kernel
theorem dX12_graft_65 : decode cX12_graft 65 = .ok (.bipush 30, 2) := by decide +kernel
theorem dX12_graft_67 : decode cX12_graft 67 = .ok (.if_icmp .eq 10, 3) := by decide +kernel
theorem dX12_graft_70 : decode cX12_graft 70 = .ok (.iload 4, 2) := by decide +kernel
theorem dX12_graft_72 : decode cX12_graft 72 = .ok (.bipush 80, 2) := by decide +kernel
theorem dX12_graft_74 : decode cX12_graft 74 = .ok (.if_icmp .le 7, 3) := by decide +kernel
theorem dX12_graft_77 : decode cX12_graft 77 = .ok (.iconst 1, 1) := by decide +kernel
theorem dX12_graft_78 : decode cX12_graft 78 = .ok (.goto 4, 3) := by decide +kernel
theorem dX12_graft_81 : decode cX12_graft 81 = .ok (.iconst 0, 1) := by decide +kernel
theorem dX12_graft_82 : decode cX12_graft 82 = .ok (.invokevirtual 670, 3) := by decide +kernel
theorem dX12_graft_85 : decode cX12_graft 85 = .ok (.ifCond .eq 5, 3) := by decide +kernel
theorem dX12_graft_88 : decode cX12_graft 88 = .ok (.iconst 0, 1) := by decide +kernel
theorem dX12_graft_89 : decode cX12_graft 89 = .ok (.ireturn, 1) := by decide +kernel
theorem dX12_graft_90 : decode cX12_graft 90 = .ok (.aload_n 0, 1) := by decide +kernel
theorem dX12_graft_91 : decode cX12_graft 91 = .ok (.sipush 13540, 3) := by decide +kernel
theorem dX12_graft_94 : decode cX12_graft 94 = .ok (.iload 4, 2) := by decide +kernel
theorem dX12_graft_96 : decode cX12_graft 96 = .ok (.invokevirtual 677, 3) := by decide +kernel
theorem dX12_graft_99 : decode cX12_graft 99 = .ok (.ireturn, 1) := by decide +kernel
theorem dX12_isMeaning_0 : decode cX12_isMeaning 0 = .ok (.iload_n 1, 1) := by decide +kernel
theorem dX12_isMeaning_1 : decode cX12_isMeaning 1 = .ok (.bipush 100, 2) := by decide +kernel
theorem dX12_isMeaning_3 : decode cX12_isMeaning 3 = .ok (.bipush 125, 2) := by decide +kernel
theorem dX12_isMeaning_5 : decode cX12_isMeaning 5 = .ok (.invokestatic 106, 3) := by decide +kernel
theorem dX12_isMeaning_8 : decode cX12_isMeaning 8 = .ok (.ifCond .eq 19, 3) := by decide +kernel
theorem dX12_isMeaning_11 : decode cX12_isMeaning 11 = .ok (.iload_n 1, 1) := by decide +kernel
theorem dX12_isMeaning_12 : decode cX12_isMeaning 12 = .ok (.bipush 108, 2) := by decide +kernel
theorem dX12_isMeaning_14 : decode cX12_isMeaning 14 = .ok (.if_icmp .eq 13, 3) := by decide +kernel
theorem dX12_isMeaning_17 : decode cX12_isMeaning 17 = .ok (.iload_n 1, 1) := by decide +kernel
theorem dX12_isMeaning_18 : decode cX12_isMeaning 18 = .ok (.bipush 118, 2) := by decide +kernel
theorem dX12_isMeaning_20 : decode cX12_isMeaning 20 = .ok (.if_icmp .eq 7, 3) := by decide +kernel
theorem dX12_isMeaning_23 : decode cX12_isMeaning 23 = .ok (.iconst 1, 1) := by decide +kernel
theorem dX12_isMeaning_24 : decode cX12_isMeaning 24 = .ok (.goto 4, 3) := by decide +kernel
theorem dX12_isMeaning_27 : decode cX12_isMeaning 27 = .ok (.iconst 0, 1) := by decide +kernel
theorem dX12_isMeaning_28 : decode cX12_isMeaning 28 = .ok (.istore_n 2, 1) := by decide +kernel
theorem dX12_isMeaning_29 : decode cX12_isMeaning 29 = .ok (.iload_n 2, 1) := by decide +kernel
theorem dX12_isMeaning_30 : decode cX12_isMeaning 30 = .ok (.ifCond .ne 32, 3) := by decide +kernel
theorem dX12_isMeaning_33 : decode cX12_isMeaning 33 = .ok (.iload_n 0, 1) := by decide +kernel
theorem dX12_isMeaning_34 : decode cX12_isMeaning 34 = .ok (.iconst 2, 1) := by decide +kernel
theorem dX12_isMeaning_35 : decode cX12_isMeaning 35 = .ok (.if_icmp .ne 16, 3) := by decide +kernel
theorem dX12_isMeaning_38 : decode cX12_isMeaning 38 = .ok (.iload_n 1, 1) := by decide +kernel
theorem dX12_isMeaning_39 : decode cX12_isMeaning 39 = .ok (.iconst 0, 1) := by decide +kernel
theorem dX12_isMeaning_40 : decode cX12_isMeaning 40 = .ok (.bipush 10, 2) := by decide +kernel
theorem dX12_isMeaning_42 : decode cX12_isMeaning 42 = .ok (.invokestatic 106, 3) := by decide +kernel
theorem dX12_isMeaning_45 : decode cX12_isMeaning 45 = .ok (.ifCond .eq 21, 3) := by decide +kernel
theorem dX12_isMeaning_48 : decode cX12_isMeaning 48 = .ok (.goto 14, 3) := by decide +kernel
theorem dX12_isMeaning_51 : decode cX12_isMeaning 51 = .ok (.iload_n 1, 1) := by decide +kernel
theorem dX12_isMeaning_52 : decode cX12_isMeaning 52 = .ok (.bipush 11, 2) := by decide +kernel
theorem dX12_isMeaning_54 : decode cX12_isMeaning 54 = .ok (.bipush 13, 2) := by decide +kernel
theorem dX12_isMeaning_56 : decode cX12_isMeaning 56 = .ok (.invokestatic 106, 3) := by decide +kernel
theorem dX12_isMeaning_59 : decode cX12_isMeaning 59 = .ok (.ifCond .eq 7, 3) := by decide +kernel
theorem dX12_isMeaning_62 : decode cX12_isMeaning 62 = .ok (.iconst 1, 1) := by decide +kernel
theorem dX12_isMeaning_63 : decode cX12_isMeaning 63 = .ok (.goto 4, 3) := by decide +kernel
theorem dX12_isMeaning_66 : decode cX12_isMeaning 66 = .ok (.iconst 0, 1) := by decide +kernel
theorem dX12_isMeaning_67 : decode cX12_isMeaning 67 = .ok (.ireturn, 1) := by decide +kernel
theorem dX12_isOther_0 : decode cX12_isOther 0 = .ok (.iconst 0, 1) := by decide +kernel
theorem dX12_isOther_1 : decode cX12_isOther 1 = .ok (.istore 4, 2) := by decide +kernel
theorem dX12_isOther_3 : decode cX12_isOther 3 = .ok (.iconst 0, 1) := by decide +kernel
theorem dX12_isOther_4 : decode cX12_isOther 4 = .ok (.istore 5, 2) := by decide +kernel
theorem dX12_isOther_6 : decode cX12_isOther 6 = .ok (.iload 5, 2) := by decide +kernel
theorem dX12_isOther_8 : decode cX12_isOther 8 = .ok (.bipush 16, 2) := by decide +kernel
theorem dX12_isOther_10 : decode cX12_isOther 10 = .ok (.if_icmp .ge 57, 3) := by decide +kernel
theorem dX12_isOther_13 : decode cX12_isOther 13 = .ok (.iload 4, 2) := by decide +kernel
theorem dX12_isOther_15 : decode cX12_isOther 15 = .ok (.ifCond .ne 39, 3) := by decide +kernel
theorem dX12_isOther_18 : decode cX12_isOther 18 = .ok (.iload 5, 2) := by decide +kernel
theorem dX12_isOther_20 : decode cX12_isOther 20 = .ok (.iload_n 1, 1) := by decide +kernel
theorem dX12_isOther_21 : decode cX12_isOther 21 = .ok (.if_icmp .eq 37, 3) := by decide +kernel
theorem dX12_isOther_24 : decode cX12_isOther 24 = .ok (.aload_n 0, 1) := by decide +kernel
theorem dX12_isOther_25 : decode cX12_isOther 25 = .ok (.getfield 153, 3) := by decide +kernel
theorem dX12_isOther_28 : decode cX12_isOther 28 = .ok (.iconst 3, 1) := by decide +kernel
theorem dX12_isOther_29 : decode cX12_isOther 29 = .ok (.iload 5, 2) := by decide +kernel
theorem dX12_isOther_31 : decode cX12_isOther 31 = .ok (.imul, 1) := by decide +kernel
theorem dX12_isOther_32 : decode cX12_isOther 32 = .ok (.iconst 2, 1) := by decide +kernel
theorem dX12_isOther_33 : decode cX12_isOther 33 = .ok (.iadd, 1) := by decide +kernel
theorem dX12_isOther_34 : decode cX12_isOther 34 = .ok (.iaload, 1) := by decide +kernel
theorem dX12_isOther_35 : decode cX12_isOther 35 = .ok (.iload_n 2, 1) := by decide +kernel
theorem dX12_isOther_36 : decode cX12_isOther 36 = .ok (.if_icmp .ne 22, 3) := by decide +kernel
theorem dX12_isOther_39 : decode cX12_isOther 39 = .ok (.aload_n 0, 1) := by decide +kernel
theorem dX12_isOther_40 : decode cX12_isOther 40 = .ok (.getfield 159, 3) := by decide +kernel
theorem dX12_isOther_43 : decode cX12_isOther 43 = .ok (.iconst 3, 1) := by decide +kernel
theorem dX12_isOther_44 : decode cX12_isOther 44 = .ok (.iload 5, 2) := by decide +kernel
theorem dX12_isOther_46 : decode cX12_isOther 46 = .ok (.imul, 1) := by decide +kernel
theorem dX12_isOther_47 : decode cX12_isOther 47 = .ok (.iconst 2, 1) := by decide +kernel
theorem dX12_isOther_48 : decode cX12_isOther 48 = .ok (.iadd, 1) := by decide +kernel
theorem dX12_isOther_49 : decode cX12_isOther 49 = .ok (.iaload, 1) := by decide +kernel
theorem dX12_isOther_50 : decode cX12_isOther 50 = .ok (.iload_n 3, 1) := by decide +kernel
theorem dX12_isOther_51 : decode cX12_isOther 51 = .ok (.if_icmp .eq 7, 3) := by decide +kernel
theorem dX12_isOther_54 : decode cX12_isOther 54 = .ok (.iconst 1, 1) := by decide +kernel
theorem dX12_isOther_55 : decode cX12_isOther 55 = .ok (.goto 4, 3) := by decide +kernel
theorem dX12_isOther_58 : decode cX12_isOther 58 = .ok (.iconst 0, 1) := by decide +kernel
theorem dX12_isOther_59 : decode cX12_isOther 59 = .ok (.istore 4, 2) := by decide +kernel
theorem dX12_isOther_61 : decode cX12_isOther 61 = .ok (.iinc 5 1, 3) := by decide +kernel
theorem dX12_isOther_64 : decode cX12_isOther 64 = .ok (.goto (-58), 3) := by decide +kernel
theorem dX12_isOther_67 : decode cX12_isOther 67 = .ok (.iload 4, 2) := by decide +kernel
theorem dX12_isOther_69 : decode cX12_isOther 69 = .ok (.ireturn, 1) := by decide +kernel
theorem dX12_tell_0 : decode cX12_tell 0 = .ok (.iload_n 1, 1) := by decide +kernel
theorem dX12_tell_1 : decode cX12_tell 1 = .ok (.invokestatic 156, 3) := by decide +kernel
theorem dX12_tell_4 : decode cX12_tell 4 = .ok (.istore 6, 2) := by decide +kernel
theorem dX12_tell_6 : decode cX12_tell 6 = .ok (.iload 6, 2) := by decide +kernel
theorem dX12_tell_8 : decode cX12_tell 8 = .ok (.iconst (-1), 1) := by decide +kernel
theorem dX12_tell_9 : decode cX12_tell 9 = .ok (.if_icmp .eq 54, 3) := by decide +kernel
theorem dX12_tell_12 : decode cX12_tell 12 = .ok (.iload_n 2, 1) := by decide +kernel
theorem dX12_tell_13 : decode cX12_tell 13 = .ok (.iconst 0, 1) := by decide +kernel
theorem dX12_tell_14 : decode cX12_tell 14 = .ok (.iconst 2, 1) := by decide +kernel
theorem dX12_tell_15 : decode cX12_tell 15 = .ok (.invokestatic 106, 3) := by decide +kernel
theorem dX12_tell_18 : decode cX12_tell 18 = .ok (.ifCond .eq 45, 3) := by decide +kernel
theorem dX12_tell_21 : decode cX12_tell 21 = .ok (.iload_n 3, 1) := by decide +kernel
theorem dX12_tell_22 : decode cX12_tell 22 = .ok (.iconst 1, 1) := by decide +kernel
theorem dX12_tell_23 : decode cX12_tell 23 = .ok (.bipush 9, 2) := by decide +kernel
theorem dX12_tell_25 : decode cX12_tell 25 = .ok (.invokestatic 106, 3) := by decide +kernel
theorem dX12_tell_28 : decode cX12_tell 28 = .ok (.ifCond .eq 35, 3) := by decide +kernel
theorem dX12_tell_31 : decode cX12_tell 31 = .ok (.iload 4, 2) := by decide +kernel
theorem dX12_tell_33 : decode cX12_tell 33 = .ok (.iconst 0, 1) := by decide +kernel
theorem dX12_tell_34 : decode cX12_tell 34 = .ok (.iload_n 2, 1) := by decide +kernel
theorem dX12_tell_35 : decode cX12_tell 35 = .ok (.iconst 2, 1) := by decide +kernel
theorem dX12_tell_36 : decode cX12_tell 36 = .ok (.if_icmp .ne 7, 3) := by decide +kernel
theorem dX12_tell_39 : decode cX12_tell 39 = .ok (.iconst 2, 1) := by decide +kernel
theorem dX12_tell_40 : decode cX12_tell 40 = .ok (.goto 4, 3) := by decide +kernel
theorem dX12_tell_43 : decode cX12_tell 43 = .ok (.iconst 0, 1) := by decide +kernel
theorem dX12_tell_44 : decode cX12_tell 44 = .ok (.invokestatic 106, 3) := by decide +kernel
theorem dX12_tell_47 : decode cX12_tell 47 = .ok (.ifCond .eq 16, 3) := by decide +kernel
theorem dX12_tell_50 : decode cX12_tell 50 = .ok (.iload_n 2, 1) := by decide +kernel
theorem dX12_tell_51 : decode cX12_tell 51 = .ok (.iload 5, 2) := by decide +kernel
theorem dX12_tell_53 : decode cX12_tell 53 = .ok (.invokestatic 695, 3) := by decide +kernel
theorem dX12_tell_56 : decode cX12_tell 56 = .ok (.ifCond .eq 7, 3) := by decide +kernel
theorem dX12_tell_59 : decode cX12_tell 59 = .ok (.iconst 1, 1) := by decide +kernel
theorem dX12_tell_60 : decode cX12_tell 60 = .ok (.goto 4, 3) := by decide +kernel
theorem dX12_tell_63 : decode cX12_tell 63 = .ok (.iconst 0, 1) := by decide +kernel
theorem dX12_tell_64 : decode cX12_tell 64 = .ok (.istore 7, 2) := by decide +kernel
theorem dX12_tell_66 : decode cX12_tell 66 = .ok (.iload 7, 2) := by decide +kernel
theorem dX12_tell_68 : decode cX12_tell 68 = .ok (.ifCond .eq 51, 3) := by decide +kernel
theorem dX12_tell_71 : decode cX12_tell 71 = .ok (.iload_n 2, 1) := by decide +kernel
theorem dX12_tell_72 : decode cX12_tell 72 = .ok (.ifCond .eq 47, 3) := by decide +kernel
theorem dX12_tell_75 : decode cX12_tell 75 = .ok (.aload_n 0, 1) := by decide +kernel
theorem dX12_tell_76 : decode cX12_tell 76 = .ok (.getfield 153, 3) := by decide +kernel
theorem dX12_tell_79 : decode cX12_tell 79 = .ok (.iconst 3, 1) := by decide +kernel
theorem dX12_tell_80 : decode cX12_tell 80 = .ok (.iload 6, 2) := by decide +kernel
theorem dX12_tell_82 : decode cX12_tell 82 = .ok (.imul, 1) := by decide +kernel
theorem dX12_tell_83 : decode cX12_tell 83 = .ok (.iload_n 2, 1) := by decide +kernel
theorem dX12_tell_84 : decode cX12_tell 84 = .ok (.iconst 2, 1) := by decide +kernel
theorem dX12_tell_85 : decode cX12_tell 85 = .ok (.if_icmp .ne 7, 3) := by decide +kernel
theorem dX12_tell_88 : decode cX12_tell 88 = .ok (.iconst 1, 1) := by decide +kernel
theorem dX12_tell_89 : decode cX12_tell 89 = .ok (.goto 4, 3) := by decide +kernel
theorem dX12_tell_92 : decode cX12_tell 92 = .ok (.iconst 2, 1) := by decide +kernel
theorem dX12_tell_93 : decode cX12_tell 93 = .ok (.iadd, 1) := by decide +kernel
theorem dX12_tell_94 : decode cX12_tell 94 = .ok (.iaload, 1) := by decide +kernel
theorem dX12_tell_95 : decode cX12_tell 95 = .ok (.ifCond .gt 20, 3) := by decide +kernel
theorem dX12_tell_98 : decode cX12_tell 98 = .ok (.iload_n 2, 1) := by decide +kernel
theorem dX12_tell_99 : decode cX12_tell 99 = .ok (.iconst 2, 1) := by decide +kernel
theorem dX12_tell_100 : decode cX12_tell 100 = .ok (.if_icmp .ne 19, 3) := by decide +kernel
theorem dX12_tell_103 : decode cX12_tell 103 = .ok (.aload_n 0, 1) := by decide +kernel
theorem dX12_tell_104 : decode cX12_tell 104 = .ok (.iload 6, 2) := by decide +kernel
theorem dX12_tell_106 : decode cX12_tell 106 = .ok (.iload_n 3, 1) := by decide +kernel
theorem dX12_tell_107 : decode cX12_tell 107 = .ok (.iload 4, 2) := by decide +kernel
theorem dX12_tell_109 : decode cX12_tell 109 = .ok (.invokevirtual 698, 3) := by decide +kernel
theorem dX12_tell_112 : decode cX12_tell 112 = .ok (.ifCond .eq 7, 3) := by decide +kernel
theorem dX12_tell_115 : decode cX12_tell 115 = .ok (.iconst 1, 1) := by decide +kernel
theorem dX12_tell_116 : decode cX12_tell 116 = .ok (.goto 4, 3) := by decide +kernel
theorem dX12_tell_119 : decode cX12_tell 119 = .ok (.iconst 0, 1) := by decide +kernel
theorem dX12_tell_120 : decode cX12_tell 120 = .ok (.istore 8, 2) := by decide +kernel
theorem dX12_tell_122 : decode cX12_tell 122 = .ok (.aload_n 0, 1) := by decide +kernel
theorem dX12_tell_123 : decode cX12_tell 123 = .ok (.iload 7, 2) := by decide +kernel
theorem dX12_tell_125 : decode cX12_tell 125 = .ok (.ifCond .ne 7, 3) := by decide +kernel
theorem dX12_tell_128 : decode cX12_tell 128 = .ok (.iconst 1, 1) := by decide +kernel
theorem dX12_tell_129 : decode cX12_tell 129 = .ok (.goto 4, 3) := by decide +kernel
theorem dX12_tell_132 : decode cX12_tell 132 = .ok (.iconst 0, 1) := by decide +kernel
theorem dX12_tell_133 : decode cX12_tell 133 = .ok (.iload 8, 2) := by decide +kernel
theorem dX12_tell_135 : decode cX12_tell 135 = .ok (.iconst 0, 1) := by decide +kernel
theorem dX12_tell_136 : decode cX12_tell 136 = .ok (.invokevirtual 670, 3) := by decide +kernel
theorem dX12_tell_139 : decode cX12_tell 139 = .ok (.ifCond .eq 5, 3) := by decide +kernel
theorem dX12_tell_142 : decode cX12_tell 142 = .ok (.iconst 0, 1) := by decide +kernel
theorem dX12_tell_143 : decode cX12_tell 143 = .ok (.ireturn, 1) := by decide +kernel
theorem dX12_tell_144 : decode cX12_tell 144 = .ok (.iconst 3, 1) := by decide +kernel
theorem dX12_tell_145 : decode cX12_tell 145 = .ok (.iload 6, 2) := by decide +kernel
theorem dX12_tell_147 : decode cX12_tell 147 = .ok (.imul, 1) := by decide +kernel
theorem dX12_tell_148 : decode cX12_tell 148 = .ok (.iload_n 2, 1) := by decide +kernel
theorem dX12_tell_149 : decode cX12_tell 149 = .ok (.iadd, 1) := by decide +kernel
theorem dX12_tell_150 : decode cX12_tell 150 = .ok (.istore 9, 2) := by decide +kernel
theorem dX12_tell_152 : decode cX12_tell 152 = .ok (.aload_n 0, 1) := by decide +kernel
theorem dX12_tell_153 : decode cX12_tell 153 = .ok (.getfield 153, 3) := by decide +kernel
theorem dX12_tell_156 : decode cX12_tell 156 = .ok (.iload 9, 2) := by decide +kernel
theorem dX12_tell_158 : decode cX12_tell 158 = .ok (.iaload, 1) := by decide +kernel
theorem dX12_tell_159 : decode cX12_tell 159 = .ok (.istore 10, 2) := by decide +kernel
theorem dX12_tell_161 : decode cX12_tell 161 = .ok (.aload_n 0, 1) := by decide +kernel
theorem dX12_tell_162 : decode cX12_tell 162 = .ok (.iconst 1, 1) := by decide +kernel
theorem dX12_tell_163 : decode cX12_tell 163 = .ok (.iload 9, 2) := by decide +kernel
theorem dX12_tell_165 : decode cX12_tell 165 = .ok (.aload_n 0, 1) := by decide +kernel
theorem dX12_tell_166 : decode cX12_tell 166 = .ok (.getfield 153, 3) := by decide +kernel
theorem dX12_tell_169 : decode cX12_tell 169 = .ok (.iload 9, 2) := by decide +kernel
theorem dX12_tell_171 : decode cX12_tell 171 = .ok (.iaload, 1) := by decide +kernel
theorem dX12_tell_172 : decode cX12_tell 172 = .ok (.aload_n 0, 1) := by decide +kernel
theorem dX12_tell_173 : decode cX12_tell 173 = .ok (.getfield 159, 3) := by decide +kernel
theorem dX12_tell_176 : decode cX12_tell 176 = .ok (.iload 9, 2) := by decide +kernel
theorem dX12_tell_178 : decode cX12_tell 178 = .ok (.iaload, 1) := by decide +kernel
theorem dX12_tell_179 : decode cX12_tell 179 = .ok (.aload_n 0, 1) := by decide +kernel
theorem dX12_tell_180 : decode cX12_tell 180 = .ok (.getfield 162, 3) := by decide +kernel
theorem dX12_tell_183 : decode cX12_tell 183 = .ok (.iload 9, 2) := by decide +kernel
theorem dX12_tell_185 : decode cX12_tell 185 = .ok (.iaload, 1) := by decide +kernel
theorem dX12_tell_186 : decode cX12_tell 186 = .ok (.invokevirtual 657, 3) := by decide +kernel
theorem dX12_tell_189 : decode cX12_tell 189 = .ok (.pop, 1) := by decide +kernel
theorem dX12_tell_190 : decode cX12_tell 190 = .ok (.aload_n 0, 1) := by decide +kernel
theorem dX12_tell_191 : decode cX12_tell 191 = .ok (.getfield 153, 3) := by decide +kernel
theorem dX12_tell_194 : decode cX12_tell 194 = .ok (.iload 9, 2) := by decide +kernel
theorem dX12_tell_196 : decode cX12_tell 196 = .ok (.iload_n 3, 1) := by decide +kernel
theorem dX12_tell_197 : decode cX12_tell 197 = .ok (.iastore, 1) := by decide +kernel
theorem dX12_tell_198 : decode cX12_tell 198 = .ok (.aload_n 0, 1) := by decide +kernel
theorem dX12_tell_199 : decode cX12_tell 199 = .ok (.getfield 159, 3) := by decide +kernel
theorem dX12_tell_202 : decode cX12_tell 202 = .ok (.iload 9, 2) := by decide +kernel
theorem dX12_tell_204 : decode cX12_tell 204 = .ok (.iload 4, 2) := by decide +kernel
theorem dX12_tell_206 : decode cX12_tell 206 = .ok (.iastore, 1) := by decide +kernel
theorem dX12_tell_207 : decode cX12_tell 207 = .ok (.aload_n 0, 1) := by decide +kernel
theorem dX12_tell_208 : decode cX12_tell 208 = .ok (.getfield 162, 3) := by decide +kernel
theorem dX12_tell_211 : decode cX12_tell 211 = .ok (.iload 9, 2) := by decide +kernel
theorem dX12_tell_213 : decode cX12_tell 213 = .ok (.iload 5, 2) := by decide +kernel
theorem dX12_tell_215 : decode cX12_tell 215 = .ok (.iastore, 1) := by decide +kernel
theorem dX12_tell_216 : decode cX12_tell 216 = .ok (.iload 10, 2) := by decide +kernel
theorem dX12_tell_218 : decode cX12_tell 218 = .ok (.ireturn, 1) := by decide +kernel
theorem dX12_told_0 : decode cX12_told 0 = .ok (.aload_n 0, 1) := by decide +kernel
theorem dX12_told_1 : decode cX12_told 1 = .ok (.iload_n 2, 1) := by decide +kernel
theorem dX12_told_2 : decode cX12_told 2 = .ok (.iconst 0, 1) := by decide +kernel
theorem dX12_told_3 : decode cX12_told 3 = .ok (.iconst 2, 1) := by decide +kernel
theorem dX12_told_4 : decode cX12_told 4 = .ok (.invokestatic 106, 3) := by decide +kernel
theorem dX12_told_7 : decode cX12_told 7 = .ok (.ifCond .eq 12, 3) := by decide +kernel
theorem dX12_told_10 : decode cX12_told 10 = .ok (.iload_n 3, 1) := by decide +kernel
theorem dX12_told_11 : decode cX12_told 11 = .ok (.iconst 0, 1) := by decide +kernel
theorem dX12_told_12 : decode cX12_told 12 = .ok (.iconst 2, 1) := by decide +kernel
theorem dX12_told_13 : decode cX12_told 13 = .ok (.invokestatic 106, 3) := by decide +kernel
theorem dX12_told_16 : decode cX12_told 16 = .ok (.ifCond .ne 7, 3) := by decide +kernel
theorem dX12_told_19 : decode cX12_told 19 = .ok (.iconst 1, 1) := by decide +kernel
theorem dX12_told_20 : decode cX12_told 20 = .ok (.goto 4, 3) := by decide +kernel
theorem dX12_told_23 : decode cX12_told 23 = .ok (.iconst 0, 1) := by decide +kernel
theorem dX12_told_24 : decode cX12_told 24 = .ok (.iconst 0, 1) := by decide +kernel
theorem dX12_told_25 : decode cX12_told 25 = .ok (.iconst 0, 1) := by decide +kernel
theorem dX12_told_26 : decode cX12_told 26 = .ok (.invokevirtual 670, 3) := by decide +kernel
theorem dX12_told_29 : decode cX12_told 29 = .ok (.ifCond .eq 5, 3) := by decide +kernel
theorem dX12_told_32 : decode cX12_told 32 = .ok (.iconst 0, 1) := by decide +kernel
theorem dX12_told_33 : decode cX12_told 33 = .ok (.ireturn, 1) := by decide +kernel
theorem dX12_told_34 : decode cX12_told 34 = .ok (.iconst 3, 1) := by decide +kernel
theorem dX12_told_35 : decode cX12_told 35 = .ok (.iload_n 1, 1) := by decide +kernel
theorem dX12_told_36 : decode cX12_told 36 = .ok (.invokestatic 156, 3) := by decide +kernel
theorem dX12_told_39 : decode cX12_told 39 = .ok (.imul, 1) := by decide +kernel
theorem dX12_told_40 : decode cX12_told 40 = .ok (.iload_n 2, 1) := by decide +kernel
theorem dX12_told_41 : decode cX12_told 41 = .ok (.iadd, 1) := by decide +kernel
theorem dX12_told_42 : decode cX12_told 42 = .ok (.istore 4, 2) := by decide +kernel
theorem dX12_told_44 : decode cX12_told 44 = .ok (.iload_n 1, 1) := by decide +kernel
theorem dX12_told_45 : decode cX12_told 45 = .ok (.invokestatic 156, 3) := by decide +kernel
theorem dX12_told_48 : decode cX12_told 48 = .ok (.iconst (-1), 1) := by decide +kernel
theorem dX12_told_49 : decode cX12_told 49 = .ok (.if_icmp .eq 13, 3) := by decide +kernel
theorem dX12_told_52 : decode cX12_told 52 = .ok (.aload_n 0, 1) := by decide +kernel
theorem dX12_told_53 : decode cX12_told 53 = .ok (.getfield 153, 3) := by decide +kernel
theorem dX12_told_56 : decode cX12_told 56 = .ok (.iload 4, 2) := by decide +kernel
theorem dX12_told_58 : decode cX12_told 58 = .ok (.iaload, 1) := by decide +kernel
theorem dX12_told_59 : decode cX12_told 59 = .ok (.ifCond .ne 7, 3) := by decide +kernel
theorem dX12_told_62 : decode cX12_told 62 = .ok (.iconst (-1), 1) := by decide +kernel
theorem dX12_told_63 : decode cX12_told 63 = .ok (.goto 39, 3) := by decide +kernel
theorem dX12_told_66 : decode cX12_told 66 = .ok (.iload_n 3, 1) := by decide +kernel
theorem dX12_told_67 : decode cX12_told 67 = .ok (.ifCond .ne 13, 3) := by decide +kernel
theorem dX12_told_70 : decode cX12_told 70 = .ok (.aload_n 0, 1) := by decide +kernel
theorem dX12_told_71 : decode cX12_told 71 = .ok (.getfield 153, 3) := by decide +kernel
theorem dX12_told_74 : decode cX12_told 74 = .ok (.iload 4, 2) := by decide +kernel
theorem dX12_told_76 : decode cX12_told 76 = .ok (.iaload, 1) := by decide +kernel
theorem dX12_told_77 : decode cX12_told 77 = .ok (.goto 25, 3) := by decide +kernel
theorem dX12_told_80 : decode cX12_told 80 = .ok (.iload_n 3, 1) := by decide +kernel
theorem dX12_told_81 : decode cX12_told 81 = .ok (.iconst 1, 1) := by decide +kernel
theorem dX12_told_82 : decode cX12_told 82 = .ok (.if_icmp .ne 13, 3) := by decide +kernel
theorem dX12_told_85 : decode cX12_told 85 = .ok (.aload_n 0, 1) := by decide +kernel
theorem dX12_told_86 : decode cX12_told 86 = .ok (.getfield 159, 3) := by decide +kernel
theorem dX12_told_89 : decode cX12_told 89 = .ok (.iload 4, 2) := by decide +kernel
theorem dX12_told_91 : decode cX12_told 91 = .ok (.iaload, 1) := by decide +kernel
theorem dX12_told_92 : decode cX12_told 92 = .ok (.goto 10, 3) := by decide +kernel
theorem dX12_told_95 : decode cX12_told 95 = .ok (.aload_n 0, 1) := by decide +kernel
theorem dX12_told_96 : decode cX12_told 96 = .ok (.getfield 162, 3) := by decide +kernel
theorem dX12_told_99 : decode cX12_told 99 = .ok (.iload 4, 2) := by decide +kernel
theorem dX12_told_101 : decode cX12_told 101 = .ok (.iaload, 1) := by decide +kernel
theorem dX12_told_102 : decode cX12_told 102 = .ok (.ireturn, 1) := by decide +kernel
theorem dX12_print_0 : decode cX12_print 0 = .ok (.aload_n 0, 1) := by decide +kernel
theorem dX12_print_1 : decode cX12_print 1 = .ok (.aload_n 0, 1) := by decide +kernel
theorem dX12_print_2 : decode cX12_print 2 = .ok (.iload_n 1, 1) := by decide +kernel
theorem dX12_print_3 : decode cX12_print 3 = .ok (.invokevirtual 664, 3) := by decide +kernel
theorem dX12_print_6 : decode cX12_print 6 = .ok (.ifCond .ne 7, 3) := by decide +kernel
theorem dX12_print_9 : decode cX12_print 9 = .ok (.iconst 1, 1) := by decide +kernel
theorem dX12_print_10 : decode cX12_print 10 = .ok (.goto 4, 3) := by decide +kernel
theorem dX12_print_13 : decode cX12_print 13 = .ok (.iconst 0, 1) := by decide +kernel
theorem dX12_print_14 : decode cX12_print 14 = .ok (.iconst 0, 1) := by decide +kernel
theorem dX12_print_15 : decode cX12_print 15 = .ok (.iconst 0, 1) := by decide +kernel
theorem dX12_print_16 : decode cX12_print 16 = .ok (.invokevirtual 670, 3) := by decide +kernel
theorem dX12_print_19 : decode cX12_print 19 = .ok (.ifCond .eq 5, 3) := by decide +kernel
theorem dX12_print_22 : decode cX12_print 22 = .ok (.iconst 0, 1) := by decide +kernel
theorem dX12_print_23 : decode cX12_print 23 = .ok (.ireturn, 1) := by decide +kernel
theorem dX12_print_24 : decode cX12_print 24 = .ok (.aload_n 0, 1) := by decide +kernel
theorem dX12_print_25 : decode cX12_print 25 = .ok (.iload_n 1, 1) := by decide +kernel
theorem dX12_print_26 : decode cX12_print 26 = .ok (.invokestatic 667, 3) := by decide +kernel
theorem dX12_print_29 : decode cX12_print 29 = .ok (.invokevirtual 701, 3) := by decide +kernel
theorem dX12_print_32 : decode cX12_print 32 = .ok (.aload_n 0, 1) := by decide +kernel
theorem dX12_print_33 : decode cX12_print 33 = .ok (.invokevirtual 704, 3) := by decide +kernel
theorem dX12_print_36 : decode cX12_print 36 = .ok (.aload_n 0, 1) := by decide +kernel
theorem dX12_print_37 : decode cX12_print 37 = .ok (.getfield 430, 3) := by decide +kernel
theorem dX12_print_40 : decode cX12_print 40 = .ok (.ireturn, 1) := by decide +kernel
theorem dX12_postfix_0 : decode cX12_postfix 0 = .ok (.aload_n 0, 1) := by decide +kernel
theorem dX12_postfix_1 : decode cX12_postfix 1 = .ok (.aload_n 0, 1) := by decide +kernel
theorem dX12_postfix_2 : decode cX12_postfix 2 = .ok (.iload_n 1, 1) := by decide +kernel
theorem dX12_postfix_3 : decode cX12_postfix 3 = .ok (.invokevirtual 664, 3) := by decide +kernel
theorem dX12_postfix_6 : decode cX12_postfix 6 = .ok (.ifCond .ne 7, 3) := by decide +kernel
theorem dX12_postfix_9 : decode cX12_postfix 9 = .ok (.iconst 1, 1) := by decide +kernel
theorem dX12_postfix_10 : decode cX12_postfix 10 = .ok (.goto 4, 3) := by decide +kernel
theorem dX12_postfix_13 : decode cX12_postfix 13 = .ok (.iconst 0, 1) := by decide +kernel
theorem dX12_postfix_14 : decode cX12_postfix 14 = .ok (.aload_n 0, 1) := by decide +kernel
theorem dX12_postfix_15 : decode cX12_postfix 15 = .ok (.iload_n 1, 1) := by decide +kernel
theorem dX12_postfix_16 : decode cX12_postfix 16 = .ok (.invokevirtual 664, 3) := by decide +kernel
theorem dX12_postfix_19 : decode cX12_postfix 19 = .ok (.ifCond .eq 18, 3) := by decide +kernel
theorem dX12_postfix_22 : decode cX12_postfix 22 = .ok (.aload_n 0, 1) := by decide +kernel
theorem dX12_postfix_23 : decode cX12_postfix 23 = .ok (.iload_n 1, 1) := by decide +kernel
theorem dX12_postfix_24 : decode cX12_postfix 24 = .ok (.invokestatic 667, 3) := by decide +kernel
theorem dX12_postfix_27 : decode cX12_postfix 27 = .ok (.invokevirtual 707, 3) := by decide +kernel
theorem dX12_postfix_30 : decode cX12_postfix 30 = .ok (.ifCond .eq 7, 3) := by decide +kernel
theorem dX12_postfix_33 : decode cX12_postfix 33 = .ok (.iconst 1, 1) := by decide +kernel
theorem dX12_postfix_34 : decode cX12_postfix 34 = .ok (.goto 4, 3) := by decide +kernel
theorem dX12_postfix_37 : decode cX12_postfix 37 = .ok (.iconst 0, 1) := by decide +kernel
theorem dX12_postfix_38 : decode cX12_postfix 38 = .ok (.iconst 0, 1) := by decide +kernel
theorem dX12_postfix_39 : decode cX12_postfix 39 = .ok (.invokevirtual 670, 3) := by decide +kernel
theorem dX12_postfix_42 : decode cX12_postfix 42 = .ok (.ifCond .eq 5, 3) := by decide +kernel
theorem dX12_postfix_45 : decode cX12_postfix 45 = .ok (.iconst 0, 1) := by decide +kernel
theorem dX12_postfix_46 : decode cX12_postfix 46 = .ok (.ireturn, 1) := by decide +kernel
theorem dX12_postfix_47 : decode cX12_postfix 47 = .ok (.aload_n 0, 1) := by decide +kernel
theorem dX12_postfix_48 : decode cX12_postfix 48 = .ok (.iload_n 1, 1) := by decide +kernel
theorem dX12_postfix_49 : decode cX12_postfix 49 = .ok (.invokestatic 667, 3) := by decide +kernel
theorem dX12_postfix_52 : decode cX12_postfix 52 = .ok (.invokevirtual 710, 3) := by decide +kernel
theorem dX12_postfix_55 : decode cX12_postfix 55 = .ok (.aload_n 0, 1) := by decide +kernel
theorem dX12_postfix_56 : decode cX12_postfix 56 = .ok (.getfield 430, 3) := by decide +kernel
theorem dX12_postfix_59 : decode cX12_postfix 59 = .ok (.ireturn, 1) := by decide +kernel
theorem dX12_out_0 : decode cX12_out 0 = .ok (.aload_n 0, 1) := by decide +kernel
theorem dX12_out_1 : decode cX12_out 1 = .ok (.iload_n 1, 1) := by decide +kernel
theorem dX12_out_2 : decode cX12_out 2 = .ok (.iconst 0, 1) := by decide +kernel
theorem dX12_out_3 : decode cX12_out 3 = .ok (.aload_n 0, 1) := by decide +kernel
theorem dX12_out_4 : decode cX12_out 4 = .ok (.getfield 430, 3) := by decide +kernel
theorem dX12_out_7 : decode cX12_out 7 = .ok (.iconst 1, 1) := by decide +kernel
theorem dX12_out_8 : decode cX12_out 8 = .ok (.isub, 1) := by decide +kernel
theorem dX12_out_9 : decode cX12_out 9 = .ok (.invokestatic 106, 3) := by decide +kernel
theorem dX12_out_12 : decode cX12_out 12 = .ok (.ifCond .ne 7, 3) := by decide +kernel
theorem dX12_out_15 : decode cX12_out 15 = .ok (.iconst 1, 1) := by decide +kernel
theorem dX12_out_16 : decode cX12_out 16 = .ok (.goto 4, 3) := by decide +kernel
theorem dX12_out_19 : decode cX12_out 19 = .ok (.iconst 0, 1) := by decide +kernel
theorem dX12_out_20 : decode cX12_out 20 = .ok (.iconst 0, 1) := by decide +kernel
theorem dX12_out_21 : decode cX12_out 21 = .ok (.iconst 0, 1) := by decide +kernel
theorem dX12_out_22 : decode cX12_out 22 = .ok (.invokevirtual 670, 3) := by decide +kernel
theorem dX12_out_25 : decode cX12_out 25 = .ok (.ifCond .eq 7, 3) := by decide +kernel
theorem dX12_out_28 : decode cX12_out 28 = .ok (.iconst 0, 1) := by decide +kernel
theorem dX12_out_29 : decode cX12_out 29 = .ok (.goto 9, 3) := by decide +kernel
theorem dX12_out_32 : decode cX12_out 32 = .ok (.aload_n 0, 1) := by decide +kernel
theorem dX12_out_33 : decode cX12_out 33 = .ok (.getfield 236, 3) := by decide +kernel
theorem dX12_out_36 : decode cX12_out 36 = .ok (.iload_n 1, 1) := by decide +kernel
theorem dX12_out_37 : decode cX12_out 37 = .ok (.iaload, 1) := by decide +kernel
theorem dX12_out_38 : decode cX12_out 38 = .ok (.ireturn, 1) := by decide +kernel
theorem dX12_answers_0 : decode cX12_answers 0 = .ok (.aload_n 0, 1) := by decide +kernel
theorem dX12_answers_1 : decode cX12_answers 1 = .ok (.iload_n 1, 1) := by decide +kernel
theorem dX12_answers_2 : decode cX12_answers 2 = .ok (.invokevirtual 713, 3) := by decide +kernel
theorem dX12_answers_5 : decode cX12_answers 5 = .ok (.istore_n 2, 1) := by decide +kernel
theorem dX12_answers_6 : decode cX12_answers 6 = .ok (.iload_n 2, 1) := by decide +kernel
theorem dX12_answers_7 : decode cX12_answers 7 = .ok (.ifCond .ne 11, 3) := by decide +kernel
theorem dX12_answers_10 : decode cX12_answers 10 = .ok (.aload_n 0, 1) := by decide +kernel
theorem dX12_answers_11 : decode cX12_answers 11 = .ok (.bipush 26, 2) := by decide +kernel
theorem dX12_answers_13 : decode cX12_answers 13 = .ok (.bipush 60, 2) := by decide +kernel
theorem dX12_answers_15 : decode cX12_answers 15 = .ok (.invokevirtual 115, 3) := by decide +kernel
theorem dX12_answers_18 : decode cX12_answers 18 = .ok (.iload_n 2, 1) := by decide +kernel
theorem dX12_answers_19 : decode cX12_answers 19 = .ok (.ireturn, 1) := by decide +kernel
theorem dX12_evaluate_0 : decode cX12_evaluate 0 = .ok (.aload_n 0, 1) := by decide +kernel
theorem dX12_evaluate_1 : decode cX12_evaluate 1 = .ok (.aload_n 0, 1) := by decide +kernel
theorem dX12_evaluate_2 : decode cX12_evaluate 2 = .ok (.iload_n 1, 1) := by decide +kernel
theorem dX12_evaluate_3 : decode cX12_evaluate 3 = .ok (.invokevirtual 664, 3) := by decide +kernel
theorem dX12_evaluate_6 : decode cX12_evaluate 6 = .ok (.ifCond .ne 7, 3) := by decide +kernel
theorem dX12_evaluate_9 : decode cX12_evaluate 9 = .ok (.iconst 1, 1) := by decide +kernel
theorem dX12_evaluate_10 : decode cX12_evaluate 10 = .ok (.goto 4, 3) := by decide +kernel
theorem dX12_evaluate_13 : decode cX12_evaluate 13 = .ok (.iconst 0, 1) := by decide +kernel
theorem dX12_evaluate_14 : decode cX12_evaluate 14 = .ok (.iconst 0, 1) := by decide +kernel
theorem dX12_evaluate_15 : decode cX12_evaluate 15 = .ok (.iconst 0, 1) := by decide +kernel
theorem dX12_evaluate_16 : decode cX12_evaluate 16 = .ok (.invokevirtual 670, 3) := by decide +kernel
theorem dX12_evaluate_19 : decode cX12_evaluate 19 = .ok (.ifCond .eq 7, 3) := by decide +kernel
theorem dX12_evaluate_22 : decode cX12_evaluate 22 = .ok (.iconst 0, 1) := by decide +kernel
theorem dX12_evaluate_23 : decode cX12_evaluate 23 = .ok (.goto 11, 3) := by decide +kernel
theorem dX12_evaluate_26 : decode cX12_evaluate 26 = .ok (.aload_n 0, 1) := by decide +kernel
theorem dX12_evaluate_27 : decode cX12_evaluate 27 = .ok (.iload_n 1, 1) := by decide +kernel
theorem dX12_evaluate_28 : decode cX12_evaluate 28 = .ok (.invokestatic 667, 3) := by decide +kernel
theorem dX12_evaluate_31 : decode cX12_evaluate 31 = .ok (.invokevirtual 716, 3) := by decide +kernel
theorem dX12_evaluate_34 : decode cX12_evaluate 34 = .ok (.ireturn, 1) := by decide +kernel
theorem dX12_reckon_0 : decode cX12_reckon 0 = .ok (.aload_n 0, 1) := by decide +kernel
theorem dX12_reckon_1 : decode cX12_reckon 1 = .ok (.aload_n 0, 1) := by decide +kernel
theorem dX12_reckon_2 : decode cX12_reckon 2 = .ok (.iload_n 1, 1) := by decide +kernel
theorem dX12_reckon_3 : decode cX12_reckon 3 = .ok (.invokevirtual 664, 3) := by decide +kernel
theorem dX12_reckon_6 : decode cX12_reckon 6 = .ok (.ifCond .ne 7, 3) := by decide +kernel
theorem dX12_reckon_9 : decode cX12_reckon 9 = .ok (.iconst 1, 1) := by decide +kernel
theorem dX12_reckon_10 : decode cX12_reckon 10 = .ok (.goto 4, 3) := by decide +kernel
theorem dX12_reckon_13 : decode cX12_reckon 13 = .ok (.iconst 0, 1) := by decide +kernel
theorem dX12_reckon_14 : decode cX12_reckon 14 = .ok (.aload_n 0, 1) := by decide +kernel
theorem dX12_reckon_15 : decode cX12_reckon 15 = .ok (.iload_n 1, 1) := by decide +kernel
theorem dX12_reckon_16 : decode cX12_reckon 16 = .ok (.invokevirtual 664, 3) := by decide +kernel
theorem dX12_reckon_19 : decode cX12_reckon 19 = .ok (.ifCond .eq 18, 3) := by decide +kernel
theorem dX12_reckon_22 : decode cX12_reckon 22 = .ok (.aload_n 0, 1) := by decide +kernel
theorem dX12_reckon_23 : decode cX12_reckon 23 = .ok (.iload_n 1, 1) := by decide +kernel
theorem dX12_reckon_24 : decode cX12_reckon 24 = .ok (.invokestatic 667, 3) := by decide +kernel
theorem dX12_reckon_27 : decode cX12_reckon 27 = .ok (.invokevirtual 707, 3) := by decide +kernel
theorem dX12_reckon_30 : decode cX12_reckon 30 = .ok (.ifCond .eq 7, 3) := by decide +kernel
theorem dX12_reckon_33 : decode cX12_reckon 33 = .ok (.iconst 1, 1) := by decide +kernel
theorem dX12_reckon_34 : decode cX12_reckon 34 = .ok (.goto 4, 3) := by decide +kernel
theorem dX12_reckon_37 : decode cX12_reckon 37 = .ok (.iconst 0, 1) := by decide +kernel
theorem dX12_reckon_38 : decode cX12_reckon 38 = .ok (.iconst 0, 1) := by decide +kernel
theorem dX12_reckon_39 : decode cX12_reckon 39 = .ok (.invokevirtual 670, 3) := by decide +kernel
theorem dX12_reckon_42 : decode cX12_reckon 42 = .ok (.ifCond .eq 7, 3) := by decide +kernel
theorem dX12_reckon_45 : decode cX12_reckon 45 = .ok (.iconst 0, 1) := by decide +kernel
theorem dX12_reckon_46 : decode cX12_reckon 46 = .ok (.goto 11, 3) := by decide +kernel
theorem dX12_reckon_49 : decode cX12_reckon 49 = .ok (.aload_n 0, 1) := by decide +kernel
theorem dX12_reckon_50 : decode cX12_reckon 50 = .ok (.iload_n 1, 1) := by decide +kernel
theorem dX12_reckon_51 : decode cX12_reckon 51 = .ok (.invokestatic 667, 3) := by decide +kernel
theorem dX12_reckon_54 : decode cX12_reckon 54 = .ok (.invokevirtual 716, 3) := by decide +kernel
theorem dX12_reckon_57 : decode cX12_reckon 57 = .ok (.ireturn, 1) := by decide +kernel
theorem dX12_answer_0 : decode cX12_answer 0 = .ok (.aload_n 0, 1) := by decide +kernel
theorem dX12_answer_1 : decode cX12_answer 1 = .ok (.iload_n 1, 1) := by decide +kernel
theorem dX12_answer_2 : decode cX12_answer 2 = .ok (.iconst 0, 1) := by decide +kernel
theorem dX12_answer_3 : decode cX12_answer 3 = .ok (.iconst 1, 1) := by decide +kernel
theorem dX12_answer_4 : decode cX12_answer 4 = .ok (.invokestatic 106, 3) := by decide +kernel
theorem dX12_answer_7 : decode cX12_answer 7 = .ok (.ifCond .eq 13, 3) := by decide +kernel
theorem dX12_answer_10 : decode cX12_answer 10 = .ok (.iload_n 2, 1) := by decide +kernel
theorem dX12_answer_11 : decode cX12_answer 11 = .ok (.iconst 2, 1) := by decide +kernel
theorem dX12_answer_12 : decode cX12_answer 12 = .ok (.bipush 36, 2) := by decide +kernel
theorem dX12_answer_14 : decode cX12_answer 14 = .ok (.invokestatic 106, 3) := by decide +kernel
theorem dX12_answer_17 : decode cX12_answer 17 = .ok (.ifCond .ne 7, 3) := by decide +kernel
theorem dX12_answer_20 : decode cX12_answer 20 = .ok (.iconst 1, 1) := by decide +kernel
theorem dX12_answer_21 : decode cX12_answer 21 = .ok (.goto 4, 3) := by decide +kernel
theorem dX12_answer_24 : decode cX12_answer 24 = .ok (.iconst 0, 1) := by decide +kernel
theorem dX12_answer_25 : decode cX12_answer 25 = .ok (.iconst 0, 1) := by decide +kernel
theorem dX12_answer_26 : decode cX12_answer 26 = .ok (.iconst 0, 1) := by decide +kernel
theorem dX12_answer_27 : decode cX12_answer 27 = .ok (.invokevirtual 670, 3) := by decide +kernel
theorem dX12_answer_30 : decode cX12_answer 30 = .ok (.ifCond .eq 5, 3) := by decide +kernel
theorem dX12_answer_33 : decode cX12_answer 33 = .ok (.iconst 0, 1) := by decide +kernel
theorem dX12_answer_34 : decode cX12_answer 34 = .ok (.ireturn, 1) := by decide +kernel
theorem dX12_answer_35 : decode cX12_answer 35 = .ok (.aload_n 0, 1) := by decide +kernel
theorem dX12_answer_36 : decode cX12_answer 36 = .ok (.iconst 0, 1) := by decide +kernel
theorem dX12_answer_37 : decode cX12_answer 37 = .ok (.putfield 430, 3) := by decide +kernel
theorem dX12_answer_40 : decode cX12_answer 40 = .ok (.iload_n 1, 1) := by decide +kernel
theorem dX12_answer_41 : decode cX12_answer 41 = .ok (.ifCond .ne 13, 3) := by decide +kernel
theorem dX12_answer_44 : decode cX12_answer 44 = .ok (.aload_n 0, 1) := by decide +kernel
theorem dX12_answer_45 : decode cX12_answer 45 = .ok (.iconst 2, 1) := by decide +kernel
theorem dX12_answer_46 : decode cX12_answer 46 = .ok (.bipush 26, 2) := by decide +kernel
theorem dX12_answer_48 : decode cX12_answer 48 = .ok (.invokevirtual 72, 3) := by decide +kernel
theorem dX12_answer_51 : decode cX12_answer 51 = .ok (.goto 10, 3) := by decide +kernel
theorem dX12_answer_54 : decode cX12_answer 54 = .ok (.aload_n 0, 1) := by decide +kernel
theorem dX12_answer_55 : decode cX12_answer 55 = .ok (.iconst 2, 1) := by decide +kernel
theorem dX12_answer_56 : decode cX12_answer 56 = .ok (.bipush 26, 2) := by decide +kernel
theorem dX12_answer_58 : decode cX12_answer 58 = .ok (.invokevirtual 75, 3) := by decide +kernel
theorem dX12_answer_61 : decode cX12_answer 61 = .ok (.iload_n 1, 1) := by decide +kernel
theorem dX12_answer_62 : decode cX12_answer 62 = .ok (.ifCond .ne 18, 3) := by decide +kernel
theorem dX12_answer_65 : decode cX12_answer 65 = .ok (.aload_n 0, 1) := by decide +kernel
theorem dX12_answer_66 : decode cX12_answer 66 = .ok (.bipush 26, 2) := by decide +kernel
theorem dX12_answer_68 : decode cX12_answer 68 = .ok (.invokevirtual 81, 3) := by decide +kernel
theorem dX12_answer_71 : decode cX12_answer 71 = .ok (.ifCond .ge 9, 3) := by decide +kernel
theorem dX12_answer_74 : decode cX12_answer 74 = .ok (.aload_n 0, 1) := by decide +kernel
theorem dX12_answer_75 : decode cX12_answer 75 = .ok (.bipush 45, 2) := by decide +kernel
theorem dX12_answer_77 : decode cX12_answer 77 = .ok (.invokevirtual 433, 3) := by decide +kernel
theorem dX12_answer_80 : decode cX12_answer 80 = .ok (.aload_n 0, 1) := by decide +kernel
theorem dX12_answer_81 : decode cX12_answer 81 = .ok (.getfield 430, 3) := by decide +kernel
theorem dX12_answer_84 : decode cX12_answer 84 = .ok (.istore_n 3, 1) := by decide +kernel
theorem dX12_answer_85 : decode cX12_answer 85 = .ok (.aload_n 0, 1) := by decide +kernel
theorem dX12_answer_86 : decode cX12_answer 86 = .ok (.iconst 3, 1) := by decide +kernel
theorem dX12_answer_87 : decode cX12_answer 87 = .ok (.iload_n 2, 1) := by decide +kernel
theorem dX12_answer_88 : decode cX12_answer 88 = .ok (.invokevirtual 53, 3) := by decide +kernel
theorem dX12_answer_91 : decode cX12_answer 91 = .ok (.aload_n 0, 1) := by decide +kernel
theorem dX12_answer_92 : decode cX12_answer 92 = .ok (.iconst 4, 1) := by decide +kernel
theorem dX12_answer_93 : decode cX12_answer 93 = .ok (.iconst 5, 1) := by decide +kernel
theorem dX12_answer_94 : decode cX12_answer 94 = .ok (.iconst 2, 1) := by decide +kernel
theorem dX12_answer_95 : decode cX12_answer 95 = .ok (.iconst 3, 1) := by decide +kernel
theorem dX12_answer_96 : decode cX12_answer 96 = .ok (.invokevirtual 62, 3) := by decide +kernel
theorem dX12_answer_99 : decode cX12_answer 99 = .ok (.aload_n 0, 1) := by decide +kernel
theorem dX12_answer_100 : decode cX12_answer 100 = .ok (.getfield 7, 3) := by decide +kernel
theorem dX12_answer_103 : decode cX12_answer 103 = .ok (.iconst 5, 1) := by decide +kernel
theorem dX12_answer_104 : decode cX12_answer 104 = .ok (.iaload, 1) := by decide +kernel
theorem dX12_answer_105 : decode cX12_answer 105 = .ok (.ifCond .ne 7, 3) := by decide +kernel
theorem dX12_answer_108 : decode cX12_answer 108 = .ok (.iconst 0, 1) := by decide +kernel
theorem dX12_answer_109 : decode cX12_answer 109 = .ok (.goto 11, 3) := by decide +kernel
theorem dX12_answer_112 : decode cX12_answer 112 = .ok (.aload_n 0, 1) := by decide +kernel
theorem dX12_answer_113 : decode cX12_answer 113 = .ok (.getfield 11, 3) := by decide +kernel
theorem dX12_answer_116 : decode cX12_answer 116 = .ok (.sipush 2200, 3) := by decide +kernel
theorem dX12_answer_119 : decode cX12_answer 119 = .ok (.iaload, 1) := by decide +kernel
theorem dX12_answer_120 : decode cX12_answer 120 = .ok (.istore 4, 2) := by decide +kernel
theorem dX12_answer_122 : decode cX12_answer 122 = .ok (.aload_n 0, 1) := by decide +kernel
theorem dX12_answer_123 : decode cX12_answer 123 = .ok (.iload 4, 2) := by decide +kernel
theorem dX12_answer_125 : decode cX12_answer 125 = .ok (.bipush 10, 2) := by decide +kernel
theorem dX12_answer_127 : decode cX12_answer 127 = .ok (.if_icmp .ge 11, 3) := by decide +kernel
theorem dX12_answer_130 : decode cX12_answer 130 = .ok (.bipush 48, 2) := by decide +kernel
theorem dX12_answer_132 : decode cX12_answer 132 = .ok (.iload 4, 2) := by decide +kernel
theorem dX12_answer_134 : decode cX12_answer 134 = .ok (.iadd, 1) := by decide +kernel
theorem dX12_answer_135 : decode cX12_answer 135 = .ok (.goto 11, 3) := by decide +kernel
theorem dX12_answer_138 : decode cX12_answer 138 = .ok (.bipush 97, 2) := by decide +kernel
theorem dX12_answer_140 : decode cX12_answer 140 = .ok (.iload 4, 2) := by decide +kernel
theorem dX12_answer_142 : decode cX12_answer 142 = .ok (.iadd, 1) := by decide +kernel
theorem dX12_answer_143 : decode cX12_answer 143 = .ok (.bipush 10, 2) := by decide +kernel
theorem dX12_answer_145 : decode cX12_answer 145 = .ok (.isub, 1) := by decide +kernel
theorem dX12_answer_146 : decode cX12_answer 146 = .ok (.invokevirtual 433, 3) := by decide +kernel
theorem dX12_answer_149 : decode cX12_answer 149 = .ok (.aload_n 0, 1) := by decide +kernel
theorem dX12_answer_150 : decode cX12_answer 150 = .ok (.iconst 2, 1) := by decide +kernel
theorem dX12_answer_151 : decode cX12_answer 151 = .ok (.iconst 4, 1) := by decide +kernel
theorem dX12_answer_152 : decode cX12_answer 152 = .ok (.invokevirtual 43, 3) := by decide +kernel
theorem dX12_answer_155 : decode cX12_answer 155 = .ok (.aload_n 0, 1) := by decide +kernel
theorem dX12_answer_156 : decode cX12_answer 156 = .ok (.getfield 7, 3) := by decide +kernel
theorem dX12_answer_159 : decode cX12_answer 159 = .ok (.iconst 2, 1) := by decide +kernel
theorem dX12_answer_160 : decode cX12_answer 160 = .ok (.iaload, 1) := by decide +kernel
theorem dX12_answer_161 : decode cX12_answer 161 = .ok (.ifCond .gt (-70), 3) := by decide +kernel
theorem dX12_answer_164 : decode cX12_answer 164 = .ok (.iconst 0, 1) := by decide +kernel
theorem dX12_answer_165 : decode cX12_answer 165 = .ok (.istore 4, 2) := by decide +kernel
theorem dX12_answer_167 : decode cX12_answer 167 = .ok (.iload 4, 2) := by decide +kernel
theorem dX12_answer_169 : decode cX12_answer 169 = .ok (.aload_n 0, 1) := by decide +kernel
theorem dX12_answer_170 : decode cX12_answer 170 = .ok (.getfield 430, 3) := by decide +kernel
theorem dX12_answer_173 : decode cX12_answer 173 = .ok (.iload_n 3, 1) := by decide +kernel
theorem dX12_answer_174 : decode cX12_answer 174 = .ok (.isub, 1) := by decide +kernel
theorem dX12_answer_175 : decode cX12_answer 175 = .ok (.iconst 2, 1) := by decide +kernel
theorem dX12_answer_176 : decode cX12_answer 176 = .ok (.idiv, 1) := by decide +kernel
theorem dX12_answer_177 : decode cX12_answer 177 = .ok (.if_icmp .ge 59, 3) := by decide +kernel
theorem dX12_answer_180 : decode cX12_answer 180 = .ok (.aload_n 0, 1) := by decide +kernel
theorem dX12_answer_181 : decode cX12_answer 181 = .ok (.getfield 236, 3) := by decide +kernel
theorem dX12_answer_184 : decode cX12_answer 184 = .ok (.iload_n 3, 1) := by decide +kernel
theorem dX12_answer_185 : decode cX12_answer 185 = .ok (.iload 4, 2) := by decide +kernel
theorem dX12_answer_187 : decode cX12_answer 187 = .ok (.iadd, 1) := by decide +kernel
theorem dX12_answer_188 : decode cX12_answer 188 = .ok (.iaload, 1) := by decide +kernel
theorem dX12_answer_189 : decode cX12_answer 189 = .ok (.istore 5, 2) := by decide +kernel
theorem dX12_answer_191 : decode cX12_answer 191 = .ok (.aload_n 0, 1) := by decide +kernel
theorem dX12_answer_192 : decode cX12_answer 192 = .ok (.getfield 236, 3) := by decide +kernel
theorem dX12_answer_195 : decode cX12_answer 195 = .ok (.iload_n 3, 1) := by decide +kernel
theorem dX12_answer_196 : decode cX12_answer 196 = .ok (.iload 4, 2) := by decide +kernel
theorem dX12_answer_198 : decode cX12_answer 198 = .ok (.iadd, 1) := by decide +kernel
theorem dX12_answer_199 : decode cX12_answer 199 = .ok (.aload_n 0, 1) := by decide +kernel
theorem dX12_answer_200 : decode cX12_answer 200 = .ok (.getfield 236, 3) := by decide +kernel
theorem dX12_answer_203 : decode cX12_answer 203 = .ok (.aload_n 0, 1) := by decide +kernel
theorem dX12_answer_204 : decode cX12_answer 204 = .ok (.getfield 430, 3) := by decide +kernel
theorem dX12_answer_207 : decode cX12_answer 207 = .ok (.iconst 1, 1) := by decide +kernel
theorem dX12_answer_208 : decode cX12_answer 208 = .ok (.isub, 1) := by decide +kernel
theorem dX12_answer_209 : decode cX12_answer 209 = .ok (.iload 4, 2) := by decide +kernel
theorem dX12_answer_211 : decode cX12_answer 211 = .ok (.isub, 1) := by decide +kernel
theorem dX12_answer_212 : decode cX12_answer 212 = .ok (.iaload, 1) := by decide +kernel
theorem dX12_answer_213 : decode cX12_answer 213 = .ok (.iastore, 1) := by decide +kernel
theorem dX12_answer_214 : decode cX12_answer 214 = .ok (.aload_n 0, 1) := by decide +kernel
theorem dX12_answer_215 : decode cX12_answer 215 = .ok (.getfield 236, 3) := by decide +kernel
theorem dX12_answer_218 : decode cX12_answer 218 = .ok (.aload_n 0, 1) := by decide +kernel
theorem dX12_answer_219 : decode cX12_answer 219 = .ok (.getfield 430, 3) := by decide +kernel
theorem dX12_answer_222 : decode cX12_answer 222 = .ok (.iconst 1, 1) := by decide +kernel
theorem dX12_answer_223 : decode cX12_answer 223 = .ok (.isub, 1) := by decide +kernel
theorem dX12_answer_224 : decode cX12_answer 224 = .ok (.iload 4, 2) := by decide +kernel
theorem dX12_answer_226 : decode cX12_answer 226 = .ok (.isub, 1) := by decide +kernel
theorem dX12_answer_227 : decode cX12_answer 227 = .ok (.iload 5, 2) := by decide +kernel
theorem dX12_answer_229 : decode cX12_answer 229 = .ok (.iastore, 1) := by decide +kernel
theorem dX12_answer_230 : decode cX12_answer 230 = .ok (.iinc 4 1, 3) := by decide +kernel
theorem dX12_answer_233 : decode cX12_answer 233 = .ok (.goto (-66), 3) := by decide +kernel
theorem dX12_answer_236 : decode cX12_answer 236 = .ok (.aload_n 0, 1) := by decide +kernel
theorem dX12_answer_237 : decode cX12_answer 237 = .ok (.getfield 430, 3) := by decide +kernel
theorem dX12_answer_240 : decode cX12_answer 240 = .ok (.ireturn, 1) := by decide +kernel
theorem dX12_let_0 : decode cX12_let 0 = .ok (.aload_n 0, 1) := by decide +kernel
theorem dX12_let_1 : decode cX12_let 1 = .ok (.iload_n 1, 1) := by decide +kernel
theorem dX12_let_2 : decode cX12_let 2 = .ok (.invokestatic 689, 3) := by decide +kernel
theorem dX12_let_5 : decode cX12_let 5 = .ok (.ifCond .ne 7, 3) := by decide +kernel
theorem dX12_let_8 : decode cX12_let 8 = .ok (.iconst 1, 1) := by decide +kernel
theorem dX12_let_9 : decode cX12_let 9 = .ok (.goto 4, 3) := by decide +kernel
theorem dX12_let_12 : decode cX12_let 12 = .ok (.iconst 0, 1) := by decide +kernel
theorem dX12_let_13 : decode cX12_let 13 = .ok (.aload_n 0, 1) := by decide +kernel
theorem dX12_let_14 : decode cX12_let 14 = .ok (.iload_n 2, 1) := by decide +kernel
theorem dX12_let_15 : decode cX12_let 15 = .ok (.invokevirtual 664, 3) := by decide +kernel
theorem dX12_let_18 : decode cX12_let 18 = .ok (.ifCond .ne 7, 3) := by decide +kernel
theorem dX12_let_21 : decode cX12_let 21 = .ok (.iconst 1, 1) := by decide +kernel
theorem dX12_let_22 : decode cX12_let 22 = .ok (.goto 4, 3) := by decide +kernel
theorem dX12_let_25 : decode cX12_let 25 = .ok (.iconst 0, 1) := by decide +kernel
theorem dX12_let_26 : decode cX12_let 26 = .ok (.iconst 0, 1) := by decide +kernel
theorem dX12_let_27 : decode cX12_let 27 = .ok (.invokevirtual 670, 3) := by decide +kernel
theorem dX12_let_30 : decode cX12_let 30 = .ok (.ifCond .eq 5, 3) := by decide +kernel
theorem dX12_let_33 : decode cX12_let 33 = .ok (.iconst 0, 1) := by decide +kernel
theorem dX12_let_34 : decode cX12_let 34 = .ok (.ireturn, 1) := by decide +kernel
theorem dX12_let_35 : decode cX12_let 35 = .ok (.aload_n 0, 1) := by decide +kernel
theorem dX12_let_36 : decode cX12_let 36 = .ok (.iload_n 2, 1) := by decide +kernel
theorem dX12_let_37 : decode cX12_let 37 = .ok (.invokestatic 667, 3) := by decide +kernel
theorem dX12_let_40 : decode cX12_let 40 = .ok (.invokevirtual 713, 3) := by decide +kernel
theorem dX12_let_43 : decode cX12_let 43 = .ok (.istore_n 3, 1) := by decide +kernel
theorem dX12_let_44 : decode cX12_let 44 = .ok (.iload_n 3, 1) := by decide +kernel
theorem dX12_let_45 : decode cX12_let 45 = .ok (.ifCond .ne 31, 3) := by decide +kernel
theorem dX12_let_48 : decode cX12_let 48 = .ok (.aload_n 0, 1) := by decide +kernel
theorem dX12_let_49 : decode cX12_let 49 = .ok (.iload_n 1, 1) := by decide +kernel
theorem dX12_let_50 : decode cX12_let 50 = .ok (.bipush 97, 2) := by decide +kernel
theorem dX12_let_52 : decode cX12_let 52 = .ok (.isub, 1) := by decide +kernel
theorem dX12_let_53 : decode cX12_let 53 = .ok (.invokevirtual 719, 3) := by decide +kernel
theorem dX12_let_56 : decode cX12_let 56 = .ok (.aload_n 0, 1) := by decide +kernel
theorem dX12_let_57 : decode cX12_let 57 = .ok (.getfield 248, 3) := by decide +kernel
theorem dX12_let_60 : decode cX12_let 60 = .ok (.iload_n 1, 1) := by decide +kernel
theorem dX12_let_61 : decode cX12_let 61 = .ok (.bipush 97, 2) := by decide +kernel
theorem dX12_let_63 : decode cX12_let 63 = .ok (.isub, 1) := by decide +kernel
theorem dX12_let_64 : decode cX12_let 64 = .ok (.iconst 1, 1) := by decide +kernel
theorem dX12_let_65 : decode cX12_let 65 = .ok (.bastore, 1) := by decide +kernel
theorem dX12_let_66 : decode cX12_let 66 = .ok (.aload_n 0, 1) := by decide +kernel
theorem dX12_let_67 : decode cX12_let 67 = .ok (.iload_n 1, 1) := by decide +kernel
theorem dX12_let_68 : decode cX12_let 68 = .ok (.bipush 97, 2) := by decide +kernel
theorem dX12_let_70 : decode cX12_let 70 = .ok (.isub, 1) := by decide +kernel
theorem dX12_let_71 : decode cX12_let 71 = .ok (.bipush 60, 2) := by decide +kernel
theorem dX12_let_73 : decode cX12_let 73 = .ok (.invokevirtual 115, 3) := by decide +kernel
theorem dX12_let_76 : decode cX12_let 76 = .ok (.iload_n 3, 1) := by decide +kernel
theorem dX12_let_77 : decode cX12_let 77 = .ok (.ireturn, 1) := by decide +kernel
theorem dX12_unlet_0 : decode cX12_unlet 0 = .ok (.aload_n 0, 1) := by decide +kernel
theorem dX12_unlet_1 : decode cX12_unlet 1 = .ok (.iload_n 1, 1) := by decide +kernel
theorem dX12_unlet_2 : decode cX12_unlet 2 = .ok (.invokestatic 689, 3) := by decide +kernel
theorem dX12_unlet_5 : decode cX12_unlet 5 = .ok (.ifCond .ne 7, 3) := by decide +kernel
theorem dX12_unlet_8 : decode cX12_unlet 8 = .ok (.iconst 1, 1) := by decide +kernel
theorem dX12_unlet_9 : decode cX12_unlet 9 = .ok (.goto 4, 3) := by decide +kernel
theorem dX12_unlet_12 : decode cX12_unlet 12 = .ok (.iconst 0, 1) := by decide +kernel
theorem dX12_unlet_13 : decode cX12_unlet 13 = .ok (.iconst 0, 1) := by decide +kernel
theorem dX12_unlet_14 : decode cX12_unlet 14 = .ok (.iconst 0, 1) := by decide +kernel
theorem dX12_unlet_15 : decode cX12_unlet 15 = .ok (.invokevirtual 670, 3) := by decide +kernel
theorem dX12_unlet_18 : decode cX12_unlet 18 = .ok (.ifCond .ne 15, 3) := by decide +kernel
theorem dX12_unlet_21 : decode cX12_unlet 21 = .ok (.aload_n 0, 1) := by decide +kernel
theorem dX12_unlet_22 : decode cX12_unlet 22 = .ok (.getfield 248, 3) := by decide +kernel
theorem dX12_unlet_25 : decode cX12_unlet 25 = .ok (.iload_n 1, 1) := by decide +kernel
theorem dX12_unlet_26 : decode cX12_unlet 26 = .ok (.bipush 97, 2) := by decide +kernel
theorem dX12_unlet_28 : decode cX12_unlet 28 = .ok (.isub, 1) := by decide +kernel
theorem dX12_unlet_29 : decode cX12_unlet 29 = .ok (.baload, 1) := by decide +kernel
theorem dX12_unlet_30 : decode cX12_unlet 30 = .ok (.ifCond .ne 5, 3) := by decide +kernel
theorem dX12_unlet_33 : decode cX12_unlet 33 = .ok (.iconst 0, 1) := by decide +kernel
theorem dX12_unlet_34 : decode cX12_unlet 34 = .ok (.ireturn, 1) := by decide +kernel
theorem dX12_unlet_35 : decode cX12_unlet 35 = .ok (.aload_n 0, 1) := by decide +kernel
theorem dX12_unlet_36 : decode cX12_unlet 36 = .ok (.iload_n 1, 1) := by decide +kernel
theorem dX12_unlet_37 : decode cX12_unlet 37 = .ok (.bipush 97, 2) := by decide +kernel
theorem dX12_unlet_39 : decode cX12_unlet 39 = .ok (.isub, 1) := by decide +kernel
theorem dX12_unlet_40 : decode cX12_unlet 40 = .ok (.invokevirtual 719, 3) := by decide +kernel
theorem dX12_unlet_43 : decode cX12_unlet 43 = .ok (.aload_n 0, 1) := by decide +kernel
theorem dX12_unlet_44 : decode cX12_unlet 44 = .ok (.getfield 248, 3) := by decide +kernel
theorem dX12_unlet_47 : decode cX12_unlet 47 = .ok (.iload_n 1, 1) := by decide +kernel
theorem dX12_unlet_48 : decode cX12_unlet 48 = .ok (.bipush 97, 2) := by decide +kernel
theorem dX12_unlet_50 : decode cX12_unlet 50 = .ok (.isub, 1) := by decide +kernel
theorem dX12_unlet_51 : decode cX12_unlet 51 = .ok (.iconst 0, 1) := by decide +kernel
theorem dX12_unlet_52 : decode cX12_unlet 52 = .ok (.bastore, 1) := by decide +kernel
theorem dX12_unlet_53 : decode cX12_unlet 53 = .ok (.iconst 1, 1) := by decide +kernel
theorem dX12_unlet_54 : decode cX12_unlet 54 = .ok (.ireturn, 1) := by decide +kernel
theorem dX12_recall_0 : decode cX12_recall 0 = .ok (.aload_n 0, 1) := by decide +kernel
theorem dX12_recall_1 : decode cX12_recall 1 = .ok (.iload_n 1, 1) := by decide +kernel
theorem dX12_recall_2 : decode cX12_recall 2 = .ok (.invokestatic 689, 3) := by decide +kernel
theorem dX12_recall_5 : decode cX12_recall 5 = .ok (.ifCond .ne 7, 3) := by decide +kernel
theorem dX12_recall_8 : decode cX12_recall 8 = .ok (.iconst 1, 1) := by decide +kernel
theorem dX12_recall_9 : decode cX12_recall 9 = .ok (.goto 4, 3) := by decide +kernel
theorem dX12_recall_12 : decode cX12_recall 12 = .ok (.iconst 0, 1) := by decide +kernel
theorem dX12_recall_13 : decode cX12_recall 13 = .ok (.iconst 0, 1) := by decide +kernel
theorem dX12_recall_14 : decode cX12_recall 14 = .ok (.iconst 0, 1) := by decide +kernel
theorem dX12_recall_15 : decode cX12_recall 15 = .ok (.invokevirtual 670, 3) := by decide +kernel
theorem dX12_recall_18 : decode cX12_recall 18 = .ok (.ifCond .ne 15, 3) := by decide +kernel
theorem dX12_recall_21 : decode cX12_recall 21 = .ok (.aload_n 0, 1) := by decide +kernel
theorem dX12_recall_22 : decode cX12_recall 22 = .ok (.getfield 248, 3) := by decide +kernel
theorem dX12_recall_25 : decode cX12_recall 25 = .ok (.iload_n 1, 1) := by decide +kernel
theorem dX12_recall_26 : decode cX12_recall 26 = .ok (.bipush 97, 2) := by decide +kernel
theorem dX12_recall_28 : decode cX12_recall 28 = .ok (.isub, 1) := by decide +kernel
theorem dX12_recall_29 : decode cX12_recall 29 = .ok (.baload, 1) := by decide +kernel
theorem dX12_recall_30 : decode cX12_recall 30 = .ok (.ifCond .ne 5, 3) := by decide +kernel
theorem dX12_recall_33 : decode cX12_recall 33 = .ok (.iconst 0, 1) := by decide +kernel
theorem dX12_recall_34 : decode cX12_recall 34 = .ok (.ireturn, 1) := by decide +kernel
theorem dX12_recall_35 : decode cX12_recall 35 = .ok (.aload_n 0, 1) := by decide +kernel
theorem dX12_recall_36 : decode cX12_recall 36 = .ok (.bipush 26, 2) := by decide +kernel
theorem dX12_recall_38 : decode cX12_recall 38 = .ok (.iload_n 1, 1) := by decide +kernel
theorem dX12_recall_39 : decode cX12_recall 39 = .ok (.bipush 97, 2) := by decide +kernel
theorem dX12_recall_41 : decode cX12_recall 41 = .ok (.isub, 1) := by decide +kernel
theorem dX12_recall_42 : decode cX12_recall 42 = .ok (.invokevirtual 115, 3) := by decide +kernel
theorem dX12_recall_45 : decode cX12_recall 45 = .ok (.iconst 1, 1) := by decide +kernel
theorem dX12_recall_46 : decode cX12_recall 46 = .ok (.ireturn, 1) := by decide +kernel
theorem dX12_define_0 : decode cX12_define 0 = .ok (.aload_n 0, 1) := by decide +kernel
theorem dX12_define_1 : decode cX12_define 1 = .ok (.iload_n 1, 1) := by decide +kernel
theorem dX12_define_2 : decode cX12_define 2 = .ok (.invokestatic 689, 3) := by decide +kernel
theorem dX12_define_5 : decode cX12_define 5 = .ok (.ifCond .eq 24, 3) := by decide +kernel
theorem dX12_define_8 : decode cX12_define 8 = .ok (.iload_n 1, 1) := by decide +kernel
theorem dX12_define_9 : decode cX12_define 9 = .ok (.bipush 105, 2) := by decide +kernel
theorem dX12_define_11 : decode cX12_define 11 = .ok (.if_icmp .eq 18, 3) := by decide +kernel
theorem dX12_define_14 : decode cX12_define 14 = .ok (.iload_n 1, 1) := by decide +kernel
theorem dX12_define_15 : decode cX12_define 15 = .ok (.bipush 115, 2) := by decide +kernel
theorem dX12_define_17 : decode cX12_define 17 = .ok (.if_icmp .eq 12, 3) := by decide +kernel
theorem dX12_define_20 : decode cX12_define 20 = .ok (.iload_n 2, 1) := by decide +kernel
theorem dX12_define_21 : decode cX12_define 21 = .ok (.iconst 1, 1) := by decide +kernel
theorem dX12_define_22 : decode cX12_define 22 = .ok (.iconst 3, 1) := by decide +kernel
theorem dX12_define_23 : decode cX12_define 23 = .ok (.invokestatic 106, 3) := by decide +kernel
theorem dX12_define_26 : decode cX12_define 26 = .ok (.ifCond .ne 7, 3) := by decide +kernel
theorem dX12_define_29 : decode cX12_define 29 = .ok (.iconst 1, 1) := by decide +kernel
theorem dX12_define_30 : decode cX12_define 30 = .ok (.goto 4, 3) := by decide +kernel
theorem dX12_define_33 : decode cX12_define 33 = .ok (.iconst 0, 1) := by decide +kernel
theorem dX12_define_34 : decode cX12_define 34 = .ok (.iconst 0, 1) := by decide +kernel
theorem dX12_define_35 : decode cX12_define 35 = .ok (.iconst 0, 1) := by decide +kernel
theorem dX12_define_36 : decode cX12_define 36 = .ok (.invokevirtual 670, 3) := by decide +kernel
theorem dX12_define_39 : decode cX12_define 39 = .ok (.ifCond .eq 5, 3) := by decide +kernel
theorem dX12_define_42 : decode cX12_define 42 = .ok (.iconst 0, 1) := by decide +kernel
theorem dX12_define_43 : decode cX12_define 43 = .ok (.ireturn, 1) := by decide +kernel
theorem dX12_define_44 : decode cX12_define 44 = .ok (.iload_n 1, 1) := by decide +kernel
theorem dX12_define_45 : decode cX12_define 45 = .ok (.bipush 97, 2) := by decide +kernel
theorem dX12_define_47 : decode cX12_define 47 = .ok (.isub, 1) := by decide +kernel
theorem dX12_define_48 : decode cX12_define 48 = .ok (.istore_n 3, 1) := by decide +kernel
theorem dX12_define_49 : decode cX12_define 49 = .ok (.aload_n 0, 1) := by decide +kernel
theorem dX12_define_50 : decode cX12_define 50 = .ok (.getfield 175, 3) := by decide +kernel
theorem dX12_define_53 : decode cX12_define 53 = .ok (.iload_n 3, 1) := by decide +kernel
theorem dX12_define_54 : decode cX12_define 54 = .ok (.iaload, 1) := by decide +kernel
theorem dX12_define_55 : decode cX12_define 55 = .ok (.ifCond .ne 7, 3) := by decide +kernel
theorem dX12_define_58 : decode cX12_define 58 = .ok (.iconst (-1), 1) := by decide +kernel
theorem dX12_define_59 : decode cX12_define 59 = .ok (.goto 9, 3) := by decide +kernel
theorem dX12_define_62 : decode cX12_define 62 = .ok (.aload_n 0, 1) := by decide +kernel
theorem dX12_define_63 : decode cX12_define 63 = .ok (.getfield 178, 3) := by decide +kernel
theorem dX12_define_66 : decode cX12_define 66 = .ok (.iload_n 3, 1) := by decide +kernel
theorem dX12_define_67 : decode cX12_define 67 = .ok (.iaload, 1) := by decide +kernel
theorem dX12_define_68 : decode cX12_define 68 = .ok (.istore 4, 2) := by decide +kernel
theorem dX12_define_70 : decode cX12_define 70 = .ok (.aload_n 0, 1) := by decide +kernel
theorem dX12_define_71 : decode cX12_define 71 = .ok (.iload_n 3, 1) := by decide +kernel
theorem dX12_define_72 : decode cX12_define 72 = .ok (.invokevirtual 722, 3) := by decide +kernel
theorem dX12_define_75 : decode cX12_define 75 = .ok (.aload_n 0, 1) := by decide +kernel
theorem dX12_define_76 : decode cX12_define 76 = .ok (.getfield 175, 3) := by decide +kernel
theorem dX12_define_79 : decode cX12_define 79 = .ok (.iload_n 3, 1) := by decide +kernel
theorem dX12_define_80 : decode cX12_define 80 = .ok (.iload_n 2, 1) := by decide +kernel
theorem dX12_define_81 : decode cX12_define 81 = .ok (.iastore, 1) := by decide +kernel
theorem dX12_define_82 : decode cX12_define 82 = .ok (.aload_n 0, 1) := by decide +kernel
theorem dX12_define_83 : decode cX12_define 83 = .ok (.getfield 178, 3) := by decide +kernel
theorem dX12_define_86 : decode cX12_define 86 = .ok (.iload_n 3, 1) := by decide +kernel
theorem dX12_define_87 : decode cX12_define 87 = .ok (.iconst 0, 1) := by decide +kernel
theorem dX12_define_88 : decode cX12_define 88 = .ok (.iastore, 1) := by decide +kernel
theorem dX12_define_89 : decode cX12_define 89 = .ok (.iconst 0, 1) := by decide +kernel
theorem dX12_define_90 : decode cX12_define 90 = .ok (.istore 5, 2) := by decide +kernel
theorem dX12_define_92 : decode cX12_define 92 = .ok (.iload 5, 2) := by decide +kernel
theorem dX12_define_94 : decode cX12_define 94 = .ok (.bipush 8, 2) := by decide +kernel
theorem dX12_define_96 : decode cX12_define 96 = .ok (.if_icmp .ge 22, 3) := by decide +kernel
theorem dX12_define_99 : decode cX12_define 99 = .ok (.aload_n 0, 1) := by decide +kernel
theorem dX12_define_100 : decode cX12_define 100 = .ok (.getfield 181, 3) := by decide +kernel
theorem dX12_define_103 : decode cX12_define 103 = .ok (.bipush 8, 2) := by decide +kernel
theorem dX12_define_105 : decode cX12_define 105 = .ok (.iload_n 3, 1) := by decide +kernel
theorem dX12_define_106 : decode cX12_define 106 = .ok (.imul, 1) := by decide +kernel
theorem dX12_define_107 : decode cX12_define 107 = .ok (.iload 5, 2) := by decide +kernel
theorem dX12_define_109 : decode cX12_define 109 = .ok (.iadd, 1) := by decide +kernel
theorem dX12_define_110 : decode cX12_define 110 = .ok (.iconst 0, 1) := by decide +kernel
theorem dX12_define_111 : decode cX12_define 111 = .ok (.iastore, 1) := by decide +kernel
theorem dX12_define_112 : decode cX12_define 112 = .ok (.iinc 5 1, 3) := by decide +kernel
theorem dX12_define_115 : decode cX12_define 115 = .ok (.goto (-23), 3) := by decide +kernel
theorem dX12_define_118 : decode cX12_define 118 = .ok (.iload 4, 2) := by decide +kernel
theorem dX12_define_120 : decode cX12_define 120 = .ok (.ireturn, 1) := by decide +kernel
theorem dX12_layCase_0 : decode cX12_layCase 0 = .ok (.bipush 8, 2) := by decide +kernel
theorem dX12_layCase_2 : decode cX12_layCase 2 = .ok (.iload_n 1, 1) := by decide +kernel
theorem dX12_layCase_3 : decode cX12_layCase 3 = .ok (.imul, 1) := by decide +kernel
theorem dX12_layCase_4 : decode cX12_layCase 4 = .ok (.iconst 2, 1) := by decide +kernel
theorem dX12_layCase_5 : decode cX12_layCase 5 = .ok (.aload_n 0, 1) := by decide +kernel
theorem dX12_layCase_6 : decode cX12_layCase 6 = .ok (.getfield 178, 3) := by decide +kernel
theorem dX12_layCase_9 : decode cX12_layCase 9 = .ok (.iload_n 1, 1) := by decide +kernel
theorem dX12_layCase_10 : decode cX12_layCase 10 = .ok (.iaload, 1) := by decide +kernel
theorem dX12_layCase_11 : decode cX12_layCase 11 = .ok (.imul, 1) := by decide +kernel
theorem dX12_layCase_12 : decode cX12_layCase 12 = .ok (.iadd, 1) := by decide +kernel
theorem dX12_layCase_13 : decode cX12_layCase 13 = .ok (.iload_n 2, 1) := by decide +kernel
theorem dX12_layCase_14 : decode cX12_layCase 14 = .ok (.iadd, 1) := by decide +kernel
theorem dX12_layCase_15 : decode cX12_layCase 15 = .ok (.istore 4, 2) := by decide +kernel
theorem dX12_layCase_17 : decode cX12_layCase 17 = .ok (.aload_n 0, 1) := by decide +kernel
theorem dX12_layCase_18 : decode cX12_layCase 18 = .ok (.getfield 181, 3) := by decide +kernel
theorem dX12_layCase_21 : decode cX12_layCase 21 = .ok (.iload 4, 2) := by decide +kernel
theorem dX12_layCase_23 : decode cX12_layCase 23 = .ok (.iload_n 3, 1) := by decide +kernel
theorem dX12_layCase_24 : decode cX12_layCase 24 = .ok (.iconst (-1), 1) := by decide +kernel
theorem dX12_layCase_25 : decode cX12_layCase 25 = .ok (.if_icmp .ne 7, 3) := by decide +kernel
theorem dX12_layCase_28 : decode cX12_layCase 28 = .ok (.iconst 0, 1) := by decide +kernel
theorem dX12_layCase_29 : decode cX12_layCase 29 = .ok (.goto 9, 3) := by decide +kernel
theorem dX12_layCase_32 : decode cX12_layCase 32 = .ok (.aload_n 0, 1) := by decide +kernel
theorem dX12_layCase_33 : decode cX12_layCase 33 = .ok (.getfield 172, 3) := by decide +kernel
theorem dX12_layCase_36 : decode cX12_layCase 36 = .ok (.iload_n 3, 1) := by decide +kernel
theorem dX12_layCase_37 : decode cX12_layCase 37 = .ok (.iaload, 1) := by decide +kernel
theorem dX12_layCase_38 : decode cX12_layCase 38 = .ok (.iastore, 1) := by decide +kernel
theorem dX12_layCase_39 : decode cX12_layCase 39 = .ok (.aload_n 0, 1) := by decide +kernel
theorem dX12_layCase_40 : decode cX12_layCase 40 = .ok (.sipush 2400, 3) := by decide +kernel
theorem dX12_layCase_43 : decode cX12_layCase 43 = .ok (.bipush 30, 2) := by decide +kernel
theorem dX12_layCase_45 : decode cX12_layCase 45 = .ok (.iload 4, 2) := by decide +kernel
theorem dX12_layCase_47 : decode cX12_layCase 47 = .ok (.imul, 1) := by decide +kernel
theorem dX12_layCase_48 : decode cX12_layCase 48 = .ok (.iadd, 1) := by decide +kernel
theorem dX12_layCase_49 : decode cX12_layCase 49 = .ok (.iload_n 3, 1) := by decide +kernel
theorem dX12_layCase_50 : decode cX12_layCase 50 = .ok (.iconst (-1), 1) := by decide +kernel
theorem dX12_layCase_51 : decode cX12_layCase 51 = .ok (.if_icmp .ne 7, 3) := by decide +kernel
theorem dX12_layCase_54 : decode cX12_layCase 54 = .ok (.iconst 0, 1) := by decide +kernel
theorem dX12_layCase_55 : decode cX12_layCase 55 = .ok (.goto 7, 3) := by decide +kernel
theorem dX12_layCase_58 : decode cX12_layCase 58 = .ok (.iload_n 3, 1) := by decide +kernel
theorem dX12_layCase_59 : decode cX12_layCase 59 = .ok (.invokestatic 667, 3) := by decide +kernel
theorem dX12_layCase_62 : decode cX12_layCase 62 = .ok (.aload_n 0, 1) := by decide +kernel
theorem dX12_layCase_63 : decode cX12_layCase 63 = .ok (.getfield 181, 3) := by decide +kernel
theorem dX12_layCase_66 : decode cX12_layCase 66 = .ok (.iload 4, 2) := by decide +kernel
theorem dX12_layCase_68 : decode cX12_layCase 68 = .ok (.iaload, 1) := by decide +kernel
theorem dX12_layCase_69 : decode cX12_layCase 69 = .ok (.invokevirtual 515, 3) := by decide +kernel
theorem dX12_layCase_72 : decode cX12_layCase 72 = .ok (.return_, 1) := by decide +kernel
theorem dX12_addCase_0 : decode cX12_addCase 0 = .ok (.aload_n 0, 1) := by decide +kernel
theorem dX12_addCase_1 : decode cX12_addCase 1 = .ok (.iload_n 3, 1) := by decide +kernel
theorem dX12_addCase_2 : decode cX12_addCase 2 = .ok (.invokevirtual 664, 3) := by decide +kernel
theorem dX12_addCase_5 : decode cX12_addCase 5 = .ok (.ifCond .eq 20, 3) := by decide +kernel
theorem dX12_addCase_8 : decode cX12_addCase 8 = .ok (.iload_n 2, 1) := by decide +kernel
theorem dX12_addCase_9 : decode cX12_addCase 9 = .ok (.iconst (-1), 1) := by decide +kernel
theorem dX12_addCase_10 : decode cX12_addCase 10 = .ok (.if_icmp .eq 11, 3) := by decide +kernel
theorem dX12_addCase_13 : decode cX12_addCase 13 = .ok (.aload_n 0, 1) := by decide +kernel
theorem dX12_addCase_14 : decode cX12_addCase 14 = .ok (.iload_n 2, 1) := by decide +kernel
theorem dX12_addCase_15 : decode cX12_addCase 15 = .ok (.invokevirtual 664, 3) := by decide +kernel
theorem dX12_addCase_18 : decode cX12_addCase 18 = .ok (.ifCond .eq 7, 3) := by decide +kernel
theorem dX12_addCase_21 : decode cX12_addCase 21 = .ok (.iconst 1, 1) := by decide +kernel
theorem dX12_addCase_22 : decode cX12_addCase 22 = .ok (.goto 4, 3) := by decide +kernel
theorem dX12_addCase_25 : decode cX12_addCase 25 = .ok (.iconst 0, 1) := by decide +kernel
theorem dX12_addCase_26 : decode cX12_addCase 26 = .ok (.istore 4, 2) := by decide +kernel
theorem dX12_addCase_28 : decode cX12_addCase 28 = .ok (.aload_n 0, 1) := by decide +kernel
theorem dX12_addCase_29 : decode cX12_addCase 29 = .ok (.iload_n 1, 1) := by decide +kernel
theorem dX12_addCase_30 : decode cX12_addCase 30 = .ok (.invokestatic 689, 3) := by decide +kernel
theorem dX12_addCase_33 : decode cX12_addCase 33 = .ok (.ifCond .ne 7, 3) := by decide +kernel
theorem dX12_addCase_36 : decode cX12_addCase 36 = .ok (.iconst 1, 1) := by decide +kernel
theorem dX12_addCase_37 : decode cX12_addCase 37 = .ok (.goto 4, 3) := by decide +kernel
theorem dX12_addCase_40 : decode cX12_addCase 40 = .ok (.iconst 0, 1) := by decide +kernel
theorem dX12_addCase_41 : decode cX12_addCase 41 = .ok (.iload 4, 2) := by decide +kernel
theorem dX12_addCase_43 : decode cX12_addCase 43 = .ok (.ifCond .ne 7, 3) := by decide +kernel
theorem dX12_addCase_46 : decode cX12_addCase 46 = .ok (.iconst 1, 1) := by decide +kernel
theorem dX12_addCase_47 : decode cX12_addCase 47 = .ok (.goto 4, 3) := by decide +kernel
theorem dX12_addCase_50 : decode cX12_addCase 50 = .ok (.iconst 0, 1) := by decide +kernel
theorem dX12_addCase_51 : decode cX12_addCase 51 = .ok (.iconst 0, 1) := by decide +kernel
theorem dX12_addCase_52 : decode cX12_addCase 52 = .ok (.invokevirtual 670, 3) := by decide +kernel
theorem dX12_addCase_55 : decode cX12_addCase 55 = .ok (.ifCond .eq 5, 3) := by decide +kernel
theorem dX12_addCase_58 : decode cX12_addCase 58 = .ok (.iconst 0, 1) := by decide +kernel
theorem dX12_addCase_59 : decode cX12_addCase 59 = .ok (.ireturn, 1) := by decide +kernel
theorem dX12_addCase_60 : decode cX12_addCase 60 = .ok (.iload_n 1, 1) := by decide +kernel
theorem dX12_addCase_61 : decode cX12_addCase 61 = .ok (.bipush 97, 2) := by decide +kernel
theorem dX12_addCase_63 : decode cX12_addCase 63 = .ok (.isub, 1) := by decide +kernel
theorem dX12_addCase_64 : decode cX12_addCase 64 = .ok (.istore 5, 2) := by decide +kernel
theorem dX12_addCase_66 : decode cX12_addCase 66 = .ok (.aload_n 0, 1) := by decide +kernel
theorem dX12_addCase_67 : decode cX12_addCase 67 = .ok (.getfield 172, 3) := by decide +kernel
theorem dX12_addCase_70 : decode cX12_addCase 70 = .ok (.iload_n 3, 1) := by decide +kernel
theorem dX12_addCase_71 : decode cX12_addCase 71 = .ok (.iaload, 1) := by decide +kernel
theorem dX12_addCase_72 : decode cX12_addCase 72 = .ok (.bipush 30, 2) := by decide +kernel
theorem dX12_addCase_74 : decode cX12_addCase 74 = .ok (.if_icmp .gt 19, 3) := by decide +kernel
theorem dX12_addCase_77 : decode cX12_addCase 77 = .ok (.iload_n 2, 1) := by decide +kernel
theorem dX12_addCase_78 : decode cX12_addCase 78 = .ok (.iconst (-1), 1) := by decide +kernel
theorem dX12_addCase_79 : decode cX12_addCase 79 = .ok (.if_icmp .eq 18, 3) := by decide +kernel
theorem dX12_addCase_82 : decode cX12_addCase 82 = .ok (.aload_n 0, 1) := by decide +kernel
theorem dX12_addCase_83 : decode cX12_addCase 83 = .ok (.getfield 172, 3) := by decide +kernel
theorem dX12_addCase_86 : decode cX12_addCase 86 = .ok (.iload_n 2, 1) := by decide +kernel
theorem dX12_addCase_87 : decode cX12_addCase 87 = .ok (.iaload, 1) := by decide +kernel
theorem dX12_addCase_88 : decode cX12_addCase 88 = .ok (.bipush 30, 2) := by decide +kernel
theorem dX12_addCase_90 : decode cX12_addCase 90 = .ok (.if_icmp .le 7, 3) := by decide +kernel
theorem dX12_addCase_93 : decode cX12_addCase 93 = .ok (.iconst 1, 1) := by decide +kernel
theorem dX12_addCase_94 : decode cX12_addCase 94 = .ok (.goto 4, 3) := by decide +kernel
theorem dX12_addCase_97 : decode cX12_addCase 97 = .ok (.iconst 0, 1) := by decide +kernel
theorem dX12_addCase_98 : decode cX12_addCase 98 = .ok (.istore 6, 2) := by decide +kernel
theorem dX12_addCase_100 : decode cX12_addCase 100 = .ok (.aload_n 0, 1) := by decide +kernel
theorem dX12_addCase_101 : decode cX12_addCase 101 = .ok (.iconst 0, 1) := by decide +kernel
theorem dX12_addCase_102 : decode cX12_addCase 102 = .ok (.iconst 0, 1) := by decide +kernel
theorem dX12_addCase_103 : decode cX12_addCase 103 = .ok (.aload_n 0, 1) := by decide +kernel
theorem dX12_addCase_104 : decode cX12_addCase 104 = .ok (.getfield 175, 3) := by decide +kernel
theorem dX12_addCase_107 : decode cX12_addCase 107 = .ok (.iload 5, 2) := by decide +kernel
theorem dX12_addCase_109 : decode cX12_addCase 109 = .ok (.iaload, 1) := by decide +kernel
theorem dX12_addCase_110 : decode cX12_addCase 110 = .ok (.ifCond .eq 19, 3) := by decide +kernel
theorem dX12_addCase_113 : decode cX12_addCase 113 = .ok (.aload_n 0, 1) := by decide +kernel
theorem dX12_addCase_114 : decode cX12_addCase 114 = .ok (.getfield 178, 3) := by decide +kernel
theorem dX12_addCase_117 : decode cX12_addCase 117 = .ok (.iload 5, 2) := by decide +kernel
theorem dX12_addCase_119 : decode cX12_addCase 119 = .ok (.iaload, 1) := by decide +kernel
theorem dX12_addCase_120 : decode cX12_addCase 120 = .ok (.iconst 4, 1) := by decide +kernel
theorem dX12_addCase_121 : decode cX12_addCase 121 = .ok (.if_icmp .eq 8, 3) := by decide +kernel
theorem dX12_addCase_124 : decode cX12_addCase 124 = .ok (.iload 6, 2) := by decide +kernel
theorem dX12_addCase_126 : decode cX12_addCase 126 = .ok (.ifCond .eq 7, 3) := by decide +kernel
theorem dX12_addCase_129 : decode cX12_addCase 129 = .ok (.iconst 1, 1) := by decide +kernel
theorem dX12_addCase_130 : decode cX12_addCase 130 = .ok (.goto 4, 3) := by decide +kernel
theorem dX12_addCase_133 : decode cX12_addCase 133 = .ok (.iconst 0, 1) := by decide +kernel
theorem dX12_addCase_134 : decode cX12_addCase 134 = .ok (.invokevirtual 670, 3) := by decide +kernel
theorem dX12_addCase_137 : decode cX12_addCase 137 = .ok (.ifCond .eq 5, 3) := by decide +kernel
theorem dX12_addCase_140 : decode cX12_addCase 140 = .ok (.iconst 0, 1) := by decide +kernel
theorem dX12_addCase_141 : decode cX12_addCase 141 = .ok (.ireturn, 1) := by decide +kernel
theorem dX12_addCase_142 : decode cX12_addCase 142 = .ok (.aload_n 0, 1) := by decide +kernel
theorem dX12_addCase_143 : decode cX12_addCase 143 = .ok (.iload 5, 2) := by decide +kernel
theorem dX12_addCase_145 : decode cX12_addCase 145 = .ok (.invokevirtual 722, 3) := by decide +kernel
theorem dX12_addCase_148 : decode cX12_addCase 148 = .ok (.aload_n 0, 1) := by decide +kernel
theorem dX12_addCase_149 : decode cX12_addCase 149 = .ok (.iload 5, 2) := by decide +kernel
theorem dX12_addCase_151 : decode cX12_addCase 151 = .ok (.iconst 0, 1) := by decide +kernel
theorem dX12_addCase_152 : decode cX12_addCase 152 = .ok (.iload_n 2, 1) := by decide +kernel
theorem dX12_addCase_153 : decode cX12_addCase 153 = .ok (.invokevirtual 725, 3) := by decide +kernel
theorem dX12_addCase_156 : decode cX12_addCase 156 = .ok (.aload_n 0, 1) := by decide +kernel
theorem dX12_addCase_157 : decode cX12_addCase 157 = .ok (.iload 5, 2) := by decide +kernel
theorem dX12_addCase_159 : decode cX12_addCase 159 = .ok (.iconst 1, 1) := by decide +kernel
theorem dX12_addCase_160 : decode cX12_addCase 160 = .ok (.iload_n 3, 1) := by decide +kernel
theorem dX12_addCase_161 : decode cX12_addCase 161 = .ok (.invokevirtual 725, 3) := by decide +kernel
theorem dX12_addCase_164 : decode cX12_addCase 164 = .ok (.aload_n 0, 1) := by decide +kernel
theorem dX12_addCase_165 : decode cX12_addCase 165 = .ok (.getfield 178, 3) := by decide +kernel
theorem dX12_addCase_168 : decode cX12_addCase 168 = .ok (.iload 5, 2) := by decide +kernel
theorem dX12_addCase_170 : decode cX12_addCase 170 = .ok (.dup2, 1) := by decide +kernel
theorem dX12_addCase_171 : decode cX12_addCase 171 = .ok (.iaload, 1) := by decide +kernel
theorem dX12_addCase_172 : decode cX12_addCase 172 = .ok (.iconst 1, 1) := by decide +kernel
theorem dX12_addCase_173 : decode cX12_addCase 173 = .ok (.iadd, 1) := by decide +kernel
theorem dX12_addCase_174 : decode cX12_addCase 174 = .ok (.iastore, 1) := by decide +kernel
theorem dX12_addCase_175 : decode cX12_addCase 175 = .ok (.aload_n 0, 1) := by decide +kernel
theorem dX12_addCase_176 : decode cX12_addCase 176 = .ok (.getfield 178, 3) := by decide +kernel
theorem dX12_addCase_179 : decode cX12_addCase 179 = .ok (.iload 5, 2) := by decide +kernel
theorem dX12_addCase_181 : decode cX12_addCase 181 = .ok (.iaload, 1) := by decide +kernel
theorem dX12_addCase_182 : decode cX12_addCase 182 = .ok (.ireturn, 1) := by decide +kernel
theorem dX12_step_0 : decode cX12_step 0 = .ok (.aload_n 0, 1) := by decide +kernel
theorem dX12_step_1 : decode cX12_step 1 = .ok (.aload_n 0, 1) := by decide +kernel
theorem dX12_step_2 : decode cX12_step 2 = .ok (.iload_n 1, 1) := by decide +kernel
theorem dX12_step_3 : decode cX12_step 3 = .ok (.invokevirtual 664, 3) := by decide +kernel
theorem dX12_step_6 : decode cX12_step 6 = .ok (.ifCond .ne 7, 3) := by decide +kernel
theorem dX12_step_9 : decode cX12_step 9 = .ok (.iconst 1, 1) := by decide +kernel
theorem dX12_step_10 : decode cX12_step 10 = .ok (.goto 4, 3) := by decide +kernel
theorem dX12_step_13 : decode cX12_step 13 = .ok (.iconst 0, 1) := by decide +kernel
theorem dX12_step_14 : decode cX12_step 14 = .ok (.aload_n 0, 1) := by decide +kernel
theorem dX12_step_15 : decode cX12_step 15 = .ok (.getfield 661, 3) := by decide +kernel
theorem dX12_step_18 : decode cX12_step 18 = .ok (.bipush 30, 2) := by decide +kernel
theorem dX12_step_20 : decode cX12_step 20 = .ok (.if_icmp .ne 7, 3) := by decide +kernel
theorem dX12_step_23 : decode cX12_step 23 = .ok (.iconst 1, 1) := by decide +kernel
theorem dX12_step_24 : decode cX12_step 24 = .ok (.goto 4, 3) := by decide +kernel
theorem dX12_step_27 : decode cX12_step 27 = .ok (.iconst 0, 1) := by decide +kernel
theorem dX12_step_28 : decode cX12_step 28 = .ok (.iconst 0, 1) := by decide +kernel
theorem dX12_step_29 : decode cX12_step 29 = .ok (.invokevirtual 670, 3) := by decide +kernel
theorem dX12_step_32 : decode cX12_step 32 = .ok (.ifCond .eq 5, 3) := by decide +kernel
theorem dX12_step_35 : decode cX12_step 35 = .ok (.iconst 0, 1) := by decide +kernel
theorem dX12_step_36 : decode cX12_step 36 = .ok (.ireturn, 1) := by decide +kernel
theorem dX12_step_37 : decode cX12_step 37 = .ok (.aload_n 0, 1) := by decide +kernel
theorem dX12_step_38 : decode cX12_step 38 = .ok (.iload_n 1, 1) := by decide +kernel
theorem dX12_step_39 : decode cX12_step 39 = .ok (.invokestatic 667, 3) := by decide +kernel
theorem dX12_step_42 : decode cX12_step 42 = .ok (.invokevirtual 728, 3) := by decide +kernel
theorem dX12_step_45 : decode cX12_step 45 = .ok (.aload_n 0, 1) := by decide +kernel
theorem dX12_step_46 : decode cX12_step 46 = .ok (.iconst 0, 1) := by decide +kernel
theorem dX12_step_47 : decode cX12_step 47 = .ok (.putfield 543, 3) := by decide +kernel
theorem dX12_step_50 : decode cX12_step 50 = .ok (.aload_n 0, 1) := by decide +kernel
theorem dX12_step_51 : decode cX12_step 51 = .ok (.invokevirtual 731, 3) := by decide +kernel
theorem dX12_step_54 : decode cX12_step 54 = .ok (.ifCond .eq 17, 3) := by decide +kernel
theorem dX12_step_57 : decode cX12_step 57 = .ok (.aload_n 0, 1) := by decide +kernel
theorem dX12_step_58 : decode cX12_step 58 = .ok (.sipush 13540, 3) := by decide +kernel
theorem dX12_step_61 : decode cX12_step 61 = .ok (.aload_n 0, 1) := by decide +kernel
theorem dX12_step_62 : decode cX12_step 62 = .ok (.getfield 512, 3) := by decide +kernel
theorem dX12_step_65 : decode cX12_step 65 = .ok (.invokevirtual 677, 3) := by decide +kernel
theorem dX12_step_68 : decode cX12_step 68 = .ok (.goto 4, 3) := by decide +kernel
theorem dX12_step_71 : decode cX12_step 71 = .ok (.iconst (-1), 1) := by decide +kernel
theorem dX12_step_72 : decode cX12_step 72 = .ok (.ireturn, 1) := by decide +kernel
theorem dX12_simplify_0 : decode cX12_simplify 0 = .ok (.aload_n 0, 1) := by decide +kernel
theorem dX12_simplify_1 : decode cX12_simplify 1 = .ok (.aload_n 0, 1) := by decide +kernel
theorem dX12_simplify_2 : decode cX12_simplify 2 = .ok (.iload_n 1, 1) := by decide +kernel
theorem dX12_simplify_3 : decode cX12_simplify 3 = .ok (.invokevirtual 664, 3) := by decide +kernel
theorem dX12_simplify_6 : decode cX12_simplify 6 = .ok (.ifCond .ne 7, 3) := by decide +kernel
theorem dX12_simplify_9 : decode cX12_simplify 9 = .ok (.iconst 1, 1) := by decide +kernel
theorem dX12_simplify_10 : decode cX12_simplify 10 = .ok (.goto 4, 3) := by decide +kernel
theorem dX12_simplify_13 : decode cX12_simplify 13 = .ok (.iconst 0, 1) := by decide +kernel
theorem dX12_simplify_14 : decode cX12_simplify 14 = .ok (.aload_n 0, 1) := by decide +kernel
theorem dX12_simplify_15 : decode cX12_simplify 15 = .ok (.getfield 661, 3) := by decide +kernel
theorem dX12_simplify_18 : decode cX12_simplify 18 = .ok (.bipush 30, 2) := by decide +kernel
theorem dX12_simplify_20 : decode cX12_simplify 20 = .ok (.if_icmp .ne 7, 3) := by decide +kernel
theorem dX12_simplify_23 : decode cX12_simplify 23 = .ok (.iconst 1, 1) := by decide +kernel
theorem dX12_simplify_24 : decode cX12_simplify 24 = .ok (.goto 4, 3) := by decide +kernel
theorem dX12_simplify_27 : decode cX12_simplify 27 = .ok (.iconst 0, 1) := by decide +kernel
theorem dX12_simplify_28 : decode cX12_simplify 28 = .ok (.iconst 0, 1) := by decide +kernel
theorem dX12_simplify_29 : decode cX12_simplify 29 = .ok (.invokevirtual 670, 3) := by decide +kernel
theorem dX12_simplify_32 : decode cX12_simplify 32 = .ok (.ifCond .eq 5, 3) := by decide +kernel
theorem dX12_simplify_35 : decode cX12_simplify 35 = .ok (.iconst 0, 1) := by decide +kernel
theorem dX12_simplify_36 : decode cX12_simplify 36 = .ok (.ireturn, 1) := by decide +kernel
theorem dX12_simplify_37 : decode cX12_simplify 37 = .ok (.aload_n 0, 1) := by decide +kernel
theorem dX12_simplify_38 : decode cX12_simplify 38 = .ok (.iload_n 1, 1) := by decide +kernel
theorem dX12_simplify_39 : decode cX12_simplify 39 = .ok (.invokestatic 667, 3) := by decide +kernel
theorem dX12_simplify_42 : decode cX12_simplify 42 = .ok (.invokevirtual 728, 3) := by decide +kernel
theorem dX12_simplify_45 : decode cX12_simplify 45 = .ok (.aload_n 0, 1) := by decide +kernel
theorem dX12_simplify_46 : decode cX12_simplify 46 = .ok (.iconst 0, 1) := by decide +kernel
theorem dX12_simplify_47 : decode cX12_simplify 47 = .ok (.putfield 543, 3) := by decide +kernel
theorem dX12_simplify_50 : decode cX12_simplify 50 = .ok (.aload_n 0, 1) := by decide +kernel
theorem dX12_simplify_51 : decode cX12_simplify 51 = .ok (.invokevirtual 731, 3) := by decide +kernel
theorem dX12_simplify_54 : decode cX12_simplify 54 = .ok (.istore_n 2, 1) := by decide +kernel
theorem dX12_simplify_55 : decode cX12_simplify 55 = .ok (.iload_n 2, 1) := by decide +kernel
theorem dX12_simplify_56 : decode cX12_simplify 56 = .ok (.ifCond .eq 11, 3) := by decide +kernel
theorem dX12_simplify_59 : decode cX12_simplify 59 = .ok (.aload_n 0, 1) := by decide +kernel
theorem dX12_simplify_60 : decode cX12_simplify 60 = .ok (.invokevirtual 731, 3) := by decide +kernel
theorem dX12_simplify_63 : decode cX12_simplify 63 = .ok (.istore_n 2, 1) := by decide +kernel
theorem dX12_simplify_64 : decode cX12_simplify 64 = .ok (.goto (-9), 3) := by decide +kernel
theorem dX12_simplify_67 : decode cX12_simplify 67 = .ok (.aload_n 0, 1) := by decide +kernel
theorem dX12_simplify_68 : decode cX12_simplify 68 = .ok (.getfield 543, 3) := by decide +kernel
theorem dX12_simplify_71 : decode cX12_simplify 71 = .ok (.ifCond .le 17, 3) := by decide +kernel
theorem dX12_simplify_74 : decode cX12_simplify 74 = .ok (.aload_n 0, 1) := by decide +kernel
theorem dX12_simplify_75 : decode cX12_simplify 75 = .ok (.sipush 13540, 3) := by decide +kernel
theorem dX12_simplify_78 : decode cX12_simplify 78 = .ok (.aload_n 0, 1) := by decide +kernel
theorem dX12_simplify_79 : decode cX12_simplify 79 = .ok (.getfield 512, 3) := by decide +kernel
theorem dX12_simplify_82 : decode cX12_simplify 82 = .ok (.invokevirtual 677, 3) := by decide +kernel
theorem dX12_simplify_85 : decode cX12_simplify 85 = .ok (.goto 4, 3) := by decide +kernel
theorem dX12_simplify_88 : decode cX12_simplify 88 = .ok (.iload_n 1, 1) := by decide +kernel
theorem dX12_simplify_89 : decode cX12_simplify 89 = .ok (.ireturn, 1) := by decide +kernel
theorem dX12_trace_0 : decode cX12_trace 0 = .ok (.aload_n 0, 1) := by decide +kernel
theorem dX12_trace_1 : decode cX12_trace 1 = .ok (.iload_n 2, 1) := by decide +kernel
theorem dX12_trace_2 : decode cX12_trace 2 = .ok (.iconst 0, 1) := by decide +kernel
theorem dX12_trace_3 : decode cX12_trace 3 = .ok (.iconst 1, 1) := by decide +kernel
theorem dX12_trace_4 : decode cX12_trace 4 = .ok (.invokestatic 106, 3) := by decide +kernel
theorem dX12_trace_7 : decode cX12_trace 7 = .ok (.ifCond .ne 7, 3) := by decide +kernel
theorem dX12_trace_10 : decode cX12_trace 10 = .ok (.iconst 1, 1) := by decide +kernel
theorem dX12_trace_11 : decode cX12_trace 11 = .ok (.goto 4, 3) := by decide +kernel
theorem dX12_trace_14 : decode cX12_trace 14 = .ok (.iconst 0, 1) := by decide +kernel
theorem dX12_trace_15 : decode cX12_trace 15 = .ok (.iconst 0, 1) := by decide +kernel
theorem dX12_trace_16 : decode cX12_trace 16 = .ok (.iconst 0, 1) := by decide +kernel
theorem dX12_trace_17 : decode cX12_trace 17 = .ok (.invokevirtual 670, 3) := by decide +kernel
theorem dX12_trace_20 : decode cX12_trace 20 = .ok (.ifCond .eq 5, 3) := by decide +kernel
theorem dX12_trace_23 : decode cX12_trace 23 = .ok (.iconst 0, 1) := by decide +kernel
theorem dX12_trace_24 : decode cX12_trace 24 = .ok (.ireturn, 1) := by decide +kernel
theorem dX12_trace_25 : decode cX12_trace 25 = .ok (.iload_n 1, 1) := by decide +kernel
theorem dX12_trace_26 : decode cX12_trace 26 = .ok (.iconst 0, 1) := by decide +kernel
theorem dX12_trace_27 : decode cX12_trace 27 = .ok (.aload_n 0, 1) := by decide +kernel
theorem dX12_trace_28 : decode cX12_trace 28 = .ok (.getfield 543, 3) := by decide +kernel
theorem dX12_trace_31 : decode cX12_trace 31 = .ok (.iconst 1, 1) := by decide +kernel
theorem dX12_trace_32 : decode cX12_trace 32 = .ok (.isub, 1) := by decide +kernel
theorem dX12_trace_33 : decode cX12_trace 33 = .ok (.invokestatic 106, 3) := by decide +kernel
theorem dX12_trace_36 : decode cX12_trace 36 = .ok (.ifCond .ne 7, 3) := by decide +kernel
theorem dX12_trace_39 : decode cX12_trace 39 = .ok (.iconst (-1), 1) := by decide +kernel
theorem dX12_trace_40 : decode cX12_trace 40 = .ok (.goto 22, 3) := by decide +kernel
theorem dX12_trace_43 : decode cX12_trace 43 = .ok (.iload_n 2, 1) := by decide +kernel
theorem dX12_trace_44 : decode cX12_trace 44 = .ok (.ifCond .ne 12, 3) := by decide +kernel
theorem dX12_trace_47 : decode cX12_trace 47 = .ok (.aload_n 0, 1) := by decide +kernel
theorem dX12_trace_48 : decode cX12_trace 48 = .ok (.getfield 284, 3) := by decide +kernel
theorem dX12_trace_51 : decode cX12_trace 51 = .ok (.iload_n 1, 1) := by decide +kernel
theorem dX12_trace_52 : decode cX12_trace 52 = .ok (.iaload, 1) := by decide +kernel
theorem dX12_trace_53 : decode cX12_trace 53 = .ok (.goto 9, 3) := by decide +kernel
theorem dX12_trace_56 : decode cX12_trace 56 = .ok (.aload_n 0, 1) := by decide +kernel
theorem dX12_trace_57 : decode cX12_trace 57 = .ok (.getfield 287, 3) := by decide +kernel
theorem dX12_trace_60 : decode cX12_trace 60 = .ok (.iload_n 1, 1) := by decide +kernel
theorem dX12_trace_61 : decode cX12_trace 61 = .ok (.iaload, 1) := by decide +kernel
theorem dX12_trace_62 : decode cX12_trace 62 = .ok (.ireturn, 1) := by decide +kernel
theorem dX12_gather_0 : decode cX12_gather 0 = .ok (.aload_n 0, 1) := by decide +kernel
theorem dX12_gather_1 : decode cX12_gather 1 = .ok (.aload_n 0, 1) := by decide +kernel
theorem dX12_gather_2 : decode cX12_gather 2 = .ok (.iload_n 1, 1) := by decide +kernel
theorem dX12_gather_3 : decode cX12_gather 3 = .ok (.invokevirtual 664, 3) := by decide +kernel
theorem dX12_gather_6 : decode cX12_gather 6 = .ok (.ifCond .ne 7, 3) := by decide +kernel
theorem dX12_gather_9 : decode cX12_gather 9 = .ok (.iconst 1, 1) := by decide +kernel
theorem dX12_gather_10 : decode cX12_gather 10 = .ok (.goto 4, 3) := by decide +kernel
theorem dX12_gather_13 : decode cX12_gather 13 = .ok (.iconst 0, 1) := by decide +kernel
theorem dX12_gather_14 : decode cX12_gather 14 = .ok (.iload_n 2, 1) := by decide +kernel
theorem dX12_gather_15 : decode cX12_gather 15 = .ok (.invokestatic 689, 3) := by decide +kernel
theorem dX12_gather_18 : decode cX12_gather 18 = .ok (.ifCond .ne 7, 3) := by decide +kernel
theorem dX12_gather_21 : decode cX12_gather 21 = .ok (.iconst 1, 1) := by decide +kernel
theorem dX12_gather_22 : decode cX12_gather 22 = .ok (.goto 4, 3) := by decide +kernel
theorem dX12_gather_25 : decode cX12_gather 25 = .ok (.iconst 0, 1) := by decide +kernel
theorem dX12_gather_26 : decode cX12_gather 26 = .ok (.iconst 0, 1) := by decide +kernel
theorem dX12_gather_27 : decode cX12_gather 27 = .ok (.invokevirtual 670, 3) := by decide +kernel
theorem dX12_gather_30 : decode cX12_gather 30 = .ok (.ifCond .eq 5, 3) := by decide +kernel
theorem dX12_gather_33 : decode cX12_gather 33 = .ok (.iconst 0, 1) := by decide +kernel
theorem dX12_gather_34 : decode cX12_gather 34 = .ok (.ireturn, 1) := by decide +kernel
theorem dX12_gather_35 : decode cX12_gather 35 = .ok (.aload_n 0, 1) := by decide +kernel
theorem dX12_gather_36 : decode cX12_gather 36 = .ok (.iconst 0, 1) := by decide +kernel
theorem dX12_gather_37 : decode cX12_gather 37 = .ok (.putfield 576, 3) := by decide +kernel
theorem dX12_gather_40 : decode cX12_gather 40 = .ok (.aload_n 0, 1) := by decide +kernel
theorem dX12_gather_41 : decode cX12_gather 41 = .ok (.iload_n 1, 1) := by decide +kernel
theorem dX12_gather_42 : decode cX12_gather 42 = .ok (.invokestatic 667, 3) := by decide +kernel
theorem dX12_gather_45 : decode cX12_gather 45 = .ok (.iload_n 2, 1) := by decide +kernel
theorem dX12_gather_46 : decode cX12_gather 46 = .ok (.invokevirtual 735, 3) := by decide +kernel
theorem dX12_gather_49 : decode cX12_gather 49 = .ok (.ifCond .ne 5, 3) := by decide +kernel
theorem dX12_gather_52 : decode cX12_gather 52 = .ok (.iconst (-1), 1) := by decide +kernel
theorem dX12_gather_53 : decode cX12_gather 53 = .ok (.ireturn, 1) := by decide +kernel
theorem dX12_gather_54 : decode cX12_gather 54 = .ok (.iconst 0, 1) := by decide +kernel
theorem dX12_gather_55 : decode cX12_gather 55 = .ok (.istore_n 3, 1) := by decide +kernel
theorem dX12_gather_56 : decode cX12_gather 56 = .ok (.iload_n 3, 1) := by decide +kernel
theorem dX12_gather_57 : decode cX12_gather 57 = .ok (.bipush 9, 2) := by decide +kernel
theorem dX12_gather_59 : decode cX12_gather 59 = .ok (.if_icmp .ge 22, 3) := by decide +kernel
theorem dX12_gather_62 : decode cX12_gather 62 = .ok (.aload_n 0, 1) := by decide +kernel
theorem dX12_gather_63 : decode cX12_gather 63 = .ok (.bipush 47, 2) := by decide +kernel
theorem dX12_gather_65 : decode cX12_gather 65 = .ok (.iload_n 3, 1) := by decide +kernel
theorem dX12_gather_66 : decode cX12_gather 66 = .ok (.iadd, 1) := by decide +kernel
theorem dX12_gather_67 : decode cX12_gather 67 = .ok (.iconst 0, 1) := by decide +kernel
theorem dX12_gather_68 : decode cX12_gather 68 = .ok (.iload_n 3, 1) := by decide +kernel
theorem dX12_gather_69 : decode cX12_gather 69 = .ok (.invokestatic 546, 3) := by decide +kernel
theorem dX12_gather_72 : decode cX12_gather 72 = .ok (.invokevirtual 115, 3) := by decide +kernel
theorem dX12_gather_75 : decode cX12_gather 75 = .ok (.iinc 3 1, 3) := by decide +kernel
theorem dX12_gather_78 : decode cX12_gather 78 = .ok (.goto (-22), 3) := by decide +kernel
theorem dX12_gather_81 : decode cX12_gather 81 = .ok (.aload_n 0, 1) := by decide +kernel
theorem dX12_gather_82 : decode cX12_gather 82 = .ok (.iconst 0, 1) := by decide +kernel
theorem dX12_gather_83 : decode cX12_gather 83 = .ok (.invokevirtual 552, 3) := by decide +kernel
theorem dX12_gather_86 : decode cX12_gather 86 = .ok (.ireturn, 1) := by decide +kernel
theorem dX12_coefficient_0 : decode cX12_coefficient 0 = .ok (.aload_n 0, 1) := by decide +kernel
theorem dX12_coefficient_1 : decode cX12_coefficient 1 = .ok (.iload_n 1, 1) := by decide +kernel
theorem dX12_coefficient_2 : decode cX12_coefficient 2 = .ok (.iconst 0, 1) := by decide +kernel
theorem dX12_coefficient_3 : decode cX12_coefficient 3 = .ok (.bipush 8, 2) := by decide +kernel
theorem dX12_coefficient_5 : decode cX12_coefficient 5 = .ok (.invokestatic 106, 3) := by decide +kernel
theorem dX12_coefficient_8 : decode cX12_coefficient 8 = .ok (.ifCond .ne 7, 3) := by decide +kernel
theorem dX12_coefficient_11 : decode cX12_coefficient 11 = .ok (.iconst 1, 1) := by decide +kernel
theorem dX12_coefficient_12 : decode cX12_coefficient 12 = .ok (.goto 4, 3) := by decide +kernel
theorem dX12_coefficient_15 : decode cX12_coefficient 15 = .ok (.iconst 0, 1) := by decide +kernel
theorem dX12_coefficient_16 : decode cX12_coefficient 16 = .ok (.iconst 0, 1) := by decide +kernel
theorem dX12_coefficient_17 : decode cX12_coefficient 17 = .ok (.iconst 0, 1) := by decide +kernel
theorem dX12_coefficient_18 : decode cX12_coefficient 18 = .ok (.invokevirtual 670, 3) := by decide +kernel
theorem dX12_coefficient_21 : decode cX12_coefficient 21 = .ok (.ifCond .eq 5, 3) := by decide +kernel
theorem dX12_coefficient_24 : decode cX12_coefficient 24 = .ok (.iconst 0, 1) := by decide +kernel
theorem dX12_coefficient_25 : decode cX12_coefficient 25 = .ok (.ireturn, 1) := by decide +kernel
theorem dX12_coefficient_26 : decode cX12_coefficient 26 = .ok (.aload_n 0, 1) := by decide +kernel
theorem dX12_coefficient_27 : decode cX12_coefficient 27 = .ok (.bipush 26, 2) := by decide +kernel
theorem dX12_coefficient_29 : decode cX12_coefficient 29 = .ok (.bipush 47, 2) := by decide +kernel
theorem dX12_coefficient_31 : decode cX12_coefficient 31 = .ok (.iload_n 1, 1) := by decide +kernel
theorem dX12_coefficient_32 : decode cX12_coefficient 32 = .ok (.iadd, 1) := by decide +kernel
theorem dX12_coefficient_33 : decode cX12_coefficient 33 = .ok (.invokevirtual 115, 3) := by decide +kernel
theorem dX12_coefficient_36 : decode cX12_coefficient 36 = .ok (.aload_n 0, 1) := by decide +kernel
theorem dX12_coefficient_37 : decode cX12_coefficient 37 = .ok (.bipush 26, 2) := by decide +kernel
theorem dX12_coefficient_39 : decode cX12_coefficient 39 = .ok (.invokevirtual 81, 3) := by decide +kernel
theorem dX12_coefficient_42 : decode cX12_coefficient 42 = .ok (.ifCond .eq 7, 3) := by decide +kernel
theorem dX12_coefficient_45 : decode cX12_coefficient 45 = .ok (.iconst 1, 1) := by decide +kernel
theorem dX12_coefficient_46 : decode cX12_coefficient 46 = .ok (.goto 4, 3) := by decide +kernel
theorem dX12_coefficient_49 : decode cX12_coefficient 49 = .ok (.iconst 0, 1) := by decide +kernel
theorem dX12_coefficient_50 : decode cX12_coefficient 50 = .ok (.ireturn, 1) := by decide +kernel
theorem dX12_derive_0 : decode cX12_derive 0 = .ok (.aload_n 0, 1) := by decide +kernel
theorem dX12_derive_1 : decode cX12_derive 1 = .ok (.aload_n 0, 1) := by decide +kernel
theorem dX12_derive_2 : decode cX12_derive 2 = .ok (.iload_n 1, 1) := by decide +kernel
theorem dX12_derive_3 : decode cX12_derive 3 = .ok (.invokevirtual 664, 3) := by decide +kernel
theorem dX12_derive_6 : decode cX12_derive 6 = .ok (.ifCond .ne 7, 3) := by decide +kernel
theorem dX12_derive_9 : decode cX12_derive 9 = .ok (.iconst 1, 1) := by decide +kernel
theorem dX12_derive_10 : decode cX12_derive 10 = .ok (.goto 4, 3) := by decide +kernel
theorem dX12_derive_13 : decode cX12_derive 13 = .ok (.iconst 0, 1) := by decide +kernel
theorem dX12_derive_14 : decode cX12_derive 14 = .ok (.iload_n 2, 1) := by decide +kernel
theorem dX12_derive_15 : decode cX12_derive 15 = .ok (.invokestatic 689, 3) := by decide +kernel
theorem dX12_derive_18 : decode cX12_derive 18 = .ok (.ifCond .ne 7, 3) := by decide +kernel
theorem dX12_derive_21 : decode cX12_derive 21 = .ok (.iconst 1, 1) := by decide +kernel
theorem dX12_derive_22 : decode cX12_derive 22 = .ok (.goto 4, 3) := by decide +kernel
theorem dX12_derive_25 : decode cX12_derive 25 = .ok (.iconst 0, 1) := by decide +kernel
theorem dX12_derive_26 : decode cX12_derive 26 = .ok (.iconst 0, 1) := by decide +kernel
theorem dX12_derive_27 : decode cX12_derive 27 = .ok (.invokevirtual 670, 3) := by decide +kernel
theorem dX12_derive_30 : decode cX12_derive 30 = .ok (.ifCond .eq 5, 3) := by decide +kernel
theorem dX12_derive_33 : decode cX12_derive 33 = .ok (.iconst 0, 1) := by decide +kernel
theorem dX12_derive_34 : decode cX12_derive 34 = .ok (.ireturn, 1) := by decide +kernel
theorem dX12_derive_35 : decode cX12_derive 35 = .ok (.aload_n 0, 1) := by decide +kernel
theorem dX12_derive_36 : decode cX12_derive 36 = .ok (.iload_n 1, 1) := by decide +kernel
theorem dX12_derive_37 : decode cX12_derive 37 = .ok (.invokestatic 667, 3) := by decide +kernel
theorem dX12_derive_40 : decode cX12_derive 40 = .ok (.iload_n 2, 1) := by decide +kernel
theorem dX12_derive_41 : decode cX12_derive 41 = .ok (.invokevirtual 738, 3) := by decide +kernel
theorem dX12_derive_44 : decode cX12_derive 44 = .ok (.istore_n 3, 1) := by decide +kernel
theorem dX12_derive_45 : decode cX12_derive 45 = .ok (.aload_n 0, 1) := by decide +kernel
theorem dX12_derive_46 : decode cX12_derive 46 = .ok (.iconst 0, 1) := by decide +kernel
theorem dX12_derive_47 : decode cX12_derive 47 = .ok (.iconst 0, 1) := by decide +kernel
theorem dX12_derive_48 : decode cX12_derive 48 = .ok (.iload_n 3, 1) := by decide +kernel
theorem dX12_derive_49 : decode cX12_derive 49 = .ok (.iconst (-1), 1) := by decide +kernel
theorem dX12_derive_50 : decode cX12_derive 50 = .ok (.if_icmp .eq 12, 3) := by decide +kernel
theorem dX12_derive_53 : decode cX12_derive 53 = .ok (.aload_n 0, 1) := by decide +kernel
theorem dX12_derive_54 : decode cX12_derive 54 = .ok (.getfield 661, 3) := by decide +kernel
theorem dX12_derive_57 : decode cX12_derive 57 = .ok (.bipush 30, 2) := by decide +kernel
theorem dX12_derive_59 : decode cX12_derive 59 = .ok (.if_icmp .ne 7, 3) := by decide +kernel
theorem dX12_derive_62 : decode cX12_derive 62 = .ok (.iconst 1, 1) := by decide +kernel
theorem dX12_derive_63 : decode cX12_derive 63 = .ok (.goto 4, 3) := by decide +kernel
theorem dX12_derive_66 : decode cX12_derive 66 = .ok (.iconst 0, 1) := by decide +kernel
theorem dX12_derive_67 : decode cX12_derive 67 = .ok (.invokevirtual 670, 3) := by decide +kernel
theorem dX12_derive_70 : decode cX12_derive 70 = .ok (.ifCond .eq 5, 3) := by decide +kernel
theorem dX12_derive_73 : decode cX12_derive 73 = .ok (.iconst 0, 1) := by decide +kernel
theorem dX12_derive_74 : decode cX12_derive 74 = .ok (.ireturn, 1) := by decide +kernel
theorem dX12_derive_75 : decode cX12_derive 75 = .ok (.aload_n 0, 1) := by decide +kernel
theorem dX12_derive_76 : decode cX12_derive 76 = .ok (.sipush 13740, 3) := by decide +kernel
theorem dX12_derive_79 : decode cX12_derive 79 = .ok (.iload_n 3, 1) := by decide +kernel
theorem dX12_derive_80 : decode cX12_derive 80 = .ok (.invokevirtual 677, 3) := by decide +kernel
theorem dX12_derive_83 : decode cX12_derive 83 = .ok (.ireturn, 1) := by decide +kernel
theorem dX12_slope_0 : decode cX12_slope 0 = .ok (.aload_n 0, 1) := by decide +kernel
theorem dX12_slope_1 : decode cX12_slope 1 = .ok (.aload_n 0, 1) := by decide +kernel
theorem dX12_slope_2 : decode cX12_slope 2 = .ok (.iload_n 1, 1) := by decide +kernel
theorem dX12_slope_3 : decode cX12_slope 3 = .ok (.invokevirtual 664, 3) := by decide +kernel
theorem dX12_slope_6 : decode cX12_slope 6 = .ok (.ifCond .ne 7, 3) := by decide +kernel
theorem dX12_slope_9 : decode cX12_slope 9 = .ok (.iconst 1, 1) := by decide +kernel
theorem dX12_slope_10 : decode cX12_slope 10 = .ok (.goto 4, 3) := by decide +kernel
theorem dX12_slope_13 : decode cX12_slope 13 = .ok (.iconst 0, 1) := by decide +kernel
theorem dX12_slope_14 : decode cX12_slope 14 = .ok (.iload_n 2, 1) := by decide +kernel
theorem dX12_slope_15 : decode cX12_slope 15 = .ok (.invokestatic 689, 3) := by decide +kernel
theorem dX12_slope_18 : decode cX12_slope 18 = .ok (.ifCond .ne 7, 3) := by decide +kernel
theorem dX12_slope_21 : decode cX12_slope 21 = .ok (.iconst 1, 1) := by decide +kernel
theorem dX12_slope_22 : decode cX12_slope 22 = .ok (.goto 4, 3) := by decide +kernel
theorem dX12_slope_25 : decode cX12_slope 25 = .ok (.iconst 0, 1) := by decide +kernel
theorem dX12_slope_26 : decode cX12_slope 26 = .ok (.aload_n 0, 1) := by decide +kernel
theorem dX12_slope_27 : decode cX12_slope 27 = .ok (.iload_n 1, 1) := by decide +kernel
theorem dX12_slope_28 : decode cX12_slope 28 = .ok (.invokevirtual 664, 3) := by decide +kernel
theorem dX12_slope_31 : decode cX12_slope 31 = .ok (.ifCond .eq 18, 3) := by decide +kernel
theorem dX12_slope_34 : decode cX12_slope 34 = .ok (.aload_n 0, 1) := by decide +kernel
theorem dX12_slope_35 : decode cX12_slope 35 = .ok (.iload_n 1, 1) := by decide +kernel
theorem dX12_slope_36 : decode cX12_slope 36 = .ok (.invokestatic 667, 3) := by decide +kernel
theorem dX12_slope_39 : decode cX12_slope 39 = .ok (.invokevirtual 624, 3) := by decide +kernel
theorem dX12_slope_42 : decode cX12_slope 42 = .ok (.ifCond .ne 7, 3) := by decide +kernel
theorem dX12_slope_45 : decode cX12_slope 45 = .ok (.iconst 1, 1) := by decide +kernel
theorem dX12_slope_46 : decode cX12_slope 46 = .ok (.goto 4, 3) := by decide +kernel
theorem dX12_slope_49 : decode cX12_slope 49 = .ok (.iconst 0, 1) := by decide +kernel
theorem dX12_slope_50 : decode cX12_slope 50 = .ok (.invokevirtual 670, 3) := by decide +kernel
theorem dX12_slope_53 : decode cX12_slope 53 = .ok (.ifCond .eq 5, 3) := by decide +kernel
theorem dX12_slope_56 : decode cX12_slope 56 = .ok (.iconst 0, 1) := by decide +kernel
theorem dX12_slope_57 : decode cX12_slope 57 = .ok (.ireturn, 1) := by decide +kernel
theorem dX12_slope_58 : decode cX12_slope 58 = .ok (.aload_n 0, 1) := by decide +kernel
theorem dX12_slope_59 : decode cX12_slope 59 = .ok (.iload_n 1, 1) := by decide +kernel
theorem dX12_slope_60 : decode cX12_slope 60 = .ok (.invokestatic 667, 3) := by decide +kernel
theorem dX12_slope_63 : decode cX12_slope 63 = .ok (.iload_n 2, 1) := by decide +kernel
theorem dX12_slope_64 : decode cX12_slope 64 = .ok (.invokevirtual 741, 3) := by decide +kernel
theorem dX12_slope_67 : decode cX12_slope 67 = .ok (.istore_n 3, 1) := by decide +kernel
theorem dX12_slope_68 : decode cX12_slope 68 = .ok (.iload_n 3, 1) := by decide +kernel
theorem dX12_slope_69 : decode cX12_slope 69 = .ok (.ifCond .ne 13, 3) := by decide +kernel
theorem dX12_slope_72 : decode cX12_slope 72 = .ok (.aload_n 0, 1) := by decide +kernel
theorem dX12_slope_73 : decode cX12_slope 73 = .ok (.bipush 26, 2) := by decide +kernel
theorem dX12_slope_75 : decode cX12_slope 75 = .ok (.iconst 0, 1) := by decide +kernel
theorem dX12_slope_76 : decode cX12_slope 76 = .ok (.invokestatic 645, 3) := by decide +kernel
theorem dX12_slope_79 : decode cX12_slope 79 = .ok (.invokevirtual 115, 3) := by decide +kernel
theorem dX12_slope_82 : decode cX12_slope 82 = .ok (.iload_n 3, 1) := by decide +kernel
theorem dX12_slope_83 : decode cX12_slope 83 = .ok (.ireturn, 1) := by decide +kernel
theorem dX12_solve_0 : decode cX12_solve 0 = .ok (.aload_n 0, 1) := by decide +kernel
theorem dX12_solve_1 : decode cX12_solve 1 = .ok (.aload_n 0, 1) := by decide +kernel
theorem dX12_solve_2 : decode cX12_solve 2 = .ok (.iload_n 1, 1) := by decide +kernel
theorem dX12_solve_3 : decode cX12_solve 3 = .ok (.invokevirtual 664, 3) := by decide +kernel
theorem dX12_solve_6 : decode cX12_solve 6 = .ok (.ifCond .ne 7, 3) := by decide +kernel
theorem dX12_solve_9 : decode cX12_solve 9 = .ok (.iconst 1, 1) := by decide +kernel
theorem dX12_solve_10 : decode cX12_solve 10 = .ok (.goto 4, 3) := by decide +kernel
theorem dX12_solve_13 : decode cX12_solve 13 = .ok (.iconst 0, 1) := by decide +kernel
theorem dX12_solve_14 : decode cX12_solve 14 = .ok (.iload_n 2, 1) := by decide +kernel
theorem dX12_solve_15 : decode cX12_solve 15 = .ok (.invokestatic 689, 3) := by decide +kernel
theorem dX12_solve_18 : decode cX12_solve 18 = .ok (.ifCond .ne 7, 3) := by decide +kernel
theorem dX12_solve_21 : decode cX12_solve 21 = .ok (.iconst 1, 1) := by decide +kernel
theorem dX12_solve_22 : decode cX12_solve 22 = .ok (.goto 4, 3) := by decide +kernel
theorem dX12_solve_25 : decode cX12_solve 25 = .ok (.iconst 0, 1) := by decide +kernel
theorem dX12_solve_26 : decode cX12_solve 26 = .ok (.iconst 0, 1) := by decide +kernel
theorem dX12_solve_27 : decode cX12_solve 27 = .ok (.invokevirtual 670, 3) := by decide +kernel
theorem dX12_solve_30 : decode cX12_solve 30 = .ok (.ifCond .eq 5, 3) := by decide +kernel
theorem dX12_solve_33 : decode cX12_solve 33 = .ok (.iconst 0, 1) := by decide +kernel
theorem dX12_solve_34 : decode cX12_solve 34 = .ok (.ireturn, 1) := by decide +kernel
theorem dX12_solve_35 : decode cX12_solve 35 = .ok (.iload_n 1, 1) := by decide +kernel
theorem dX12_solve_36 : decode cX12_solve 36 = .ok (.invokestatic 667, 3) := by decide +kernel
theorem dX12_solve_39 : decode cX12_solve 39 = .ok (.istore_n 3, 1) := by decide +kernel
theorem dX12_solve_40 : decode cX12_solve 40 = .ok (.aload_n 0, 1) := by decide +kernel
theorem dX12_solve_41 : decode cX12_solve 41 = .ok (.iconst 0, 1) := by decide +kernel
theorem dX12_solve_42 : decode cX12_solve 42 = .ok (.putfield 576, 3) := by decide +kernel
theorem dX12_solve_45 : decode cX12_solve 45 = .ok (.aload_n 0, 1) := by decide +kernel
theorem dX12_solve_46 : decode cX12_solve 46 = .ok (.iload_n 3, 1) := by decide +kernel
theorem dX12_solve_47 : decode cX12_solve 47 = .ok (.invokevirtual 484, 3) := by decide +kernel
theorem dX12_solve_50 : decode cX12_solve 50 = .ok (.bipush 7, 2) := by decide +kernel
theorem dX12_solve_52 : decode cX12_solve 52 = .ok (.if_icmp .ne 46, 3) := by decide +kernel
theorem dX12_solve_55 : decode cX12_solve 55 = .ok (.aload_n 0, 1) := by decide +kernel
theorem dX12_solve_56 : decode cX12_solve 56 = .ok (.iload_n 3, 1) := by decide +kernel
theorem dX12_solve_57 : decode cX12_solve 57 = .ok (.iconst 1, 1) := by decide +kernel
theorem dX12_solve_58 : decode cX12_solve 58 = .ok (.iadd, 1) := by decide +kernel
theorem dX12_solve_59 : decode cX12_solve 59 = .ok (.iload_n 2, 1) := by decide +kernel
theorem dX12_solve_60 : decode cX12_solve 60 = .ok (.invokevirtual 735, 3) := by decide +kernel
theorem dX12_solve_63 : decode cX12_solve 63 = .ok (.ifCond .eq 35, 3) := by decide +kernel
theorem dX12_solve_66 : decode cX12_solve 66 = .ok (.aload_n 0, 1) := by decide +kernel
theorem dX12_solve_67 : decode cX12_solve 67 = .ok (.aload_n 0, 1) := by decide +kernel
theorem dX12_solve_68 : decode cX12_solve 68 = .ok (.iload_n 3, 1) := by decide +kernel
theorem dX12_solve_69 : decode cX12_solve 69 = .ok (.iconst 1, 1) := by decide +kernel
theorem dX12_solve_70 : decode cX12_solve 70 = .ok (.invokevirtual 405, 3) := by decide +kernel
theorem dX12_solve_73 : decode cX12_solve 73 = .ok (.iload_n 2, 1) := by decide +kernel
theorem dX12_solve_74 : decode cX12_solve 74 = .ok (.invokevirtual 735, 3) := by decide +kernel
theorem dX12_solve_77 : decode cX12_solve 77 = .ok (.ifCond .eq 21, 3) := by decide +kernel
theorem dX12_solve_80 : decode cX12_solve 80 = .ok (.aload_n 0, 1) := by decide +kernel
theorem dX12_solve_81 : decode cX12_solve 81 = .ok (.iconst 0, 1) := by decide +kernel
theorem dX12_solve_82 : decode cX12_solve 82 = .ok (.invokevirtual 552, 3) := by decide +kernel
theorem dX12_solve_85 : decode cX12_solve 85 = .ok (.iconst 1, 1) := by decide +kernel
theorem dX12_solve_86 : decode cX12_solve 86 = .ok (.if_icmp .gt 12, 3) := by decide +kernel
theorem dX12_solve_89 : decode cX12_solve 89 = .ok (.aload_n 0, 1) := by decide +kernel
theorem dX12_solve_90 : decode cX12_solve 90 = .ok (.iconst 1, 1) := by decide +kernel
theorem dX12_solve_91 : decode cX12_solve 91 = .ok (.invokevirtual 552, 3) := by decide +kernel
theorem dX12_solve_94 : decode cX12_solve 94 = .ok (.iconst 1, 1) := by decide +kernel
theorem dX12_solve_95 : decode cX12_solve 95 = .ok (.if_icmp .le 5, 3) := by decide +kernel
theorem dX12_solve_98 : decode cX12_solve 98 = .ok (.iconst (-1), 1) := by decide +kernel
theorem dX12_solve_99 : decode cX12_solve 99 = .ok (.ireturn, 1) := by decide +kernel
theorem dX12_solve_100 : decode cX12_solve 100 = .ok (.iconst 0, 1) := by decide +kernel
theorem dX12_solve_101 : decode cX12_solve 101 = .ok (.iconst 1, 1) := by decide +kernel
theorem dX12_solve_102 : decode cX12_solve 102 = .ok (.invokestatic 546, 3) := by decide +kernel
theorem dX12_solve_105 : decode cX12_solve 105 = .ok (.istore 4, 2) := by decide +kernel
theorem dX12_solve_107 : decode cX12_solve 107 = .ok (.iconst 0, 1) := by decide +kernel
theorem dX12_solve_108 : decode cX12_solve 108 = .ok (.iconst 0, 1) := by decide +kernel
theorem dX12_solve_109 : decode cX12_solve 109 = .ok (.invokestatic 546, 3) := by decide +kernel
theorem dX12_solve_112 : decode cX12_solve 112 = .ok (.istore 5, 2) := by decide +kernel
theorem dX12_solve_114 : decode cX12_solve 114 = .ok (.iconst 1, 1) := by decide +kernel
theorem dX12_solve_115 : decode cX12_solve 115 = .ok (.iconst 1, 1) := by decide +kernel
theorem dX12_solve_116 : decode cX12_solve 116 = .ok (.invokestatic 546, 3) := by decide +kernel
theorem dX12_solve_119 : decode cX12_solve 119 = .ok (.istore 6, 2) := by decide +kernel
theorem dX12_solve_121 : decode cX12_solve 121 = .ok (.iconst 1, 1) := by decide +kernel
theorem dX12_solve_122 : decode cX12_solve 122 = .ok (.iconst 0, 1) := by decide +kernel
theorem dX12_solve_123 : decode cX12_solve 123 = .ok (.invokestatic 546, 3) := by decide +kernel
theorem dX12_solve_126 : decode cX12_solve 126 = .ok (.istore 7, 2) := by decide +kernel
theorem dX12_solve_128 : decode cX12_solve 128 = .ok (.aload_n 0, 1) := by decide +kernel
theorem dX12_solve_129 : decode cX12_solve 129 = .ok (.iload 4, 2) := by decide +kernel
theorem dX12_solve_131 : decode cX12_solve 131 = .ok (.iload 6, 2) := by decide +kernel
theorem dX12_solve_133 : decode cX12_solve 133 = .ok (.invokevirtual 132, 3) := by decide +kernel
theorem dX12_solve_136 : decode cX12_solve 136 = .ok (.ifCond .eq 7, 3) := by decide +kernel
theorem dX12_solve_139 : decode cX12_solve 139 = .ok (.iconst 1, 1) := by decide +kernel
theorem dX12_solve_140 : decode cX12_solve 140 = .ok (.goto 4, 3) := by decide +kernel
theorem dX12_solve_143 : decode cX12_solve 143 = .ok (.iconst 0, 1) := by decide +kernel
theorem dX12_solve_144 : decode cX12_solve 144 = .ok (.istore 8, 2) := by decide +kernel
theorem dX12_solve_146 : decode cX12_solve 146 = .ok (.iload 8, 2) := by decide +kernel
theorem dX12_solve_148 : decode cX12_solve 148 = .ok (.ifCond .ne 20, 3) := by decide +kernel
theorem dX12_solve_151 : decode cX12_solve 151 = .ok (.aload_n 0, 1) := by decide +kernel
theorem dX12_solve_152 : decode cX12_solve 152 = .ok (.iload 5, 2) := by decide +kernel
theorem dX12_solve_154 : decode cX12_solve 154 = .ok (.iload 7, 2) := by decide +kernel
theorem dX12_solve_156 : decode cX12_solve 156 = .ok (.invokevirtual 132, 3) := by decide +kernel
theorem dX12_solve_159 : decode cX12_solve 159 = .ok (.ifCond .ne 7, 3) := by decide +kernel
theorem dX12_solve_162 : decode cX12_solve 162 = .ok (.iconst 2, 1) := by decide +kernel
theorem dX12_solve_163 : decode cX12_solve 163 = .ok (.goto 4, 3) := by decide +kernel
theorem dX12_solve_166 : decode cX12_solve 166 = .ok (.iconst 0, 1) := by decide +kernel
theorem dX12_solve_167 : decode cX12_solve 167 = .ok (.ireturn, 1) := by decide +kernel
theorem dX12_solve_168 : decode cX12_solve 168 = .ok (.aload_n 0, 1) := by decide +kernel
theorem dX12_solve_169 : decode cX12_solve 169 = .ok (.sipush 3600, 3) := by decide +kernel
theorem dX12_solve_172 : decode cX12_solve 172 = .ok (.iconst 1, 1) := by decide +kernel
theorem dX12_solve_173 : decode cX12_solve 173 = .ok (.invokevirtual 96, 3) := by decide +kernel
theorem dX12_solve_176 : decode cX12_solve 176 = .ok (.aload_n 0, 1) := by decide +kernel
theorem dX12_solve_177 : decode cX12_solve 177 = .ok (.invokevirtual 555, 3) := by decide +kernel
theorem dX12_solve_180 : decode cX12_solve 180 = .ok (.aload_n 0, 1) := by decide +kernel
theorem dX12_solve_181 : decode cX12_solve 181 = .ok (.iload 7, 2) := by decide +kernel
theorem dX12_solve_183 : decode cX12_solve 183 = .ok (.sipush 3600, 3) := by decide +kernel
theorem dX12_solve_186 : decode cX12_solve 186 = .ok (.iconst 1, 1) := by decide +kernel
theorem dX12_solve_187 : decode cX12_solve 187 = .ok (.invokevirtual 558, 3) := by decide +kernel
theorem dX12_solve_190 : decode cX12_solve 190 = .ok (.aload_n 0, 1) := by decide +kernel
theorem dX12_solve_191 : decode cX12_solve 191 = .ok (.iload 5, 2) := by decide +kernel
theorem dX12_solve_193 : decode cX12_solve 193 = .ok (.sipush 3600, 3) := by decide +kernel
theorem dX12_solve_196 : decode cX12_solve 196 = .ok (.iconst (-1), 1) := by decide +kernel
theorem dX12_solve_197 : decode cX12_solve 197 = .ok (.invokevirtual 558, 3) := by decide +kernel
theorem dX12_solve_200 : decode cX12_solve 200 = .ok (.aload_n 0, 1) := by decide +kernel
theorem dX12_solve_201 : decode cX12_solve 201 = .ok (.getfield 549, 3) := by decide +kernel
theorem dX12_solve_204 : decode cX12_solve 204 = .ok (.istore 9, 2) := by decide +kernel
theorem dX12_solve_206 : decode cX12_solve 206 = .ok (.aload_n 0, 1) := by decide +kernel
theorem dX12_solve_207 : decode cX12_solve 207 = .ok (.invokevirtual 744, 3) := by decide +kernel
theorem dX12_solve_210 : decode cX12_solve 210 = .ok (.aload_n 0, 1) := by decide +kernel
theorem dX12_solve_211 : decode cX12_solve 211 = .ok (.invokevirtual 555, 3) := by decide +kernel
theorem dX12_solve_214 : decode cX12_solve 214 = .ok (.aload_n 0, 1) := by decide +kernel
theorem dX12_solve_215 : decode cX12_solve 215 = .ok (.iload 4, 2) := by decide +kernel
theorem dX12_solve_217 : decode cX12_solve 217 = .ok (.sipush 3600, 3) := by decide +kernel
theorem dX12_solve_220 : decode cX12_solve 220 = .ok (.iconst 1, 1) := by decide +kernel
theorem dX12_solve_221 : decode cX12_solve 221 = .ok (.invokevirtual 558, 3) := by decide +kernel
theorem dX12_solve_224 : decode cX12_solve 224 = .ok (.aload_n 0, 1) := by decide +kernel
theorem dX12_solve_225 : decode cX12_solve 225 = .ok (.iload 6, 2) := by decide +kernel
theorem dX12_solve_227 : decode cX12_solve 227 = .ok (.sipush 3600, 3) := by decide +kernel
theorem dX12_solve_230 : decode cX12_solve 230 = .ok (.iconst (-1), 1) := by decide +kernel
theorem dX12_solve_231 : decode cX12_solve 231 = .ok (.invokevirtual 558, 3) := by decide +kernel
theorem dX12_solve_234 : decode cX12_solve 234 = .ok (.aload_n 0, 1) := by decide +kernel
theorem dX12_solve_235 : decode cX12_solve 235 = .ok (.invokevirtual 747, 3) := by decide +kernel
theorem dX12_solve_238 : decode cX12_solve 238 = .ok (.aload_n 0, 1) := by decide +kernel
theorem dX12_solve_239 : decode cX12_solve 239 = .ok (.iconst 0, 1) := by decide +kernel
theorem dX12_solve_240 : decode cX12_solve 240 = .ok (.iconst 2, 1) := by decide +kernel
theorem dX12_solve_241 : decode cX12_solve 241 = .ok (.bipush 9, 2) := by decide +kernel
theorem dX12_solve_243 : decode cX12_solve 243 = .ok (.invokevirtual 78, 3) := by decide +kernel
theorem dX12_solve_246 : decode cX12_solve 246 = .ok (.aload_n 0, 1) := by decide +kernel
theorem dX12_solve_247 : decode cX12_solve 247 = .ok (.iconst 1, 1) := by decide +kernel
theorem dX12_solve_248 : decode cX12_solve 248 = .ok (.iconst 3, 1) := by decide +kernel
theorem dX12_solve_249 : decode cX12_solve 249 = .ok (.bipush 8, 2) := by decide +kernel
theorem dX12_solve_251 : decode cX12_solve 251 = .ok (.invokevirtual 78, 3) := by decide +kernel
theorem dX12_solve_254 : decode cX12_solve 254 = .ok (.aload_n 0, 1) := by decide +kernel
theorem dX12_solve_255 : decode cX12_solve 255 = .ok (.bipush 26, 2) := by decide +kernel
theorem dX12_solve_257 : decode cX12_solve 257 = .ok (.iload 9, 2) := by decide +kernel
theorem dX12_solve_259 : decode cX12_solve 259 = .ok (.aload_n 0, 1) := by decide +kernel
theorem dX12_solve_260 : decode cX12_solve 260 = .ok (.getfield 549, 3) := by decide +kernel
theorem dX12_solve_263 : decode cX12_solve 263 = .ok (.imul, 1) := by decide +kernel
theorem dX12_solve_264 : decode cX12_solve 264 = .ok (.invokevirtual 88, 3) := by decide +kernel
theorem dX12_solve_267 : decode cX12_solve 267 = .ok (.ifCond .eq 7, 3) := by decide +kernel
theorem dX12_solve_270 : decode cX12_solve 270 = .ok (.iconst 1, 1) := by decide +kernel
theorem dX12_solve_271 : decode cX12_solve 271 = .ok (.goto 4, 3) := by decide +kernel
theorem dX12_solve_274 : decode cX12_solve 274 = .ok (.iconst (-1), 1) := by decide +kernel
theorem dX12_solve_275 : decode cX12_solve 275 = .ok (.ireturn, 1) := by decide +kernel
theorem dX12_copyWideAside_0 : decode cX12_copyWideAside 0 = .ok (.aload_n 0, 1) := by decide +kernel
theorem dX12_copyWideAside_1 : decode cX12_copyWideAside 1 = .ok (.getfield 320, 3) := by decide +kernel
theorem dX12_copyWideAside_4 : decode cX12_copyWideAside 4 = .ok (.bipush 120, 2) := by decide +kernel
theorem dX12_copyWideAside_6 : decode cX12_copyWideAside 6 = .ok (.aload_n 0, 1) := by decide +kernel
theorem dX12_copyWideAside_7 : decode cX12_copyWideAside 7 = .ok (.getfield 7, 3) := by decide +kernel
theorem dX12_copyWideAside_10 : decode cX12_copyWideAside 10 = .ok (.bipush 8, 2) := by decide +kernel
theorem dX12_copyWideAside_12 : decode cX12_copyWideAside 12 = .ok (.iaload, 1) := by decide +kernel
theorem dX12_copyWideAside_13 : decode cX12_copyWideAside 13 = .ok (.iastore, 1) := by decide +kernel
theorem dX12_copyWideAside_14 : decode cX12_copyWideAside 14 = .ok (.aload_n 0, 1) := by decide +kernel
theorem dX12_copyWideAside_15 : decode cX12_copyWideAside 15 = .ok (.getfield 320, 3) := by decide +kernel
theorem dX12_copyWideAside_18 : decode cX12_copyWideAside 18 = .ok (.bipush 121, 2) := by decide +kernel
theorem dX12_copyWideAside_20 : decode cX12_copyWideAside 20 = .ok (.aload_n 0, 1) := by decide +kernel
theorem dX12_copyWideAside_21 : decode cX12_copyWideAside 21 = .ok (.getfield 7, 3) := by decide +kernel
theorem dX12_copyWideAside_24 : decode cX12_copyWideAside 24 = .ok (.bipush 9, 2) := by decide +kernel
theorem dX12_copyWideAside_26 : decode cX12_copyWideAside 26 = .ok (.iaload, 1) := by decide +kernel
theorem dX12_copyWideAside_27 : decode cX12_copyWideAside 27 = .ok (.iastore, 1) := by decide +kernel
theorem dX12_copyWideAside_28 : decode cX12_copyWideAside 28 = .ok (.iconst 0, 1) := by decide +kernel
theorem dX12_copyWideAside_29 : decode cX12_copyWideAside 29 = .ok (.istore_n 1, 1) := by decide +kernel
theorem dX12_copyWideAside_30 : decode cX12_copyWideAside 30 = .ok (.iload_n 1, 1) := by decide +kernel
theorem dX12_copyWideAside_31 : decode cX12_copyWideAside 31 = .ok (.bipush 60, 2) := by decide +kernel
theorem dX12_copyWideAside_33 : decode cX12_copyWideAside 33 = .ok (.if_icmp .ge 74, 3) := by decide +kernel
theorem dX12_copyWideAside_36 : decode cX12_copyWideAside 36 = .ok (.aload_n 0, 1) := by decide +kernel
theorem dX12_copyWideAside_37 : decode cX12_copyWideAside 37 = .ok (.getfield 320, 3) := by decide +kernel
theorem dX12_copyWideAside_40 : decode cX12_copyWideAside 40 = .ok (.iload_n 1, 1) := by decide +kernel
theorem dX12_copyWideAside_41 : decode cX12_copyWideAside 41 = .ok (.iload_n 1, 1) := by decide +kernel
theorem dX12_copyWideAside_42 : decode cX12_copyWideAside 42 = .ok (.aload_n 0, 1) := by decide +kernel
theorem dX12_copyWideAside_43 : decode cX12_copyWideAside 43 = .ok (.getfield 7, 3) := by decide +kernel
theorem dX12_copyWideAside_46 : decode cX12_copyWideAside 46 = .ok (.bipush 8, 2) := by decide +kernel
theorem dX12_copyWideAside_48 : decode cX12_copyWideAside 48 = .ok (.iaload, 1) := by decide +kernel
theorem dX12_copyWideAside_49 : decode cX12_copyWideAside 49 = .ok (.if_icmp .ge 16, 3) := by decide +kernel
theorem dX12_copyWideAside_52 : decode cX12_copyWideAside 52 = .ok (.aload_n 0, 1) := by decide +kernel
theorem dX12_copyWideAside_53 : decode cX12_copyWideAside 53 = .ok (.getfield 11, 3) := by decide +kernel
theorem dX12_copyWideAside_56 : decode cX12_copyWideAside 56 = .ok (.sipush 3520, 3) := by decide +kernel
theorem dX12_copyWideAside_59 : decode cX12_copyWideAside 59 = .ok (.iload_n 1, 1) := by decide +kernel
theorem dX12_copyWideAside_60 : decode cX12_copyWideAside 60 = .ok (.iadd, 1) := by decide +kernel
theorem dX12_copyWideAside_61 : decode cX12_copyWideAside 61 = .ok (.iaload, 1) := by decide +kernel
theorem dX12_copyWideAside_62 : decode cX12_copyWideAside 62 = .ok (.goto 4, 3) := by decide +kernel
theorem dX12_copyWideAside_65 : decode cX12_copyWideAside 65 = .ok (.iconst 0, 1) := by decide +kernel
theorem dX12_copyWideAside_66 : decode cX12_copyWideAside 66 = .ok (.iastore, 1) := by decide +kernel
theorem dX12_copyWideAside_67 : decode cX12_copyWideAside 67 = .ok (.aload_n 0, 1) := by decide +kernel
theorem dX12_copyWideAside_68 : decode cX12_copyWideAside 68 = .ok (.getfield 320, 3) := by decide +kernel
theorem dX12_copyWideAside_71 : decode cX12_copyWideAside 71 = .ok (.bipush 60, 2) := by decide +kernel
theorem dX12_copyWideAside_73 : decode cX12_copyWideAside 73 = .ok (.iload_n 1, 1) := by decide +kernel
theorem dX12_copyWideAside_74 : decode cX12_copyWideAside 74 = .ok (.iadd, 1) := by decide +kernel
theorem dX12_copyWideAside_75 : decode cX12_copyWideAside 75 = .ok (.iload_n 1, 1) := by decide +kernel
theorem dX12_copyWideAside_76 : decode cX12_copyWideAside 76 = .ok (.aload_n 0, 1) := by decide +kernel
theorem dX12_copyWideAside_77 : decode cX12_copyWideAside 77 = .ok (.getfield 7, 3) := by decide +kernel
theorem dX12_copyWideAside_80 : decode cX12_copyWideAside 80 = .ok (.bipush 9, 2) := by decide +kernel
theorem dX12_copyWideAside_82 : decode cX12_copyWideAside 82 = .ok (.iaload, 1) := by decide +kernel
theorem dX12_copyWideAside_83 : decode cX12_copyWideAside 83 = .ok (.if_icmp .ge 16, 3) := by decide +kernel
theorem dX12_copyWideAside_86 : decode cX12_copyWideAside 86 = .ok (.aload_n 0, 1) := by decide +kernel
theorem dX12_copyWideAside_87 : decode cX12_copyWideAside 87 = .ok (.getfield 11, 3) := by decide +kernel
theorem dX12_copyWideAside_90 : decode cX12_copyWideAside 90 = .ok (.sipush 3960, 3) := by decide +kernel
theorem dX12_copyWideAside_93 : decode cX12_copyWideAside 93 = .ok (.iload_n 1, 1) := by decide +kernel
theorem dX12_copyWideAside_94 : decode cX12_copyWideAside 94 = .ok (.iadd, 1) := by decide +kernel
theorem dX12_copyWideAside_95 : decode cX12_copyWideAside 95 = .ok (.iaload, 1) := by decide +kernel
theorem dX12_copyWideAside_96 : decode cX12_copyWideAside 96 = .ok (.goto 4, 3) := by decide +kernel
theorem dX12_copyWideAside_99 : decode cX12_copyWideAside 99 = .ok (.iconst 0, 1) := by decide +kernel
theorem dX12_copyWideAside_100 : decode cX12_copyWideAside 100 = .ok (.iastore, 1) := by decide +kernel
theorem dX12_copyWideAside_101 : decode cX12_copyWideAside 101 = .ok (.iinc 1 1, 3) := by decide +kernel
theorem dX12_copyWideAside_104 : decode cX12_copyWideAside 104 = .ok (.goto (-74), 3) := by decide +kernel
theorem dX12_copyWideAside_107 : decode cX12_copyWideAside 107 = .ok (.return_, 1) := by decide +kernel
theorem dX12_loadAside_0 : decode cX12_loadAside 0 = .ok (.aload_n 0, 1) := by decide +kernel
theorem dX12_loadAside_1 : decode cX12_loadAside 1 = .ok (.getfield 7, 3) := by decide +kernel
theorem dX12_loadAside_4 : decode cX12_loadAside 4 = .ok (.iconst 2, 1) := by decide +kernel
theorem dX12_loadAside_5 : decode cX12_loadAside 5 = .ok (.aload_n 0, 1) := by decide +kernel
theorem dX12_loadAside_6 : decode cX12_loadAside 6 = .ok (.getfield 320, 3) := by decide +kernel
theorem dX12_loadAside_9 : decode cX12_loadAside 9 = .ok (.bipush 120, 2) := by decide +kernel
theorem dX12_loadAside_11 : decode cX12_loadAside 11 = .ok (.iaload, 1) := by decide +kernel
theorem dX12_loadAside_12 : decode cX12_loadAside 12 = .ok (.iastore, 1) := by decide +kernel
theorem dX12_loadAside_13 : decode cX12_loadAside 13 = .ok (.aload_n 0, 1) := by decide +kernel
theorem dX12_loadAside_14 : decode cX12_loadAside 14 = .ok (.getfield 7, 3) := by decide +kernel
theorem dX12_loadAside_17 : decode cX12_loadAside 17 = .ok (.iconst 3, 1) := by decide +kernel
theorem dX12_loadAside_18 : decode cX12_loadAside 18 = .ok (.aload_n 0, 1) := by decide +kernel
theorem dX12_loadAside_19 : decode cX12_loadAside 19 = .ok (.getfield 320, 3) := by decide +kernel
theorem dX12_loadAside_22 : decode cX12_loadAside 22 = .ok (.bipush 121, 2) := by decide +kernel
theorem dX12_loadAside_24 : decode cX12_loadAside 24 = .ok (.iaload, 1) := by decide +kernel
theorem dX12_loadAside_25 : decode cX12_loadAside 25 = .ok (.iastore, 1) := by decide +kernel
theorem dX12_loadAside_26 : decode cX12_loadAside 26 = .ok (.iconst 0, 1) := by decide +kernel
theorem dX12_loadAside_27 : decode cX12_loadAside 27 = .ok (.istore_n 1, 1) := by decide +kernel
theorem dX12_loadAside_28 : decode cX12_loadAside 28 = .ok (.iload_n 1, 1) := by decide +kernel
theorem dX12_loadAside_29 : decode cX12_loadAside 29 = .ok (.bipush 60, 2) := by decide +kernel
theorem dX12_loadAside_31 : decode cX12_loadAside 31 = .ok (.if_icmp .ge 44, 3) := by decide +kernel
theorem dX12_loadAside_34 : decode cX12_loadAside 34 = .ok (.aload_n 0, 1) := by decide +kernel
theorem dX12_loadAside_35 : decode cX12_loadAside 35 = .ok (.getfield 11, 3) := by decide +kernel
theorem dX12_loadAside_38 : decode cX12_loadAside 38 = .ok (.sipush 880, 3) := by decide +kernel
theorem dX12_loadAside_41 : decode cX12_loadAside 41 = .ok (.iload_n 1, 1) := by decide +kernel
theorem dX12_loadAside_42 : decode cX12_loadAside 42 = .ok (.iadd, 1) := by decide +kernel
theorem dX12_loadAside_43 : decode cX12_loadAside 43 = .ok (.aload_n 0, 1) := by decide +kernel
theorem dX12_loadAside_44 : decode cX12_loadAside 44 = .ok (.getfield 320, 3) := by decide +kernel
theorem dX12_loadAside_47 : decode cX12_loadAside 47 = .ok (.iload_n 1, 1) := by decide +kernel
theorem dX12_loadAside_48 : decode cX12_loadAside 48 = .ok (.iaload, 1) := by decide +kernel
theorem dX12_loadAside_49 : decode cX12_loadAside 49 = .ok (.iastore, 1) := by decide +kernel
theorem dX12_loadAside_50 : decode cX12_loadAside 50 = .ok (.aload_n 0, 1) := by decide +kernel
theorem dX12_loadAside_51 : decode cX12_loadAside 51 = .ok (.getfield 11, 3) := by decide +kernel
theorem dX12_loadAside_54 : decode cX12_loadAside 54 = .ok (.sipush 1320, 3) := by decide +kernel
theorem dX12_loadAside_57 : decode cX12_loadAside 57 = .ok (.iload_n 1, 1) := by decide +kernel
theorem dX12_loadAside_58 : decode cX12_loadAside 58 = .ok (.iadd, 1) := by decide +kernel
theorem dX12_loadAside_59 : decode cX12_loadAside 59 = .ok (.aload_n 0, 1) := by decide +kernel
theorem dX12_loadAside_60 : decode cX12_loadAside 60 = .ok (.getfield 320, 3) := by decide +kernel
theorem dX12_loadAside_63 : decode cX12_loadAside 63 = .ok (.bipush 60, 2) := by decide +kernel
theorem dX12_loadAside_65 : decode cX12_loadAside 65 = .ok (.iload_n 1, 1) := by decide +kernel
theorem dX12_loadAside_66 : decode cX12_loadAside 66 = .ok (.iadd, 1) := by decide +kernel
theorem dX12_loadAside_67 : decode cX12_loadAside 67 = .ok (.iaload, 1) := by decide +kernel
theorem dX12_loadAside_68 : decode cX12_loadAside 68 = .ok (.iastore, 1) := by decide +kernel
theorem dX12_loadAside_69 : decode cX12_loadAside 69 = .ok (.iinc 1 1, 3) := by decide +kernel
theorem dX12_loadAside_72 : decode cX12_loadAside 72 = .ok (.goto (-44), 3) := by decide +kernel
theorem dX12_loadAside_75 : decode cX12_loadAside 75 = .ok (.return_, 1) := by decide +kernel
theorem dX12_isPrinted_0 : decode cX12_isPrinted 0 = .ok (.aload_n 0, 1) := by decide +kernel
theorem dX12_isPrinted_1 : decode cX12_isPrinted 1 = .ok (.iload_n 1, 1) := by decide +kernel
theorem dX12_isPrinted_2 : decode cX12_isPrinted 2 = .ok (.invokevirtual 701, 3) := by decide +kernel
theorem dX12_isPrinted_5 : decode cX12_isPrinted 5 = .ok (.aload_n 0, 1) := by decide +kernel
theorem dX12_isPrinted_6 : decode cX12_isPrinted 6 = .ok (.iload_n 1, 1) := by decide +kernel
theorem dX12_isPrinted_7 : decode cX12_isPrinted 7 = .ok (.invokevirtual 427, 3) := by decide +kernel
theorem dX12_isPrinted_10 : decode cX12_isPrinted 10 = .ok (.istore_n 2, 1) := by decide +kernel
theorem dX12_isPrinted_11 : decode cX12_isPrinted 11 = .ok (.iconst 0, 1) := by decide +kernel
theorem dX12_isPrinted_12 : decode cX12_isPrinted 12 = .ok (.istore_n 3, 1) := by decide +kernel
theorem dX12_isPrinted_13 : decode cX12_isPrinted 13 = .ok (.iload_n 3, 1) := by decide +kernel
theorem dX12_isPrinted_14 : decode cX12_isPrinted 14 = .ok (.aload_n 0, 1) := by decide +kernel
theorem dX12_isPrinted_15 : decode cX12_isPrinted 15 = .ok (.getfield 327, 3) := by decide +kernel
theorem dX12_isPrinted_18 : decode cX12_isPrinted 18 = .ok (.if_icmp .ge 58, 3) := by decide +kernel
theorem dX12_isPrinted_21 : decode cX12_isPrinted 21 = .ok (.iload_n 2, 1) := by decide +kernel
theorem dX12_isPrinted_22 : decode cX12_isPrinted 22 = .ok (.ifCond .eq 54, 3) := by decide +kernel
theorem dX12_isPrinted_25 : decode cX12_isPrinted 25 = .ok (.aload_n 0, 1) := by decide +kernel
theorem dX12_isPrinted_26 : decode cX12_isPrinted 26 = .ok (.getfield 196, 3) := by decide +kernel
theorem dX12_isPrinted_29 : decode cX12_isPrinted 29 = .ok (.iload_n 3, 1) := by decide +kernel
theorem dX12_isPrinted_30 : decode cX12_isPrinted 30 = .ok (.iaload, 1) := by decide +kernel
theorem dX12_isPrinted_31 : decode cX12_isPrinted 31 = .ok (.iconst (-1), 1) := by decide +kernel
theorem dX12_isPrinted_32 : decode cX12_isPrinted 32 = .ok (.if_icmp .eq 38, 3) := by decide +kernel
theorem dX12_isPrinted_35 : decode cX12_isPrinted 35 = .ok (.aload_n 0, 1) := by decide +kernel
theorem dX12_isPrinted_36 : decode cX12_isPrinted 36 = .ok (.getfield 199, 3) := by decide +kernel
theorem dX12_isPrinted_39 : decode cX12_isPrinted 39 = .ok (.iload_n 3, 1) := by decide +kernel
theorem dX12_isPrinted_40 : decode cX12_isPrinted 40 = .ok (.baload, 1) := by decide +kernel
theorem dX12_isPrinted_41 : decode cX12_isPrinted 41 = .ok (.ifCond .ne 29, 3) := by decide +kernel
theorem dX12_isPrinted_44 : decode cX12_isPrinted 44 = .ok (.aload_n 0, 1) := by decide +kernel
theorem dX12_isPrinted_45 : decode cX12_isPrinted 45 = .ok (.iload_n 3, 1) := by decide +kernel
theorem dX12_isPrinted_46 : decode cX12_isPrinted 46 = .ok (.iconst 1, 1) := by decide +kernel
theorem dX12_isPrinted_47 : decode cX12_isPrinted 47 = .ok (.invokevirtual 423, 3) := by decide +kernel
theorem dX12_isPrinted_50 : decode cX12_isPrinted 50 = .ok (.aload_n 0, 1) := by decide +kernel
theorem dX12_isPrinted_51 : decode cX12_isPrinted 51 = .ok (.iload_n 1, 1) := by decide +kernel
theorem dX12_isPrinted_52 : decode cX12_isPrinted 52 = .ok (.invokevirtual 427, 3) := by decide +kernel
theorem dX12_isPrinted_55 : decode cX12_isPrinted 55 = .ok (.ifCond .ne 7, 3) := by decide +kernel
theorem dX12_isPrinted_58 : decode cX12_isPrinted 58 = .ok (.iconst 1, 1) := by decide +kernel
theorem dX12_isPrinted_59 : decode cX12_isPrinted 59 = .ok (.goto 4, 3) := by decide +kernel
theorem dX12_isPrinted_62 : decode cX12_isPrinted 62 = .ok (.iconst 0, 1) := by decide +kernel
theorem dX12_isPrinted_63 : decode cX12_isPrinted 63 = .ok (.istore_n 2, 1) := by decide +kernel
theorem dX12_isPrinted_64 : decode cX12_isPrinted 64 = .ok (.aload_n 0, 1) := by decide +kernel
theorem dX12_isPrinted_65 : decode cX12_isPrinted 65 = .ok (.iload_n 3, 1) := by decide +kernel
theorem dX12_isPrinted_66 : decode cX12_isPrinted 66 = .ok (.iconst 0, 1) := by decide +kernel
theorem dX12_isPrinted_67 : decode cX12_isPrinted 67 = .ok (.invokevirtual 423, 3) := by decide +kernel
theorem dX12_isPrinted_70 : decode cX12_isPrinted 70 = .ok (.iinc 3 1, 3) := by decide +kernel
theorem dX12_isPrinted_73 : decode cX12_isPrinted 73 = .ok (.goto (-60), 3) := by decide +kernel
theorem dX12_isPrinted_76 : decode cX12_isPrinted 76 = .ok (.iload_n 2, 1) := by decide +kernel
theorem dX12_isPrinted_77 : decode cX12_isPrinted 77 = .ok (.ireturn, 1) := by decide +kernel
theorem dX12_isSimpler_0 : decode cX12_isSimpler 0 = .ok (.aload_n 0, 1) := by decide +kernel
theorem dX12_isSimpler_1 : decode cX12_isSimpler 1 = .ok (.getfield 543, 3) := by decide +kernel
theorem dX12_isSimpler_4 : decode cX12_isSimpler 4 = .ok (.istore_n 2, 1) := by decide +kernel
theorem dX12_isSimpler_5 : decode cX12_isSimpler 5 = .ok (.aload_n 0, 1) := by decide +kernel
theorem dX12_isSimpler_6 : decode cX12_isSimpler 6 = .ok (.getfield 284, 3) := by decide +kernel
theorem dX12_isSimpler_9 : decode cX12_isSimpler 9 = .ok (.iconst 0, 1) := by decide +kernel
theorem dX12_isSimpler_10 : decode cX12_isSimpler 10 = .ok (.iaload, 1) := by decide +kernel
theorem dX12_isSimpler_11 : decode cX12_isSimpler 11 = .ok (.istore_n 3, 1) := by decide +kernel
theorem dX12_isSimpler_12 : decode cX12_isSimpler 12 = .ok (.aload_n 0, 1) := by decide +kernel
theorem dX12_isSimpler_13 : decode cX12_isSimpler 13 = .ok (.getfield 287, 3) := by decide +kernel
theorem dX12_isSimpler_16 : decode cX12_isSimpler 16 = .ok (.iconst 0, 1) := by decide +kernel
theorem dX12_isSimpler_17 : decode cX12_isSimpler 17 = .ok (.iaload, 1) := by decide +kernel
theorem dX12_isSimpler_18 : decode cX12_isSimpler 18 = .ok (.istore 4, 2) := by decide +kernel
theorem dX12_isSimpler_20 : decode cX12_isSimpler 20 = .ok (.aload_n 0, 1) := by decide +kernel
theorem dX12_isSimpler_21 : decode cX12_isSimpler 21 = .ok (.iload_n 1, 1) := by decide +kernel
theorem dX12_isSimpler_22 : decode cX12_isSimpler 22 = .ok (.invokevirtual 713, 3) := by decide +kernel
theorem dX12_isSimpler_25 : decode cX12_isSimpler 25 = .ok (.istore 5, 2) := by decide +kernel
theorem dX12_isSimpler_27 : decode cX12_isSimpler 27 = .ok (.aload_n 0, 1) := by decide +kernel
theorem dX12_isSimpler_28 : decode cX12_isSimpler 28 = .ok (.sipush 3606, 3) := by decide +kernel
theorem dX12_isSimpler_31 : decode cX12_isSimpler 31 = .ok (.bipush 60, 2) := by decide +kernel
theorem dX12_isSimpler_33 : decode cX12_isSimpler 33 = .ok (.invokevirtual 115, 3) := by decide +kernel
theorem dX12_isSimpler_36 : decode cX12_isSimpler 36 = .ok (.aload_n 0, 1) := by decide +kernel
theorem dX12_isSimpler_37 : decode cX12_isSimpler 37 = .ok (.iload_n 1, 1) := by decide +kernel
theorem dX12_isSimpler_38 : decode cX12_isSimpler 38 = .ok (.invokevirtual 728, 3) := by decide +kernel
theorem dX12_isSimpler_41 : decode cX12_isSimpler 41 = .ok (.iconst 1, 1) := by decide +kernel
theorem dX12_isSimpler_42 : decode cX12_isSimpler 42 = .ok (.istore 6, 2) := by decide +kernel
theorem dX12_isSimpler_44 : decode cX12_isSimpler 44 = .ok (.iconst 1, 1) := by decide +kernel
theorem dX12_isSimpler_45 : decode cX12_isSimpler 45 = .ok (.istore 7, 2) := by decide +kernel
theorem dX12_isSimpler_47 : decode cX12_isSimpler 47 = .ok (.iload 7, 2) := by decide +kernel
theorem dX12_isSimpler_49 : decode cX12_isSimpler 49 = .ok (.ifCond .eq 49, 3) := by decide +kernel
theorem dX12_isSimpler_52 : decode cX12_isSimpler 52 = .ok (.aload_n 0, 1) := by decide +kernel
theorem dX12_isSimpler_53 : decode cX12_isSimpler 53 = .ok (.getfield 512, 3) := by decide +kernel
theorem dX12_isSimpler_56 : decode cX12_isSimpler 56 = .ok (.istore 8, 2) := by decide +kernel
theorem dX12_isSimpler_58 : decode cX12_isSimpler 58 = .ok (.aload_n 0, 1) := by decide +kernel
theorem dX12_isSimpler_59 : decode cX12_isSimpler 59 = .ok (.iconst 0, 1) := by decide +kernel
theorem dX12_isSimpler_60 : decode cX12_isSimpler 60 = .ok (.putfield 543, 3) := by decide +kernel
theorem dX12_isSimpler_63 : decode cX12_isSimpler 63 = .ok (.aload_n 0, 1) := by decide +kernel
theorem dX12_isSimpler_64 : decode cX12_isSimpler 64 = .ok (.invokevirtual 731, 3) := by decide +kernel
theorem dX12_isSimpler_67 : decode cX12_isSimpler 67 = .ok (.istore 7, 2) := by decide +kernel
theorem dX12_isSimpler_69 : decode cX12_isSimpler 69 = .ok (.iload 6, 2) := by decide +kernel
theorem dX12_isSimpler_71 : decode cX12_isSimpler 71 = .ok (.ifCond .eq 21, 3) := by decide +kernel
theorem dX12_isSimpler_74 : decode cX12_isSimpler 74 = .ok (.iload 7, 2) := by decide +kernel
theorem dX12_isSimpler_76 : decode cX12_isSimpler 76 = .ok (.ifCond .eq 12, 3) := by decide +kernel
theorem dX12_isSimpler_79 : decode cX12_isSimpler 79 = .ok (.aload_n 0, 1) := by decide +kernel
theorem dX12_isSimpler_80 : decode cX12_isSimpler 80 = .ok (.getfield 512, 3) := by decide +kernel
theorem dX12_isSimpler_83 : decode cX12_isSimpler 83 = .ok (.iload 8, 2) := by decide +kernel
theorem dX12_isSimpler_85 : decode cX12_isSimpler 85 = .ok (.if_icmp .ge 7, 3) := by decide +kernel
theorem dX12_isSimpler_88 : decode cX12_isSimpler 88 = .ok (.iconst 1, 1) := by decide +kernel
theorem dX12_isSimpler_89 : decode cX12_isSimpler 89 = .ok (.goto 4, 3) := by decide +kernel
theorem dX12_isSimpler_92 : decode cX12_isSimpler 92 = .ok (.iconst 0, 1) := by decide +kernel
theorem dX12_isSimpler_93 : decode cX12_isSimpler 93 = .ok (.istore 6, 2) := by decide +kernel
theorem dX12_isSimpler_95 : decode cX12_isSimpler 95 = .ok (.goto (-48), 3) := by decide +kernel
theorem dX12_isSimpler_98 : decode cX12_isSimpler 98 = .ok (.aload_n 0, 1) := by decide +kernel
theorem dX12_isSimpler_99 : decode cX12_isSimpler 99 = .ok (.iload_n 2, 1) := by decide +kernel
theorem dX12_isSimpler_100 : decode cX12_isSimpler 100 = .ok (.putfield 543, 3) := by decide +kernel
theorem dX12_isSimpler_103 : decode cX12_isSimpler 103 = .ok (.aload_n 0, 1) := by decide +kernel
theorem dX12_isSimpler_104 : decode cX12_isSimpler 104 = .ok (.getfield 284, 3) := by decide +kernel
theorem dX12_isSimpler_107 : decode cX12_isSimpler 107 = .ok (.iconst 0, 1) := by decide +kernel
theorem dX12_isSimpler_108 : decode cX12_isSimpler 108 = .ok (.iload_n 3, 1) := by decide +kernel
theorem dX12_isSimpler_109 : decode cX12_isSimpler 109 = .ok (.iastore, 1) := by decide +kernel
theorem dX12_isSimpler_110 : decode cX12_isSimpler 110 = .ok (.aload_n 0, 1) := by decide +kernel
theorem dX12_isSimpler_111 : decode cX12_isSimpler 111 = .ok (.getfield 287, 3) := by decide +kernel
theorem dX12_isSimpler_114 : decode cX12_isSimpler 114 = .ok (.iconst 0, 1) := by decide +kernel
theorem dX12_isSimpler_115 : decode cX12_isSimpler 115 = .ok (.iload 4, 2) := by decide +kernel
theorem dX12_isSimpler_117 : decode cX12_isSimpler 117 = .ok (.iastore, 1) := by decide +kernel
theorem dX12_isSimpler_118 : decode cX12_isSimpler 118 = .ok (.aload_n 0, 1) := by decide +kernel
theorem dX12_isSimpler_119 : decode cX12_isSimpler 119 = .ok (.sipush 13540, 3) := by decide +kernel
theorem dX12_isSimpler_122 : decode cX12_isSimpler 122 = .ok (.invokevirtual 713, 3) := by decide +kernel
theorem dX12_isSimpler_125 : decode cX12_isSimpler 125 = .ok (.istore 8, 2) := by decide +kernel
theorem dX12_isSimpler_127 : decode cX12_isSimpler 127 = .ok (.iload 6, 2) := by decide +kernel
theorem dX12_isSimpler_129 : decode cX12_isSimpler 129 = .ok (.ifCond .eq 29, 3) := by decide +kernel
theorem dX12_isSimpler_132 : decode cX12_isSimpler 132 = .ok (.iload 5, 2) := by decide +kernel
theorem dX12_isSimpler_134 : decode cX12_isSimpler 134 = .ok (.ifCond .ne 20, 3) := by decide +kernel
theorem dX12_isSimpler_137 : decode cX12_isSimpler 137 = .ok (.iload 8, 2) := by decide +kernel
theorem dX12_isSimpler_139 : decode cX12_isSimpler 139 = .ok (.ifCond .ne 15, 3) := by decide +kernel
theorem dX12_isSimpler_142 : decode cX12_isSimpler 142 = .ok (.aload_n 0, 1) := by decide +kernel
theorem dX12_isSimpler_143 : decode cX12_isSimpler 143 = .ok (.sipush 3606, 3) := by decide +kernel
theorem dX12_isSimpler_146 : decode cX12_isSimpler 146 = .ok (.bipush 60, 2) := by decide +kernel
theorem dX12_isSimpler_148 : decode cX12_isSimpler 148 = .ok (.invokevirtual 132, 3) := by decide +kernel
theorem dX12_isSimpler_151 : decode cX12_isSimpler 151 = .ok (.ifCond .ne 7, 3) := by decide +kernel
theorem dX12_isSimpler_154 : decode cX12_isSimpler 154 = .ok (.iconst 1, 1) := by decide +kernel
theorem dX12_isSimpler_155 : decode cX12_isSimpler 155 = .ok (.goto 4, 3) := by decide +kernel
theorem dX12_isSimpler_158 : decode cX12_isSimpler 158 = .ok (.iconst 0, 1) := by decide +kernel
theorem dX12_isSimpler_159 : decode cX12_isSimpler 159 = .ok (.ireturn, 1) := by decide +kernel
theorem dX12_isSlope_0 : decode cX12_isSlope 0 = .ok (.aload_n 0, 1) := by decide +kernel
theorem dX12_isSlope_1 : decode cX12_isSlope 1 = .ok (.iload_n 1, 1) := by decide +kernel
theorem dX12_isSlope_2 : decode cX12_isSlope 2 = .ok (.iload_n 2, 1) := by decide +kernel
theorem dX12_isSlope_3 : decode cX12_isSlope 3 = .ok (.invokevirtual 738, 3) := by decide +kernel
theorem dX12_isSlope_6 : decode cX12_isSlope 6 = .ok (.istore_n 3, 1) := by decide +kernel
theorem dX12_isSlope_7 : decode cX12_isSlope 7 = .ok (.iload_n 3, 1) := by decide +kernel
theorem dX12_isSlope_8 : decode cX12_isSlope 8 = .ok (.iconst (-1), 1) := by decide +kernel
theorem dX12_isSlope_9 : decode cX12_isSlope 9 = .ok (.if_icmp .eq 13, 3) := by decide +kernel
theorem dX12_isSlope_12 : decode cX12_isSlope 12 = .ok (.aload_n 0, 1) := by decide +kernel
theorem dX12_isSlope_13 : decode cX12_isSlope 13 = .ok (.sipush 13740, 3) := by decide +kernel
theorem dX12_isSlope_16 : decode cX12_isSlope 16 = .ok (.invokevirtual 713, 3) := by decide +kernel
theorem dX12_isSlope_19 : decode cX12_isSlope 19 = .ok (.ifCond .eq 5, 3) := by decide +kernel
theorem dX12_isSlope_22 : decode cX12_isSlope 22 = .ok (.iconst 1, 1) := by decide +kernel
theorem dX12_isSlope_23 : decode cX12_isSlope 23 = .ok (.ireturn, 1) := by decide +kernel
theorem dX12_isSlope_24 : decode cX12_isSlope 24 = .ok (.aload_n 0, 1) := by decide +kernel
theorem dX12_isSlope_25 : decode cX12_isSlope 25 = .ok (.sipush 3606, 3) := by decide +kernel
theorem dX12_isSlope_28 : decode cX12_isSlope 28 = .ok (.bipush 60, 2) := by decide +kernel
theorem dX12_isSlope_30 : decode cX12_isSlope 30 = .ok (.invokevirtual 115, 3) := by decide +kernel
theorem dX12_isSlope_33 : decode cX12_isSlope 33 = .ok (.aload_n 0, 1) := by decide +kernel
theorem dX12_isSlope_34 : decode cX12_isSlope 34 = .ok (.iload_n 1, 1) := by decide +kernel
theorem dX12_isSlope_35 : decode cX12_isSlope 35 = .ok (.iload_n 2, 1) := by decide +kernel
theorem dX12_isSlope_36 : decode cX12_isSlope 36 = .ok (.invokevirtual 741, 3) := by decide +kernel
theorem dX12_isSlope_39 : decode cX12_isSlope 39 = .ok (.ifCond .ne 17, 3) := by decide +kernel
theorem dX12_isSlope_42 : decode cX12_isSlope 42 = .ok (.aload_n 0, 1) := by decide +kernel
theorem dX12_isSlope_43 : decode cX12_isSlope 43 = .ok (.sipush 3606, 3) := by decide +kernel
theorem dX12_isSlope_46 : decode cX12_isSlope 46 = .ok (.iconst 0, 1) := by decide +kernel
theorem dX12_isSlope_47 : decode cX12_isSlope 47 = .ok (.invokestatic 645, 3) := by decide +kernel
theorem dX12_isSlope_50 : decode cX12_isSlope 50 = .ok (.invokevirtual 132, 3) := by decide +kernel
theorem dX12_isSlope_53 : decode cX12_isSlope 53 = .ok (.ifCond .ne 7, 3) := by decide +kernel
theorem dX12_isSlope_56 : decode cX12_isSlope 56 = .ok (.iconst 1, 1) := by decide +kernel
theorem dX12_isSlope_57 : decode cX12_isSlope 57 = .ok (.goto 4, 3) := by decide +kernel
theorem dX12_isSlope_60 : decode cX12_isSlope 60 = .ok (.iconst 0, 1) := by decide +kernel
theorem dX12_isSlope_61 : decode cX12_isSlope 61 = .ok (.ireturn, 1) := by decide +kernel
theorem dX12_audit_0 : decode cX12_audit 0 = .ok (.aload_n 0, 1) := by decide +kernel
theorem dX12_audit_1 : decode cX12_audit 1 = .ok (.iload_n 1, 1) := by decide +kernel
theorem dX12_audit_2 : decode cX12_audit 2 = .ok (.iconst 0, 1) := by decide +kernel
theorem dX12_audit_3 : decode cX12_audit 3 = .ok (.iconst 3, 1) := by decide +kernel
theorem dX12_audit_4 : decode cX12_audit 4 = .ok (.invokestatic 106, 3) := by decide +kernel
theorem dX12_audit_7 : decode cX12_audit 7 = .ok (.ifCond .ne 7, 3) := by decide +kernel
theorem dX12_audit_10 : decode cX12_audit 10 = .ok (.iconst 1, 1) := by decide +kernel
theorem dX12_audit_11 : decode cX12_audit 11 = .ok (.goto 4, 3) := by decide +kernel
theorem dX12_audit_14 : decode cX12_audit 14 = .ok (.iconst 0, 1) := by decide +kernel
theorem dX12_audit_15 : decode cX12_audit 15 = .ok (.aload_n 0, 1) := by decide +kernel
theorem dX12_audit_16 : decode cX12_audit 16 = .ok (.iload_n 2, 1) := by decide +kernel
theorem dX12_audit_17 : decode cX12_audit 17 = .ok (.invokevirtual 664, 3) := by decide +kernel
theorem dX12_audit_20 : decode cX12_audit 20 = .ok (.ifCond .ne 7, 3) := by decide +kernel
theorem dX12_audit_23 : decode cX12_audit 23 = .ok (.iconst 1, 1) := by decide +kernel
theorem dX12_audit_24 : decode cX12_audit 24 = .ok (.goto 4, 3) := by decide +kernel
theorem dX12_audit_27 : decode cX12_audit 27 = .ok (.iconst 0, 1) := by decide +kernel
theorem dX12_audit_28 : decode cX12_audit 28 = .ok (.iconst 0, 1) := by decide +kernel
theorem dX12_audit_29 : decode cX12_audit 29 = .ok (.invokevirtual 670, 3) := by decide +kernel
theorem dX12_audit_32 : decode cX12_audit 32 = .ok (.ifCond .eq 5, 3) := by decide +kernel
theorem dX12_audit_35 : decode cX12_audit 35 = .ok (.iconst 0, 1) := by decide +kernel
theorem dX12_audit_36 : decode cX12_audit 36 = .ok (.ireturn, 1) := by decide +kernel
theorem dX12_audit_37 : decode cX12_audit 37 = .ok (.iload_n 2, 1) := by decide +kernel
theorem dX12_audit_38 : decode cX12_audit 38 = .ok (.invokestatic 667, 3) := by decide +kernel
theorem dX12_audit_41 : decode cX12_audit 41 = .ok (.istore_n 3, 1) := by decide +kernel
theorem dX12_audit_42 : decode cX12_audit 42 = .ok (.iload_n 1, 1) := by decide +kernel
theorem dX12_audit_43 : decode cX12_audit 43 = .ok (.tableswitch 39 0 2 #[25, 31, 33], 25) := by decide +kernel
theorem dX12_audit_68 : decode cX12_audit 68 = .ok (.aload_n 0, 1) := by decide +kernel
theorem dX12_audit_69 : decode cX12_audit 69 = .ok (.iload_n 3, 1) := by decide +kernel
theorem dX12_audit_70 : decode cX12_audit 70 = .ok (.invokevirtual 750, 3) := by decide +kernel
theorem dX12_audit_73 : decode cX12_audit 73 = .ok (.ireturn, 1) := by decide +kernel
theorem dX12_audit_74 : decode cX12_audit 74 = .ok (.iconst 1, 1) := by decide +kernel
theorem dX12_audit_75 : decode cX12_audit 75 = .ok (.ireturn, 1) := by decide +kernel
theorem dX12_audit_76 : decode cX12_audit 76 = .ok (.aload_n 0, 1) := by decide +kernel
theorem dX12_audit_77 : decode cX12_audit 77 = .ok (.iload_n 3, 1) := by decide +kernel
theorem dX12_audit_78 : decode cX12_audit 78 = .ok (.invokevirtual 753, 3) := by decide +kernel
theorem dX12_audit_81 : decode cX12_audit 81 = .ok (.ireturn, 1) := by decide +kernel
theorem dX12_audit_82 : decode cX12_audit 82 = .ok (.aload_n 0, 1) := by decide +kernel
theorem dX12_audit_83 : decode cX12_audit 83 = .ok (.iload_n 3, 1) := by decide +kernel
theorem dX12_audit_84 : decode cX12_audit 84 = .ok (.bipush 120, 2) := by decide +kernel
theorem dX12_audit_86 : decode cX12_audit 86 = .ok (.invokevirtual 756, 3) := by decide +kernel
theorem dX12_audit_89 : decode cX12_audit 89 = .ok (.ifCond .eq 27, 3) := by decide +kernel
theorem dX12_audit_92 : decode cX12_audit 92 = .ok (.aload_n 0, 1) := by decide +kernel
theorem dX12_audit_93 : decode cX12_audit 93 = .ok (.iload_n 3, 1) := by decide +kernel
theorem dX12_audit_94 : decode cX12_audit 94 = .ok (.bipush 121, 2) := by decide +kernel
theorem dX12_audit_96 : decode cX12_audit 96 = .ok (.invokevirtual 756, 3) := by decide +kernel
theorem dX12_audit_99 : decode cX12_audit 99 = .ok (.ifCond .eq 17, 3) := by decide +kernel
theorem dX12_audit_102 : decode cX12_audit 102 = .ok (.aload_n 0, 1) := by decide +kernel
theorem dX12_audit_103 : decode cX12_audit 103 = .ok (.iload_n 3, 1) := by decide +kernel
theorem dX12_audit_104 : decode cX12_audit 104 = .ok (.bipush 122, 2) := by decide +kernel
theorem dX12_audit_106 : decode cX12_audit 106 = .ok (.invokevirtual 756, 3) := by decide +kernel
theorem dX12_audit_109 : decode cX12_audit 109 = .ok (.ifCond .eq 7, 3) := by decide +kernel
theorem dX12_audit_112 : decode cX12_audit 112 = .ok (.iconst 1, 1) := by decide +kernel
theorem dX12_audit_113 : decode cX12_audit 113 = .ok (.goto 4, 3) := by decide +kernel
theorem dX12_audit_116 : decode cX12_audit 116 = .ok (.iconst 0, 1) := by decide +kernel
theorem dX12_audit_117 : decode cX12_audit 117 = .ok (.ireturn, 1) := by decide +kernel
theorem dJ11_isValidCodePoint_9a6ad_0 : decode cJ11_isValidCodePoint_9a6ad 0 = .ok (.iload_n 0, 1) := by decide +kernel
theorem dJ11_isValidCodePoint_9a6ad_1 : decode cJ11_isValidCodePoint_9a6ad 1 = .ok (.bipush 16, 2) := by decide +kernel
theorem dJ11_isValidCodePoint_9a6ad_3 : decode cJ11_isValidCodePoint_9a6ad 3 = .ok (.iushr, 1) := by decide +kernel
theorem dJ11_isValidCodePoint_9a6ad_4 : decode cJ11_isValidCodePoint_9a6ad 4 = .ok (.istore_n 1, 1) := by decide +kernel
theorem dJ11_isValidCodePoint_9a6ad_5 : decode cJ11_isValidCodePoint_9a6ad 5 = .ok (.iload_n 1, 1) := by decide +kernel
theorem dJ11_isValidCodePoint_9a6ad_6 : decode cJ11_isValidCodePoint_9a6ad 6 = .ok (.bipush 17, 2) := by decide +kernel
theorem dJ11_isValidCodePoint_9a6ad_8 : decode cJ11_isValidCodePoint_9a6ad 8 = .ok (.if_icmp .ge 7, 3) := by decide +kernel
theorem dJ11_isValidCodePoint_9a6ad_11 : decode cJ11_isValidCodePoint_9a6ad 11 = .ok (.iconst 1, 1) := by decide +kernel
theorem dJ11_isValidCodePoint_9a6ad_12 : decode cJ11_isValidCodePoint_9a6ad 12 = .ok (.goto 4, 3) := by decide +kernel
theorem dJ11_isValidCodePoint_9a6ad_15 : decode cJ11_isValidCodePoint_9a6ad 15 = .ok (.iconst 0, 1) := by decide +kernel
theorem dJ11_isValidCodePoint_9a6ad_16 : decode cJ11_isValidCodePoint_9a6ad 16 = .ok (.ireturn, 1) := by decide +kernel
theorem dJ11_highSurrogate_5068e_0 : decode cJ11_highSurrogate_5068e 0 = .ok (.iload_n 0, 1) := by decide +kernel
theorem dJ11_highSurrogate_5068e_1 : decode cJ11_highSurrogate_5068e 1 = .ok (.bipush 10, 2) := by decide +kernel
theorem dJ11_highSurrogate_5068e_3 : decode cJ11_highSurrogate_5068e 3 = .ok (.iushr, 1) := by decide +kernel
theorem dJ11_highSurrogate_5068e_4 : decode cJ11_highSurrogate_5068e 4 = .ok (.ldc 110, 2) := by decide +kernel
theorem dJ11_highSurrogate_5068e_6 : decode cJ11_highSurrogate_5068e 6 = .ok (.iadd, 1) := by decide +kernel
theorem dJ11_highSurrogate_5068e_7 : decode cJ11_highSurrogate_5068e 7 = .ok (.i2c, 1) := by decide +kernel
theorem dJ11_highSurrogate_5068e_8 : decode cJ11_highSurrogate_5068e 8 = .ok (.ireturn, 1) := by decide +kernel
theorem dJ11_lowSurrogate_5068e_0 : decode cJ11_lowSurrogate_5068e 0 = .ok (.iload_n 0, 1) := by decide +kernel
theorem dJ11_lowSurrogate_5068e_1 : decode cJ11_lowSurrogate_5068e 1 = .ok (.sipush 1023, 3) := by decide +kernel
theorem dJ11_lowSurrogate_5068e_4 : decode cJ11_lowSurrogate_5068e 4 = .ok (.iand, 1) := by decide +kernel
theorem dJ11_lowSurrogate_5068e_5 : decode cJ11_lowSurrogate_5068e 5 = .ok (.ldc 76, 2) := by decide +kernel
theorem dJ11_lowSurrogate_5068e_7 : decode cJ11_lowSurrogate_5068e 7 = .ok (.iadd, 1) := by decide +kernel
theorem dJ11_lowSurrogate_5068e_8 : decode cJ11_lowSurrogate_5068e 8 = .ok (.i2c, 1) := by decide +kernel
theorem dJ11_lowSurrogate_5068e_9 : decode cJ11_lowSurrogate_5068e 9 = .ok (.ireturn, 1) := by decide +kernel
theorem dJ9_max_7cf53_0 : decode cJ9_max_7cf53 0 = .ok (.iload_n 0, 1) := by decide +kernel
theorem dJ9_max_7cf53_1 : decode cJ9_max_7cf53 1 = .ok (.iload_n 1, 1) := by decide +kernel
theorem dJ9_max_7cf53_2 : decode cJ9_max_7cf53 2 = .ok (.if_icmp .lt 7, 3) := by decide +kernel
theorem dJ9_max_7cf53_5 : decode cJ9_max_7cf53 5 = .ok (.iload_n 0, 1) := by decide +kernel
theorem dJ9_max_7cf53_6 : decode cJ9_max_7cf53 6 = .ok (.goto 4, 3) := by decide +kernel
theorem dJ9_max_7cf53_9 : decode cJ9_max_7cf53 9 = .ok (.iload_n 1, 1) := by decide +kernel
theorem dJ9_max_7cf53_10 : decode cJ9_max_7cf53 10 = .ok (.ireturn, 1) := by decide +kernel
theorem dJ9_min_7cf53_0 : decode cJ9_min_7cf53 0 = .ok (.iload_n 0, 1) := by decide +kernel
theorem dJ9_min_7cf53_1 : decode cJ9_min_7cf53 1 = .ok (.iload_n 1, 1) := by decide +kernel
theorem dJ9_min_7cf53_2 : decode cJ9_min_7cf53 2 = .ok (.if_icmp .gt 7, 3) := by decide +kernel
theorem dJ9_min_7cf53_5 : decode cJ9_min_7cf53 5 = .ok (.iload_n 0, 1) := by decide +kernel
theorem dJ9_min_7cf53_6 : decode cJ9_min_7cf53 6 = .ok (.goto 4, 3) := by decide +kernel
theorem dJ9_min_7cf53_9 : decode cJ9_min_7cf53 9 = .ok (.iload_n 1, 1) := by decide +kernel
theorem dJ9_min_7cf53_10 : decode cJ9_min_7cf53 10 = .ok (.ireturn, 1) := by decide +kernel
theorem dJ0_length_8abf5_0 : decode cJ0_length_8abf5 0 = .ok (.aload_n 0, 1) := by decide +kernel
theorem dJ0_length_8abf5_1 : decode cJ0_length_8abf5 1 = .ok (.getfield 9, 3) := by decide +kernel
theorem dJ0_length_8abf5_4 : decode cJ0_length_8abf5 4 = .ok (.arraylength, 1) := by decide +kernel
theorem dJ0_length_8abf5_5 : decode cJ0_length_8abf5 5 = .ok (.aload_n 0, 1) := by decide +kernel
theorem dJ0_length_8abf5_6 : decode cJ0_length_8abf5 6 = .ok (.invokevirtual 335, 3) := by decide +kernel
theorem dJ0_length_8abf5_9 : decode cJ0_length_8abf5 9 = .ok (.ishr, 1) := by decide +kernel
theorem dJ0_length_8abf5_10 : decode cJ0_length_8abf5 10 = .ok (.ireturn, 1) := by decide +kernel
theorem dJ0_charAt_5068e_0 : decode cJ0_charAt_5068e 0 = .ok (.aload_n 0, 1) := by decide +kernel
theorem dJ0_charAt_5068e_1 : decode cJ0_charAt_5068e 1 = .ok (.invokevirtual 492, 3) := by decide +kernel
theorem dJ0_charAt_5068e_4 : decode cJ0_charAt_5068e 4 = .ok (.ifCond .eq 12, 3) := by decide +kernel
theorem dJ0_charAt_5068e_7 : decode cJ0_charAt_5068e 7 = .ok (.aload_n 0, 1) := by decide +kernel
theorem dJ0_charAt_5068e_8 : decode cJ0_charAt_5068e 8 = .ok (.getfield 9, 3) := by decide +kernel
theorem dJ0_charAt_5068e_11 : decode cJ0_charAt_5068e 11 = .ok (.iload_n 1, 1) := by decide +kernel
theorem dJ0_charAt_5068e_12 : decode cJ0_charAt_5068e 12 = .ok (.invokestatic 495, 3) := by decide +kernel
theorem dJ0_charAt_5068e_15 : decode cJ0_charAt_5068e 15 = .ok (.ireturn, 1) := by decide +kernel
theorem dJ0_charAt_5068e_16 : decode cJ0_charAt_5068e 16 = .ok (.aload_n 0, 1) := by decide +kernel
theorem dJ0_charAt_5068e_17 : decode cJ0_charAt_5068e 17 = .ok (.getfield 9, 3) := by decide +kernel
theorem dJ0_charAt_5068e_20 : decode cJ0_charAt_5068e 20 = .ok (.iload_n 1, 1) := by decide +kernel
theorem dJ0_charAt_5068e_21 : decode cJ0_charAt_5068e 21 = .ok (.invokestatic 498, 3) := by decide +kernel
theorem dJ0_charAt_5068e_24 : decode cJ0_charAt_5068e 24 = .ok (.ireturn, 1) := by decide +kernel
theorem dJ0_indexOf_0f7a4_0 : decode cJ0_indexOf_0f7a4 0 = .ok (.aload_n 0, 1) := by decide +kernel
theorem dJ0_indexOf_0f7a4_1 : decode cJ0_indexOf_0f7a4 1 = .ok (.iload_n 1, 1) := by decide +kernel
theorem dJ0_indexOf_0f7a4_2 : decode cJ0_indexOf_0f7a4 2 = .ok (.iconst 0, 1) := by decide +kernel
theorem dJ0_indexOf_0f7a4_3 : decode cJ0_indexOf_0f7a4 3 = .ok (.invokevirtual 633, 3) := by decide +kernel
theorem dJ0_indexOf_0f7a4_6 : decode cJ0_indexOf_0f7a4 6 = .ok (.ireturn, 1) := by decide +kernel
theorem dJ0_indexOf_7cf53_0 : decode cJ0_indexOf_7cf53 0 = .ok (.aload_n 0, 1) := by decide +kernel
theorem dJ0_indexOf_7cf53_1 : decode cJ0_indexOf_7cf53 1 = .ok (.invokevirtual 492, 3) := by decide +kernel
theorem dJ0_indexOf_7cf53_4 : decode cJ0_indexOf_7cf53 4 = .ok (.ifCond .eq 19, 3) := by decide +kernel
theorem dJ0_indexOf_7cf53_7 : decode cJ0_indexOf_7cf53 7 = .ok (.aload_n 0, 1) := by decide +kernel
theorem dJ0_indexOf_7cf53_8 : decode cJ0_indexOf_7cf53 8 = .ok (.getfield 9, 3) := by decide +kernel
theorem dJ0_indexOf_7cf53_11 : decode cJ0_indexOf_7cf53 11 = .ok (.iload_n 1, 1) := by decide +kernel
theorem dJ0_indexOf_7cf53_12 : decode cJ0_indexOf_7cf53 12 = .ok (.iload_n 2, 1) := by decide +kernel
theorem dJ0_indexOf_7cf53_13 : decode cJ0_indexOf_7cf53 13 = .ok (.aload_n 0, 1) := by decide +kernel
theorem dJ0_indexOf_7cf53_14 : decode cJ0_indexOf_7cf53 14 = .ok (.invokevirtual 505, 3) := by decide +kernel
theorem dJ0_indexOf_7cf53_17 : decode cJ0_indexOf_7cf53 17 = .ok (.invokestatic 637, 3) := by decide +kernel
theorem dJ0_indexOf_7cf53_20 : decode cJ0_indexOf_7cf53 20 = .ok (.goto 16, 3) := by decide +kernel
theorem dJ0_indexOf_7cf53_23 : decode cJ0_indexOf_7cf53 23 = .ok (.aload_n 0, 1) := by decide +kernel
theorem dJ0_indexOf_7cf53_24 : decode cJ0_indexOf_7cf53 24 = .ok (.getfield 9, 3) := by decide +kernel
theorem dJ0_indexOf_7cf53_27 : decode cJ0_indexOf_7cf53 27 = .ok (.iload_n 1, 1) := by decide +kernel
theorem dJ0_indexOf_7cf53_28 : decode cJ0_indexOf_7cf53 28 = .ok (.iload_n 2, 1) := by decide +kernel
theorem dJ0_indexOf_7cf53_29 : decode cJ0_indexOf_7cf53 29 = .ok (.aload_n 0, 1) := by decide +kernel
theorem dJ0_indexOf_7cf53_30 : decode cJ0_indexOf_7cf53 30 = .ok (.invokevirtual 505, 3) := by decide +kernel
theorem dJ0_indexOf_7cf53_33 : decode cJ0_indexOf_7cf53 33 = .ok (.invokestatic 640, 3) := by decide +kernel
theorem dJ0_indexOf_7cf53_36 : decode cJ0_indexOf_7cf53 36 = .ok (.ireturn, 1) := by decide +kernel
theorem dJ0_coder_7d493_0 : decode cJ0_coder_7d493 0 = .ok (.getstatic 38, 3) := by decide +kernel
theorem dJ0_coder_7d493_3 : decode cJ0_coder_7d493 3 = .ok (.ifCond .eq 10, 3) := by decide +kernel
theorem dJ0_coder_7d493_6 : decode cJ0_coder_7d493 6 = .ok (.aload_n 0, 1) := by decide +kernel
theorem dJ0_coder_7d493_7 : decode cJ0_coder_7d493 7 = .ok (.getfield 15, 3) := by decide +kernel
theorem dJ0_coder_7d493_10 : decode cJ0_coder_7d493 10 = .ok (.goto 4, 3) := by decide +kernel
theorem dJ0_coder_7d493_13 : decode cJ0_coder_7d493 13 = .ok (.iconst 1, 1) := by decide +kernel
theorem dJ0_coder_7d493_14 : decode cJ0_coder_7d493 14 = .ok (.ireturn, 1) := by decide +kernel
theorem dJ0_isLatin1_aae02_0 : decode cJ0_isLatin1_aae02 0 = .ok (.getstatic 38, 3) := by decide +kernel
theorem dJ0_isLatin1_aae02_3 : decode cJ0_isLatin1_aae02 3 = .ok (.ifCond .eq 14, 3) := by decide +kernel
theorem dJ0_isLatin1_aae02_6 : decode cJ0_isLatin1_aae02 6 = .ok (.aload_n 0, 1) := by decide +kernel
theorem dJ0_isLatin1_aae02_7 : decode cJ0_isLatin1_aae02 7 = .ok (.getfield 15, 3) := by decide +kernel
theorem dJ0_isLatin1_aae02_10 : decode cJ0_isLatin1_aae02 10 = .ok (.ifCond .ne 7, 3) := by decide +kernel
theorem dJ0_isLatin1_aae02_13 : decode cJ0_isLatin1_aae02 13 = .ok (.iconst 1, 1) := by decide +kernel
theorem dJ0_isLatin1_aae02_14 : decode cJ0_isLatin1_aae02 14 = .ok (.goto 4, 3) := by decide +kernel
theorem dJ0_isLatin1_aae02_17 : decode cJ0_isLatin1_aae02 17 = .ok (.iconst 0, 1) := by decide +kernel
theorem dJ0_isLatin1_aae02_18 : decode cJ0_isLatin1_aae02 18 = .ok (.ireturn, 1) := by decide +kernel
theorem dJ0_checkIndex_df160_0 : decode cJ0_checkIndex_df160 0 = .ok (.iload_n 0, 1) := by decide +kernel
theorem dJ0_checkIndex_df160_1 : decode cJ0_checkIndex_df160 1 = .ok (.iload_n 1, 1) := by decide +kernel
theorem dJ0_checkIndex_df160_2 : decode cJ0_checkIndex_df160 2 = .ok (.getstatic 1053, 3) := by decide +kernel
theorem dJ0_checkIndex_df160_5 : decode cJ0_checkIndex_df160 5 = .ok (.invokestatic 1059, 3) := by decide +kernel
theorem dJ0_checkIndex_df160_8 : decode cJ0_checkIndex_df160 8 = .ok (.pop, 1) := by decide +kernel
theorem dJ0_checkIndex_df160_9 : decode cJ0_checkIndex_df160 9 = .ok (.return_, 1) := by decide +kernel
theorem dJ0_checkBoundsBeginEnd_23922_0 : decode cJ0_checkBoundsBeginEnd_23922 0 = .ok (.iload_n 0, 1) := by decide +kernel
theorem dJ0_checkBoundsBeginEnd_23922_1 : decode cJ0_checkBoundsBeginEnd_23922 1 = .ok (.iload_n 1, 1) := by decide +kernel
theorem dJ0_checkBoundsBeginEnd_23922_2 : decode cJ0_checkBoundsBeginEnd_23922 2 = .ok (.iload_n 2, 1) := by decide +kernel
theorem dJ0_checkBoundsBeginEnd_23922_3 : decode cJ0_checkBoundsBeginEnd_23922 3 = .ok (.getstatic 1053, 3) := by decide +kernel
theorem dJ0_checkBoundsBeginEnd_23922_6 : decode cJ0_checkBoundsBeginEnd_23922 6 = .ok (.invokestatic 1062, 3) := by decide +kernel
theorem dJ0_checkBoundsBeginEnd_23922_9 : decode cJ0_checkBoundsBeginEnd_23922 9 = .ok (.pop, 1) := by decide +kernel
theorem dJ0_checkBoundsBeginEnd_23922_10 : decode cJ0_checkBoundsBeginEnd_23922 10 = .ok (.return_, 1) := by decide +kernel
theorem dJ1_charAt_3b067_0 : decode cJ1_charAt_3b067 0 = .ok (.iload_n 1, 1) := by decide +kernel
theorem dJ1_charAt_3b067_1 : decode cJ1_charAt_3b067 1 = .ok (.aload_n 0, 1) := by decide +kernel
theorem dJ1_charAt_3b067_2 : decode cJ1_charAt_3b067 2 = .ok (.arraylength, 1) := by decide +kernel
theorem dJ1_charAt_3b067_3 : decode cJ1_charAt_3b067 3 = .ok (.invokestatic 9, 3) := by decide +kernel
theorem dJ1_charAt_3b067_6 : decode cJ1_charAt_3b067 6 = .ok (.aload_n 0, 1) := by decide +kernel
theorem dJ1_charAt_3b067_7 : decode cJ1_charAt_3b067 7 = .ok (.iload_n 1, 1) := by decide +kernel
theorem dJ1_charAt_3b067_8 : decode cJ1_charAt_3b067 8 = .ok (.baload, 1) := by decide +kernel
theorem dJ1_charAt_3b067_9 : decode cJ1_charAt_3b067 9 = .ok (.sipush 255, 3) := by decide +kernel
theorem dJ1_charAt_3b067_12 : decode cJ1_charAt_3b067 12 = .ok (.iand, 1) := by decide +kernel
theorem dJ1_charAt_3b067_13 : decode cJ1_charAt_3b067 13 = .ok (.i2c, 1) := by decide +kernel
theorem dJ1_charAt_3b067_14 : decode cJ1_charAt_3b067 14 = .ok (.ireturn, 1) := by decide +kernel
theorem dJ1_canEncode_9a6ad_0 : decode cJ1_canEncode_9a6ad 0 = .ok (.iload_n 0, 1) := by decide +kernel
theorem dJ1_canEncode_9a6ad_1 : decode cJ1_canEncode_9a6ad 1 = .ok (.ifCond .lt 14, 3) := by decide +kernel
theorem dJ1_canEncode_9a6ad_4 : decode cJ1_canEncode_9a6ad 4 = .ok (.iload_n 0, 1) := by decide +kernel
theorem dJ1_canEncode_9a6ad_5 : decode cJ1_canEncode_9a6ad 5 = .ok (.sipush 255, 3) := by decide +kernel
theorem dJ1_canEncode_9a6ad_8 : decode cJ1_canEncode_9a6ad 8 = .ok (.if_icmp .gt 7, 3) := by decide +kernel
theorem dJ1_canEncode_9a6ad_11 : decode cJ1_canEncode_9a6ad 11 = .ok (.iconst 1, 1) := by decide +kernel
theorem dJ1_canEncode_9a6ad_12 : decode cJ1_canEncode_9a6ad 12 = .ok (.goto 4, 3) := by decide +kernel
theorem dJ1_canEncode_9a6ad_15 : decode cJ1_canEncode_9a6ad 15 = .ok (.iconst 0, 1) := by decide +kernel
theorem dJ1_canEncode_9a6ad_16 : decode cJ1_canEncode_9a6ad 16 = .ok (.ireturn, 1) := by decide +kernel
theorem dJ1_indexOf_4cfef_0 : decode cJ1_indexOf_4cfef 0 = .ok (.iload_n 1, 1) := by decide +kernel
theorem dJ1_indexOf_4cfef_1 : decode cJ1_indexOf_4cfef 1 = .ok (.invokestatic 88, 3) := by decide +kernel
theorem dJ1_indexOf_4cfef_4 : decode cJ1_indexOf_4cfef 4 = .ok (.ifCond .ne 5, 3) := by decide +kernel
theorem dJ1_indexOf_4cfef_7 : decode cJ1_indexOf_4cfef 7 = .ok (.iconst (-1), 1) := by decide +kernel
theorem dJ1_indexOf_4cfef_8 : decode cJ1_indexOf_4cfef 8 = .ok (.ireturn, 1) := by decide +kernel
theorem dJ1_indexOf_4cfef_9 : decode cJ1_indexOf_4cfef 9 = .ok (.iload_n 2, 1) := by decide +kernel
theorem dJ1_indexOf_4cfef_10 : decode cJ1_indexOf_4cfef 10 = .ok (.iconst 0, 1) := by decide +kernel
theorem dJ1_indexOf_4cfef_11 : decode cJ1_indexOf_4cfef 11 = .ok (.invokestatic 92, 3) := by decide +kernel
theorem dJ1_indexOf_4cfef_14 : decode cJ1_indexOf_4cfef 14 = .ok (.istore_n 2, 1) := by decide +kernel
theorem dJ1_indexOf_4cfef_15 : decode cJ1_indexOf_4cfef 15 = .ok (.iload_n 3, 1) := by decide +kernel
theorem dJ1_indexOf_4cfef_16 : decode cJ1_indexOf_4cfef 16 = .ok (.aload_n 0, 1) := by decide +kernel
theorem dJ1_indexOf_4cfef_17 : decode cJ1_indexOf_4cfef 17 = .ok (.arraylength, 1) := by decide +kernel
theorem dJ1_indexOf_4cfef_18 : decode cJ1_indexOf_4cfef 18 = .ok (.invokestatic 38, 3) := by decide +kernel
theorem dJ1_indexOf_4cfef_21 : decode cJ1_indexOf_4cfef 21 = .ok (.istore_n 3, 1) := by decide +kernel
theorem dJ1_indexOf_4cfef_22 : decode cJ1_indexOf_4cfef 22 = .ok (.iload_n 2, 1) := by decide +kernel
theorem dJ1_indexOf_4cfef_23 : decode cJ1_indexOf_4cfef 23 = .ok (.iload_n 3, 1) := by decide +kernel
theorem dJ1_indexOf_4cfef_24 : decode cJ1_indexOf_4cfef 24 = .ok (.if_icmp .lt 5, 3) := by decide +kernel
theorem dJ1_indexOf_4cfef_27 : decode cJ1_indexOf_4cfef 27 = .ok (.iconst (-1), 1) := by decide +kernel
theorem dJ1_indexOf_4cfef_28 : decode cJ1_indexOf_4cfef 28 = .ok (.ireturn, 1) := by decide +kernel
theorem dJ1_indexOf_4cfef_29 : decode cJ1_indexOf_4cfef 29 = .ok (.aload_n 0, 1) := by decide +kernel
theorem dJ1_indexOf_4cfef_30 : decode cJ1_indexOf_4cfef 30 = .ok (.iload_n 1, 1) := by decide +kernel
theorem dJ1_indexOf_4cfef_31 : decode cJ1_indexOf_4cfef 31 = .ok (.iload_n 2, 1) := by decide +kernel
theorem dJ1_indexOf_4cfef_32 : decode cJ1_indexOf_4cfef 32 = .ok (.iload_n 3, 1) := by decide +kernel
theorem dJ1_indexOf_4cfef_33 : decode cJ1_indexOf_4cfef 33 = .ok (.invokestatic 95, 3) := by decide +kernel
theorem dJ1_indexOf_4cfef_36 : decode cJ1_indexOf_4cfef 36 = .ok (.ireturn, 1) := by decide +kernel
theorem dJ1_indexOfChar_4cfef_0 : decode cJ1_indexOfChar_4cfef 0 = .ok (.iload_n 1, 1) := by decide +kernel
theorem dJ1_indexOfChar_4cfef_1 : decode cJ1_indexOfChar_4cfef 1 = .ok (.i2b, 1) := by decide +kernel
theorem dJ1_indexOfChar_4cfef_2 : decode cJ1_indexOfChar_4cfef 2 = .ok (.istore 4, 2) := by decide +kernel
theorem dJ1_indexOfChar_4cfef_4 : decode cJ1_indexOfChar_4cfef 4 = .ok (.iload_n 2, 1) := by decide +kernel
theorem dJ1_indexOfChar_4cfef_5 : decode cJ1_indexOfChar_4cfef 5 = .ok (.istore 5, 2) := by decide +kernel
theorem dJ1_indexOfChar_4cfef_7 : decode cJ1_indexOfChar_4cfef 7 = .ok (.iload 5, 2) := by decide +kernel
theorem dJ1_indexOfChar_4cfef_9 : decode cJ1_indexOfChar_4cfef 9 = .ok (.iload_n 3, 1) := by decide +kernel
theorem dJ1_indexOfChar_4cfef_10 : decode cJ1_indexOfChar_4cfef 10 = .ok (.if_icmp .ge 21, 3) := by decide +kernel
theorem dJ1_indexOfChar_4cfef_13 : decode cJ1_indexOfChar_4cfef 13 = .ok (.aload_n 0, 1) := by decide +kernel
theorem dJ1_indexOfChar_4cfef_14 : decode cJ1_indexOfChar_4cfef 14 = .ok (.iload 5, 2) := by decide +kernel
theorem dJ1_indexOfChar_4cfef_16 : decode cJ1_indexOfChar_4cfef 16 = .ok (.baload, 1) := by decide +kernel
theorem dJ1_indexOfChar_4cfef_17 : decode cJ1_indexOfChar_4cfef 17 = .ok (.iload 4, 2) := by decide +kernel
theorem dJ1_indexOfChar_4cfef_19 : decode cJ1_indexOfChar_4cfef 19 = .ok (.if_icmp .ne 6, 3) := by decide +kernel
theorem dJ1_indexOfChar_4cfef_22 : decode cJ1_indexOfChar_4cfef 22 = .ok (.iload 5, 2) := by decide +kernel
theorem dJ1_indexOfChar_4cfef_24 : decode cJ1_indexOfChar_4cfef 24 = .ok (.ireturn, 1) := by decide +kernel
theorem dJ1_indexOfChar_4cfef_25 : decode cJ1_indexOfChar_4cfef 25 = .ok (.iinc 5 1, 3) := by decide +kernel
theorem dJ1_indexOfChar_4cfef_28 : decode cJ1_indexOfChar_4cfef 28 = .ok (.goto (-21), 3) := by decide +kernel
theorem dJ1_indexOfChar_4cfef_31 : decode cJ1_indexOfChar_4cfef 31 = .ok (.iconst (-1), 1) := by decide +kernel
theorem dJ1_indexOfChar_4cfef_32 : decode cJ1_indexOfChar_4cfef 32 = .ok (.ireturn, 1) := by decide +kernel
theorem dJ2_getChar_3b067_0 : decode cJ2_getChar_3b067 0 = .ok (.getstatic 44, 3) := by decide +kernel
theorem dJ2_getChar_3b067_3 : decode cJ2_getChar_3b067 3 = .ok (.ifCond .ne 25, 3) := by decide +kernel
theorem dJ2_getChar_3b067_6 : decode cJ2_getChar_3b067 6 = .ok (.iload_n 1, 1) := by decide +kernel
theorem dJ2_getChar_3b067_7 : decode cJ2_getChar_3b067 7 = .ok (.ifCond .lt 11, 3) := by decide +kernel
theorem dJ2_getChar_3b067_10 : decode cJ2_getChar_3b067 10 = .ok (.iload_n 1, 1) := by decide +kernel
theorem dJ2_getChar_3b067_11 : decode cJ2_getChar_3b067 11 = .ok (.aload_n 0, 1) := by decide +kernel
theorem dJ2_getChar_3b067_12 : decode cJ2_getChar_3b067 12 = .ok (.invokestatic 48, 3) := by decide +kernel
theorem dJ2_getChar_3b067_15 : decode cJ2_getChar_3b067 15 = .ok (.if_icmp .lt 13, 3) := by decide +kernel
theorem dJ2_getChar_3b067_18 : decode cJ2_getChar_3b067 18 = .ok (.new 52, 3) := by decide +kernel
theorem dJ2_getChar_3b067_21 : decode cJ2_getChar_3b067 21 = .ok (.dup, 1) := by decide +kernel
theorem dJ2_getChar_3b067_22 : decode cJ2_getChar_3b067 22 = .ok (.ldc 54, 2) := by decide +kernel
theorem dJ2_getChar_3b067_24 : decode cJ2_getChar_3b067 24 = .ok (.invokespecial 56, 3) := by decide +kernel
theorem dJ2_getChar_3b067_27 : decode cJ2_getChar_3b067 27 = .ok (.athrow, 1) := by decide +kernel
theorem dJ2_getChar_3b067_28 : decode cJ2_getChar_3b067 28 = .ok (.iload_n 1, 1) := by decide +kernel
theorem dJ2_getChar_3b067_29 : decode cJ2_getChar_3b067 29 = .ok (.iconst 1, 1) := by decide +kernel
theorem dJ2_getChar_3b067_30 : decode cJ2_getChar_3b067 30 = .ok (.ishl, 1) := by decide +kernel
theorem dJ2_getChar_3b067_31 : decode cJ2_getChar_3b067 31 = .ok (.istore_n 1, 1) := by decide +kernel
theorem dJ2_getChar_3b067_32 : decode cJ2_getChar_3b067 32 = .ok (.aload_n 0, 1) := by decide +kernel
theorem dJ2_getChar_3b067_33 : decode cJ2_getChar_3b067 33 = .ok (.iload_n 1, 1) := by decide +kernel
theorem dJ2_getChar_3b067_34 : decode cJ2_getChar_3b067 34 = .ok (.iinc 1 1, 3) := by decide +kernel
theorem dJ2_getChar_3b067_37 : decode cJ2_getChar_3b067 37 = .ok (.baload, 1) := by decide +kernel
theorem dJ2_getChar_3b067_38 : decode cJ2_getChar_3b067 38 = .ok (.sipush 255, 3) := by decide +kernel
theorem dJ2_getChar_3b067_41 : decode cJ2_getChar_3b067 41 = .ok (.iand, 1) := by decide +kernel
theorem dJ2_getChar_3b067_42 : decode cJ2_getChar_3b067 42 = .ok (.getstatic 59, 3) := by decide +kernel
theorem dJ2_getChar_3b067_45 : decode cJ2_getChar_3b067 45 = .ok (.ishl, 1) := by decide +kernel
theorem dJ2_getChar_3b067_46 : decode cJ2_getChar_3b067 46 = .ok (.aload_n 0, 1) := by decide +kernel
theorem dJ2_getChar_3b067_47 : decode cJ2_getChar_3b067 47 = .ok (.iload_n 1, 1) := by decide +kernel
theorem dJ2_getChar_3b067_48 : decode cJ2_getChar_3b067 48 = .ok (.baload, 1) := by decide +kernel
theorem dJ2_getChar_3b067_49 : decode cJ2_getChar_3b067 49 = .ok (.sipush 255, 3) := by decide +kernel
theorem dJ2_getChar_3b067_52 : decode cJ2_getChar_3b067 52 = .ok (.iand, 1) := by decide +kernel
theorem dJ2_getChar_3b067_53 : decode cJ2_getChar_3b067 53 = .ok (.getstatic 63, 3) := by decide +kernel
theorem dJ2_getChar_3b067_56 : decode cJ2_getChar_3b067 56 = .ok (.ishl, 1) := by decide +kernel
theorem dJ2_getChar_3b067_57 : decode cJ2_getChar_3b067 57 = .ok (.ior, 1) := by decide +kernel
theorem dJ2_getChar_3b067_58 : decode cJ2_getChar_3b067 58 = .ok (.i2c, 1) := by decide +kernel
theorem dJ2_getChar_3b067_59 : decode cJ2_getChar_3b067 59 = .ok (.ireturn, 1) := by decide +kernel
theorem dJ2_length_9d52b_0 : decode cJ2_length_9d52b 0 = .ok (.aload_n 0, 1) := by decide +kernel
theorem dJ2_length_9d52b_1 : decode cJ2_length_9d52b 1 = .ok (.arraylength, 1) := by decide +kernel
theorem dJ2_length_9d52b_2 : decode cJ2_length_9d52b 2 = .ok (.iconst 1, 1) := by decide +kernel
theorem dJ2_length_9d52b_3 : decode cJ2_length_9d52b 3 = .ok (.ishr, 1) := by decide +kernel
theorem dJ2_length_9d52b_4 : decode cJ2_length_9d52b 4 = .ok (.ireturn, 1) := by decide +kernel
theorem dJ2_indexOf_4cfef_0 : decode cJ2_indexOf_4cfef 0 = .ok (.iload_n 2, 1) := by decide +kernel
theorem dJ2_indexOf_4cfef_1 : decode cJ2_indexOf_4cfef 1 = .ok (.iconst 0, 1) := by decide +kernel
theorem dJ2_indexOf_4cfef_2 : decode cJ2_indexOf_4cfef 2 = .ok (.invokestatic 224, 3) := by decide +kernel
theorem dJ2_indexOf_4cfef_5 : decode cJ2_indexOf_4cfef 5 = .ok (.istore_n 2, 1) := by decide +kernel
theorem dJ2_indexOf_4cfef_6 : decode cJ2_indexOf_4cfef 6 = .ok (.iload_n 3, 1) := by decide +kernel
theorem dJ2_indexOf_4cfef_7 : decode cJ2_indexOf_4cfef 7 = .ok (.aload_n 0, 1) := by decide +kernel
theorem dJ2_indexOf_4cfef_8 : decode cJ2_indexOf_4cfef 8 = .ok (.arraylength, 1) := by decide +kernel
theorem dJ2_indexOf_4cfef_9 : decode cJ2_indexOf_4cfef 9 = .ok (.iconst 1, 1) := by decide +kernel
theorem dJ2_indexOf_4cfef_10 : decode cJ2_indexOf_4cfef 10 = .ok (.ishr, 1) := by decide +kernel
theorem dJ2_indexOf_4cfef_11 : decode cJ2_indexOf_4cfef 11 = .ok (.invokestatic 183, 3) := by decide +kernel
theorem dJ2_indexOf_4cfef_14 : decode cJ2_indexOf_4cfef 14 = .ok (.istore_n 3, 1) := by decide +kernel
theorem dJ2_indexOf_4cfef_15 : decode cJ2_indexOf_4cfef 15 = .ok (.iload_n 2, 1) := by decide +kernel
theorem dJ2_indexOf_4cfef_16 : decode cJ2_indexOf_4cfef 16 = .ok (.iload_n 3, 1) := by decide +kernel
theorem dJ2_indexOf_4cfef_17 : decode cJ2_indexOf_4cfef 17 = .ok (.if_icmp .lt 5, 3) := by decide +kernel
theorem dJ2_indexOf_4cfef_20 : decode cJ2_indexOf_4cfef 20 = .ok (.iconst (-1), 1) := by decide +kernel
theorem dJ2_indexOf_4cfef_21 : decode cJ2_indexOf_4cfef 21 = .ok (.ireturn, 1) := by decide +kernel
theorem dJ2_indexOf_4cfef_22 : decode cJ2_indexOf_4cfef 22 = .ok (.iload_n 1, 1) := by decide +kernel
theorem dJ2_indexOf_4cfef_23 : decode cJ2_indexOf_4cfef 23 = .ok (.ldc 227, 2) := by decide +kernel
theorem dJ2_indexOf_4cfef_25 : decode cJ2_indexOf_4cfef 25 = .ok (.if_icmp .ge 11, 3) := by decide +kernel
theorem dJ2_indexOf_4cfef_28 : decode cJ2_indexOf_4cfef 28 = .ok (.aload_n 0, 1) := by decide +kernel
theorem dJ2_indexOf_4cfef_29 : decode cJ2_indexOf_4cfef 29 = .ok (.iload_n 1, 1) := by decide +kernel
theorem dJ2_indexOf_4cfef_30 : decode cJ2_indexOf_4cfef 30 = .ok (.iload_n 2, 1) := by decide +kernel
theorem dJ2_indexOf_4cfef_31 : decode cJ2_indexOf_4cfef 31 = .ok (.iload_n 3, 1) := by decide +kernel
theorem dJ2_indexOf_4cfef_32 : decode cJ2_indexOf_4cfef 32 = .ok (.invokestatic 228, 3) := by decide +kernel
theorem dJ2_indexOf_4cfef_35 : decode cJ2_indexOf_4cfef 35 = .ok (.ireturn, 1) := by decide +kernel
theorem dJ2_indexOf_4cfef_36 : decode cJ2_indexOf_4cfef 36 = .ok (.aload_n 0, 1) := by decide +kernel
theorem dJ2_indexOf_4cfef_37 : decode cJ2_indexOf_4cfef 37 = .ok (.iload_n 1, 1) := by decide +kernel
theorem dJ2_indexOf_4cfef_38 : decode cJ2_indexOf_4cfef 38 = .ok (.iload_n 2, 1) := by decide +kernel
theorem dJ2_indexOf_4cfef_39 : decode cJ2_indexOf_4cfef 39 = .ok (.iload_n 3, 1) := by decide +kernel
theorem dJ2_indexOf_4cfef_40 : decode cJ2_indexOf_4cfef 40 = .ok (.invokestatic 232, 3) := by decide +kernel
theorem dJ2_indexOf_4cfef_43 : decode cJ2_indexOf_4cfef 43 = .ok (.ireturn, 1) := by decide +kernel
theorem dJ2_indexOfChar_4cfef_0 : decode cJ2_indexOfChar_4cfef 0 = .ok (.iload_n 2, 1) := by decide +kernel
theorem dJ2_indexOfChar_4cfef_1 : decode cJ2_indexOfChar_4cfef 1 = .ok (.iload_n 3, 1) := by decide +kernel
theorem dJ2_indexOfChar_4cfef_2 : decode cJ2_indexOfChar_4cfef 2 = .ok (.aload_n 0, 1) := by decide +kernel
theorem dJ2_indexOfChar_4cfef_3 : decode cJ2_indexOfChar_4cfef 3 = .ok (.invokestatic 96, 3) := by decide +kernel
theorem dJ2_indexOfChar_4cfef_6 : decode cJ2_indexOfChar_4cfef 6 = .ok (.aload_n 0, 1) := by decide +kernel
theorem dJ2_indexOfChar_4cfef_7 : decode cJ2_indexOfChar_4cfef 7 = .ok (.iload_n 1, 1) := by decide +kernel
theorem dJ2_indexOfChar_4cfef_8 : decode cJ2_indexOfChar_4cfef 8 = .ok (.iload_n 2, 1) := by decide +kernel
theorem dJ2_indexOfChar_4cfef_9 : decode cJ2_indexOfChar_4cfef 9 = .ok (.iload_n 3, 1) := by decide +kernel
theorem dJ2_indexOfChar_4cfef_10 : decode cJ2_indexOfChar_4cfef 10 = .ok (.invokestatic 244, 3) := by decide +kernel
theorem dJ2_indexOfChar_4cfef_13 : decode cJ2_indexOfChar_4cfef 13 = .ok (.ireturn, 1) := by decide +kernel
theorem dJ2_indexOfCharUnsafe_4cfef_0 : decode cJ2_indexOfCharUnsafe_4cfef 0 = .ok (.iload_n 2, 1) := by decide +kernel
theorem dJ2_indexOfCharUnsafe_4cfef_1 : decode cJ2_indexOfCharUnsafe_4cfef 1 = .ok (.istore 4, 2) := by decide +kernel
theorem dJ2_indexOfCharUnsafe_4cfef_3 : decode cJ2_indexOfCharUnsafe_4cfef 3 = .ok (.iload 4, 2) := by decide +kernel
theorem dJ2_indexOfCharUnsafe_4cfef_5 : decode cJ2_indexOfCharUnsafe_4cfef 5 = .ok (.iload_n 3, 1) := by decide +kernel
theorem dJ2_indexOfCharUnsafe_4cfef_6 : decode cJ2_indexOfCharUnsafe_4cfef 6 = .ok (.if_icmp .ge 22, 3) := by decide +kernel
theorem dJ2_indexOfCharUnsafe_4cfef_9 : decode cJ2_indexOfCharUnsafe_4cfef 9 = .ok (.aload_n 0, 1) := by decide +kernel
theorem dJ2_indexOfCharUnsafe_4cfef_10 : decode cJ2_indexOfCharUnsafe_4cfef 10 = .ok (.iload 4, 2) := by decide +kernel
theorem dJ2_indexOfCharUnsafe_4cfef_12 : decode cJ2_indexOfCharUnsafe_4cfef 12 = .ok (.invokestatic 71, 3) := by decide +kernel
theorem dJ2_indexOfCharUnsafe_4cfef_15 : decode cJ2_indexOfCharUnsafe_4cfef 15 = .ok (.iload_n 1, 1) := by decide +kernel
theorem dJ2_indexOfCharUnsafe_4cfef_16 : decode cJ2_indexOfCharUnsafe_4cfef 16 = .ok (.if_icmp .ne 6, 3) := by decide +kernel
theorem dJ2_indexOfCharUnsafe_4cfef_19 : decode cJ2_indexOfCharUnsafe_4cfef 19 = .ok (.iload 4, 2) := by decide +kernel
theorem dJ2_indexOfCharUnsafe_4cfef_21 : decode cJ2_indexOfCharUnsafe_4cfef 21 = .ok (.ireturn, 1) := by decide +kernel
theorem dJ2_indexOfCharUnsafe_4cfef_22 : decode cJ2_indexOfCharUnsafe_4cfef 22 = .ok (.iinc 4 1, 3) := by decide +kernel
theorem dJ2_indexOfCharUnsafe_4cfef_25 : decode cJ2_indexOfCharUnsafe_4cfef 25 = .ok (.goto (-22), 3) := by decide +kernel
theorem dJ2_indexOfCharUnsafe_4cfef_28 : decode cJ2_indexOfCharUnsafe_4cfef 28 = .ok (.iconst (-1), 1) := by decide +kernel
theorem dJ2_indexOfCharUnsafe_4cfef_29 : decode cJ2_indexOfCharUnsafe_4cfef 29 = .ok (.ireturn, 1) := by decide +kernel
theorem dJ2_indexOfSupplementary_4cfef_0 : decode cJ2_indexOfSupplementary_4cfef 0 = .ok (.iload_n 1, 1) := by decide +kernel
theorem dJ2_indexOfSupplementary_4cfef_1 : decode cJ2_indexOfSupplementary_4cfef 1 = .ok (.invokestatic 164, 3) := by decide +kernel
theorem dJ2_indexOfSupplementary_4cfef_4 : decode cJ2_indexOfSupplementary_4cfef 4 = .ok (.ifCond .eq 65, 3) := by decide +kernel
theorem dJ2_indexOfSupplementary_4cfef_7 : decode cJ2_indexOfSupplementary_4cfef 7 = .ok (.iload_n 1, 1) := by decide +kernel
theorem dJ2_indexOfSupplementary_4cfef_8 : decode cJ2_indexOfSupplementary_4cfef 8 = .ok (.invokestatic 157, 3) := by decide +kernel
theorem dJ2_indexOfSupplementary_4cfef_11 : decode cJ2_indexOfSupplementary_4cfef 11 = .ok (.istore 4, 2) := by decide +kernel
theorem dJ2_indexOfSupplementary_4cfef_13 : decode cJ2_indexOfSupplementary_4cfef 13 = .ok (.iload_n 1, 1) := by decide +kernel
theorem dJ2_indexOfSupplementary_4cfef_14 : decode cJ2_indexOfSupplementary_4cfef 14 = .ok (.invokestatic 161, 3) := by decide +kernel
theorem dJ2_indexOfSupplementary_4cfef_17 : decode cJ2_indexOfSupplementary_4cfef 17 = .ok (.istore 5, 2) := by decide +kernel
theorem dJ2_indexOfSupplementary_4cfef_19 : decode cJ2_indexOfSupplementary_4cfef 19 = .ok (.iload_n 2, 1) := by decide +kernel
theorem dJ2_indexOfSupplementary_4cfef_20 : decode cJ2_indexOfSupplementary_4cfef 20 = .ok (.iload_n 3, 1) := by decide +kernel
theorem dJ2_indexOfSupplementary_4cfef_21 : decode cJ2_indexOfSupplementary_4cfef 21 = .ok (.aload_n 0, 1) := by decide +kernel
theorem dJ2_indexOfSupplementary_4cfef_22 : decode cJ2_indexOfSupplementary_4cfef 22 = .ok (.invokestatic 96, 3) := by decide +kernel
theorem dJ2_indexOfSupplementary_4cfef_25 : decode cJ2_indexOfSupplementary_4cfef 25 = .ok (.iload_n 2, 1) := by decide +kernel
theorem dJ2_indexOfSupplementary_4cfef_26 : decode cJ2_indexOfSupplementary_4cfef 26 = .ok (.istore 6, 2) := by decide +kernel
theorem dJ2_indexOfSupplementary_4cfef_28 : decode cJ2_indexOfSupplementary_4cfef 28 = .ok (.iload 6, 2) := by decide +kernel
theorem dJ2_indexOfSupplementary_4cfef_30 : decode cJ2_indexOfSupplementary_4cfef 30 = .ok (.iload_n 3, 1) := by decide +kernel
theorem dJ2_indexOfSupplementary_4cfef_31 : decode cJ2_indexOfSupplementary_4cfef 31 = .ok (.iconst 1, 1) := by decide +kernel
theorem dJ2_indexOfSupplementary_4cfef_32 : decode cJ2_indexOfSupplementary_4cfef 32 = .ok (.isub, 1) := by decide +kernel
theorem dJ2_indexOfSupplementary_4cfef_33 : decode cJ2_indexOfSupplementary_4cfef 33 = .ok (.if_icmp .ge 36, 3) := by decide +kernel
theorem dJ2_indexOfSupplementary_4cfef_36 : decode cJ2_indexOfSupplementary_4cfef 36 = .ok (.aload_n 0, 1) := by decide +kernel
theorem dJ2_indexOfSupplementary_4cfef_37 : decode cJ2_indexOfSupplementary_4cfef 37 = .ok (.iload 6, 2) := by decide +kernel
theorem dJ2_indexOfSupplementary_4cfef_39 : decode cJ2_indexOfSupplementary_4cfef 39 = .ok (.invokestatic 71, 3) := by decide +kernel
theorem dJ2_indexOfSupplementary_4cfef_42 : decode cJ2_indexOfSupplementary_4cfef 42 = .ok (.iload 4, 2) := by decide +kernel
theorem dJ2_indexOfSupplementary_4cfef_44 : decode cJ2_indexOfSupplementary_4cfef 44 = .ok (.if_icmp .ne 19, 3) := by decide +kernel
theorem dJ2_indexOfSupplementary_4cfef_47 : decode cJ2_indexOfSupplementary_4cfef 47 = .ok (.aload_n 0, 1) := by decide +kernel
theorem dJ2_indexOfSupplementary_4cfef_48 : decode cJ2_indexOfSupplementary_4cfef 48 = .ok (.iload 6, 2) := by decide +kernel
theorem dJ2_indexOfSupplementary_4cfef_50 : decode cJ2_indexOfSupplementary_4cfef 50 = .ok (.iconst 1, 1) := by decide +kernel
theorem dJ2_indexOfSupplementary_4cfef_51 : decode cJ2_indexOfSupplementary_4cfef 51 = .ok (.iadd, 1) := by decide +kernel
theorem dJ2_indexOfSupplementary_4cfef_52 : decode cJ2_indexOfSupplementary_4cfef 52 = .ok (.invokestatic 71, 3) := by decide +kernel
theorem dJ2_indexOfSupplementary_4cfef_55 : decode cJ2_indexOfSupplementary_4cfef 55 = .ok (.iload 5, 2) := by decide +kernel
theorem dJ2_indexOfSupplementary_4cfef_57 : decode cJ2_indexOfSupplementary_4cfef 57 = .ok (.if_icmp .ne 6, 3) := by decide +kernel
theorem dJ2_indexOfSupplementary_4cfef_60 : decode cJ2_indexOfSupplementary_4cfef 60 = .ok (.iload 6, 2) := by decide +kernel
theorem dJ2_indexOfSupplementary_4cfef_62 : decode cJ2_indexOfSupplementary_4cfef 62 = .ok (.ireturn, 1) := by decide +kernel
theorem dJ2_indexOfSupplementary_4cfef_63 : decode cJ2_indexOfSupplementary_4cfef 63 = .ok (.iinc 6 1, 3) := by decide +kernel
theorem dJ2_indexOfSupplementary_4cfef_66 : decode cJ2_indexOfSupplementary_4cfef 66 = .ok (.goto (-38), 3) := by decide +kernel
theorem dJ2_indexOfSupplementary_4cfef_69 : decode cJ2_indexOfSupplementary_4cfef 69 = .ok (.iconst (-1), 1) := by decide +kernel
theorem dJ2_indexOfSupplementary_4cfef_70 : decode cJ2_indexOfSupplementary_4cfef 70 = .ok (.ireturn, 1) := by decide +kernel
theorem dJ2_charAt_3b067_0 : decode cJ2_charAt_3b067 0 = .ok (.iload_n 1, 1) := by decide +kernel
theorem dJ2_charAt_3b067_1 : decode cJ2_charAt_3b067 1 = .ok (.aload_n 0, 1) := by decide +kernel
theorem dJ2_charAt_3b067_2 : decode cJ2_charAt_3b067 2 = .ok (.invokestatic 67, 3) := by decide +kernel
theorem dJ2_charAt_3b067_5 : decode cJ2_charAt_3b067 5 = .ok (.aload_n 0, 1) := by decide +kernel
theorem dJ2_charAt_3b067_6 : decode cJ2_charAt_3b067 6 = .ok (.iload_n 1, 1) := by decide +kernel
theorem dJ2_charAt_3b067_7 : decode cJ2_charAt_3b067 7 = .ok (.invokestatic 71, 3) := by decide +kernel
theorem dJ2_charAt_3b067_10 : decode cJ2_charAt_3b067 10 = .ok (.ireturn, 1) := by decide +kernel
theorem dJ2_checkIndex_2214a_0 : decode cJ2_checkIndex_2214a 0 = .ok (.iload_n 0, 1) := by decide +kernel
theorem dJ2_checkIndex_2214a_1 : decode cJ2_checkIndex_2214a 1 = .ok (.aload_n 1, 1) := by decide +kernel
theorem dJ2_checkIndex_2214a_2 : decode cJ2_checkIndex_2214a 2 = .ok (.invokestatic 48, 3) := by decide +kernel
theorem dJ2_checkIndex_2214a_5 : decode cJ2_checkIndex_2214a 5 = .ok (.invokestatic 414, 3) := by decide +kernel
theorem dJ2_checkIndex_2214a_8 : decode cJ2_checkIndex_2214a 8 = .ok (.return_, 1) := by decide +kernel
theorem dJ2_checkBoundsBeginEnd_d044e_0 : decode cJ2_checkBoundsBeginEnd_d044e 0 = .ok (.iload_n 0, 1) := by decide +kernel
theorem dJ2_checkBoundsBeginEnd_d044e_1 : decode cJ2_checkBoundsBeginEnd_d044e 1 = .ok (.iload_n 1, 1) := by decide +kernel
theorem dJ2_checkBoundsBeginEnd_d044e_2 : decode cJ2_checkBoundsBeginEnd_d044e 2 = .ok (.aload_n 2, 1) := by decide +kernel
theorem dJ2_checkBoundsBeginEnd_d044e_3 : decode cJ2_checkBoundsBeginEnd_d044e 3 = .ok (.invokestatic 48, 3) := by decide +kernel
theorem dJ2_checkBoundsBeginEnd_d044e_6 : decode cJ2_checkBoundsBeginEnd_d044e 6 = .ok (.invokestatic 241, 3) := by decide +kernel
theorem dJ2_checkBoundsBeginEnd_d044e_9 : decode cJ2_checkBoundsBeginEnd_d044e 9 = .ok (.return_, 1) := by decide +kernel
theorem dJ3_checkIndex_8e157_0 : decode cJ3_checkIndex_8e157 0 = .ok (.iload_n 0, 1) := by decide +kernel
theorem dJ3_checkIndex_8e157_1 : decode cJ3_checkIndex_8e157 1 = .ok (.ifCond .lt 8, 3) := by decide +kernel
theorem dJ3_checkIndex_8e157_4 : decode cJ3_checkIndex_8e157 4 = .ok (.iload_n 0, 1) := by decide +kernel
theorem dJ3_checkIndex_8e157_5 : decode cJ3_checkIndex_8e157 5 = .ok (.iload_n 1, 1) := by decide +kernel
theorem dJ3_checkIndex_8e157_6 : decode cJ3_checkIndex_8e157 6 = .ok (.if_icmp .lt 10, 3) := by decide +kernel
theorem dJ3_checkIndex_8e157_9 : decode cJ3_checkIndex_8e157 9 = .ok (.aload_n 2, 1) := by decide +kernel
theorem dJ3_checkIndex_8e157_10 : decode cJ3_checkIndex_8e157 10 = .ok (.iload_n 0, 1) := by decide +kernel
theorem dJ3_checkIndex_8e157_11 : decode cJ3_checkIndex_8e157 11 = .ok (.iload_n 1, 1) := by decide +kernel
theorem dJ3_checkIndex_8e157_12 : decode cJ3_checkIndex_8e157 12 = .ok (.invokestatic 95, 3) := by decide +kernel
theorem dJ3_checkIndex_8e157_15 : decode cJ3_checkIndex_8e157 15 = .ok (.athrow, 1) := by decide +kernel
theorem dJ3_checkIndex_8e157_16 : decode cJ3_checkIndex_8e157 16 = .ok (.iload_n 0, 1) := by decide +kernel
theorem dJ3_checkIndex_8e157_17 : decode cJ3_checkIndex_8e157 17 = .ok (.ireturn, 1) := by decide +kernel
theorem dJ3_checkFromToIndex_8c36e_0 : decode cJ3_checkFromToIndex_8c36e 0 = .ok (.iload_n 0, 1) := by decide +kernel
theorem dJ3_checkFromToIndex_8c36e_1 : decode cJ3_checkFromToIndex_8c36e 1 = .ok (.ifCond .lt 13, 3) := by decide +kernel
theorem dJ3_checkFromToIndex_8c36e_4 : decode cJ3_checkFromToIndex_8c36e 4 = .ok (.iload_n 0, 1) := by decide +kernel
theorem dJ3_checkFromToIndex_8c36e_5 : decode cJ3_checkFromToIndex_8c36e 5 = .ok (.iload_n 1, 1) := by decide +kernel
theorem dJ3_checkFromToIndex_8c36e_6 : decode cJ3_checkFromToIndex_8c36e 6 = .ok (.if_icmp .gt 8, 3) := by decide +kernel
theorem dJ3_checkFromToIndex_8c36e_9 : decode cJ3_checkFromToIndex_8c36e 9 = .ok (.iload_n 1, 1) := by decide +kernel
theorem dJ3_checkFromToIndex_8c36e_10 : decode cJ3_checkFromToIndex_8c36e 10 = .ok (.iload_n 2, 1) := by decide +kernel
theorem dJ3_checkFromToIndex_8c36e_11 : decode cJ3_checkFromToIndex_8c36e 11 = .ok (.if_icmp .le 11, 3) := by decide +kernel
theorem dJ3_checkFromToIndex_8c36e_14 : decode cJ3_checkFromToIndex_8c36e 14 = .ok (.aload_n 3, 1) := by decide +kernel
theorem dJ3_checkFromToIndex_8c36e_15 : decode cJ3_checkFromToIndex_8c36e 15 = .ok (.iload_n 0, 1) := by decide +kernel
theorem dJ3_checkFromToIndex_8c36e_16 : decode cJ3_checkFromToIndex_8c36e 16 = .ok (.iload_n 1, 1) := by decide +kernel
theorem dJ3_checkFromToIndex_8c36e_17 : decode cJ3_checkFromToIndex_8c36e 17 = .ok (.iload_n 2, 1) := by decide +kernel
theorem dJ3_checkFromToIndex_8c36e_18 : decode cJ3_checkFromToIndex_8c36e 18 = .ok (.invokestatic 99, 3) := by decide +kernel
theorem dJ3_checkFromToIndex_8c36e_21 : decode cJ3_checkFromToIndex_8c36e 21 = .ok (.athrow, 1) := by decide +kernel
theorem dJ3_checkFromToIndex_8c36e_22 : decode cJ3_checkFromToIndex_8c36e 22 = .ok (.iload_n 0, 1) := by decide +kernel
theorem dJ3_checkFromToIndex_8c36e_23 : decode cJ3_checkFromToIndex_8c36e 23 = .ok (.ireturn, 1) := by decide +kernel
theorem dL_type_0 : decode cL_type 0 = .ok (.aload_n 2, 1) := by decide +kernel
theorem dL_type_1 : decode cL_type 1 = .ok (.iconst 0, 1) := by decide +kernel
theorem dL_type_2 : decode cL_type 2 = .ok (.aload_n 0, 1) := by decide +kernel
theorem dL_type_3 : decode cL_type 3 = .ok (.iload_n 1, 1) := by decide +kernel
theorem dL_type_4 : decode cL_type 4 = .ok (.invokevirtual 7, 3) := by decide +kernel
theorem dL_type_7 : decode cL_type 7 = .ok (.i2l, 1) := by decide +kernel
theorem dL_type_8 : decode cL_type 8 = .ok (.lastore, 1) := by decide +kernel
theorem dL_type_9 : decode cL_type 9 = .ok (.goto 6, 3) := by decide +kernel
theorem dL_type_12 : decode cL_type 12 = .ok (.astore_n 3, 1) := by decide +kernel
theorem dL_type_13 : decode cL_type 13 = .ok (.iconst 1, 1) := by decide +kernel
theorem dL_type_14 : decode cL_type 14 = .ok (.ireturn, 1) := by decide +kernel
theorem dL_type_15 : decode cL_type 15 = .ok (.iconst 0, 1) := by decide +kernel
theorem dL_type_16 : decode cL_type 16 = .ok (.ireturn, 1) := by decide +kernel
theorem dL_read_0 : decode cL_read 0 = .ok (.aload_n 1, 1) := by decide +kernel
theorem dL_read_1 : decode cL_read 1 = .ok (.iconst 0, 1) := by decide +kernel
theorem dL_read_2 : decode cL_read 2 = .ok (.aload_n 0, 1) := by decide +kernel
theorem dL_read_3 : decode cL_read 3 = .ok (.invokevirtual 15, 3) := by decide +kernel
theorem dL_read_6 : decode cL_read 6 = .ok (.i2l, 1) := by decide +kernel
theorem dL_read_7 : decode cL_read 7 = .ok (.lastore, 1) := by decide +kernel
theorem dL_read_8 : decode cL_read 8 = .ok (.goto 6, 3) := by decide +kernel
theorem dL_read_11 : decode cL_read 11 = .ok (.astore_n 2, 1) := by decide +kernel
theorem dL_read_12 : decode cL_read 12 = .ok (.iconst 1, 1) := by decide +kernel
theorem dL_read_13 : decode cL_read 13 = .ok (.ireturn, 1) := by decide +kernel
theorem dL_read_14 : decode cL_read 14 = .ok (.iconst 0, 1) := by decide +kernel
theorem dL_read_15 : decode cL_read 15 = .ok (.ireturn, 1) := by decide +kernel
theorem dL_node_0 : decode cL_node 0 = .ok (.aload 4, 2) := by decide +kernel
theorem dL_node_2 : decode cL_node 2 = .ok (.iconst 0, 1) := by decide +kernel
theorem dL_node_3 : decode cL_node 3 = .ok (.aload_n 0, 1) := by decide +kernel
theorem dL_node_4 : decode cL_node 4 = .ok (.iload_n 1, 1) := by decide +kernel
theorem dL_node_5 : decode cL_node 5 = .ok (.iload_n 2, 1) := by decide +kernel
theorem dL_node_6 : decode cL_node 6 = .ok (.iload_n 3, 1) := by decide +kernel
theorem dL_node_7 : decode cL_node 7 = .ok (.invokevirtual 19, 3) := by decide +kernel
theorem dL_node_10 : decode cL_node 10 = .ok (.i2l, 1) := by decide +kernel
theorem dL_node_11 : decode cL_node 11 = .ok (.lastore, 1) := by decide +kernel
theorem dL_node_12 : decode cL_node 12 = .ok (.goto 11, 3) := by decide +kernel
theorem dL_node_15 : decode cL_node 15 = .ok (.astore 5, 2) := by decide +kernel
theorem dL_node_17 : decode cL_node 17 = .ok (.iconst 1, 1) := by decide +kernel
theorem dL_node_18 : decode cL_node 18 = .ok (.ireturn, 1) := by decide +kernel
theorem dL_node_19 : decode cL_node 19 = .ok (.astore 5, 2) := by decide +kernel
theorem dL_node_21 : decode cL_node 21 = .ok (.iconst 2, 1) := by decide +kernel
theorem dL_node_22 : decode cL_node 22 = .ok (.ireturn, 1) := by decide +kernel
theorem dL_node_23 : decode cL_node 23 = .ok (.iconst 0, 1) := by decide +kernel
theorem dL_node_24 : decode cL_node 24 = .ok (.ireturn, 1) := by decide +kernel
theorem dL_isSame_0 : decode cL_isSame 0 = .ok (.aload_n 3, 1) := by decide +kernel
theorem dL_isSame_1 : decode cL_isSame 1 = .ok (.iconst 0, 1) := by decide +kernel
theorem dL_isSame_2 : decode cL_isSame 2 = .ok (.aload_n 0, 1) := by decide +kernel
theorem dL_isSame_3 : decode cL_isSame 3 = .ok (.iload_n 1, 1) := by decide +kernel
theorem dL_isSame_4 : decode cL_isSame 4 = .ok (.iload_n 2, 1) := by decide +kernel
theorem dL_isSame_5 : decode cL_isSame 5 = .ok (.invokevirtual 27, 3) := by decide +kernel
theorem dL_isSame_8 : decode cL_isSame 8 = .ok (.ifCond .eq 7, 3) := by decide +kernel
theorem dL_isSame_11 : decode cL_isSame 11 = .ok (.lconst 1, 1) := by decide +kernel
theorem dL_isSame_12 : decode cL_isSame 12 = .ok (.goto 4, 3) := by decide +kernel
theorem dL_isSame_15 : decode cL_isSame 15 = .ok (.lconst 0, 1) := by decide +kernel
theorem dL_isSame_16 : decode cL_isSame 16 = .ok (.lastore, 1) := by decide +kernel
theorem dL_isSame_17 : decode cL_isSame 17 = .ok (.goto 7, 3) := by decide +kernel
theorem dL_isSame_20 : decode cL_isSame 20 = .ok (.astore 4, 2) := by decide +kernel
theorem dL_isSame_22 : decode cL_isSame 22 = .ok (.iconst 1, 1) := by decide +kernel
theorem dL_isSame_23 : decode cL_isSame 23 = .ok (.ireturn, 1) := by decide +kernel
theorem dL_isSame_24 : decode cL_isSame 24 = .ok (.iconst 0, 1) := by decide +kernel
theorem dL_isSame_25 : decode cL_isSame 25 = .ok (.ireturn, 1) := by decide +kernel
theorem dL_part_0 : decode cL_part 0 = .ok (.aload_n 3, 1) := by decide +kernel
theorem dL_part_1 : decode cL_part 1 = .ok (.iconst 0, 1) := by decide +kernel
theorem dL_part_2 : decode cL_part 2 = .ok (.aload_n 0, 1) := by decide +kernel
theorem dL_part_3 : decode cL_part 3 = .ok (.iload_n 1, 1) := by decide +kernel
theorem dL_part_4 : decode cL_part 4 = .ok (.iload_n 2, 1) := by decide +kernel
theorem dL_part_5 : decode cL_part 5 = .ok (.invokevirtual 31, 3) := by decide +kernel
theorem dL_part_8 : decode cL_part 8 = .ok (.i2l, 1) := by decide +kernel
theorem dL_part_9 : decode cL_part 9 = .ok (.lastore, 1) := by decide +kernel
theorem dL_part_10 : decode cL_part 10 = .ok (.goto 11, 3) := by decide +kernel
theorem dL_part_13 : decode cL_part 13 = .ok (.astore 4, 2) := by decide +kernel
theorem dL_part_15 : decode cL_part 15 = .ok (.iconst 1, 1) := by decide +kernel
theorem dL_part_16 : decode cL_part 16 = .ok (.ireturn, 1) := by decide +kernel
theorem dL_part_17 : decode cL_part 17 = .ok (.astore 4, 2) := by decide +kernel
theorem dL_part_19 : decode cL_part 19 = .ok (.iconst 2, 1) := by decide +kernel
theorem dL_part_20 : decode cL_part 20 = .ok (.ireturn, 1) := by decide +kernel
theorem dL_part_21 : decode cL_part 21 = .ok (.iconst 0, 1) := by decide +kernel
theorem dL_part_22 : decode cL_part 22 = .ok (.ireturn, 1) := by decide +kernel
theorem dL_graft_0 : decode cL_graft 0 = .ok (.aload 4, 2) := by decide +kernel
theorem dL_graft_2 : decode cL_graft 2 = .ok (.iconst 0, 1) := by decide +kernel
theorem dL_graft_3 : decode cL_graft 3 = .ok (.aload_n 0, 1) := by decide +kernel
theorem dL_graft_4 : decode cL_graft 4 = .ok (.iload_n 1, 1) := by decide +kernel
theorem dL_graft_5 : decode cL_graft 5 = .ok (.iload_n 2, 1) := by decide +kernel
theorem dL_graft_6 : decode cL_graft 6 = .ok (.iload_n 3, 1) := by decide +kernel
theorem dL_graft_7 : decode cL_graft 7 = .ok (.invokevirtual 35, 3) := by decide +kernel
theorem dL_graft_10 : decode cL_graft 10 = .ok (.i2l, 1) := by decide +kernel
theorem dL_graft_11 : decode cL_graft 11 = .ok (.lastore, 1) := by decide +kernel
theorem dL_graft_12 : decode cL_graft 12 = .ok (.goto 15, 3) := by decide +kernel
theorem dL_graft_15 : decode cL_graft 15 = .ok (.astore 5, 2) := by decide +kernel
theorem dL_graft_17 : decode cL_graft 17 = .ok (.iconst 1, 1) := by decide +kernel
theorem dL_graft_18 : decode cL_graft 18 = .ok (.ireturn, 1) := by decide +kernel
theorem dL_graft_19 : decode cL_graft 19 = .ok (.astore 5, 2) := by decide +kernel
theorem dL_graft_21 : decode cL_graft 21 = .ok (.iconst 2, 1) := by decide +kernel
theorem dL_graft_22 : decode cL_graft 22 = .ok (.ireturn, 1) := by decide +kernel
theorem dL_graft_23 : decode cL_graft 23 = .ok (.astore 5, 2) := by decide +kernel
theorem dL_graft_25 : decode cL_graft 25 = .ok (.iconst 3, 1) := by decide +kernel
theorem dL_graft_26 : decode cL_graft 26 = .ok (.ireturn, 1) := by decide +kernel
theorem dL_graft_27 : decode cL_graft 27 = .ok (.iconst 0, 1) := by decide +kernel
theorem dL_graft_28 : decode cL_graft 28 = .ok (.ireturn, 1) := by decide +kernel
theorem dL_tell_0 : decode cL_tell 0 = .ok (.aload 6, 2) := by decide +kernel
theorem dL_tell_2 : decode cL_tell 2 = .ok (.iconst 0, 1) := by decide +kernel
theorem dL_tell_3 : decode cL_tell 3 = .ok (.aload_n 0, 1) := by decide +kernel
theorem dL_tell_4 : decode cL_tell 4 = .ok (.iload_n 1, 1) := by decide +kernel
theorem dL_tell_5 : decode cL_tell 5 = .ok (.iload_n 2, 1) := by decide +kernel
theorem dL_tell_6 : decode cL_tell 6 = .ok (.iload_n 3, 1) := by decide +kernel
theorem dL_tell_7 : decode cL_tell 7 = .ok (.iload 4, 2) := by decide +kernel
theorem dL_tell_9 : decode cL_tell 9 = .ok (.iload 5, 2) := by decide +kernel
theorem dL_tell_11 : decode cL_tell 11 = .ok (.invokevirtual 39, 3) := by decide +kernel
theorem dL_tell_14 : decode cL_tell 14 = .ok (.i2l, 1) := by decide +kernel
theorem dL_tell_15 : decode cL_tell 15 = .ok (.lastore, 1) := by decide +kernel
theorem dL_tell_16 : decode cL_tell 16 = .ok (.goto 11, 3) := by decide +kernel
theorem dL_tell_19 : decode cL_tell 19 = .ok (.astore 7, 2) := by decide +kernel
theorem dL_tell_21 : decode cL_tell 21 = .ok (.iconst 1, 1) := by decide +kernel
theorem dL_tell_22 : decode cL_tell 22 = .ok (.ireturn, 1) := by decide +kernel
theorem dL_tell_23 : decode cL_tell 23 = .ok (.astore 7, 2) := by decide +kernel
theorem dL_tell_25 : decode cL_tell 25 = .ok (.iconst 2, 1) := by decide +kernel
theorem dL_tell_26 : decode cL_tell 26 = .ok (.ireturn, 1) := by decide +kernel
theorem dL_tell_27 : decode cL_tell 27 = .ok (.iconst 0, 1) := by decide +kernel
theorem dL_tell_28 : decode cL_tell 28 = .ok (.ireturn, 1) := by decide +kernel
theorem dL_told_0 : decode cL_told 0 = .ok (.aload 4, 2) := by decide +kernel
theorem dL_told_2 : decode cL_told 2 = .ok (.iconst 0, 1) := by decide +kernel
theorem dL_told_3 : decode cL_told 3 = .ok (.aload_n 0, 1) := by decide +kernel
theorem dL_told_4 : decode cL_told 4 = .ok (.iload_n 1, 1) := by decide +kernel
theorem dL_told_5 : decode cL_told 5 = .ok (.iload_n 2, 1) := by decide +kernel
theorem dL_told_6 : decode cL_told 6 = .ok (.iload_n 3, 1) := by decide +kernel
theorem dL_told_7 : decode cL_told 7 = .ok (.invokevirtual 43, 3) := by decide +kernel
theorem dL_told_10 : decode cL_told 10 = .ok (.i2l, 1) := by decide +kernel
theorem dL_told_11 : decode cL_told 11 = .ok (.lastore, 1) := by decide +kernel
theorem dL_told_12 : decode cL_told 12 = .ok (.goto 7, 3) := by decide +kernel
theorem dL_told_15 : decode cL_told 15 = .ok (.astore 5, 2) := by decide +kernel
theorem dL_told_17 : decode cL_told 17 = .ok (.iconst 1, 1) := by decide +kernel
theorem dL_told_18 : decode cL_told 18 = .ok (.ireturn, 1) := by decide +kernel
theorem dL_told_19 : decode cL_told 19 = .ok (.iconst 0, 1) := by decide +kernel
theorem dL_told_20 : decode cL_told 20 = .ok (.ireturn, 1) := by decide +kernel
theorem dL_print_0 : decode cL_print 0 = .ok (.aload_n 2, 1) := by decide +kernel
theorem dL_print_1 : decode cL_print 1 = .ok (.iconst 0, 1) := by decide +kernel
theorem dL_print_2 : decode cL_print 2 = .ok (.aload_n 0, 1) := by decide +kernel
theorem dL_print_3 : decode cL_print 3 = .ok (.iload_n 1, 1) := by decide +kernel
theorem dL_print_4 : decode cL_print 4 = .ok (.invokevirtual 47, 3) := by decide +kernel
theorem dL_print_7 : decode cL_print 7 = .ok (.i2l, 1) := by decide +kernel
theorem dL_print_8 : decode cL_print 8 = .ok (.lastore, 1) := by decide +kernel
theorem dL_print_9 : decode cL_print 9 = .ok (.goto 6, 3) := by decide +kernel
theorem dL_print_12 : decode cL_print 12 = .ok (.astore_n 3, 1) := by decide +kernel
theorem dL_print_13 : decode cL_print 13 = .ok (.iconst 1, 1) := by decide +kernel
theorem dL_print_14 : decode cL_print 14 = .ok (.ireturn, 1) := by decide +kernel
theorem dL_print_15 : decode cL_print 15 = .ok (.iconst 0, 1) := by decide +kernel
theorem dL_print_16 : decode cL_print 16 = .ok (.ireturn, 1) := by decide +kernel
theorem dL_postfix_0 : decode cL_postfix 0 = .ok (.aload_n 2, 1) := by decide +kernel
theorem dL_postfix_1 : decode cL_postfix 1 = .ok (.iconst 0, 1) := by decide +kernel
theorem dL_postfix_2 : decode cL_postfix 2 = .ok (.aload_n 0, 1) := by decide +kernel
theorem dL_postfix_3 : decode cL_postfix 3 = .ok (.iload_n 1, 1) := by decide +kernel
theorem dL_postfix_4 : decode cL_postfix 4 = .ok (.invokevirtual 51, 3) := by decide +kernel
theorem dL_postfix_7 : decode cL_postfix 7 = .ok (.i2l, 1) := by decide +kernel
theorem dL_postfix_8 : decode cL_postfix 8 = .ok (.lastore, 1) := by decide +kernel
theorem dL_postfix_9 : decode cL_postfix 9 = .ok (.goto 9, 3) := by decide +kernel
theorem dL_postfix_12 : decode cL_postfix 12 = .ok (.astore_n 3, 1) := by decide +kernel
theorem dL_postfix_13 : decode cL_postfix 13 = .ok (.iconst 1, 1) := by decide +kernel
theorem dL_postfix_14 : decode cL_postfix 14 = .ok (.ireturn, 1) := by decide +kernel
theorem dL_postfix_15 : decode cL_postfix 15 = .ok (.astore_n 3, 1) := by decide +kernel
theorem dL_postfix_16 : decode cL_postfix 16 = .ok (.iconst 2, 1) := by decide +kernel
theorem dL_postfix_17 : decode cL_postfix 17 = .ok (.ireturn, 1) := by decide +kernel
theorem dL_postfix_18 : decode cL_postfix 18 = .ok (.iconst 0, 1) := by decide +kernel
theorem dL_postfix_19 : decode cL_postfix 19 = .ok (.ireturn, 1) := by decide +kernel
theorem dL_out_0 : decode cL_out 0 = .ok (.aload_n 2, 1) := by decide +kernel
theorem dL_out_1 : decode cL_out 1 = .ok (.iconst 0, 1) := by decide +kernel
theorem dL_out_2 : decode cL_out 2 = .ok (.aload_n 0, 1) := by decide +kernel
theorem dL_out_3 : decode cL_out 3 = .ok (.iload_n 1, 1) := by decide +kernel
theorem dL_out_4 : decode cL_out 4 = .ok (.invokevirtual 54, 3) := by decide +kernel
theorem dL_out_7 : decode cL_out 7 = .ok (.i2l, 1) := by decide +kernel
theorem dL_out_8 : decode cL_out 8 = .ok (.lastore, 1) := by decide +kernel
theorem dL_out_9 : decode cL_out 9 = .ok (.goto 6, 3) := by decide +kernel
theorem dL_out_12 : decode cL_out 12 = .ok (.astore_n 3, 1) := by decide +kernel
theorem dL_out_13 : decode cL_out 13 = .ok (.iconst 1, 1) := by decide +kernel
theorem dL_out_14 : decode cL_out 14 = .ok (.ireturn, 1) := by decide +kernel
theorem dL_out_15 : decode cL_out 15 = .ok (.iconst 0, 1) := by decide +kernel
theorem dL_out_16 : decode cL_out 16 = .ok (.ireturn, 1) := by decide +kernel
theorem dL_evaluate_0 : decode cL_evaluate 0 = .ok (.aload_n 2, 1) := by decide +kernel
theorem dL_evaluate_1 : decode cL_evaluate 1 = .ok (.iconst 0, 1) := by decide +kernel
theorem dL_evaluate_2 : decode cL_evaluate 2 = .ok (.aload_n 0, 1) := by decide +kernel
theorem dL_evaluate_3 : decode cL_evaluate 3 = .ok (.iload_n 1, 1) := by decide +kernel
theorem dL_evaluate_4 : decode cL_evaluate 4 = .ok (.invokevirtual 57, 3) := by decide +kernel
theorem dL_evaluate_7 : decode cL_evaluate 7 = .ok (.i2l, 1) := by decide +kernel
theorem dL_evaluate_8 : decode cL_evaluate 8 = .ok (.lastore, 1) := by decide +kernel
theorem dL_evaluate_9 : decode cL_evaluate 9 = .ok (.goto 6, 3) := by decide +kernel
theorem dL_evaluate_12 : decode cL_evaluate 12 = .ok (.astore_n 3, 1) := by decide +kernel
theorem dL_evaluate_13 : decode cL_evaluate 13 = .ok (.iconst 1, 1) := by decide +kernel
theorem dL_evaluate_14 : decode cL_evaluate 14 = .ok (.ireturn, 1) := by decide +kernel
theorem dL_evaluate_15 : decode cL_evaluate 15 = .ok (.iconst 0, 1) := by decide +kernel
theorem dL_evaluate_16 : decode cL_evaluate 16 = .ok (.ireturn, 1) := by decide +kernel
theorem dL_reckon_0 : decode cL_reckon 0 = .ok (.aload_n 2, 1) := by decide +kernel
theorem dL_reckon_1 : decode cL_reckon 1 = .ok (.iconst 0, 1) := by decide +kernel
theorem dL_reckon_2 : decode cL_reckon 2 = .ok (.aload_n 0, 1) := by decide +kernel
theorem dL_reckon_3 : decode cL_reckon 3 = .ok (.iload_n 1, 1) := by decide +kernel
theorem dL_reckon_4 : decode cL_reckon 4 = .ok (.invokevirtual 60, 3) := by decide +kernel
theorem dL_reckon_7 : decode cL_reckon 7 = .ok (.i2l, 1) := by decide +kernel
theorem dL_reckon_8 : decode cL_reckon 8 = .ok (.lastore, 1) := by decide +kernel
theorem dL_reckon_9 : decode cL_reckon 9 = .ok (.goto 9, 3) := by decide +kernel
theorem dL_reckon_12 : decode cL_reckon 12 = .ok (.astore_n 3, 1) := by decide +kernel
theorem dL_reckon_13 : decode cL_reckon 13 = .ok (.iconst 1, 1) := by decide +kernel
theorem dL_reckon_14 : decode cL_reckon 14 = .ok (.ireturn, 1) := by decide +kernel
theorem dL_reckon_15 : decode cL_reckon 15 = .ok (.astore_n 3, 1) := by decide +kernel
theorem dL_reckon_16 : decode cL_reckon 16 = .ok (.iconst 2, 1) := by decide +kernel
theorem dL_reckon_17 : decode cL_reckon 17 = .ok (.ireturn, 1) := by decide +kernel
theorem dL_reckon_18 : decode cL_reckon 18 = .ok (.iconst 0, 1) := by decide +kernel
theorem dL_reckon_19 : decode cL_reckon 19 = .ok (.ireturn, 1) := by decide +kernel
theorem dL_answer_0 : decode cL_answer 0 = .ok (.aload_n 3, 1) := by decide +kernel
theorem dL_answer_1 : decode cL_answer 1 = .ok (.iconst 0, 1) := by decide +kernel
theorem dL_answer_2 : decode cL_answer 2 = .ok (.aload_n 0, 1) := by decide +kernel
theorem dL_answer_3 : decode cL_answer 3 = .ok (.iload_n 1, 1) := by decide +kernel
theorem dL_answer_4 : decode cL_answer 4 = .ok (.iload_n 2, 1) := by decide +kernel
theorem dL_answer_5 : decode cL_answer 5 = .ok (.invokevirtual 63, 3) := by decide +kernel
theorem dL_answer_8 : decode cL_answer 8 = .ok (.i2l, 1) := by decide +kernel
theorem dL_answer_9 : decode cL_answer 9 = .ok (.lastore, 1) := by decide +kernel
theorem dL_answer_10 : decode cL_answer 10 = .ok (.goto 7, 3) := by decide +kernel
theorem dL_answer_13 : decode cL_answer 13 = .ok (.astore 4, 2) := by decide +kernel
theorem dL_answer_15 : decode cL_answer 15 = .ok (.iconst 1, 1) := by decide +kernel
theorem dL_answer_16 : decode cL_answer 16 = .ok (.ireturn, 1) := by decide +kernel
theorem dL_answer_17 : decode cL_answer 17 = .ok (.iconst 0, 1) := by decide +kernel
theorem dL_answer_18 : decode cL_answer 18 = .ok (.ireturn, 1) := by decide +kernel
theorem dL_let_0 : decode cL_let 0 = .ok (.aload_n 3, 1) := by decide +kernel
theorem dL_let_1 : decode cL_let 1 = .ok (.iconst 0, 1) := by decide +kernel
theorem dL_let_2 : decode cL_let 2 = .ok (.aload_n 0, 1) := by decide +kernel
theorem dL_let_3 : decode cL_let 3 = .ok (.iload_n 1, 1) := by decide +kernel
theorem dL_let_4 : decode cL_let 4 = .ok (.iload_n 2, 1) := by decide +kernel
theorem dL_let_5 : decode cL_let 5 = .ok (.invokevirtual 66, 3) := by decide +kernel
theorem dL_let_8 : decode cL_let 8 = .ok (.i2l, 1) := by decide +kernel
theorem dL_let_9 : decode cL_let 9 = .ok (.lastore, 1) := by decide +kernel
theorem dL_let_10 : decode cL_let 10 = .ok (.goto 11, 3) := by decide +kernel
theorem dL_let_13 : decode cL_let 13 = .ok (.astore 4, 2) := by decide +kernel
theorem dL_let_15 : decode cL_let 15 = .ok (.iconst 1, 1) := by decide +kernel
theorem dL_let_16 : decode cL_let 16 = .ok (.ireturn, 1) := by decide +kernel
theorem dL_let_17 : decode cL_let 17 = .ok (.astore 4, 2) := by decide +kernel
theorem dL_let_19 : decode cL_let 19 = .ok (.iconst 2, 1) := by decide +kernel
theorem dL_let_20 : decode cL_let 20 = .ok (.ireturn, 1) := by decide +kernel
theorem dL_let_21 : decode cL_let 21 = .ok (.iconst 0, 1) := by decide +kernel
theorem dL_let_22 : decode cL_let 22 = .ok (.ireturn, 1) := by decide +kernel
theorem dL_unlet_0 : decode cL_unlet 0 = .ok (.aload_n 2, 1) := by decide +kernel
theorem dL_unlet_1 : decode cL_unlet 1 = .ok (.iconst 0, 1) := by decide +kernel
theorem dL_unlet_2 : decode cL_unlet 2 = .ok (.aload_n 0, 1) := by decide +kernel
theorem dL_unlet_3 : decode cL_unlet 3 = .ok (.iload_n 1, 1) := by decide +kernel
theorem dL_unlet_4 : decode cL_unlet 4 = .ok (.invokevirtual 70, 3) := by decide +kernel
theorem dL_unlet_7 : decode cL_unlet 7 = .ok (.ifCond .eq 7, 3) := by decide +kernel
theorem dL_unlet_10 : decode cL_unlet 10 = .ok (.lconst 1, 1) := by decide +kernel
theorem dL_unlet_11 : decode cL_unlet 11 = .ok (.goto 4, 3) := by decide +kernel
theorem dL_unlet_14 : decode cL_unlet 14 = .ok (.lconst 0, 1) := by decide +kernel
theorem dL_unlet_15 : decode cL_unlet 15 = .ok (.lastore, 1) := by decide +kernel
theorem dL_unlet_16 : decode cL_unlet 16 = .ok (.goto 6, 3) := by decide +kernel
theorem dL_unlet_19 : decode cL_unlet 19 = .ok (.astore_n 3, 1) := by decide +kernel
theorem dL_unlet_20 : decode cL_unlet 20 = .ok (.iconst 1, 1) := by decide +kernel
theorem dL_unlet_21 : decode cL_unlet 21 = .ok (.ireturn, 1) := by decide +kernel
theorem dL_unlet_22 : decode cL_unlet 22 = .ok (.iconst 0, 1) := by decide +kernel
theorem dL_unlet_23 : decode cL_unlet 23 = .ok (.ireturn, 1) := by decide +kernel
theorem dL_recall_0 : decode cL_recall 0 = .ok (.aload_n 2, 1) := by decide +kernel
theorem dL_recall_1 : decode cL_recall 1 = .ok (.iconst 0, 1) := by decide +kernel
theorem dL_recall_2 : decode cL_recall 2 = .ok (.aload_n 0, 1) := by decide +kernel
theorem dL_recall_3 : decode cL_recall 3 = .ok (.iload_n 1, 1) := by decide +kernel
theorem dL_recall_4 : decode cL_recall 4 = .ok (.invokevirtual 74, 3) := by decide +kernel
theorem dL_recall_7 : decode cL_recall 7 = .ok (.ifCond .eq 7, 3) := by decide +kernel
theorem dL_recall_10 : decode cL_recall 10 = .ok (.lconst 1, 1) := by decide +kernel
theorem dL_recall_11 : decode cL_recall 11 = .ok (.goto 4, 3) := by decide +kernel
theorem dL_recall_14 : decode cL_recall 14 = .ok (.lconst 0, 1) := by decide +kernel
theorem dL_recall_15 : decode cL_recall 15 = .ok (.lastore, 1) := by decide +kernel
theorem dL_recall_16 : decode cL_recall 16 = .ok (.goto 6, 3) := by decide +kernel
theorem dL_recall_19 : decode cL_recall 19 = .ok (.astore_n 3, 1) := by decide +kernel
theorem dL_recall_20 : decode cL_recall 20 = .ok (.iconst 1, 1) := by decide +kernel
theorem dL_recall_21 : decode cL_recall 21 = .ok (.ireturn, 1) := by decide +kernel
theorem dL_recall_22 : decode cL_recall 22 = .ok (.iconst 0, 1) := by decide +kernel
theorem dL_recall_23 : decode cL_recall 23 = .ok (.ireturn, 1) := by decide +kernel
theorem dL_define_0 : decode cL_define 0 = .ok (.aload_n 3, 1) := by decide +kernel
theorem dL_define_1 : decode cL_define 1 = .ok (.iconst 0, 1) := by decide +kernel
theorem dL_define_2 : decode cL_define 2 = .ok (.aload_n 0, 1) := by decide +kernel
theorem dL_define_3 : decode cL_define 3 = .ok (.iload_n 1, 1) := by decide +kernel
theorem dL_define_4 : decode cL_define 4 = .ok (.iload_n 2, 1) := by decide +kernel
theorem dL_define_5 : decode cL_define 5 = .ok (.invokevirtual 77, 3) := by decide +kernel
theorem dL_define_8 : decode cL_define 8 = .ok (.i2l, 1) := by decide +kernel
theorem dL_define_9 : decode cL_define 9 = .ok (.lastore, 1) := by decide +kernel
theorem dL_define_10 : decode cL_define 10 = .ok (.goto 7, 3) := by decide +kernel
theorem dL_define_13 : decode cL_define 13 = .ok (.astore 4, 2) := by decide +kernel
theorem dL_define_15 : decode cL_define 15 = .ok (.iconst 1, 1) := by decide +kernel
theorem dL_define_16 : decode cL_define 16 = .ok (.ireturn, 1) := by decide +kernel
theorem dL_define_17 : decode cL_define 17 = .ok (.iconst 0, 1) := by decide +kernel
theorem dL_define_18 : decode cL_define 18 = .ok (.ireturn, 1) := by decide +kernel
theorem dL_addCase_0 : decode cL_addCase 0 = .ok (.aload 4, 2) := by decide +kernel
theorem dL_addCase_2 : decode cL_addCase 2 = .ok (.iconst 0, 1) := by decide +kernel
theorem dL_addCase_3 : decode cL_addCase 3 = .ok (.aload_n 0, 1) := by decide +kernel
theorem dL_addCase_4 : decode cL_addCase 4 = .ok (.iload_n 1, 1) := by decide +kernel
theorem dL_addCase_5 : decode cL_addCase 5 = .ok (.iload_n 2, 1) := by decide +kernel
theorem dL_addCase_6 : decode cL_addCase 6 = .ok (.iload_n 3, 1) := by decide +kernel
theorem dL_addCase_7 : decode cL_addCase 7 = .ok (.invokevirtual 80, 3) := by decide +kernel
theorem dL_addCase_10 : decode cL_addCase 10 = .ok (.i2l, 1) := by decide +kernel
theorem dL_addCase_11 : decode cL_addCase 11 = .ok (.lastore, 1) := by decide +kernel
theorem dL_addCase_12 : decode cL_addCase 12 = .ok (.goto 15, 3) := by decide +kernel
theorem dL_addCase_15 : decode cL_addCase 15 = .ok (.astore 5, 2) := by decide +kernel
theorem dL_addCase_17 : decode cL_addCase 17 = .ok (.iconst 1, 1) := by decide +kernel
theorem dL_addCase_18 : decode cL_addCase 18 = .ok (.ireturn, 1) := by decide +kernel
theorem dL_addCase_19 : decode cL_addCase 19 = .ok (.astore 5, 2) := by decide +kernel
theorem dL_addCase_21 : decode cL_addCase 21 = .ok (.iconst 2, 1) := by decide +kernel
theorem dL_addCase_22 : decode cL_addCase 22 = .ok (.ireturn, 1) := by decide +kernel
theorem dL_addCase_23 : decode cL_addCase 23 = .ok (.astore 5, 2) := by decide +kernel
theorem dL_addCase_25 : decode cL_addCase 25 = .ok (.iconst 3, 1) := by decide +kernel
theorem dL_addCase_26 : decode cL_addCase 26 = .ok (.ireturn, 1) := by decide +kernel
theorem dL_addCase_27 : decode cL_addCase 27 = .ok (.iconst 0, 1) := by decide +kernel
theorem dL_addCase_28 : decode cL_addCase 28 = .ok (.ireturn, 1) := by decide +kernel
theorem dL_step_0 : decode cL_step 0 = .ok (.aload_n 2, 1) := by decide +kernel
theorem dL_step_1 : decode cL_step 1 = .ok (.iconst 0, 1) := by decide +kernel
theorem dL_step_2 : decode cL_step 2 = .ok (.aload_n 0, 1) := by decide +kernel
theorem dL_step_3 : decode cL_step 3 = .ok (.iload_n 1, 1) := by decide +kernel
theorem dL_step_4 : decode cL_step 4 = .ok (.invokevirtual 83, 3) := by decide +kernel
theorem dL_step_7 : decode cL_step 7 = .ok (.i2l, 1) := by decide +kernel
theorem dL_step_8 : decode cL_step 8 = .ok (.lastore, 1) := by decide +kernel
theorem dL_step_9 : decode cL_step 9 = .ok (.goto 9, 3) := by decide +kernel
theorem dL_step_12 : decode cL_step 12 = .ok (.astore_n 3, 1) := by decide +kernel
theorem dL_step_13 : decode cL_step 13 = .ok (.iconst 1, 1) := by decide +kernel
theorem dL_step_14 : decode cL_step 14 = .ok (.ireturn, 1) := by decide +kernel
theorem dL_step_15 : decode cL_step 15 = .ok (.astore_n 3, 1) := by decide +kernel
theorem dL_step_16 : decode cL_step 16 = .ok (.iconst 2, 1) := by decide +kernel
theorem dL_step_17 : decode cL_step 17 = .ok (.ireturn, 1) := by decide +kernel
theorem dL_step_18 : decode cL_step 18 = .ok (.iconst 0, 1) := by decide +kernel
theorem dL_step_19 : decode cL_step 19 = .ok (.ireturn, 1) := by decide +kernel
theorem dL_simplify_0 : decode cL_simplify 0 = .ok (.aload_n 2, 1) := by decide +kernel
theorem dL_simplify_1 : decode cL_simplify 1 = .ok (.iconst 0, 1) := by decide +kernel
theorem dL_simplify_2 : decode cL_simplify 2 = .ok (.aload_n 0, 1) := by decide +kernel
theorem dL_simplify_3 : decode cL_simplify 3 = .ok (.iload_n 1, 1) := by decide +kernel
theorem dL_simplify_4 : decode cL_simplify 4 = .ok (.invokevirtual 86, 3) := by decide +kernel
theorem dL_simplify_7 : decode cL_simplify 7 = .ok (.i2l, 1) := by decide +kernel
theorem dL_simplify_8 : decode cL_simplify 8 = .ok (.lastore, 1) := by decide +kernel
theorem dL_simplify_9 : decode cL_simplify 9 = .ok (.goto 9, 3) := by decide +kernel
theorem dL_simplify_12 : decode cL_simplify 12 = .ok (.astore_n 3, 1) := by decide +kernel
theorem dL_simplify_13 : decode cL_simplify 13 = .ok (.iconst 1, 1) := by decide +kernel
theorem dL_simplify_14 : decode cL_simplify 14 = .ok (.ireturn, 1) := by decide +kernel
theorem dL_simplify_15 : decode cL_simplify 15 = .ok (.astore_n 3, 1) := by decide +kernel
theorem dL_simplify_16 : decode cL_simplify 16 = .ok (.iconst 2, 1) := by decide +kernel
theorem dL_simplify_17 : decode cL_simplify 17 = .ok (.ireturn, 1) := by decide +kernel
theorem dL_simplify_18 : decode cL_simplify 18 = .ok (.iconst 0, 1) := by decide +kernel
theorem dL_simplify_19 : decode cL_simplify 19 = .ok (.ireturn, 1) := by decide +kernel
theorem dL_trace_0 : decode cL_trace 0 = .ok (.aload_n 3, 1) := by decide +kernel
theorem dL_trace_1 : decode cL_trace 1 = .ok (.iconst 0, 1) := by decide +kernel
theorem dL_trace_2 : decode cL_trace 2 = .ok (.aload_n 0, 1) := by decide +kernel
theorem dL_trace_3 : decode cL_trace 3 = .ok (.iload_n 1, 1) := by decide +kernel
theorem dL_trace_4 : decode cL_trace 4 = .ok (.iload_n 2, 1) := by decide +kernel
theorem dL_trace_5 : decode cL_trace 5 = .ok (.invokevirtual 89, 3) := by decide +kernel
theorem dL_trace_8 : decode cL_trace 8 = .ok (.i2l, 1) := by decide +kernel
theorem dL_trace_9 : decode cL_trace 9 = .ok (.lastore, 1) := by decide +kernel
theorem dL_trace_10 : decode cL_trace 10 = .ok (.goto 7, 3) := by decide +kernel
theorem dL_trace_13 : decode cL_trace 13 = .ok (.astore 4, 2) := by decide +kernel
theorem dL_trace_15 : decode cL_trace 15 = .ok (.iconst 1, 1) := by decide +kernel
theorem dL_trace_16 : decode cL_trace 16 = .ok (.ireturn, 1) := by decide +kernel
theorem dL_trace_17 : decode cL_trace 17 = .ok (.iconst 0, 1) := by decide +kernel
theorem dL_trace_18 : decode cL_trace 18 = .ok (.ireturn, 1) := by decide +kernel
theorem dL_gather_0 : decode cL_gather 0 = .ok (.aload_n 3, 1) := by decide +kernel
theorem dL_gather_1 : decode cL_gather 1 = .ok (.iconst 0, 1) := by decide +kernel
theorem dL_gather_2 : decode cL_gather 2 = .ok (.aload_n 0, 1) := by decide +kernel
theorem dL_gather_3 : decode cL_gather 3 = .ok (.iload_n 1, 1) := by decide +kernel
theorem dL_gather_4 : decode cL_gather 4 = .ok (.iload_n 2, 1) := by decide +kernel
theorem dL_gather_5 : decode cL_gather 5 = .ok (.invokevirtual 92, 3) := by decide +kernel
theorem dL_gather_8 : decode cL_gather 8 = .ok (.i2l, 1) := by decide +kernel
theorem dL_gather_9 : decode cL_gather 9 = .ok (.lastore, 1) := by decide +kernel
theorem dL_gather_10 : decode cL_gather 10 = .ok (.goto 11, 3) := by decide +kernel
theorem dL_gather_13 : decode cL_gather 13 = .ok (.astore 4, 2) := by decide +kernel
theorem dL_gather_15 : decode cL_gather 15 = .ok (.iconst 1, 1) := by decide +kernel
theorem dL_gather_16 : decode cL_gather 16 = .ok (.ireturn, 1) := by decide +kernel
theorem dL_gather_17 : decode cL_gather 17 = .ok (.astore 4, 2) := by decide +kernel
theorem dL_gather_19 : decode cL_gather 19 = .ok (.iconst 2, 1) := by decide +kernel
theorem dL_gather_20 : decode cL_gather 20 = .ok (.ireturn, 1) := by decide +kernel
theorem dL_gather_21 : decode cL_gather 21 = .ok (.iconst 0, 1) := by decide +kernel
theorem dL_gather_22 : decode cL_gather 22 = .ok (.ireturn, 1) := by decide +kernel
theorem dL_coefficient_0 : decode cL_coefficient 0 = .ok (.aload_n 2, 1) := by decide +kernel
theorem dL_coefficient_1 : decode cL_coefficient 1 = .ok (.iconst 0, 1) := by decide +kernel
theorem dL_coefficient_2 : decode cL_coefficient 2 = .ok (.aload_n 0, 1) := by decide +kernel
theorem dL_coefficient_3 : decode cL_coefficient 3 = .ok (.iload_n 1, 1) := by decide +kernel
theorem dL_coefficient_4 : decode cL_coefficient 4 = .ok (.invokevirtual 96, 3) := by decide +kernel
theorem dL_coefficient_7 : decode cL_coefficient 7 = .ok (.ifCond .eq 7, 3) := by decide +kernel
theorem dL_coefficient_10 : decode cL_coefficient 10 = .ok (.lconst 1, 1) := by decide +kernel
theorem dL_coefficient_11 : decode cL_coefficient 11 = .ok (.goto 4, 3) := by decide +kernel
theorem dL_coefficient_14 : decode cL_coefficient 14 = .ok (.lconst 0, 1) := by decide +kernel
theorem dL_coefficient_15 : decode cL_coefficient 15 = .ok (.lastore, 1) := by decide +kernel
theorem dL_coefficient_16 : decode cL_coefficient 16 = .ok (.goto 6, 3) := by decide +kernel
theorem dL_coefficient_19 : decode cL_coefficient 19 = .ok (.astore_n 3, 1) := by decide +kernel
theorem dL_coefficient_20 : decode cL_coefficient 20 = .ok (.iconst 1, 1) := by decide +kernel
theorem dL_coefficient_21 : decode cL_coefficient 21 = .ok (.ireturn, 1) := by decide +kernel
theorem dL_coefficient_22 : decode cL_coefficient 22 = .ok (.iconst 0, 1) := by decide +kernel
theorem dL_coefficient_23 : decode cL_coefficient 23 = .ok (.ireturn, 1) := by decide +kernel
theorem dL_derive_0 : decode cL_derive 0 = .ok (.aload_n 3, 1) := by decide +kernel
theorem dL_derive_1 : decode cL_derive 1 = .ok (.iconst 0, 1) := by decide +kernel
theorem dL_derive_2 : decode cL_derive 2 = .ok (.aload_n 0, 1) := by decide +kernel
theorem dL_derive_3 : decode cL_derive 3 = .ok (.iload_n 1, 1) := by decide +kernel
theorem dL_derive_4 : decode cL_derive 4 = .ok (.iload_n 2, 1) := by decide +kernel
theorem dL_derive_5 : decode cL_derive 5 = .ok (.invokevirtual 100, 3) := by decide +kernel
theorem dL_derive_8 : decode cL_derive 8 = .ok (.i2l, 1) := by decide +kernel
theorem dL_derive_9 : decode cL_derive 9 = .ok (.lastore, 1) := by decide +kernel
theorem dL_derive_10 : decode cL_derive 10 = .ok (.goto 15, 3) := by decide +kernel
theorem dL_derive_13 : decode cL_derive 13 = .ok (.astore 4, 2) := by decide +kernel
theorem dL_derive_15 : decode cL_derive 15 = .ok (.iconst 1, 1) := by decide +kernel
theorem dL_derive_16 : decode cL_derive 16 = .ok (.ireturn, 1) := by decide +kernel
theorem dL_derive_17 : decode cL_derive 17 = .ok (.astore 4, 2) := by decide +kernel
theorem dL_derive_19 : decode cL_derive 19 = .ok (.iconst 2, 1) := by decide +kernel
theorem dL_derive_20 : decode cL_derive 20 = .ok (.ireturn, 1) := by decide +kernel
theorem dL_derive_21 : decode cL_derive 21 = .ok (.astore 4, 2) := by decide +kernel
theorem dL_derive_23 : decode cL_derive 23 = .ok (.iconst 3, 1) := by decide +kernel
theorem dL_derive_24 : decode cL_derive 24 = .ok (.ireturn, 1) := by decide +kernel
theorem dL_derive_25 : decode cL_derive 25 = .ok (.iconst 0, 1) := by decide +kernel
theorem dL_derive_26 : decode cL_derive 26 = .ok (.ireturn, 1) := by decide +kernel
theorem dL_slope_0 : decode cL_slope 0 = .ok (.aload_n 3, 1) := by decide +kernel
theorem dL_slope_1 : decode cL_slope 1 = .ok (.iconst 0, 1) := by decide +kernel
theorem dL_slope_2 : decode cL_slope 2 = .ok (.aload_n 0, 1) := by decide +kernel
theorem dL_slope_3 : decode cL_slope 3 = .ok (.iload_n 1, 1) := by decide +kernel
theorem dL_slope_4 : decode cL_slope 4 = .ok (.iload_n 2, 1) := by decide +kernel
theorem dL_slope_5 : decode cL_slope 5 = .ok (.invokevirtual 103, 3) := by decide +kernel
theorem dL_slope_8 : decode cL_slope 8 = .ok (.i2l, 1) := by decide +kernel
theorem dL_slope_9 : decode cL_slope 9 = .ok (.lastore, 1) := by decide +kernel
theorem dL_slope_10 : decode cL_slope 10 = .ok (.goto 15, 3) := by decide +kernel
theorem dL_slope_13 : decode cL_slope 13 = .ok (.astore 4, 2) := by decide +kernel
theorem dL_slope_15 : decode cL_slope 15 = .ok (.iconst 1, 1) := by decide +kernel
theorem dL_slope_16 : decode cL_slope 16 = .ok (.ireturn, 1) := by decide +kernel
theorem dL_slope_17 : decode cL_slope 17 = .ok (.astore 4, 2) := by decide +kernel
theorem dL_slope_19 : decode cL_slope 19 = .ok (.iconst 2, 1) := by decide +kernel
theorem dL_slope_20 : decode cL_slope 20 = .ok (.ireturn, 1) := by decide +kernel
theorem dL_slope_21 : decode cL_slope 21 = .ok (.astore 4, 2) := by decide +kernel
theorem dL_slope_23 : decode cL_slope 23 = .ok (.iconst 3, 1) := by decide +kernel
theorem dL_slope_24 : decode cL_slope 24 = .ok (.ireturn, 1) := by decide +kernel
theorem dL_slope_25 : decode cL_slope 25 = .ok (.iconst 0, 1) := by decide +kernel
theorem dL_slope_26 : decode cL_slope 26 = .ok (.ireturn, 1) := by decide +kernel
theorem dL_solve_0 : decode cL_solve 0 = .ok (.aload_n 3, 1) := by decide +kernel
theorem dL_solve_1 : decode cL_solve 1 = .ok (.iconst 0, 1) := by decide +kernel
theorem dL_solve_2 : decode cL_solve 2 = .ok (.aload_n 0, 1) := by decide +kernel
theorem dL_solve_3 : decode cL_solve 3 = .ok (.iload_n 1, 1) := by decide +kernel
theorem dL_solve_4 : decode cL_solve 4 = .ok (.iload_n 2, 1) := by decide +kernel
theorem dL_solve_5 : decode cL_solve 5 = .ok (.invokevirtual 106, 3) := by decide +kernel
theorem dL_solve_8 : decode cL_solve 8 = .ok (.i2l, 1) := by decide +kernel
theorem dL_solve_9 : decode cL_solve 9 = .ok (.lastore, 1) := by decide +kernel
theorem dL_solve_10 : decode cL_solve 10 = .ok (.goto 11, 3) := by decide +kernel
theorem dL_solve_13 : decode cL_solve 13 = .ok (.astore 4, 2) := by decide +kernel
theorem dL_solve_15 : decode cL_solve 15 = .ok (.iconst 1, 1) := by decide +kernel
theorem dL_solve_16 : decode cL_solve 16 = .ok (.ireturn, 1) := by decide +kernel
theorem dL_solve_17 : decode cL_solve 17 = .ok (.astore 4, 2) := by decide +kernel
theorem dL_solve_19 : decode cL_solve 19 = .ok (.iconst 2, 1) := by decide +kernel
theorem dL_solve_20 : decode cL_solve 20 = .ok (.ireturn, 1) := by decide +kernel
theorem dL_solve_21 : decode cL_solve 21 = .ok (.iconst 0, 1) := by decide +kernel
theorem dL_solve_22 : decode cL_solve 22 = .ok (.ireturn, 1) := by decide +kernel
theorem dL_audit_0 : decode cL_audit 0 = .ok (.aload_n 3, 1) := by decide +kernel
theorem dL_audit_1 : decode cL_audit 1 = .ok (.iconst 0, 1) := by decide +kernel
theorem dL_audit_2 : decode cL_audit 2 = .ok (.aload_n 0, 1) := by decide +kernel
theorem dL_audit_3 : decode cL_audit 3 = .ok (.iload_n 1, 1) := by decide +kernel
theorem dL_audit_4 : decode cL_audit 4 = .ok (.iload_n 2, 1) := by decide +kernel
theorem dL_audit_5 : decode cL_audit 5 = .ok (.invokevirtual 109, 3) := by decide +kernel
theorem dL_audit_8 : decode cL_audit 8 = .ok (.ifCond .eq 7, 3) := by decide +kernel
theorem dL_audit_11 : decode cL_audit 11 = .ok (.lconst 1, 1) := by decide +kernel
theorem dL_audit_12 : decode cL_audit 12 = .ok (.goto 4, 3) := by decide +kernel
theorem dL_audit_15 : decode cL_audit 15 = .ok (.lconst 0, 1) := by decide +kernel
theorem dL_audit_16 : decode cL_audit 16 = .ok (.lastore, 1) := by decide +kernel
theorem dL_audit_17 : decode cL_audit 17 = .ok (.goto 11, 3) := by decide +kernel
theorem dL_audit_20 : decode cL_audit 20 = .ok (.astore 4, 2) := by decide +kernel
theorem dL_audit_22 : decode cL_audit 22 = .ok (.iconst 1, 1) := by decide +kernel
theorem dL_audit_23 : decode cL_audit 23 = .ok (.ireturn, 1) := by decide +kernel
theorem dL_audit_24 : decode cL_audit 24 = .ok (.astore 4, 2) := by decide +kernel
theorem dL_audit_26 : decode cL_audit 26 = .ok (.iconst 2, 1) := by decide +kernel
theorem dL_audit_27 : decode cL_audit 27 = .ok (.ireturn, 1) := by decide +kernel
theorem dL_audit_28 : decode cL_audit 28 = .ok (.iconst 0, 1) := by decide +kernel
theorem dL_audit_29 : decode cL_audit 29 = .ok (.ireturn, 1) := by decide +kernel
theorem dL_law_0 : decode cL_law 0 = .ok (.new 8, 3) := by decide +kernel
theorem dL_law_3 : decode cL_law 3 = .ok (.dup, 1) := by decide +kernel
theorem dL_law_4 : decode cL_law 4 = .ok (.invokespecial 112, 3) := by decide +kernel
theorem dL_law_7 : decode cL_law 7 = .ok (.astore_n 1, 1) := by decide +kernel
theorem dL_law_8 : decode cL_law 8 = .ok (.new 113, 3) := by decide +kernel
theorem dL_law_11 : decode cL_law 11 = .ok (.dup, 1) := by decide +kernel
theorem dL_law_12 : decode cL_law 12 = .ok (.invokespecial 115, 3) := by decide +kernel
theorem dL_law_15 : decode cL_law 15 = .ok (.astore_n 2, 1) := by decide +kernel
theorem dL_law_16 : decode cL_law 16 = .ok (.iconst 1, 1) := by decide +kernel
theorem dL_law_17 : decode cL_law 17 = .ok (.newarray .long, 2) := by decide +kernel
theorem dL_law_19 : decode cL_law 19 = .ok (.astore_n 3, 1) := by decide +kernel
theorem dL_law_20 : decode cL_law 20 = .ok (.iconst 0, 1) := by decide +kernel
theorem dL_law_21 : decode cL_law 21 = .ok (.istore 4, 2) := by decide +kernel
theorem dL_law_23 : decode cL_law 23 = .ok (.iload 4, 2) := by decide +kernel
theorem dL_law_25 : decode cL_law 25 = .ok (.aload_n 0, 1) := by decide +kernel
theorem dL_law_26 : decode cL_law 26 = .ok (.arraylength, 1) := by decide +kernel
theorem dL_law_27 : decode cL_law 27 = .ok (.bipush 6, 2) := by decide +kernel
theorem dL_law_29 : decode cL_law 29 = .ok (.isub, 1) := by decide +kernel
theorem dL_law_30 : decode cL_law 30 = .ok (.if_icmp .gt 2105, 3) := by decide +kernel
theorem dL_law_33 : decode cL_law 33 = .ok (.aload_n 0, 1) := by decide +kernel
theorem dL_law_34 : decode cL_law 34 = .ok (.iload 4, 2) := by decide +kernel
theorem dL_law_36 : decode cL_law 36 = .ok (.iaload, 1) := by decide +kernel
theorem dL_law_37 : decode cL_law 37 = .ok (.bipush 31, 2) := by decide +kernel
theorem dL_law_39 : decode cL_law 39 = .ok (.iand, 1) := by decide +kernel
theorem dL_law_40 : decode cL_law 40 = .ok (.tableswitch 2089 0 31 #[144, 202, 215, 228, 272, 285, 365, 440, 508, 590, 696, 778, 834, 890, 946, 1002, 1058, 1126, 1196, 1261, 1326, 1396, 1478, 1534, 1590, 1658, 1728, 1791, 1861, 1931, 2001, 2014], 144) := by decide +kernel
theorem dL_law_184 : decode cL_law 184 = .ok (.aload_n 1, 1) := by decide +kernel
theorem dL_law_185 : decode cL_law 185 = .ok (.aload_n 0, 1) := by decide +kernel
theorem dL_law_186 : decode cL_law 186 = .ok (.iload 4, 2) := by decide +kernel
theorem dL_law_188 : decode cL_law 188 = .ok (.iconst 1, 1) := by decide +kernel
theorem dL_law_189 : decode cL_law 189 = .ok (.iadd, 1) := by decide +kernel
theorem dL_law_190 : decode cL_law 190 = .ok (.iaload, 1) := by decide +kernel
theorem dL_law_191 : decode cL_law 191 = .ok (.i2c, 1) := by decide +kernel
theorem dL_law_192 : decode cL_law 192 = .ok (.aload_n 3, 1) := by decide +kernel
theorem dL_law_193 : decode cL_law 193 = .ok (.invokestatic 116, 3) := by decide +kernel
theorem dL_law_196 : decode cL_law 196 = .ok (.istore 5, 2) := by decide +kernel
theorem dL_law_198 : decode cL_law 198 = .ok (.aload_n 2, 1) := by decide +kernel
theorem dL_law_199 : decode cL_law 199 = .ok (.aload_n 0, 1) := by decide +kernel
theorem dL_law_200 : decode cL_law 200 = .ok (.iload 4, 2) := by decide +kernel
theorem dL_law_202 : decode cL_law 202 = .ok (.iconst 1, 1) := by decide +kernel
theorem dL_law_203 : decode cL_law 203 = .ok (.iadd, 1) := by decide +kernel
theorem dL_law_204 : decode cL_law 204 = .ok (.iaload, 1) := by decide +kernel
theorem dL_law_205 : decode cL_law 205 = .ok (.i2c, 1) := by decide +kernel
theorem dL_law_206 : decode cL_law 206 = .ok (.invokevirtual 121, 3) := by decide +kernel
theorem dL_law_209 : decode cL_law 209 = .ok (.istore 6, 2) := by decide +kernel
theorem dL_law_211 : decode cL_law 211 = .ok (.aload_n 2, 1) := by decide +kernel
theorem dL_law_212 : decode cL_law 212 = .ok (.invokevirtual 122, 3) := by decide +kernel
theorem dL_law_215 : decode cL_law 215 = .ok (.iload 5, 2) := by decide +kernel
theorem dL_law_217 : decode cL_law 217 = .ok (.if_icmp .eq 5, 3) := by decide +kernel
theorem dL_law_220 : decode cL_law 220 = .ok (.iconst 0, 1) := by decide +kernel
theorem dL_law_221 : decode cL_law 221 = .ok (.ireturn, 1) := by decide +kernel
theorem dL_law_222 : decode cL_law 222 = .ok (.iload 5, 2) := by decide +kernel
theorem dL_law_224 : decode cL_law 224 = .ok (.ifCond .ne 15, 3) := by decide +kernel
theorem dL_law_227 : decode cL_law 227 = .ok (.aload_n 3, 1) := by decide +kernel
theorem dL_law_228 : decode cL_law 228 = .ok (.iconst 0, 1) := by decide +kernel
theorem dL_law_229 : decode cL_law 229 = .ok (.laload, 1) := by decide +kernel
theorem dL_law_230 : decode cL_law 230 = .ok (.iload 6, 2) := by decide +kernel
theorem dL_law_232 : decode cL_law 232 = .ok (.i2l, 1) := by decide +kernel
theorem dL_law_233 : decode cL_law 233 = .ok (.lcmp, 1) := by decide +kernel
theorem dL_law_234 : decode cL_law 234 = .ok (.ifCond .eq 5, 3) := by decide +kernel
theorem dL_law_237 : decode cL_law 237 = .ok (.iconst 0, 1) := by decide +kernel
theorem dL_law_238 : decode cL_law 238 = .ok (.ireturn, 1) := by decide +kernel
theorem dL_law_239 : decode cL_law 239 = .ok (.goto 1890, 3) := by decide +kernel
theorem dL_law_242 : decode cL_law 242 = .ok (.aload_n 1, 1) := by decide +kernel
theorem dL_law_243 : decode cL_law 243 = .ok (.invokevirtual 125, 3) := by decide +kernel
theorem dL_law_246 : decode cL_law 246 = .ok (.aload_n 2, 1) := by decide +kernel
theorem dL_law_247 : decode cL_law 247 = .ok (.invokevirtual 128, 3) := by decide +kernel
theorem dL_law_250 : decode cL_law 250 = .ok (.if_icmp .eq 1879, 3) := by decide +kernel
theorem dL_law_253 : decode cL_law 253 = .ok (.iconst 0, 1) := by decide +kernel
theorem dL_law_254 : decode cL_law 254 = .ok (.ireturn, 1) := by decide +kernel
theorem dL_law_255 : decode cL_law 255 = .ok (.aload_n 1, 1) := by decide +kernel
theorem dL_law_256 : decode cL_law 256 = .ok (.invokevirtual 129, 3) := by decide +kernel
theorem dL_law_259 : decode cL_law 259 = .ok (.aload_n 2, 1) := by decide +kernel
theorem dL_law_260 : decode cL_law 260 = .ok (.invokevirtual 132, 3) := by decide +kernel
theorem dL_law_263 : decode cL_law 263 = .ok (.if_icmp .eq 1866, 3) := by decide +kernel
theorem dL_law_266 : decode cL_law 266 = .ok (.iconst 0, 1) := by decide +kernel
theorem dL_law_267 : decode cL_law 267 = .ok (.ireturn, 1) := by decide +kernel
theorem dL_law_268 : decode cL_law 268 = .ok (.aload_n 1, 1) := by decide +kernel
theorem dL_law_269 : decode cL_law 269 = .ok (.aload_n 3, 1) := by decide +kernel
theorem dL_law_270 : decode cL_law 270 = .ok (.invokestatic 133, 3) := by decide +kernel
theorem dL_law_273 : decode cL_law 273 = .ok (.istore 5, 2) := by decide +kernel
theorem dL_law_275 : decode cL_law 275 = .ok (.aload_n 2, 1) := by decide +kernel
theorem dL_law_276 : decode cL_law 276 = .ok (.invokevirtual 136, 3) := by decide +kernel
theorem dL_law_279 : decode cL_law 279 = .ok (.istore 6, 2) := by decide +kernel
theorem dL_law_281 : decode cL_law 281 = .ok (.aload_n 2, 1) := by decide +kernel
theorem dL_law_282 : decode cL_law 282 = .ok (.invokevirtual 122, 3) := by decide +kernel
theorem dL_law_285 : decode cL_law 285 = .ok (.iload 5, 2) := by decide +kernel
theorem dL_law_287 : decode cL_law 287 = .ok (.if_icmp .eq 5, 3) := by decide +kernel
theorem dL_law_290 : decode cL_law 290 = .ok (.iconst 0, 1) := by decide +kernel
theorem dL_law_291 : decode cL_law 291 = .ok (.ireturn, 1) := by decide +kernel
theorem dL_law_292 : decode cL_law 292 = .ok (.iload 5, 2) := by decide +kernel
theorem dL_law_294 : decode cL_law 294 = .ok (.ifCond .ne 15, 3) := by decide +kernel
theorem dL_law_297 : decode cL_law 297 = .ok (.aload_n 3, 1) := by decide +kernel
theorem dL_law_298 : decode cL_law 298 = .ok (.iconst 0, 1) := by decide +kernel
theorem dL_law_299 : decode cL_law 299 = .ok (.laload, 1) := by decide +kernel
theorem dL_law_300 : decode cL_law 300 = .ok (.iload 6, 2) := by decide +kernel
theorem dL_law_302 : decode cL_law 302 = .ok (.i2l, 1) := by decide +kernel
theorem dL_law_303 : decode cL_law 303 = .ok (.lcmp, 1) := by decide +kernel
theorem dL_law_304 : decode cL_law 304 = .ok (.ifCond .eq 5, 3) := by decide +kernel
theorem dL_law_307 : decode cL_law 307 = .ok (.iconst 0, 1) := by decide +kernel
theorem dL_law_308 : decode cL_law 308 = .ok (.ireturn, 1) := by decide +kernel
theorem dL_law_309 : decode cL_law 309 = .ok (.goto 1820, 3) := by decide +kernel
theorem dL_law_312 : decode cL_law 312 = .ok (.aload_n 1, 1) := by decide +kernel
theorem dL_law_313 : decode cL_law 313 = .ok (.invokevirtual 137, 3) := by decide +kernel
theorem dL_law_316 : decode cL_law 316 = .ok (.aload_n 2, 1) := by decide +kernel
theorem dL_law_317 : decode cL_law 317 = .ok (.invokevirtual 140, 3) := by decide +kernel
theorem dL_law_320 : decode cL_law 320 = .ok (.if_icmp .eq 1809, 3) := by decide +kernel
theorem dL_law_323 : decode cL_law 323 = .ok (.iconst 0, 1) := by decide +kernel
theorem dL_law_324 : decode cL_law 324 = .ok (.ireturn, 1) := by decide +kernel
theorem dL_law_325 : decode cL_law 325 = .ok (.aload_n 1, 1) := by decide +kernel
theorem dL_law_326 : decode cL_law 326 = .ok (.aload_n 0, 1) := by decide +kernel
theorem dL_law_327 : decode cL_law 327 = .ok (.iload 4, 2) := by decide +kernel
theorem dL_law_329 : decode cL_law 329 = .ok (.iconst 1, 1) := by decide +kernel
theorem dL_law_330 : decode cL_law 330 = .ok (.iadd, 1) := by decide +kernel
theorem dL_law_331 : decode cL_law 331 = .ok (.iaload, 1) := by decide +kernel
theorem dL_law_332 : decode cL_law 332 = .ok (.aload_n 0, 1) := by decide +kernel
theorem dL_law_333 : decode cL_law 333 = .ok (.iload 4, 2) := by decide +kernel
theorem dL_law_335 : decode cL_law 335 = .ok (.iconst 2, 1) := by decide +kernel
theorem dL_law_336 : decode cL_law 336 = .ok (.iadd, 1) := by decide +kernel
theorem dL_law_337 : decode cL_law 337 = .ok (.iaload, 1) := by decide +kernel
theorem dL_law_338 : decode cL_law 338 = .ok (.aload_n 0, 1) := by decide +kernel
theorem dL_law_339 : decode cL_law 339 = .ok (.iload 4, 2) := by decide +kernel
theorem dL_law_341 : decode cL_law 341 = .ok (.iconst 3, 1) := by decide +kernel
theorem dL_law_342 : decode cL_law 342 = .ok (.iadd, 1) := by decide +kernel
theorem dL_law_343 : decode cL_law 343 = .ok (.iaload, 1) := by decide +kernel
theorem dL_law_344 : decode cL_law 344 = .ok (.aload_n 3, 1) := by decide +kernel
theorem dL_law_345 : decode cL_law 345 = .ok (.invokestatic 141, 3) := by decide +kernel
theorem dL_law_348 : decode cL_law 348 = .ok (.istore 5, 2) := by decide +kernel
theorem dL_law_350 : decode cL_law 350 = .ok (.aload_n 2, 1) := by decide +kernel
theorem dL_law_351 : decode cL_law 351 = .ok (.aload_n 0, 1) := by decide +kernel
theorem dL_law_352 : decode cL_law 352 = .ok (.iload 4, 2) := by decide +kernel
theorem dL_law_354 : decode cL_law 354 = .ok (.iconst 1, 1) := by decide +kernel
theorem dL_law_355 : decode cL_law 355 = .ok (.iadd, 1) := by decide +kernel
theorem dL_law_356 : decode cL_law 356 = .ok (.iaload, 1) := by decide +kernel
theorem dL_law_357 : decode cL_law 357 = .ok (.aload_n 0, 1) := by decide +kernel
theorem dL_law_358 : decode cL_law 358 = .ok (.iload 4, 2) := by decide +kernel
theorem dL_law_360 : decode cL_law 360 = .ok (.iconst 2, 1) := by decide +kernel
theorem dL_law_361 : decode cL_law 361 = .ok (.iadd, 1) := by decide +kernel
theorem dL_law_362 : decode cL_law 362 = .ok (.iaload, 1) := by decide +kernel
theorem dL_law_363 : decode cL_law 363 = .ok (.aload_n 0, 1) := by decide +kernel
theorem dL_law_364 : decode cL_law 364 = .ok (.iload 4, 2) := by decide +kernel
theorem dL_law_366 : decode cL_law 366 = .ok (.iconst 3, 1) := by decide +kernel
theorem dL_law_367 : decode cL_law 367 = .ok (.iadd, 1) := by decide +kernel
theorem dL_law_368 : decode cL_law 368 = .ok (.iaload, 1) := by decide +kernel
theorem dL_law_369 : decode cL_law 369 = .ok (.invokevirtual 144, 3) := by decide +kernel
theorem dL_law_372 : decode cL_law 372 = .ok (.istore 6, 2) := by decide +kernel
theorem dL_law_374 : decode cL_law 374 = .ok (.aload_n 2, 1) := by decide +kernel
theorem dL_law_375 : decode cL_law 375 = .ok (.invokevirtual 122, 3) := by decide +kernel
theorem dL_law_378 : decode cL_law 378 = .ok (.iload 5, 2) := by decide +kernel
theorem dL_law_380 : decode cL_law 380 = .ok (.if_icmp .eq 5, 3) := by decide +kernel
theorem dL_law_383 : decode cL_law 383 = .ok (.iconst 0, 1) := by decide +kernel
theorem dL_law_384 : decode cL_law 384 = .ok (.ireturn, 1) := by decide +kernel
theorem dL_law_385 : decode cL_law 385 = .ok (.iload 5, 2) := by decide +kernel
theorem dL_law_387 : decode cL_law 387 = .ok (.ifCond .ne 15, 3) := by decide +kernel
theorem dL_law_390 : decode cL_law 390 = .ok (.aload_n 3, 1) := by decide +kernel
theorem dL_law_391 : decode cL_law 391 = .ok (.iconst 0, 1) := by decide +kernel
theorem dL_law_392 : decode cL_law 392 = .ok (.laload, 1) := by decide +kernel
theorem dL_law_393 : decode cL_law 393 = .ok (.iload 6, 2) := by decide +kernel
theorem dL_law_395 : decode cL_law 395 = .ok (.i2l, 1) := by decide +kernel
theorem dL_law_396 : decode cL_law 396 = .ok (.lcmp, 1) := by decide +kernel
theorem dL_law_397 : decode cL_law 397 = .ok (.ifCond .eq 5, 3) := by decide +kernel
theorem dL_law_400 : decode cL_law 400 = .ok (.iconst 0, 1) := by decide +kernel
theorem dL_law_401 : decode cL_law 401 = .ok (.ireturn, 1) := by decide +kernel
theorem dL_law_402 : decode cL_law 402 = .ok (.goto 1727, 3) := by decide +kernel
theorem dL_law_405 : decode cL_law 405 = .ok (.aload_n 1, 1) := by decide +kernel
theorem dL_law_406 : decode cL_law 406 = .ok (.aload_n 0, 1) := by decide +kernel
theorem dL_law_407 : decode cL_law 407 = .ok (.iload 4, 2) := by decide +kernel
theorem dL_law_409 : decode cL_law 409 = .ok (.iconst 1, 1) := by decide +kernel
theorem dL_law_410 : decode cL_law 410 = .ok (.iadd, 1) := by decide +kernel
theorem dL_law_411 : decode cL_law 411 = .ok (.iaload, 1) := by decide +kernel
theorem dL_law_412 : decode cL_law 412 = .ok (.aload_n 0, 1) := by decide +kernel
theorem dL_law_413 : decode cL_law 413 = .ok (.iload 4, 2) := by decide +kernel
theorem dL_law_415 : decode cL_law 415 = .ok (.iconst 2, 1) := by decide +kernel
theorem dL_law_416 : decode cL_law 416 = .ok (.iadd, 1) := by decide +kernel
theorem dL_law_417 : decode cL_law 417 = .ok (.iaload, 1) := by decide +kernel
theorem dL_law_418 : decode cL_law 418 = .ok (.aload_n 3, 1) := by decide +kernel
theorem dL_law_419 : decode cL_law 419 = .ok (.invokestatic 145, 3) := by decide +kernel
theorem dL_law_422 : decode cL_law 422 = .ok (.istore 5, 2) := by decide +kernel
theorem dL_law_424 : decode cL_law 424 = .ok (.aload_n 2, 1) := by decide +kernel
theorem dL_law_425 : decode cL_law 425 = .ok (.aload_n 0, 1) := by decide +kernel
theorem dL_law_426 : decode cL_law 426 = .ok (.iload 4, 2) := by decide +kernel
theorem dL_law_428 : decode cL_law 428 = .ok (.iconst 1, 1) := by decide +kernel
theorem dL_law_429 : decode cL_law 429 = .ok (.iadd, 1) := by decide +kernel
theorem dL_law_430 : decode cL_law 430 = .ok (.iaload, 1) := by decide +kernel
theorem dL_law_431 : decode cL_law 431 = .ok (.aload_n 0, 1) := by decide +kernel
theorem dL_law_432 : decode cL_law 432 = .ok (.iload 4, 2) := by decide +kernel
theorem dL_law_434 : decode cL_law 434 = .ok (.iconst 2, 1) := by decide +kernel
theorem dL_law_435 : decode cL_law 435 = .ok (.iadd, 1) := by decide +kernel
theorem dL_law_436 : decode cL_law 436 = .ok (.iaload, 1) := by decide +kernel
theorem dL_law_437 : decode cL_law 437 = .ok (.invokevirtual 148, 3) := by decide +kernel
theorem dL_law_440 : decode cL_law 440 = .ok (.istore 6, 2) := by decide +kernel
theorem dL_law_442 : decode cL_law 442 = .ok (.aload_n 2, 1) := by decide +kernel
theorem dL_law_443 : decode cL_law 443 = .ok (.invokevirtual 122, 3) := by decide +kernel
theorem dL_law_446 : decode cL_law 446 = .ok (.iload 5, 2) := by decide +kernel
theorem dL_law_448 : decode cL_law 448 = .ok (.if_icmp .eq 5, 3) := by decide +kernel
theorem dL_law_451 : decode cL_law 451 = .ok (.iconst 0, 1) := by decide +kernel
theorem dL_law_452 : decode cL_law 452 = .ok (.ireturn, 1) := by decide +kernel
theorem dL_law_453 : decode cL_law 453 = .ok (.iload 5, 2) := by decide +kernel
theorem dL_law_455 : decode cL_law 455 = .ok (.ifCond .ne 22, 3) := by decide +kernel
theorem dL_law_458 : decode cL_law 458 = .ok (.aload_n 3, 1) := by decide +kernel
theorem dL_law_459 : decode cL_law 459 = .ok (.iconst 0, 1) := by decide +kernel
theorem dL_law_460 : decode cL_law 460 = .ok (.laload, 1) := by decide +kernel
theorem dL_law_461 : decode cL_law 461 = .ok (.iload 6, 2) := by decide +kernel
theorem dL_law_463 : decode cL_law 463 = .ok (.ifCond .eq 7, 3) := by decide +kernel
theorem dL_law_466 : decode cL_law 466 = .ok (.lconst 1, 1) := by decide +kernel
theorem dL_law_467 : decode cL_law 467 = .ok (.goto 4, 3) := by decide +kernel
theorem dL_law_470 : decode cL_law 470 = .ok (.lconst 0, 1) := by decide +kernel
theorem dL_law_471 : decode cL_law 471 = .ok (.lcmp, 1) := by decide +kernel
theorem dL_law_472 : decode cL_law 472 = .ok (.ifCond .eq 5, 3) := by decide +kernel
theorem dL_law_475 : decode cL_law 475 = .ok (.iconst 0, 1) := by decide +kernel
theorem dL_law_476 : decode cL_law 476 = .ok (.ireturn, 1) := by decide +kernel
theorem dL_law_477 : decode cL_law 477 = .ok (.goto 1652, 3) := by decide +kernel
theorem dL_law_480 : decode cL_law 480 = .ok (.aload_n 1, 1) := by decide +kernel
theorem dL_law_481 : decode cL_law 481 = .ok (.aload_n 0, 1) := by decide +kernel
theorem dL_law_482 : decode cL_law 482 = .ok (.iload 4, 2) := by decide +kernel
theorem dL_law_484 : decode cL_law 484 = .ok (.iconst 1, 1) := by decide +kernel
theorem dL_law_485 : decode cL_law 485 = .ok (.iadd, 1) := by decide +kernel
theorem dL_law_486 : decode cL_law 486 = .ok (.iaload, 1) := by decide +kernel
theorem dL_law_487 : decode cL_law 487 = .ok (.aload_n 0, 1) := by decide +kernel
theorem dL_law_488 : decode cL_law 488 = .ok (.iload 4, 2) := by decide +kernel
theorem dL_law_490 : decode cL_law 490 = .ok (.iconst 2, 1) := by decide +kernel
theorem dL_law_491 : decode cL_law 491 = .ok (.iadd, 1) := by decide +kernel
theorem dL_law_492 : decode cL_law 492 = .ok (.iaload, 1) := by decide +kernel
theorem dL_law_493 : decode cL_law 493 = .ok (.aload_n 3, 1) := by decide +kernel
theorem dL_law_494 : decode cL_law 494 = .ok (.invokestatic 149, 3) := by decide +kernel
theorem dL_law_497 : decode cL_law 497 = .ok (.istore 5, 2) := by decide +kernel
theorem dL_law_499 : decode cL_law 499 = .ok (.aload_n 2, 1) := by decide +kernel
theorem dL_law_500 : decode cL_law 500 = .ok (.aload_n 0, 1) := by decide +kernel
theorem dL_law_501 : decode cL_law 501 = .ok (.iload 4, 2) := by decide +kernel
theorem dL_law_503 : decode cL_law 503 = .ok (.iconst 1, 1) := by decide +kernel
theorem dL_law_504 : decode cL_law 504 = .ok (.iadd, 1) := by decide +kernel
theorem dL_law_505 : decode cL_law 505 = .ok (.iaload, 1) := by decide +kernel
theorem dL_law_506 : decode cL_law 506 = .ok (.aload_n 0, 1) := by decide +kernel
theorem dL_law_507 : decode cL_law 507 = .ok (.iload 4, 2) := by decide +kernel
theorem dL_law_509 : decode cL_law 509 = .ok (.iconst 2, 1) := by decide +kernel
theorem dL_law_510 : decode cL_law 510 = .ok (.iadd, 1) := by decide +kernel
theorem dL_law_511 : decode cL_law 511 = .ok (.iaload, 1) := by decide +kernel
theorem dL_law_512 : decode cL_law 512 = .ok (.invokevirtual 151, 3) := by decide +kernel
theorem dL_law_515 : decode cL_law 515 = .ok (.istore 6, 2) := by decide +kernel
theorem dL_law_517 : decode cL_law 517 = .ok (.aload_n 2, 1) := by decide +kernel
theorem dL_law_518 : decode cL_law 518 = .ok (.invokevirtual 122, 3) := by decide +kernel
theorem dL_law_521 : decode cL_law 521 = .ok (.iload 5, 2) := by decide +kernel
theorem dL_law_523 : decode cL_law 523 = .ok (.if_icmp .eq 5, 3) := by decide +kernel
theorem dL_law_526 : decode cL_law 526 = .ok (.iconst 0, 1) := by decide +kernel
theorem dL_law_527 : decode cL_law 527 = .ok (.ireturn, 1) := by decide +kernel
theorem dL_law_528 : decode cL_law 528 = .ok (.iload 5, 2) := by decide +kernel
theorem dL_law_530 : decode cL_law 530 = .ok (.ifCond .ne 15, 3) := by decide +kernel
theorem dL_law_533 : decode cL_law 533 = .ok (.aload_n 3, 1) := by decide +kernel
theorem dL_law_534 : decode cL_law 534 = .ok (.iconst 0, 1) := by decide +kernel
theorem dL_law_535 : decode cL_law 535 = .ok (.laload, 1) := by decide +kernel
theorem dL_law_536 : decode cL_law 536 = .ok (.iload 6, 2) := by decide +kernel
theorem dL_law_538 : decode cL_law 538 = .ok (.i2l, 1) := by decide +kernel
theorem dL_law_539 : decode cL_law 539 = .ok (.lcmp, 1) := by decide +kernel
theorem dL_law_540 : decode cL_law 540 = .ok (.ifCond .eq 5, 3) := by decide +kernel
theorem dL_law_543 : decode cL_law 543 = .ok (.iconst 0, 1) := by decide +kernel
theorem dL_law_544 : decode cL_law 544 = .ok (.ireturn, 1) := by decide +kernel
theorem dL_law_545 : decode cL_law 545 = .ok (.goto 1584, 3) := by decide +kernel
theorem dL_law_548 : decode cL_law 548 = .ok (.aload_n 1, 1) := by decide +kernel
theorem dL_law_549 : decode cL_law 549 = .ok (.aload_n 0, 1) := by decide +kernel
theorem dL_law_550 : decode cL_law 550 = .ok (.iload 4, 2) := by decide +kernel
theorem dL_law_552 : decode cL_law 552 = .ok (.iconst 1, 1) := by decide +kernel
theorem dL_law_553 : decode cL_law 553 = .ok (.iadd, 1) := by decide +kernel
theorem dL_law_554 : decode cL_law 554 = .ok (.iaload, 1) := by decide +kernel
theorem dL_law_555 : decode cL_law 555 = .ok (.aload_n 0, 1) := by decide +kernel
theorem dL_law_556 : decode cL_law 556 = .ok (.iload 4, 2) := by decide +kernel
theorem dL_law_558 : decode cL_law 558 = .ok (.iconst 2, 1) := by decide +kernel
theorem dL_law_559 : decode cL_law 559 = .ok (.iadd, 1) := by decide +kernel
theorem dL_law_560 : decode cL_law 560 = .ok (.iaload, 1) := by decide +kernel
theorem dL_law_561 : decode cL_law 561 = .ok (.i2c, 1) := by decide +kernel
theorem dL_law_562 : decode cL_law 562 = .ok (.aload_n 0, 1) := by decide +kernel
theorem dL_law_563 : decode cL_law 563 = .ok (.iload 4, 2) := by decide +kernel
theorem dL_law_565 : decode cL_law 565 = .ok (.iconst 3, 1) := by decide +kernel
theorem dL_law_566 : decode cL_law 566 = .ok (.iadd, 1) := by decide +kernel
theorem dL_law_567 : decode cL_law 567 = .ok (.iaload, 1) := by decide +kernel
theorem dL_law_568 : decode cL_law 568 = .ok (.aload_n 3, 1) := by decide +kernel
theorem dL_law_569 : decode cL_law 569 = .ok (.invokestatic 152, 3) := by decide +kernel
theorem dL_law_572 : decode cL_law 572 = .ok (.istore 5, 2) := by decide +kernel
theorem dL_law_574 : decode cL_law 574 = .ok (.aload_n 2, 1) := by decide +kernel
theorem dL_law_575 : decode cL_law 575 = .ok (.aload_n 0, 1) := by decide +kernel
theorem dL_law_576 : decode cL_law 576 = .ok (.iload 4, 2) := by decide +kernel
theorem dL_law_578 : decode cL_law 578 = .ok (.iconst 1, 1) := by decide +kernel
theorem dL_law_579 : decode cL_law 579 = .ok (.iadd, 1) := by decide +kernel
theorem dL_law_580 : decode cL_law 580 = .ok (.iaload, 1) := by decide +kernel
theorem dL_law_581 : decode cL_law 581 = .ok (.aload_n 0, 1) := by decide +kernel
theorem dL_law_582 : decode cL_law 582 = .ok (.iload 4, 2) := by decide +kernel
theorem dL_law_584 : decode cL_law 584 = .ok (.iconst 2, 1) := by decide +kernel
theorem dL_law_585 : decode cL_law 585 = .ok (.iadd, 1) := by decide +kernel
theorem dL_law_586 : decode cL_law 586 = .ok (.iaload, 1) := by decide +kernel
theorem dL_law_587 : decode cL_law 587 = .ok (.i2c, 1) := by decide +kernel
theorem dL_law_588 : decode cL_law 588 = .ok (.aload_n 0, 1) := by decide +kernel
theorem dL_law_589 : decode cL_law 589 = .ok (.iload 4, 2) := by decide +kernel
theorem dL_law_591 : decode cL_law 591 = .ok (.iconst 3, 1) := by decide +kernel
theorem dL_law_592 : decode cL_law 592 = .ok (.iadd, 1) := by decide +kernel
theorem dL_law_593 : decode cL_law 593 = .ok (.iaload, 1) := by decide +kernel
theorem dL_law_594 : decode cL_law 594 = .ok (.invokevirtual 155, 3) := by decide +kernel
theorem dL_law_597 : decode cL_law 597 = .ok (.istore 6, 2) := by decide +kernel
theorem dL_law_599 : decode cL_law 599 = .ok (.aload_n 2, 1) := by decide +kernel
theorem dL_law_600 : decode cL_law 600 = .ok (.invokevirtual 122, 3) := by decide +kernel
theorem dL_law_603 : decode cL_law 603 = .ok (.iload 5, 2) := by decide +kernel
theorem dL_law_605 : decode cL_law 605 = .ok (.if_icmp .eq 5, 3) := by decide +kernel
theorem dL_law_608 : decode cL_law 608 = .ok (.iconst 0, 1) := by decide +kernel
theorem dL_law_609 : decode cL_law 609 = .ok (.ireturn, 1) := by decide +kernel
theorem dL_law_610 : decode cL_law 610 = .ok (.iload 5, 2) := by decide +kernel
theorem dL_law_612 : decode cL_law 612 = .ok (.ifCond .ne 15, 3) := by decide +kernel
theorem dL_law_615 : decode cL_law 615 = .ok (.aload_n 3, 1) := by decide +kernel
theorem dL_law_616 : decode cL_law 616 = .ok (.iconst 0, 1) := by decide +kernel
theorem dL_law_617 : decode cL_law 617 = .ok (.laload, 1) := by decide +kernel
theorem dL_law_618 : decode cL_law 618 = .ok (.iload 6, 2) := by decide +kernel
theorem dL_law_620 : decode cL_law 620 = .ok (.i2l, 1) := by decide +kernel
theorem dL_law_621 : decode cL_law 621 = .ok (.lcmp, 1) := by decide +kernel
theorem dL_law_622 : decode cL_law 622 = .ok (.ifCond .eq 5, 3) := by decide +kernel
theorem dL_law_625 : decode cL_law 625 = .ok (.iconst 0, 1) := by decide +kernel
theorem dL_law_626 : decode cL_law 626 = .ok (.ireturn, 1) := by decide +kernel
theorem dL_law_627 : decode cL_law 627 = .ok (.goto 1502, 3) := by decide +kernel
theorem dL_law_630 : decode cL_law 630 = .ok (.aload_n 1, 1) := by decide +kernel
theorem dL_law_631 : decode cL_law 631 = .ok (.aload_n 0, 1) := by decide +kernel
theorem dL_law_632 : decode cL_law 632 = .ok (.iload 4, 2) := by decide +kernel
theorem dL_law_634 : decode cL_law 634 = .ok (.iconst 1, 1) := by decide +kernel
theorem dL_law_635 : decode cL_law 635 = .ok (.iadd, 1) := by decide +kernel
theorem dL_law_636 : decode cL_law 636 = .ok (.iaload, 1) := by decide +kernel
theorem dL_law_637 : decode cL_law 637 = .ok (.i2c, 1) := by decide +kernel
theorem dL_law_638 : decode cL_law 638 = .ok (.aload_n 0, 1) := by decide +kernel
theorem dL_law_639 : decode cL_law 639 = .ok (.iload 4, 2) := by decide +kernel
theorem dL_law_641 : decode cL_law 641 = .ok (.iconst 2, 1) := by decide +kernel
theorem dL_law_642 : decode cL_law 642 = .ok (.iadd, 1) := by decide +kernel
theorem dL_law_643 : decode cL_law 643 = .ok (.iaload, 1) := by decide +kernel
theorem dL_law_644 : decode cL_law 644 = .ok (.aload_n 0, 1) := by decide +kernel
theorem dL_law_645 : decode cL_law 645 = .ok (.iload 4, 2) := by decide +kernel
theorem dL_law_647 : decode cL_law 647 = .ok (.iconst 3, 1) := by decide +kernel
theorem dL_law_648 : decode cL_law 648 = .ok (.iadd, 1) := by decide +kernel
theorem dL_law_649 : decode cL_law 649 = .ok (.iaload, 1) := by decide +kernel
theorem dL_law_650 : decode cL_law 650 = .ok (.aload_n 0, 1) := by decide +kernel
theorem dL_law_651 : decode cL_law 651 = .ok (.iload 4, 2) := by decide +kernel
theorem dL_law_653 : decode cL_law 653 = .ok (.iconst 4, 1) := by decide +kernel
theorem dL_law_654 : decode cL_law 654 = .ok (.iadd, 1) := by decide +kernel
theorem dL_law_655 : decode cL_law 655 = .ok (.iaload, 1) := by decide +kernel
theorem dL_law_656 : decode cL_law 656 = .ok (.aload_n 0, 1) := by decide +kernel
theorem dL_law_657 : decode cL_law 657 = .ok (.iload 4, 2) := by decide +kernel
theorem dL_law_659 : decode cL_law 659 = .ok (.iconst 5, 1) := by decide +kernel
theorem dL_law_660 : decode cL_law 660 = .ok (.iadd, 1) := by decide +kernel
theorem dL_law_661 : decode cL_law 661 = .ok (.iaload, 1) := by decide +kernel
theorem dL_law_662 : decode cL_law 662 = .ok (.aload_n 3, 1) := by decide +kernel
theorem dL_law_663 : decode cL_law 663 = .ok (.invokestatic 156, 3) := by decide +kernel
theorem dL_law_666 : decode cL_law 666 = .ok (.istore 5, 2) := by decide +kernel
theorem dL_law_668 : decode cL_law 668 = .ok (.aload_n 2, 1) := by decide +kernel
theorem dL_law_669 : decode cL_law 669 = .ok (.aload_n 0, 1) := by decide +kernel
theorem dL_law_670 : decode cL_law 670 = .ok (.iload 4, 2) := by decide +kernel
theorem dL_law_672 : decode cL_law 672 = .ok (.iconst 1, 1) := by decide +kernel
theorem dL_law_673 : decode cL_law 673 = .ok (.iadd, 1) := by decide +kernel
theorem dL_law_674 : decode cL_law 674 = .ok (.iaload, 1) := by decide +kernel
theorem dL_law_675 : decode cL_law 675 = .ok (.i2c, 1) := by decide +kernel
theorem dL_law_676 : decode cL_law 676 = .ok (.aload_n 0, 1) := by decide +kernel
theorem dL_law_677 : decode cL_law 677 = .ok (.iload 4, 2) := by decide +kernel
theorem dL_law_679 : decode cL_law 679 = .ok (.iconst 2, 1) := by decide +kernel
theorem dL_law_680 : decode cL_law 680 = .ok (.iadd, 1) := by decide +kernel
theorem dL_law_681 : decode cL_law 681 = .ok (.iaload, 1) := by decide +kernel
theorem dL_law_682 : decode cL_law 682 = .ok (.aload_n 0, 1) := by decide +kernel
theorem dL_law_683 : decode cL_law 683 = .ok (.iload 4, 2) := by decide +kernel
theorem dL_law_685 : decode cL_law 685 = .ok (.iconst 3, 1) := by decide +kernel
theorem dL_law_686 : decode cL_law 686 = .ok (.iadd, 1) := by decide +kernel
theorem dL_law_687 : decode cL_law 687 = .ok (.iaload, 1) := by decide +kernel
theorem dL_law_688 : decode cL_law 688 = .ok (.aload_n 0, 1) := by decide +kernel
theorem dL_law_689 : decode cL_law 689 = .ok (.iload 4, 2) := by decide +kernel
theorem dL_law_691 : decode cL_law 691 = .ok (.iconst 4, 1) := by decide +kernel
theorem dL_law_692 : decode cL_law 692 = .ok (.iadd, 1) := by decide +kernel
theorem dL_law_693 : decode cL_law 693 = .ok (.iaload, 1) := by decide +kernel
theorem dL_law_694 : decode cL_law 694 = .ok (.aload_n 0, 1) := by decide +kernel
theorem dL_law_695 : decode cL_law 695 = .ok (.iload 4, 2) := by decide +kernel
theorem dL_law_697 : decode cL_law 697 = .ok (.iconst 5, 1) := by decide +kernel
theorem dL_law_698 : decode cL_law 698 = .ok (.iadd, 1) := by decide +kernel
theorem dL_law_699 : decode cL_law 699 = .ok (.iaload, 1) := by decide +kernel
theorem dL_law_700 : decode cL_law 700 = .ok (.invokevirtual 159, 3) := by decide +kernel
theorem dL_law_703 : decode cL_law 703 = .ok (.istore 6, 2) := by decide +kernel
theorem dL_law_705 : decode cL_law 705 = .ok (.aload_n 2, 1) := by decide +kernel
theorem dL_law_706 : decode cL_law 706 = .ok (.invokevirtual 122, 3) := by decide +kernel
theorem dL_law_709 : decode cL_law 709 = .ok (.iload 5, 2) := by decide +kernel
theorem dL_law_711 : decode cL_law 711 = .ok (.if_icmp .eq 5, 3) := by decide +kernel
theorem dL_law_714 : decode cL_law 714 = .ok (.iconst 0, 1) := by decide +kernel
theorem dL_law_715 : decode cL_law 715 = .ok (.ireturn, 1) := by decide +kernel
theorem dL_law_716 : decode cL_law 716 = .ok (.iload 5, 2) := by decide +kernel
theorem dL_law_718 : decode cL_law 718 = .ok (.ifCond .ne 15, 3) := by decide +kernel
theorem dL_law_721 : decode cL_law 721 = .ok (.aload_n 3, 1) := by decide +kernel
theorem dL_law_722 : decode cL_law 722 = .ok (.iconst 0, 1) := by decide +kernel
theorem dL_law_723 : decode cL_law 723 = .ok (.laload, 1) := by decide +kernel
theorem dL_law_724 : decode cL_law 724 = .ok (.iload 6, 2) := by decide +kernel
theorem dL_law_726 : decode cL_law 726 = .ok (.i2l, 1) := by decide +kernel
theorem dL_law_727 : decode cL_law 727 = .ok (.lcmp, 1) := by decide +kernel
theorem dL_law_728 : decode cL_law 728 = .ok (.ifCond .eq 5, 3) := by decide +kernel
theorem dL_law_731 : decode cL_law 731 = .ok (.iconst 0, 1) := by decide +kernel
theorem dL_law_732 : decode cL_law 732 = .ok (.ireturn, 1) := by decide +kernel
theorem dL_law_733 : decode cL_law 733 = .ok (.goto 1396, 3) := by decide +kernel
theorem dL_law_736 : decode cL_law 736 = .ok (.aload_n 1, 1) := by decide +kernel
theorem dL_law_737 : decode cL_law 737 = .ok (.aload_n 0, 1) := by decide +kernel
theorem dL_law_738 : decode cL_law 738 = .ok (.iload 4, 2) := by decide +kernel
theorem dL_law_740 : decode cL_law 740 = .ok (.iconst 1, 1) := by decide +kernel
theorem dL_law_741 : decode cL_law 741 = .ok (.iadd, 1) := by decide +kernel
theorem dL_law_742 : decode cL_law 742 = .ok (.iaload, 1) := by decide +kernel
theorem dL_law_743 : decode cL_law 743 = .ok (.i2c, 1) := by decide +kernel
theorem dL_law_744 : decode cL_law 744 = .ok (.aload_n 0, 1) := by decide +kernel
theorem dL_law_745 : decode cL_law 745 = .ok (.iload 4, 2) := by decide +kernel
theorem dL_law_747 : decode cL_law 747 = .ok (.iconst 2, 1) := by decide +kernel
theorem dL_law_748 : decode cL_law 748 = .ok (.iadd, 1) := by decide +kernel
theorem dL_law_749 : decode cL_law 749 = .ok (.iaload, 1) := by decide +kernel
theorem dL_law_750 : decode cL_law 750 = .ok (.aload_n 0, 1) := by decide +kernel
theorem dL_law_751 : decode cL_law 751 = .ok (.iload 4, 2) := by decide +kernel
theorem dL_law_753 : decode cL_law 753 = .ok (.iconst 3, 1) := by decide +kernel
theorem dL_law_754 : decode cL_law 754 = .ok (.iadd, 1) := by decide +kernel
theorem dL_law_755 : decode cL_law 755 = .ok (.iaload, 1) := by decide +kernel
theorem dL_law_756 : decode cL_law 756 = .ok (.aload_n 3, 1) := by decide +kernel
theorem dL_law_757 : decode cL_law 757 = .ok (.invokestatic 160, 3) := by decide +kernel
theorem dL_law_760 : decode cL_law 760 = .ok (.istore 5, 2) := by decide +kernel
theorem dL_law_762 : decode cL_law 762 = .ok (.aload_n 2, 1) := by decide +kernel
theorem dL_law_763 : decode cL_law 763 = .ok (.aload_n 0, 1) := by decide +kernel
theorem dL_law_764 : decode cL_law 764 = .ok (.iload 4, 2) := by decide +kernel
theorem dL_law_766 : decode cL_law 766 = .ok (.iconst 1, 1) := by decide +kernel
theorem dL_law_767 : decode cL_law 767 = .ok (.iadd, 1) := by decide +kernel
theorem dL_law_768 : decode cL_law 768 = .ok (.iaload, 1) := by decide +kernel
theorem dL_law_769 : decode cL_law 769 = .ok (.i2c, 1) := by decide +kernel
theorem dL_law_770 : decode cL_law 770 = .ok (.aload_n 0, 1) := by decide +kernel
theorem dL_law_771 : decode cL_law 771 = .ok (.iload 4, 2) := by decide +kernel
theorem dL_law_773 : decode cL_law 773 = .ok (.iconst 2, 1) := by decide +kernel
theorem dL_law_774 : decode cL_law 774 = .ok (.iadd, 1) := by decide +kernel
theorem dL_law_775 : decode cL_law 775 = .ok (.iaload, 1) := by decide +kernel
theorem dL_law_776 : decode cL_law 776 = .ok (.aload_n 0, 1) := by decide +kernel
theorem dL_law_777 : decode cL_law 777 = .ok (.iload 4, 2) := by decide +kernel
theorem dL_law_779 : decode cL_law 779 = .ok (.iconst 3, 1) := by decide +kernel
theorem dL_law_780 : decode cL_law 780 = .ok (.iadd, 1) := by decide +kernel
theorem dL_law_781 : decode cL_law 781 = .ok (.iaload, 1) := by decide +kernel
theorem dL_law_782 : decode cL_law 782 = .ok (.invokevirtual 163, 3) := by decide +kernel
theorem dL_law_785 : decode cL_law 785 = .ok (.istore 6, 2) := by decide +kernel
theorem dL_law_787 : decode cL_law 787 = .ok (.aload_n 2, 1) := by decide +kernel
theorem dL_law_788 : decode cL_law 788 = .ok (.invokevirtual 122, 3) := by decide +kernel
theorem dL_law_791 : decode cL_law 791 = .ok (.iload 5, 2) := by decide +kernel
theorem dL_law_793 : decode cL_law 793 = .ok (.if_icmp .eq 5, 3) := by decide +kernel
theorem dL_law_796 : decode cL_law 796 = .ok (.iconst 0, 1) := by decide +kernel
theorem dL_law_797 : decode cL_law 797 = .ok (.ireturn, 1) := by decide +kernel
theorem dL_law_798 : decode cL_law 798 = .ok (.iload 5, 2) := by decide +kernel
theorem dL_law_800 : decode cL_law 800 = .ok (.ifCond .ne 15, 3) := by decide +kernel
theorem dL_law_803 : decode cL_law 803 = .ok (.aload_n 3, 1) := by decide +kernel
theorem dL_law_804 : decode cL_law 804 = .ok (.iconst 0, 1) := by decide +kernel
theorem dL_law_805 : decode cL_law 805 = .ok (.laload, 1) := by decide +kernel
theorem dL_law_806 : decode cL_law 806 = .ok (.iload 6, 2) := by decide +kernel
theorem dL_law_808 : decode cL_law 808 = .ok (.i2l, 1) := by decide +kernel
theorem dL_law_809 : decode cL_law 809 = .ok (.lcmp, 1) := by decide +kernel
theorem dL_law_810 : decode cL_law 810 = .ok (.ifCond .eq 5, 3) := by decide +kernel
theorem dL_law_813 : decode cL_law 813 = .ok (.iconst 0, 1) := by decide +kernel
theorem dL_law_814 : decode cL_law 814 = .ok (.ireturn, 1) := by decide +kernel
theorem dL_law_815 : decode cL_law 815 = .ok (.goto 1314, 3) := by decide +kernel
theorem dL_law_818 : decode cL_law 818 = .ok (.aload_n 1, 1) := by decide +kernel
theorem dL_law_819 : decode cL_law 819 = .ok (.aload_n 0, 1) := by decide +kernel
theorem dL_law_820 : decode cL_law 820 = .ok (.iload 4, 2) := by decide +kernel
theorem dL_law_822 : decode cL_law 822 = .ok (.iconst 1, 1) := by decide +kernel
theorem dL_law_823 : decode cL_law 823 = .ok (.iadd, 1) := by decide +kernel
theorem dL_law_824 : decode cL_law 824 = .ok (.iaload, 1) := by decide +kernel
theorem dL_law_825 : decode cL_law 825 = .ok (.aload_n 3, 1) := by decide +kernel
theorem dL_law_826 : decode cL_law 826 = .ok (.invokestatic 164, 3) := by decide +kernel
theorem dL_law_829 : decode cL_law 829 = .ok (.istore 5, 2) := by decide +kernel
theorem dL_law_831 : decode cL_law 831 = .ok (.aload_n 2, 1) := by decide +kernel
theorem dL_law_832 : decode cL_law 832 = .ok (.aload_n 0, 1) := by decide +kernel
theorem dL_law_833 : decode cL_law 833 = .ok (.iload 4, 2) := by decide +kernel
theorem dL_law_835 : decode cL_law 835 = .ok (.iconst 1, 1) := by decide +kernel
theorem dL_law_836 : decode cL_law 836 = .ok (.iadd, 1) := by decide +kernel
theorem dL_law_837 : decode cL_law 837 = .ok (.iaload, 1) := by decide +kernel
theorem dL_law_838 : decode cL_law 838 = .ok (.invokevirtual 167, 3) := by decide +kernel
theorem dL_law_841 : decode cL_law 841 = .ok (.istore 6, 2) := by decide +kernel
theorem dL_law_843 : decode cL_law 843 = .ok (.aload_n 2, 1) := by decide +kernel
theorem dL_law_844 : decode cL_law 844 = .ok (.invokevirtual 122, 3) := by decide +kernel
theorem dL_law_847 : decode cL_law 847 = .ok (.iload 5, 2) := by decide +kernel
theorem dL_law_849 : decode cL_law 849 = .ok (.if_icmp .eq 5, 3) := by decide +kernel
theorem dL_law_852 : decode cL_law 852 = .ok (.iconst 0, 1) := by decide +kernel
theorem dL_law_853 : decode cL_law 853 = .ok (.ireturn, 1) := by decide +kernel
theorem dL_law_854 : decode cL_law 854 = .ok (.iload 5, 2) := by decide +kernel
theorem dL_law_856 : decode cL_law 856 = .ok (.ifCond .ne 15, 3) := by decide +kernel
theorem dL_law_859 : decode cL_law 859 = .ok (.aload_n 3, 1) := by decide +kernel
theorem dL_law_860 : decode cL_law 860 = .ok (.iconst 0, 1) := by decide +kernel
theorem dL_law_861 : decode cL_law 861 = .ok (.laload, 1) := by decide +kernel
theorem dL_law_862 : decode cL_law 862 = .ok (.iload 6, 2) := by decide +kernel
theorem dL_law_864 : decode cL_law 864 = .ok (.i2l, 1) := by decide +kernel
theorem dL_law_865 : decode cL_law 865 = .ok (.lcmp, 1) := by decide +kernel
theorem dL_law_866 : decode cL_law 866 = .ok (.ifCond .eq 5, 3) := by decide +kernel
theorem dL_law_869 : decode cL_law 869 = .ok (.iconst 0, 1) := by decide +kernel
theorem dL_law_870 : decode cL_law 870 = .ok (.ireturn, 1) := by decide +kernel
theorem dL_law_871 : decode cL_law 871 = .ok (.goto 1258, 3) := by decide +kernel
theorem dL_law_874 : decode cL_law 874 = .ok (.aload_n 1, 1) := by decide +kernel
theorem dL_law_875 : decode cL_law 875 = .ok (.aload_n 0, 1) := by decide +kernel
theorem dL_law_876 : decode cL_law 876 = .ok (.iload 4, 2) := by decide +kernel
theorem dL_law_878 : decode cL_law 878 = .ok (.iconst 1, 1) := by decide +kernel
theorem dL_law_879 : decode cL_law 879 = .ok (.iadd, 1) := by decide +kernel
theorem dL_law_880 : decode cL_law 880 = .ok (.iaload, 1) := by decide +kernel
theorem dL_law_881 : decode cL_law 881 = .ok (.aload_n 3, 1) := by decide +kernel
theorem dL_law_882 : decode cL_law 882 = .ok (.invokestatic 168, 3) := by decide +kernel
theorem dL_law_885 : decode cL_law 885 = .ok (.istore 5, 2) := by decide +kernel
theorem dL_law_887 : decode cL_law 887 = .ok (.aload_n 2, 1) := by decide +kernel
theorem dL_law_888 : decode cL_law 888 = .ok (.aload_n 0, 1) := by decide +kernel
theorem dL_law_889 : decode cL_law 889 = .ok (.iload 4, 2) := by decide +kernel
theorem dL_law_891 : decode cL_law 891 = .ok (.iconst 1, 1) := by decide +kernel
theorem dL_law_892 : decode cL_law 892 = .ok (.iadd, 1) := by decide +kernel
theorem dL_law_893 : decode cL_law 893 = .ok (.iaload, 1) := by decide +kernel
theorem dL_law_894 : decode cL_law 894 = .ok (.invokevirtual 170, 3) := by decide +kernel
theorem dL_law_897 : decode cL_law 897 = .ok (.istore 6, 2) := by decide +kernel
theorem dL_law_899 : decode cL_law 899 = .ok (.aload_n 2, 1) := by decide +kernel
theorem dL_law_900 : decode cL_law 900 = .ok (.invokevirtual 122, 3) := by decide +kernel
theorem dL_law_903 : decode cL_law 903 = .ok (.iload 5, 2) := by decide +kernel
theorem dL_law_905 : decode cL_law 905 = .ok (.if_icmp .eq 5, 3) := by decide +kernel
theorem dL_law_908 : decode cL_law 908 = .ok (.iconst 0, 1) := by decide +kernel
theorem dL_law_909 : decode cL_law 909 = .ok (.ireturn, 1) := by decide +kernel
theorem dL_law_910 : decode cL_law 910 = .ok (.iload 5, 2) := by decide +kernel
theorem dL_law_912 : decode cL_law 912 = .ok (.ifCond .ne 15, 3) := by decide +kernel
theorem dL_law_915 : decode cL_law 915 = .ok (.aload_n 3, 1) := by decide +kernel
theorem dL_law_916 : decode cL_law 916 = .ok (.iconst 0, 1) := by decide +kernel
theorem dL_law_917 : decode cL_law 917 = .ok (.laload, 1) := by decide +kernel
theorem dL_law_918 : decode cL_law 918 = .ok (.iload 6, 2) := by decide +kernel
theorem dL_law_920 : decode cL_law 920 = .ok (.i2l, 1) := by decide +kernel
theorem dL_law_921 : decode cL_law 921 = .ok (.lcmp, 1) := by decide +kernel
theorem dL_law_922 : decode cL_law 922 = .ok (.ifCond .eq 5, 3) := by decide +kernel
theorem dL_law_925 : decode cL_law 925 = .ok (.iconst 0, 1) := by decide +kernel
theorem dL_law_926 : decode cL_law 926 = .ok (.ireturn, 1) := by decide +kernel
theorem dL_law_927 : decode cL_law 927 = .ok (.goto 1202, 3) := by decide +kernel
theorem dL_law_930 : decode cL_law 930 = .ok (.aload_n 1, 1) := by decide +kernel
theorem dL_law_931 : decode cL_law 931 = .ok (.aload_n 0, 1) := by decide +kernel
theorem dL_law_932 : decode cL_law 932 = .ok (.iload 4, 2) := by decide +kernel
theorem dL_law_934 : decode cL_law 934 = .ok (.iconst 1, 1) := by decide +kernel
theorem dL_law_935 : decode cL_law 935 = .ok (.iadd, 1) := by decide +kernel
theorem dL_law_936 : decode cL_law 936 = .ok (.iaload, 1) := by decide +kernel
theorem dL_law_937 : decode cL_law 937 = .ok (.aload_n 3, 1) := by decide +kernel
theorem dL_law_938 : decode cL_law 938 = .ok (.invokestatic 171, 3) := by decide +kernel
theorem dL_law_941 : decode cL_law 941 = .ok (.istore 5, 2) := by decide +kernel
theorem dL_law_943 : decode cL_law 943 = .ok (.aload_n 2, 1) := by decide +kernel
theorem dL_law_944 : decode cL_law 944 = .ok (.aload_n 0, 1) := by decide +kernel
theorem dL_law_945 : decode cL_law 945 = .ok (.iload 4, 2) := by decide +kernel
theorem dL_law_947 : decode cL_law 947 = .ok (.iconst 1, 1) := by decide +kernel
theorem dL_law_948 : decode cL_law 948 = .ok (.iadd, 1) := by decide +kernel
theorem dL_law_949 : decode cL_law 949 = .ok (.iaload, 1) := by decide +kernel
theorem dL_law_950 : decode cL_law 950 = .ok (.invokevirtual 173, 3) := by decide +kernel
theorem dL_law_953 : decode cL_law 953 = .ok (.istore 6, 2) := by decide +kernel
theorem dL_law_955 : decode cL_law 955 = .ok (.aload_n 2, 1) := by decide +kernel
theorem dL_law_956 : decode cL_law 956 = .ok (.invokevirtual 122, 3) := by decide +kernel
theorem dL_law_959 : decode cL_law 959 = .ok (.iload 5, 2) := by decide +kernel
theorem dL_law_961 : decode cL_law 961 = .ok (.if_icmp .eq 5, 3) := by decide +kernel
theorem dL_law_964 : decode cL_law 964 = .ok (.iconst 0, 1) := by decide +kernel
theorem dL_law_965 : decode cL_law 965 = .ok (.ireturn, 1) := by decide +kernel
theorem dL_law_966 : decode cL_law 966 = .ok (.iload 5, 2) := by decide +kernel
theorem dL_law_968 : decode cL_law 968 = .ok (.ifCond .ne 15, 3) := by decide +kernel
theorem dL_law_971 : decode cL_law 971 = .ok (.aload_n 3, 1) := by decide +kernel
theorem dL_law_972 : decode cL_law 972 = .ok (.iconst 0, 1) := by decide +kernel
theorem dL_law_973 : decode cL_law 973 = .ok (.laload, 1) := by decide +kernel
theorem dL_law_974 : decode cL_law 974 = .ok (.iload 6, 2) := by decide +kernel
theorem dL_law_976 : decode cL_law 976 = .ok (.i2l, 1) := by decide +kernel
theorem dL_law_977 : decode cL_law 977 = .ok (.lcmp, 1) := by decide +kernel
theorem dL_law_978 : decode cL_law 978 = .ok (.ifCond .eq 5, 3) := by decide +kernel
theorem dL_law_981 : decode cL_law 981 = .ok (.iconst 0, 1) := by decide +kernel
theorem dL_law_982 : decode cL_law 982 = .ok (.ireturn, 1) := by decide +kernel
theorem dL_law_983 : decode cL_law 983 = .ok (.goto 1146, 3) := by decide +kernel
theorem dL_law_986 : decode cL_law 986 = .ok (.aload_n 1, 1) := by decide +kernel
theorem dL_law_987 : decode cL_law 987 = .ok (.aload_n 0, 1) := by decide +kernel
theorem dL_law_988 : decode cL_law 988 = .ok (.iload 4, 2) := by decide +kernel
theorem dL_law_990 : decode cL_law 990 = .ok (.iconst 1, 1) := by decide +kernel
theorem dL_law_991 : decode cL_law 991 = .ok (.iadd, 1) := by decide +kernel
theorem dL_law_992 : decode cL_law 992 = .ok (.iaload, 1) := by decide +kernel
theorem dL_law_993 : decode cL_law 993 = .ok (.aload_n 3, 1) := by decide +kernel
theorem dL_law_994 : decode cL_law 994 = .ok (.invokestatic 174, 3) := by decide +kernel
theorem dL_law_997 : decode cL_law 997 = .ok (.istore 5, 2) := by decide +kernel
theorem dL_law_999 : decode cL_law 999 = .ok (.aload_n 2, 1) := by decide +kernel
theorem dL_law_1000 : decode cL_law 1000 = .ok (.aload_n 0, 1) := by decide +kernel
theorem dL_law_1001 : decode cL_law 1001 = .ok (.iload 4, 2) := by decide +kernel
theorem dL_law_1003 : decode cL_law 1003 = .ok (.iconst 1, 1) := by decide +kernel
theorem dL_law_1004 : decode cL_law 1004 = .ok (.iadd, 1) := by decide +kernel
theorem dL_law_1005 : decode cL_law 1005 = .ok (.iaload, 1) := by decide +kernel
theorem dL_law_1006 : decode cL_law 1006 = .ok (.invokevirtual 176, 3) := by decide +kernel
theorem dL_law_1009 : decode cL_law 1009 = .ok (.istore 6, 2) := by decide +kernel
theorem dL_law_1011 : decode cL_law 1011 = .ok (.aload_n 2, 1) := by decide +kernel
theorem dL_law_1012 : decode cL_law 1012 = .ok (.invokevirtual 122, 3) := by decide +kernel
theorem dL_law_1015 : decode cL_law 1015 = .ok (.iload 5, 2) := by decide +kernel
theorem dL_law_1017 : decode cL_law 1017 = .ok (.if_icmp .eq 5, 3) := by decide +kernel
theorem dL_law_1020 : decode cL_law 1020 = .ok (.iconst 0, 1) := by decide +kernel
theorem dL_law_1021 : decode cL_law 1021 = .ok (.ireturn, 1) := by decide +kernel
theorem dL_law_1022 : decode cL_law 1022 = .ok (.iload 5, 2) := by decide +kernel
theorem dL_law_1024 : decode cL_law 1024 = .ok (.ifCond .ne 15, 3) := by decide +kernel
theorem dL_law_1027 : decode cL_law 1027 = .ok (.aload_n 3, 1) := by decide +kernel
theorem dL_law_1028 : decode cL_law 1028 = .ok (.iconst 0, 1) := by decide +kernel
theorem dL_law_1029 : decode cL_law 1029 = .ok (.laload, 1) := by decide +kernel
theorem dL_law_1030 : decode cL_law 1030 = .ok (.iload 6, 2) := by decide +kernel
theorem dL_law_1032 : decode cL_law 1032 = .ok (.i2l, 1) := by decide +kernel
theorem dL_law_1033 : decode cL_law 1033 = .ok (.lcmp, 1) := by decide +kernel
theorem dL_law_1034 : decode cL_law 1034 = .ok (.ifCond .eq 5, 3) := by decide +kernel
theorem dL_law_1037 : decode cL_law 1037 = .ok (.iconst 0, 1) := by decide +kernel
theorem dL_law_1038 : decode cL_law 1038 = .ok (.ireturn, 1) := by decide +kernel
theorem dL_law_1039 : decode cL_law 1039 = .ok (.goto 1090, 3) := by decide +kernel
theorem dL_law_1042 : decode cL_law 1042 = .ok (.aload_n 1, 1) := by decide +kernel
theorem dL_law_1043 : decode cL_law 1043 = .ok (.aload_n 0, 1) := by decide +kernel
theorem dL_law_1044 : decode cL_law 1044 = .ok (.iload 4, 2) := by decide +kernel
theorem dL_law_1046 : decode cL_law 1046 = .ok (.iconst 1, 1) := by decide +kernel
theorem dL_law_1047 : decode cL_law 1047 = .ok (.iadd, 1) := by decide +kernel
theorem dL_law_1048 : decode cL_law 1048 = .ok (.iaload, 1) := by decide +kernel
theorem dL_law_1049 : decode cL_law 1049 = .ok (.aload_n 3, 1) := by decide +kernel
theorem dL_law_1050 : decode cL_law 1050 = .ok (.invokestatic 177, 3) := by decide +kernel
theorem dL_law_1053 : decode cL_law 1053 = .ok (.istore 5, 2) := by decide +kernel
theorem dL_law_1055 : decode cL_law 1055 = .ok (.aload_n 2, 1) := by decide +kernel
theorem dL_law_1056 : decode cL_law 1056 = .ok (.aload_n 0, 1) := by decide +kernel
theorem dL_law_1057 : decode cL_law 1057 = .ok (.iload 4, 2) := by decide +kernel
theorem dL_law_1059 : decode cL_law 1059 = .ok (.iconst 1, 1) := by decide +kernel
theorem dL_law_1060 : decode cL_law 1060 = .ok (.iadd, 1) := by decide +kernel
theorem dL_law_1061 : decode cL_law 1061 = .ok (.iaload, 1) := by decide +kernel
theorem dL_law_1062 : decode cL_law 1062 = .ok (.invokevirtual 179, 3) := by decide +kernel
theorem dL_law_1065 : decode cL_law 1065 = .ok (.istore 6, 2) := by decide +kernel
theorem dL_law_1067 : decode cL_law 1067 = .ok (.aload_n 2, 1) := by decide +kernel
theorem dL_law_1068 : decode cL_law 1068 = .ok (.invokevirtual 122, 3) := by decide +kernel
theorem dL_law_1071 : decode cL_law 1071 = .ok (.iload 5, 2) := by decide +kernel
theorem dL_law_1073 : decode cL_law 1073 = .ok (.if_icmp .eq 5, 3) := by decide +kernel
theorem dL_law_1076 : decode cL_law 1076 = .ok (.iconst 0, 1) := by decide +kernel
theorem dL_law_1077 : decode cL_law 1077 = .ok (.ireturn, 1) := by decide +kernel
theorem dL_law_1078 : decode cL_law 1078 = .ok (.iload 5, 2) := by decide +kernel
theorem dL_law_1080 : decode cL_law 1080 = .ok (.ifCond .ne 15, 3) := by decide +kernel
theorem dL_law_1083 : decode cL_law 1083 = .ok (.aload_n 3, 1) := by decide +kernel
theorem dL_law_1084 : decode cL_law 1084 = .ok (.iconst 0, 1) := by decide +kernel
theorem dL_law_1085 : decode cL_law 1085 = .ok (.laload, 1) := by decide +kernel
theorem dL_law_1086 : decode cL_law 1086 = .ok (.iload 6, 2) := by decide +kernel
theorem dL_law_1088 : decode cL_law 1088 = .ok (.i2l, 1) := by decide +kernel
theorem dL_law_1089 : decode cL_law 1089 = .ok (.lcmp, 1) := by decide +kernel
theorem dL_law_1090 : decode cL_law 1090 = .ok (.ifCond .eq 5, 3) := by decide +kernel
theorem dL_law_1093 : decode cL_law 1093 = .ok (.iconst 0, 1) := by decide +kernel
theorem dL_law_1094 : decode cL_law 1094 = .ok (.ireturn, 1) := by decide +kernel
theorem dL_law_1095 : decode cL_law 1095 = .ok (.goto 1034, 3) := by decide +kernel
theorem dL_law_1098 : decode cL_law 1098 = .ok (.aload_n 1, 1) := by decide +kernel
theorem dL_law_1099 : decode cL_law 1099 = .ok (.aload_n 0, 1) := by decide +kernel
theorem dL_law_1100 : decode cL_law 1100 = .ok (.iload 4, 2) := by decide +kernel
theorem dL_law_1102 : decode cL_law 1102 = .ok (.iconst 1, 1) := by decide +kernel
theorem dL_law_1103 : decode cL_law 1103 = .ok (.iadd, 1) := by decide +kernel
theorem dL_law_1104 : decode cL_law 1104 = .ok (.iaload, 1) := by decide +kernel
theorem dL_law_1105 : decode cL_law 1105 = .ok (.aload_n 0, 1) := by decide +kernel
theorem dL_law_1106 : decode cL_law 1106 = .ok (.iload 4, 2) := by decide +kernel
theorem dL_law_1108 : decode cL_law 1108 = .ok (.iconst 2, 1) := by decide +kernel
theorem dL_law_1109 : decode cL_law 1109 = .ok (.iadd, 1) := by decide +kernel
theorem dL_law_1110 : decode cL_law 1110 = .ok (.iaload, 1) := by decide +kernel
theorem dL_law_1111 : decode cL_law 1111 = .ok (.aload_n 3, 1) := by decide +kernel
theorem dL_law_1112 : decode cL_law 1112 = .ok (.invokestatic 180, 3) := by decide +kernel
theorem dL_law_1115 : decode cL_law 1115 = .ok (.istore 5, 2) := by decide +kernel
theorem dL_law_1117 : decode cL_law 1117 = .ok (.aload_n 2, 1) := by decide +kernel
theorem dL_law_1118 : decode cL_law 1118 = .ok (.aload_n 0, 1) := by decide +kernel
theorem dL_law_1119 : decode cL_law 1119 = .ok (.iload 4, 2) := by decide +kernel
theorem dL_law_1121 : decode cL_law 1121 = .ok (.iconst 1, 1) := by decide +kernel
theorem dL_law_1122 : decode cL_law 1122 = .ok (.iadd, 1) := by decide +kernel
theorem dL_law_1123 : decode cL_law 1123 = .ok (.iaload, 1) := by decide +kernel
theorem dL_law_1124 : decode cL_law 1124 = .ok (.aload_n 0, 1) := by decide +kernel
theorem dL_law_1125 : decode cL_law 1125 = .ok (.iload 4, 2) := by decide +kernel
theorem dL_law_1127 : decode cL_law 1127 = .ok (.iconst 2, 1) := by decide +kernel
theorem dL_law_1128 : decode cL_law 1128 = .ok (.iadd, 1) := by decide +kernel
theorem dL_law_1129 : decode cL_law 1129 = .ok (.iaload, 1) := by decide +kernel
theorem dL_law_1130 : decode cL_law 1130 = .ok (.invokevirtual 182, 3) := by decide +kernel
theorem dL_law_1133 : decode cL_law 1133 = .ok (.istore 6, 2) := by decide +kernel
theorem dL_law_1135 : decode cL_law 1135 = .ok (.aload_n 2, 1) := by decide +kernel
theorem dL_law_1136 : decode cL_law 1136 = .ok (.invokevirtual 122, 3) := by decide +kernel
theorem dL_law_1139 : decode cL_law 1139 = .ok (.iload 5, 2) := by decide +kernel
theorem dL_law_1141 : decode cL_law 1141 = .ok (.if_icmp .eq 5, 3) := by decide +kernel
theorem dL_law_1144 : decode cL_law 1144 = .ok (.iconst 0, 1) := by decide +kernel
theorem dL_law_1145 : decode cL_law 1145 = .ok (.ireturn, 1) := by decide +kernel
theorem dL_law_1146 : decode cL_law 1146 = .ok (.iload 5, 2) := by decide +kernel
theorem dL_law_1148 : decode cL_law 1148 = .ok (.ifCond .ne 15, 3) := by decide +kernel
theorem dL_law_1151 : decode cL_law 1151 = .ok (.aload_n 3, 1) := by decide +kernel
theorem dL_law_1152 : decode cL_law 1152 = .ok (.iconst 0, 1) := by decide +kernel
theorem dL_law_1153 : decode cL_law 1153 = .ok (.laload, 1) := by decide +kernel
theorem dL_law_1154 : decode cL_law 1154 = .ok (.iload 6, 2) := by decide +kernel
theorem dL_law_1156 : decode cL_law 1156 = .ok (.i2l, 1) := by decide +kernel
theorem dL_law_1157 : decode cL_law 1157 = .ok (.lcmp, 1) := by decide +kernel
theorem dL_law_1158 : decode cL_law 1158 = .ok (.ifCond .eq 5, 3) := by decide +kernel
theorem dL_law_1161 : decode cL_law 1161 = .ok (.iconst 0, 1) := by decide +kernel
theorem dL_law_1162 : decode cL_law 1162 = .ok (.ireturn, 1) := by decide +kernel
theorem dL_law_1163 : decode cL_law 1163 = .ok (.goto 966, 3) := by decide +kernel
theorem dL_law_1166 : decode cL_law 1166 = .ok (.aload_n 1, 1) := by decide +kernel
theorem dL_law_1167 : decode cL_law 1167 = .ok (.aload_n 0, 1) := by decide +kernel
theorem dL_law_1168 : decode cL_law 1168 = .ok (.iload 4, 2) := by decide +kernel
theorem dL_law_1170 : decode cL_law 1170 = .ok (.iconst 1, 1) := by decide +kernel
theorem dL_law_1171 : decode cL_law 1171 = .ok (.iadd, 1) := by decide +kernel
theorem dL_law_1172 : decode cL_law 1172 = .ok (.iaload, 1) := by decide +kernel
theorem dL_law_1173 : decode cL_law 1173 = .ok (.i2c, 1) := by decide +kernel
theorem dL_law_1174 : decode cL_law 1174 = .ok (.aload_n 0, 1) := by decide +kernel
theorem dL_law_1175 : decode cL_law 1175 = .ok (.iload 4, 2) := by decide +kernel
theorem dL_law_1177 : decode cL_law 1177 = .ok (.iconst 2, 1) := by decide +kernel
theorem dL_law_1178 : decode cL_law 1178 = .ok (.iadd, 1) := by decide +kernel
theorem dL_law_1179 : decode cL_law 1179 = .ok (.iaload, 1) := by decide +kernel
theorem dL_law_1180 : decode cL_law 1180 = .ok (.aload_n 3, 1) := by decide +kernel
theorem dL_law_1181 : decode cL_law 1181 = .ok (.invokestatic 183, 3) := by decide +kernel
theorem dL_law_1184 : decode cL_law 1184 = .ok (.istore 5, 2) := by decide +kernel
theorem dL_law_1186 : decode cL_law 1186 = .ok (.aload_n 2, 1) := by decide +kernel
theorem dL_law_1187 : decode cL_law 1187 = .ok (.aload_n 0, 1) := by decide +kernel
theorem dL_law_1188 : decode cL_law 1188 = .ok (.iload 4, 2) := by decide +kernel
theorem dL_law_1190 : decode cL_law 1190 = .ok (.iconst 1, 1) := by decide +kernel
theorem dL_law_1191 : decode cL_law 1191 = .ok (.iadd, 1) := by decide +kernel
theorem dL_law_1192 : decode cL_law 1192 = .ok (.iaload, 1) := by decide +kernel
theorem dL_law_1193 : decode cL_law 1193 = .ok (.i2c, 1) := by decide +kernel
theorem dL_law_1194 : decode cL_law 1194 = .ok (.aload_n 0, 1) := by decide +kernel
theorem dL_law_1195 : decode cL_law 1195 = .ok (.iload 4, 2) := by decide +kernel
theorem dL_law_1197 : decode cL_law 1197 = .ok (.iconst 2, 1) := by decide +kernel
theorem dL_law_1198 : decode cL_law 1198 = .ok (.iadd, 1) := by decide +kernel
theorem dL_law_1199 : decode cL_law 1199 = .ok (.iaload, 1) := by decide +kernel
theorem dL_law_1200 : decode cL_law 1200 = .ok (.invokevirtual 186, 3) := by decide +kernel
theorem dL_law_1203 : decode cL_law 1203 = .ok (.istore 6, 2) := by decide +kernel
theorem dL_law_1205 : decode cL_law 1205 = .ok (.aload_n 2, 1) := by decide +kernel
theorem dL_law_1206 : decode cL_law 1206 = .ok (.invokevirtual 122, 3) := by decide +kernel
theorem dL_law_1209 : decode cL_law 1209 = .ok (.iload 5, 2) := by decide +kernel
theorem dL_law_1211 : decode cL_law 1211 = .ok (.if_icmp .eq 5, 3) := by decide +kernel
theorem dL_law_1214 : decode cL_law 1214 = .ok (.iconst 0, 1) := by decide +kernel
theorem dL_law_1215 : decode cL_law 1215 = .ok (.ireturn, 1) := by decide +kernel
theorem dL_law_1216 : decode cL_law 1216 = .ok (.iload 5, 2) := by decide +kernel
theorem dL_law_1218 : decode cL_law 1218 = .ok (.ifCond .ne 15, 3) := by decide +kernel
theorem dL_law_1221 : decode cL_law 1221 = .ok (.aload_n 3, 1) := by decide +kernel
theorem dL_law_1222 : decode cL_law 1222 = .ok (.iconst 0, 1) := by decide +kernel
theorem dL_law_1223 : decode cL_law 1223 = .ok (.laload, 1) := by decide +kernel
theorem dL_law_1224 : decode cL_law 1224 = .ok (.iload 6, 2) := by decide +kernel
theorem dL_law_1226 : decode cL_law 1226 = .ok (.i2l, 1) := by decide +kernel
theorem dL_law_1227 : decode cL_law 1227 = .ok (.lcmp, 1) := by decide +kernel
theorem dL_law_1228 : decode cL_law 1228 = .ok (.ifCond .eq 5, 3) := by decide +kernel
theorem dL_law_1231 : decode cL_law 1231 = .ok (.iconst 0, 1) := by decide +kernel
theorem dL_law_1232 : decode cL_law 1232 = .ok (.ireturn, 1) := by decide +kernel
theorem dL_law_1233 : decode cL_law 1233 = .ok (.goto 896, 3) := by decide +kernel
theorem dL_law_1236 : decode cL_law 1236 = .ok (.aload_n 1, 1) := by decide +kernel
theorem dL_law_1237 : decode cL_law 1237 = .ok (.aload_n 0, 1) := by decide +kernel
theorem dL_law_1238 : decode cL_law 1238 = .ok (.iload 4, 2) := by decide +kernel
theorem dL_law_1240 : decode cL_law 1240 = .ok (.iconst 1, 1) := by decide +kernel
theorem dL_law_1241 : decode cL_law 1241 = .ok (.iadd, 1) := by decide +kernel
theorem dL_law_1242 : decode cL_law 1242 = .ok (.iaload, 1) := by decide +kernel
theorem dL_law_1243 : decode cL_law 1243 = .ok (.i2c, 1) := by decide +kernel
theorem dL_law_1244 : decode cL_law 1244 = .ok (.aload_n 3, 1) := by decide +kernel
theorem dL_law_1245 : decode cL_law 1245 = .ok (.invokestatic 187, 3) := by decide +kernel
theorem dL_law_1248 : decode cL_law 1248 = .ok (.istore 5, 2) := by decide +kernel
theorem dL_law_1250 : decode cL_law 1250 = .ok (.aload_n 2, 1) := by decide +kernel
theorem dL_law_1251 : decode cL_law 1251 = .ok (.aload_n 0, 1) := by decide +kernel
theorem dL_law_1252 : decode cL_law 1252 = .ok (.iload 4, 2) := by decide +kernel
theorem dL_law_1254 : decode cL_law 1254 = .ok (.iconst 1, 1) := by decide +kernel
theorem dL_law_1255 : decode cL_law 1255 = .ok (.iadd, 1) := by decide +kernel
theorem dL_law_1256 : decode cL_law 1256 = .ok (.iaload, 1) := by decide +kernel
theorem dL_law_1257 : decode cL_law 1257 = .ok (.i2c, 1) := by decide +kernel
theorem dL_law_1258 : decode cL_law 1258 = .ok (.invokevirtual 189, 3) := by decide +kernel
theorem dL_law_1261 : decode cL_law 1261 = .ok (.istore 6, 2) := by decide +kernel
theorem dL_law_1263 : decode cL_law 1263 = .ok (.aload_n 2, 1) := by decide +kernel
theorem dL_law_1264 : decode cL_law 1264 = .ok (.invokevirtual 122, 3) := by decide +kernel
theorem dL_law_1267 : decode cL_law 1267 = .ok (.iload 5, 2) := by decide +kernel
theorem dL_law_1269 : decode cL_law 1269 = .ok (.if_icmp .eq 5, 3) := by decide +kernel
theorem dL_law_1272 : decode cL_law 1272 = .ok (.iconst 0, 1) := by decide +kernel
theorem dL_law_1273 : decode cL_law 1273 = .ok (.ireturn, 1) := by decide +kernel
theorem dL_law_1274 : decode cL_law 1274 = .ok (.iload 5, 2) := by decide +kernel
theorem dL_law_1276 : decode cL_law 1276 = .ok (.ifCond .ne 22, 3) := by decide +kernel
theorem dL_law_1279 : decode cL_law 1279 = .ok (.aload_n 3, 1) := by decide +kernel
theorem dL_law_1280 : decode cL_law 1280 = .ok (.iconst 0, 1) := by decide +kernel
theorem dL_law_1281 : decode cL_law 1281 = .ok (.laload, 1) := by decide +kernel
theorem dL_law_1282 : decode cL_law 1282 = .ok (.iload 6, 2) := by decide +kernel
theorem dL_law_1284 : decode cL_law 1284 = .ok (.ifCond .eq 7, 3) := by decide +kernel
theorem dL_law_1287 : decode cL_law 1287 = .ok (.lconst 1, 1) := by decide +kernel
theorem dL_law_1288 : decode cL_law 1288 = .ok (.goto 4, 3) := by decide +kernel
theorem dL_law_1291 : decode cL_law 1291 = .ok (.lconst 0, 1) := by decide +kernel
theorem dL_law_1292 : decode cL_law 1292 = .ok (.lcmp, 1) := by decide +kernel
theorem dL_law_1293 : decode cL_law 1293 = .ok (.ifCond .eq 5, 3) := by decide +kernel
theorem dL_law_1296 : decode cL_law 1296 = .ok (.iconst 0, 1) := by decide +kernel
theorem dL_law_1297 : decode cL_law 1297 = .ok (.ireturn, 1) := by decide +kernel
theorem dL_law_1298 : decode cL_law 1298 = .ok (.goto 831, 3) := by decide +kernel
theorem dL_law_1301 : decode cL_law 1301 = .ok (.aload_n 1, 1) := by decide +kernel
theorem dL_law_1302 : decode cL_law 1302 = .ok (.aload_n 0, 1) := by decide +kernel
theorem dL_law_1303 : decode cL_law 1303 = .ok (.iload 4, 2) := by decide +kernel
theorem dL_law_1305 : decode cL_law 1305 = .ok (.iconst 1, 1) := by decide +kernel
theorem dL_law_1306 : decode cL_law 1306 = .ok (.iadd, 1) := by decide +kernel
theorem dL_law_1307 : decode cL_law 1307 = .ok (.iaload, 1) := by decide +kernel
theorem dL_law_1308 : decode cL_law 1308 = .ok (.i2c, 1) := by decide +kernel
theorem dL_law_1309 : decode cL_law 1309 = .ok (.aload_n 3, 1) := by decide +kernel
theorem dL_law_1310 : decode cL_law 1310 = .ok (.invokestatic 190, 3) := by decide +kernel
theorem dL_law_1313 : decode cL_law 1313 = .ok (.istore 5, 2) := by decide +kernel
theorem dL_law_1315 : decode cL_law 1315 = .ok (.aload_n 2, 1) := by decide +kernel
theorem dL_law_1316 : decode cL_law 1316 = .ok (.aload_n 0, 1) := by decide +kernel
theorem dL_law_1317 : decode cL_law 1317 = .ok (.iload 4, 2) := by decide +kernel
theorem dL_law_1319 : decode cL_law 1319 = .ok (.iconst 1, 1) := by decide +kernel
theorem dL_law_1320 : decode cL_law 1320 = .ok (.iadd, 1) := by decide +kernel
theorem dL_law_1321 : decode cL_law 1321 = .ok (.iaload, 1) := by decide +kernel
theorem dL_law_1322 : decode cL_law 1322 = .ok (.i2c, 1) := by decide +kernel
theorem dL_law_1323 : decode cL_law 1323 = .ok (.invokevirtual 192, 3) := by decide +kernel
theorem dL_law_1326 : decode cL_law 1326 = .ok (.istore 6, 2) := by decide +kernel
theorem dL_law_1328 : decode cL_law 1328 = .ok (.aload_n 2, 1) := by decide +kernel
theorem dL_law_1329 : decode cL_law 1329 = .ok (.invokevirtual 122, 3) := by decide +kernel
theorem dL_law_1332 : decode cL_law 1332 = .ok (.iload 5, 2) := by decide +kernel
theorem dL_law_1334 : decode cL_law 1334 = .ok (.if_icmp .eq 5, 3) := by decide +kernel
theorem dL_law_1337 : decode cL_law 1337 = .ok (.iconst 0, 1) := by decide +kernel
theorem dL_law_1338 : decode cL_law 1338 = .ok (.ireturn, 1) := by decide +kernel
theorem dL_law_1339 : decode cL_law 1339 = .ok (.iload 5, 2) := by decide +kernel
theorem dL_law_1341 : decode cL_law 1341 = .ok (.ifCond .ne 22, 3) := by decide +kernel
theorem dL_law_1344 : decode cL_law 1344 = .ok (.aload_n 3, 1) := by decide +kernel
theorem dL_law_1345 : decode cL_law 1345 = .ok (.iconst 0, 1) := by decide +kernel
theorem dL_law_1346 : decode cL_law 1346 = .ok (.laload, 1) := by decide +kernel
theorem dL_law_1347 : decode cL_law 1347 = .ok (.iload 6, 2) := by decide +kernel
theorem dL_law_1349 : decode cL_law 1349 = .ok (.ifCond .eq 7, 3) := by decide +kernel
theorem dL_law_1352 : decode cL_law 1352 = .ok (.lconst 1, 1) := by decide +kernel
theorem dL_law_1353 : decode cL_law 1353 = .ok (.goto 4, 3) := by decide +kernel
theorem dL_law_1356 : decode cL_law 1356 = .ok (.lconst 0, 1) := by decide +kernel
theorem dL_law_1357 : decode cL_law 1357 = .ok (.lcmp, 1) := by decide +kernel
theorem dL_law_1358 : decode cL_law 1358 = .ok (.ifCond .eq 5, 3) := by decide +kernel
theorem dL_law_1361 : decode cL_law 1361 = .ok (.iconst 0, 1) := by decide +kernel
theorem dL_law_1362 : decode cL_law 1362 = .ok (.ireturn, 1) := by decide +kernel
theorem dL_law_1363 : decode cL_law 1363 = .ok (.goto 766, 3) := by decide +kernel
theorem dL_law_1366 : decode cL_law 1366 = .ok (.aload_n 1, 1) := by decide +kernel
theorem dL_law_1367 : decode cL_law 1367 = .ok (.aload_n 0, 1) := by decide +kernel
theorem dL_law_1368 : decode cL_law 1368 = .ok (.iload 4, 2) := by decide +kernel
theorem dL_law_1370 : decode cL_law 1370 = .ok (.iconst 1, 1) := by decide +kernel
theorem dL_law_1371 : decode cL_law 1371 = .ok (.iadd, 1) := by decide +kernel
theorem dL_law_1372 : decode cL_law 1372 = .ok (.iaload, 1) := by decide +kernel
theorem dL_law_1373 : decode cL_law 1373 = .ok (.i2c, 1) := by decide +kernel
theorem dL_law_1374 : decode cL_law 1374 = .ok (.aload_n 0, 1) := by decide +kernel
theorem dL_law_1375 : decode cL_law 1375 = .ok (.iload 4, 2) := by decide +kernel
theorem dL_law_1377 : decode cL_law 1377 = .ok (.iconst 2, 1) := by decide +kernel
theorem dL_law_1378 : decode cL_law 1378 = .ok (.iadd, 1) := by decide +kernel
theorem dL_law_1379 : decode cL_law 1379 = .ok (.iaload, 1) := by decide +kernel
theorem dL_law_1380 : decode cL_law 1380 = .ok (.aload_n 3, 1) := by decide +kernel
theorem dL_law_1381 : decode cL_law 1381 = .ok (.invokestatic 193, 3) := by decide +kernel
theorem dL_law_1384 : decode cL_law 1384 = .ok (.istore 5, 2) := by decide +kernel
theorem dL_law_1386 : decode cL_law 1386 = .ok (.aload_n 2, 1) := by decide +kernel
theorem dL_law_1387 : decode cL_law 1387 = .ok (.aload_n 0, 1) := by decide +kernel
theorem dL_law_1388 : decode cL_law 1388 = .ok (.iload 4, 2) := by decide +kernel
theorem dL_law_1390 : decode cL_law 1390 = .ok (.iconst 1, 1) := by decide +kernel
theorem dL_law_1391 : decode cL_law 1391 = .ok (.iadd, 1) := by decide +kernel
theorem dL_law_1392 : decode cL_law 1392 = .ok (.iaload, 1) := by decide +kernel
theorem dL_law_1393 : decode cL_law 1393 = .ok (.i2c, 1) := by decide +kernel
theorem dL_law_1394 : decode cL_law 1394 = .ok (.aload_n 0, 1) := by decide +kernel
theorem dL_law_1395 : decode cL_law 1395 = .ok (.iload 4, 2) := by decide +kernel
theorem dL_law_1397 : decode cL_law 1397 = .ok (.iconst 2, 1) := by decide +kernel
theorem dL_law_1398 : decode cL_law 1398 = .ok (.iadd, 1) := by decide +kernel
theorem dL_law_1399 : decode cL_law 1399 = .ok (.iaload, 1) := by decide +kernel
theorem dL_law_1400 : decode cL_law 1400 = .ok (.invokevirtual 195, 3) := by decide +kernel
theorem dL_law_1403 : decode cL_law 1403 = .ok (.istore 6, 2) := by decide +kernel
theorem dL_law_1405 : decode cL_law 1405 = .ok (.aload_n 2, 1) := by decide +kernel
theorem dL_law_1406 : decode cL_law 1406 = .ok (.invokevirtual 122, 3) := by decide +kernel
theorem dL_law_1409 : decode cL_law 1409 = .ok (.iload 5, 2) := by decide +kernel
theorem dL_law_1411 : decode cL_law 1411 = .ok (.if_icmp .eq 5, 3) := by decide +kernel
theorem dL_law_1414 : decode cL_law 1414 = .ok (.iconst 0, 1) := by decide +kernel
theorem dL_law_1415 : decode cL_law 1415 = .ok (.ireturn, 1) := by decide +kernel
theorem dL_law_1416 : decode cL_law 1416 = .ok (.iload 5, 2) := by decide +kernel
theorem dL_law_1418 : decode cL_law 1418 = .ok (.ifCond .ne 15, 3) := by decide +kernel
theorem dL_law_1421 : decode cL_law 1421 = .ok (.aload_n 3, 1) := by decide +kernel
theorem dL_law_1422 : decode cL_law 1422 = .ok (.iconst 0, 1) := by decide +kernel
theorem dL_law_1423 : decode cL_law 1423 = .ok (.laload, 1) := by decide +kernel
theorem dL_law_1424 : decode cL_law 1424 = .ok (.iload 6, 2) := by decide +kernel
theorem dL_law_1426 : decode cL_law 1426 = .ok (.i2l, 1) := by decide +kernel
theorem dL_law_1427 : decode cL_law 1427 = .ok (.lcmp, 1) := by decide +kernel
theorem dL_law_1428 : decode cL_law 1428 = .ok (.ifCond .eq 5, 3) := by decide +kernel
theorem dL_law_1431 : decode cL_law 1431 = .ok (.iconst 0, 1) := by decide +kernel
theorem dL_law_1432 : decode cL_law 1432 = .ok (.ireturn, 1) := by decide +kernel
theorem dL_law_1433 : decode cL_law 1433 = .ok (.goto 696, 3) := by decide +kernel
theorem dL_law_1436 : decode cL_law 1436 = .ok (.aload_n 1, 1) := by decide +kernel
theorem dL_law_1437 : decode cL_law 1437 = .ok (.aload_n 0, 1) := by decide +kernel
theorem dL_law_1438 : decode cL_law 1438 = .ok (.iload 4, 2) := by decide +kernel
theorem dL_law_1440 : decode cL_law 1440 = .ok (.iconst 1, 1) := by decide +kernel
theorem dL_law_1441 : decode cL_law 1441 = .ok (.iadd, 1) := by decide +kernel
theorem dL_law_1442 : decode cL_law 1442 = .ok (.iaload, 1) := by decide +kernel
theorem dL_law_1443 : decode cL_law 1443 = .ok (.i2c, 1) := by decide +kernel
theorem dL_law_1444 : decode cL_law 1444 = .ok (.aload_n 0, 1) := by decide +kernel
theorem dL_law_1445 : decode cL_law 1445 = .ok (.iload 4, 2) := by decide +kernel
theorem dL_law_1447 : decode cL_law 1447 = .ok (.iconst 2, 1) := by decide +kernel
theorem dL_law_1448 : decode cL_law 1448 = .ok (.iadd, 1) := by decide +kernel
theorem dL_law_1449 : decode cL_law 1449 = .ok (.iaload, 1) := by decide +kernel
theorem dL_law_1450 : decode cL_law 1450 = .ok (.aload_n 0, 1) := by decide +kernel
theorem dL_law_1451 : decode cL_law 1451 = .ok (.iload 4, 2) := by decide +kernel
theorem dL_law_1453 : decode cL_law 1453 = .ok (.iconst 3, 1) := by decide +kernel
theorem dL_law_1454 : decode cL_law 1454 = .ok (.iadd, 1) := by decide +kernel
theorem dL_law_1455 : decode cL_law 1455 = .ok (.iaload, 1) := by decide +kernel
theorem dL_law_1456 : decode cL_law 1456 = .ok (.aload_n 3, 1) := by decide +kernel
theorem dL_law_1457 : decode cL_law 1457 = .ok (.invokestatic 196, 3) := by decide +kernel
theorem dL_law_1460 : decode cL_law 1460 = .ok (.istore 5, 2) := by decide +kernel
theorem dL_law_1462 : decode cL_law 1462 = .ok (.aload_n 2, 1) := by decide +kernel
theorem dL_law_1463 : decode cL_law 1463 = .ok (.aload_n 0, 1) := by decide +kernel
theorem dL_law_1464 : decode cL_law 1464 = .ok (.iload 4, 2) := by decide +kernel
theorem dL_law_1466 : decode cL_law 1466 = .ok (.iconst 1, 1) := by decide +kernel
theorem dL_law_1467 : decode cL_law 1467 = .ok (.iadd, 1) := by decide +kernel
theorem dL_law_1468 : decode cL_law 1468 = .ok (.iaload, 1) := by decide +kernel
theorem dL_law_1469 : decode cL_law 1469 = .ok (.i2c, 1) := by decide +kernel
theorem dL_law_1470 : decode cL_law 1470 = .ok (.aload_n 0, 1) := by decide +kernel
theorem dL_law_1471 : decode cL_law 1471 = .ok (.iload 4, 2) := by decide +kernel
theorem dL_law_1473 : decode cL_law 1473 = .ok (.iconst 2, 1) := by decide +kernel
theorem dL_law_1474 : decode cL_law 1474 = .ok (.iadd, 1) := by decide +kernel
theorem dL_law_1475 : decode cL_law 1475 = .ok (.iaload, 1) := by decide +kernel
theorem dL_law_1476 : decode cL_law 1476 = .ok (.aload_n 0, 1) := by decide +kernel
theorem dL_law_1477 : decode cL_law 1477 = .ok (.iload 4, 2) := by decide +kernel
theorem dL_law_1479 : decode cL_law 1479 = .ok (.iconst 3, 1) := by decide +kernel
theorem dL_law_1480 : decode cL_law 1480 = .ok (.iadd, 1) := by decide +kernel
theorem dL_law_1481 : decode cL_law 1481 = .ok (.iaload, 1) := by decide +kernel
theorem dL_law_1482 : decode cL_law 1482 = .ok (.invokevirtual 198, 3) := by decide +kernel
theorem dL_law_1485 : decode cL_law 1485 = .ok (.istore 6, 2) := by decide +kernel
theorem dL_law_1487 : decode cL_law 1487 = .ok (.aload_n 2, 1) := by decide +kernel
theorem dL_law_1488 : decode cL_law 1488 = .ok (.invokevirtual 122, 3) := by decide +kernel
theorem dL_law_1491 : decode cL_law 1491 = .ok (.iload 5, 2) := by decide +kernel
theorem dL_law_1493 : decode cL_law 1493 = .ok (.if_icmp .eq 5, 3) := by decide +kernel
theorem dL_law_1496 : decode cL_law 1496 = .ok (.iconst 0, 1) := by decide +kernel
theorem dL_law_1497 : decode cL_law 1497 = .ok (.ireturn, 1) := by decide +kernel
theorem dL_law_1498 : decode cL_law 1498 = .ok (.iload 5, 2) := by decide +kernel
theorem dL_law_1500 : decode cL_law 1500 = .ok (.ifCond .ne 15, 3) := by decide +kernel
theorem dL_law_1503 : decode cL_law 1503 = .ok (.aload_n 3, 1) := by decide +kernel
theorem dL_law_1504 : decode cL_law 1504 = .ok (.iconst 0, 1) := by decide +kernel
theorem dL_law_1505 : decode cL_law 1505 = .ok (.laload, 1) := by decide +kernel
theorem dL_law_1506 : decode cL_law 1506 = .ok (.iload 6, 2) := by decide +kernel
theorem dL_law_1508 : decode cL_law 1508 = .ok (.i2l, 1) := by decide +kernel
theorem dL_law_1509 : decode cL_law 1509 = .ok (.lcmp, 1) := by decide +kernel
theorem dL_law_1510 : decode cL_law 1510 = .ok (.ifCond .eq 5, 3) := by decide +kernel
theorem dL_law_1513 : decode cL_law 1513 = .ok (.iconst 0, 1) := by decide +kernel
theorem dL_law_1514 : decode cL_law 1514 = .ok (.ireturn, 1) := by decide +kernel
theorem dL_law_1515 : decode cL_law 1515 = .ok (.goto 614, 3) := by decide +kernel
theorem dL_law_1518 : decode cL_law 1518 = .ok (.aload_n 1, 1) := by decide +kernel
theorem dL_law_1519 : decode cL_law 1519 = .ok (.aload_n 0, 1) := by decide +kernel
theorem dL_law_1520 : decode cL_law 1520 = .ok (.iload 4, 2) := by decide +kernel
theorem dL_law_1522 : decode cL_law 1522 = .ok (.iconst 1, 1) := by decide +kernel
theorem dL_law_1523 : decode cL_law 1523 = .ok (.iadd, 1) := by decide +kernel
theorem dL_law_1524 : decode cL_law 1524 = .ok (.iaload, 1) := by decide +kernel
theorem dL_law_1525 : decode cL_law 1525 = .ok (.aload_n 3, 1) := by decide +kernel
theorem dL_law_1526 : decode cL_law 1526 = .ok (.invokestatic 199, 3) := by decide +kernel
theorem dL_law_1529 : decode cL_law 1529 = .ok (.istore 5, 2) := by decide +kernel
theorem dL_law_1531 : decode cL_law 1531 = .ok (.aload_n 2, 1) := by decide +kernel
theorem dL_law_1532 : decode cL_law 1532 = .ok (.aload_n 0, 1) := by decide +kernel
theorem dL_law_1533 : decode cL_law 1533 = .ok (.iload 4, 2) := by decide +kernel
theorem dL_law_1535 : decode cL_law 1535 = .ok (.iconst 1, 1) := by decide +kernel
theorem dL_law_1536 : decode cL_law 1536 = .ok (.iadd, 1) := by decide +kernel
theorem dL_law_1537 : decode cL_law 1537 = .ok (.iaload, 1) := by decide +kernel
theorem dL_law_1538 : decode cL_law 1538 = .ok (.invokevirtual 201, 3) := by decide +kernel
theorem dL_law_1541 : decode cL_law 1541 = .ok (.istore 6, 2) := by decide +kernel
theorem dL_law_1543 : decode cL_law 1543 = .ok (.aload_n 2, 1) := by decide +kernel
theorem dL_law_1544 : decode cL_law 1544 = .ok (.invokevirtual 122, 3) := by decide +kernel
theorem dL_law_1547 : decode cL_law 1547 = .ok (.iload 5, 2) := by decide +kernel
theorem dL_law_1549 : decode cL_law 1549 = .ok (.if_icmp .eq 5, 3) := by decide +kernel
theorem dL_law_1552 : decode cL_law 1552 = .ok (.iconst 0, 1) := by decide +kernel
theorem dL_law_1553 : decode cL_law 1553 = .ok (.ireturn, 1) := by decide +kernel
theorem dL_law_1554 : decode cL_law 1554 = .ok (.iload 5, 2) := by decide +kernel
theorem dL_law_1556 : decode cL_law 1556 = .ok (.ifCond .ne 15, 3) := by decide +kernel
theorem dL_law_1559 : decode cL_law 1559 = .ok (.aload_n 3, 1) := by decide +kernel
theorem dL_law_1560 : decode cL_law 1560 = .ok (.iconst 0, 1) := by decide +kernel
theorem dL_law_1561 : decode cL_law 1561 = .ok (.laload, 1) := by decide +kernel
theorem dL_law_1562 : decode cL_law 1562 = .ok (.iload 6, 2) := by decide +kernel
theorem dL_law_1564 : decode cL_law 1564 = .ok (.i2l, 1) := by decide +kernel
theorem dL_law_1565 : decode cL_law 1565 = .ok (.lcmp, 1) := by decide +kernel
theorem dL_law_1566 : decode cL_law 1566 = .ok (.ifCond .eq 5, 3) := by decide +kernel
theorem dL_law_1569 : decode cL_law 1569 = .ok (.iconst 0, 1) := by decide +kernel
theorem dL_law_1570 : decode cL_law 1570 = .ok (.ireturn, 1) := by decide +kernel
theorem dL_law_1571 : decode cL_law 1571 = .ok (.goto 558, 3) := by decide +kernel
theorem dL_law_1574 : decode cL_law 1574 = .ok (.aload_n 1, 1) := by decide +kernel
theorem dL_law_1575 : decode cL_law 1575 = .ok (.aload_n 0, 1) := by decide +kernel
theorem dL_law_1576 : decode cL_law 1576 = .ok (.iload 4, 2) := by decide +kernel
theorem dL_law_1578 : decode cL_law 1578 = .ok (.iconst 1, 1) := by decide +kernel
theorem dL_law_1579 : decode cL_law 1579 = .ok (.iadd, 1) := by decide +kernel
theorem dL_law_1580 : decode cL_law 1580 = .ok (.iaload, 1) := by decide +kernel
theorem dL_law_1581 : decode cL_law 1581 = .ok (.aload_n 3, 1) := by decide +kernel
theorem dL_law_1582 : decode cL_law 1582 = .ok (.invokestatic 202, 3) := by decide +kernel
theorem dL_law_1585 : decode cL_law 1585 = .ok (.istore 5, 2) := by decide +kernel
theorem dL_law_1587 : decode cL_law 1587 = .ok (.aload_n 2, 1) := by decide +kernel
theorem dL_law_1588 : decode cL_law 1588 = .ok (.aload_n 0, 1) := by decide +kernel
theorem dL_law_1589 : decode cL_law 1589 = .ok (.iload 4, 2) := by decide +kernel
theorem dL_law_1591 : decode cL_law 1591 = .ok (.iconst 1, 1) := by decide +kernel
theorem dL_law_1592 : decode cL_law 1592 = .ok (.iadd, 1) := by decide +kernel
theorem dL_law_1593 : decode cL_law 1593 = .ok (.iaload, 1) := by decide +kernel
theorem dL_law_1594 : decode cL_law 1594 = .ok (.invokevirtual 204, 3) := by decide +kernel
theorem dL_law_1597 : decode cL_law 1597 = .ok (.istore 6, 2) := by decide +kernel
theorem dL_law_1599 : decode cL_law 1599 = .ok (.aload_n 2, 1) := by decide +kernel
theorem dL_law_1600 : decode cL_law 1600 = .ok (.invokevirtual 122, 3) := by decide +kernel
theorem dL_law_1603 : decode cL_law 1603 = .ok (.iload 5, 2) := by decide +kernel
theorem dL_law_1605 : decode cL_law 1605 = .ok (.if_icmp .eq 5, 3) := by decide +kernel
theorem dL_law_1608 : decode cL_law 1608 = .ok (.iconst 0, 1) := by decide +kernel
theorem dL_law_1609 : decode cL_law 1609 = .ok (.ireturn, 1) := by decide +kernel
theorem dL_law_1610 : decode cL_law 1610 = .ok (.iload 5, 2) := by decide +kernel
theorem dL_law_1612 : decode cL_law 1612 = .ok (.ifCond .ne 15, 3) := by decide +kernel
theorem dL_law_1615 : decode cL_law 1615 = .ok (.aload_n 3, 1) := by decide +kernel
theorem dL_law_1616 : decode cL_law 1616 = .ok (.iconst 0, 1) := by decide +kernel
theorem dL_law_1617 : decode cL_law 1617 = .ok (.laload, 1) := by decide +kernel
theorem dL_law_1618 : decode cL_law 1618 = .ok (.iload 6, 2) := by decide +kernel
theorem dL_law_1620 : decode cL_law 1620 = .ok (.i2l, 1) := by decide +kernel
theorem dL_law_1621 : decode cL_law 1621 = .ok (.lcmp, 1) := by decide +kernel
theorem dL_law_1622 : decode cL_law 1622 = .ok (.ifCond .eq 5, 3) := by decide +kernel
theorem dL_law_1625 : decode cL_law 1625 = .ok (.iconst 0, 1) := by decide +kernel
theorem dL_law_1626 : decode cL_law 1626 = .ok (.ireturn, 1) := by decide +kernel
theorem dL_law_1627 : decode cL_law 1627 = .ok (.goto 502, 3) := by decide +kernel
theorem dL_law_1630 : decode cL_law 1630 = .ok (.aload_n 1, 1) := by decide +kernel
theorem dL_law_1631 : decode cL_law 1631 = .ok (.aload_n 0, 1) := by decide +kernel
theorem dL_law_1632 : decode cL_law 1632 = .ok (.iload 4, 2) := by decide +kernel
theorem dL_law_1634 : decode cL_law 1634 = .ok (.iconst 1, 1) := by decide +kernel
theorem dL_law_1635 : decode cL_law 1635 = .ok (.iadd, 1) := by decide +kernel
theorem dL_law_1636 : decode cL_law 1636 = .ok (.iaload, 1) := by decide +kernel
theorem dL_law_1637 : decode cL_law 1637 = .ok (.aload_n 0, 1) := by decide +kernel
theorem dL_law_1638 : decode cL_law 1638 = .ok (.iload 4, 2) := by decide +kernel
theorem dL_law_1640 : decode cL_law 1640 = .ok (.iconst 2, 1) := by decide +kernel
theorem dL_law_1641 : decode cL_law 1641 = .ok (.iadd, 1) := by decide +kernel
theorem dL_law_1642 : decode cL_law 1642 = .ok (.iaload, 1) := by decide +kernel
theorem dL_law_1643 : decode cL_law 1643 = .ok (.aload_n 3, 1) := by decide +kernel
theorem dL_law_1644 : decode cL_law 1644 = .ok (.invokestatic 205, 3) := by decide +kernel
theorem dL_law_1647 : decode cL_law 1647 = .ok (.istore 5, 2) := by decide +kernel
theorem dL_law_1649 : decode cL_law 1649 = .ok (.aload_n 2, 1) := by decide +kernel
theorem dL_law_1650 : decode cL_law 1650 = .ok (.aload_n 0, 1) := by decide +kernel
theorem dL_law_1651 : decode cL_law 1651 = .ok (.iload 4, 2) := by decide +kernel
theorem dL_law_1653 : decode cL_law 1653 = .ok (.iconst 1, 1) := by decide +kernel
theorem dL_law_1654 : decode cL_law 1654 = .ok (.iadd, 1) := by decide +kernel
theorem dL_law_1655 : decode cL_law 1655 = .ok (.iaload, 1) := by decide +kernel
theorem dL_law_1656 : decode cL_law 1656 = .ok (.aload_n 0, 1) := by decide +kernel
theorem dL_law_1657 : decode cL_law 1657 = .ok (.iload 4, 2) := by decide +kernel
theorem dL_law_1659 : decode cL_law 1659 = .ok (.iconst 2, 1) := by decide +kernel
theorem dL_law_1660 : decode cL_law 1660 = .ok (.iadd, 1) := by decide +kernel
theorem dL_law_1661 : decode cL_law 1661 = .ok (.iaload, 1) := by decide +kernel
theorem dL_law_1662 : decode cL_law 1662 = .ok (.invokevirtual 207, 3) := by decide +kernel
theorem dL_law_1665 : decode cL_law 1665 = .ok (.istore 6, 2) := by decide +kernel
theorem dL_law_1667 : decode cL_law 1667 = .ok (.aload_n 2, 1) := by decide +kernel
theorem dL_law_1668 : decode cL_law 1668 = .ok (.invokevirtual 122, 3) := by decide +kernel
theorem dL_law_1671 : decode cL_law 1671 = .ok (.iload 5, 2) := by decide +kernel
theorem dL_law_1673 : decode cL_law 1673 = .ok (.if_icmp .eq 5, 3) := by decide +kernel
theorem dL_law_1676 : decode cL_law 1676 = .ok (.iconst 0, 1) := by decide +kernel
theorem dL_law_1677 : decode cL_law 1677 = .ok (.ireturn, 1) := by decide +kernel
theorem dL_law_1678 : decode cL_law 1678 = .ok (.iload 5, 2) := by decide +kernel
theorem dL_law_1680 : decode cL_law 1680 = .ok (.ifCond .ne 15, 3) := by decide +kernel
theorem dL_law_1683 : decode cL_law 1683 = .ok (.aload_n 3, 1) := by decide +kernel
theorem dL_law_1684 : decode cL_law 1684 = .ok (.iconst 0, 1) := by decide +kernel
theorem dL_law_1685 : decode cL_law 1685 = .ok (.laload, 1) := by decide +kernel
theorem dL_law_1686 : decode cL_law 1686 = .ok (.iload 6, 2) := by decide +kernel
theorem dL_law_1688 : decode cL_law 1688 = .ok (.i2l, 1) := by decide +kernel
theorem dL_law_1689 : decode cL_law 1689 = .ok (.lcmp, 1) := by decide +kernel
theorem dL_law_1690 : decode cL_law 1690 = .ok (.ifCond .eq 5, 3) := by decide +kernel
theorem dL_law_1693 : decode cL_law 1693 = .ok (.iconst 0, 1) := by decide +kernel
theorem dL_law_1694 : decode cL_law 1694 = .ok (.ireturn, 1) := by decide +kernel
theorem dL_law_1695 : decode cL_law 1695 = .ok (.goto 434, 3) := by decide +kernel
theorem dL_law_1698 : decode cL_law 1698 = .ok (.aload_n 1, 1) := by decide +kernel
theorem dL_law_1699 : decode cL_law 1699 = .ok (.aload_n 0, 1) := by decide +kernel
theorem dL_law_1700 : decode cL_law 1700 = .ok (.iload 4, 2) := by decide +kernel
theorem dL_law_1702 : decode cL_law 1702 = .ok (.iconst 1, 1) := by decide +kernel
theorem dL_law_1703 : decode cL_law 1703 = .ok (.iadd, 1) := by decide +kernel
theorem dL_law_1704 : decode cL_law 1704 = .ok (.iaload, 1) := by decide +kernel
theorem dL_law_1705 : decode cL_law 1705 = .ok (.aload_n 0, 1) := by decide +kernel
theorem dL_law_1706 : decode cL_law 1706 = .ok (.iload 4, 2) := by decide +kernel
theorem dL_law_1708 : decode cL_law 1708 = .ok (.iconst 2, 1) := by decide +kernel
theorem dL_law_1709 : decode cL_law 1709 = .ok (.iadd, 1) := by decide +kernel
theorem dL_law_1710 : decode cL_law 1710 = .ok (.iaload, 1) := by decide +kernel
theorem dL_law_1711 : decode cL_law 1711 = .ok (.i2c, 1) := by decide +kernel
theorem dL_law_1712 : decode cL_law 1712 = .ok (.aload_n 3, 1) := by decide +kernel
theorem dL_law_1713 : decode cL_law 1713 = .ok (.invokestatic 208, 3) := by decide +kernel
theorem dL_law_1716 : decode cL_law 1716 = .ok (.istore 5, 2) := by decide +kernel
theorem dL_law_1718 : decode cL_law 1718 = .ok (.aload_n 2, 1) := by decide +kernel
theorem dL_law_1719 : decode cL_law 1719 = .ok (.aload_n 0, 1) := by decide +kernel
theorem dL_law_1720 : decode cL_law 1720 = .ok (.iload 4, 2) := by decide +kernel
theorem dL_law_1722 : decode cL_law 1722 = .ok (.iconst 1, 1) := by decide +kernel
theorem dL_law_1723 : decode cL_law 1723 = .ok (.iadd, 1) := by decide +kernel
theorem dL_law_1724 : decode cL_law 1724 = .ok (.iaload, 1) := by decide +kernel
theorem dL_law_1725 : decode cL_law 1725 = .ok (.aload_n 0, 1) := by decide +kernel
theorem dL_law_1726 : decode cL_law 1726 = .ok (.iload 4, 2) := by decide +kernel
theorem dL_law_1728 : decode cL_law 1728 = .ok (.iconst 2, 1) := by decide +kernel
theorem dL_law_1729 : decode cL_law 1729 = .ok (.iadd, 1) := by decide +kernel
theorem dL_law_1730 : decode cL_law 1730 = .ok (.iaload, 1) := by decide +kernel
theorem dL_law_1731 : decode cL_law 1731 = .ok (.i2c, 1) := by decide +kernel
theorem dL_law_1732 : decode cL_law 1732 = .ok (.invokevirtual 211, 3) := by decide +kernel
theorem dL_law_1735 : decode cL_law 1735 = .ok (.istore 6, 2) := by decide +kernel
theorem dL_law_1737 : decode cL_law 1737 = .ok (.aload_n 2, 1) := by decide +kernel
theorem dL_law_1738 : decode cL_law 1738 = .ok (.invokevirtual 122, 3) := by decide +kernel
theorem dL_law_1741 : decode cL_law 1741 = .ok (.iload 5, 2) := by decide +kernel
theorem dL_law_1743 : decode cL_law 1743 = .ok (.if_icmp .eq 5, 3) := by decide +kernel
theorem dL_law_1746 : decode cL_law 1746 = .ok (.iconst 0, 1) := by decide +kernel
theorem dL_law_1747 : decode cL_law 1747 = .ok (.ireturn, 1) := by decide +kernel
theorem dL_law_1748 : decode cL_law 1748 = .ok (.iload 5, 2) := by decide +kernel
theorem dL_law_1750 : decode cL_law 1750 = .ok (.ifCond .ne 15, 3) := by decide +kernel
theorem dL_law_1753 : decode cL_law 1753 = .ok (.aload_n 3, 1) := by decide +kernel
theorem dL_law_1754 : decode cL_law 1754 = .ok (.iconst 0, 1) := by decide +kernel
theorem dL_law_1755 : decode cL_law 1755 = .ok (.laload, 1) := by decide +kernel
theorem dL_law_1756 : decode cL_law 1756 = .ok (.iload 6, 2) := by decide +kernel
theorem dL_law_1758 : decode cL_law 1758 = .ok (.i2l, 1) := by decide +kernel
theorem dL_law_1759 : decode cL_law 1759 = .ok (.lcmp, 1) := by decide +kernel
theorem dL_law_1760 : decode cL_law 1760 = .ok (.ifCond .eq 5, 3) := by decide +kernel
theorem dL_law_1763 : decode cL_law 1763 = .ok (.iconst 0, 1) := by decide +kernel
theorem dL_law_1764 : decode cL_law 1764 = .ok (.ireturn, 1) := by decide +kernel
theorem dL_law_1765 : decode cL_law 1765 = .ok (.goto 364, 3) := by decide +kernel
theorem dL_law_1768 : decode cL_law 1768 = .ok (.aload_n 1, 1) := by decide +kernel
theorem dL_law_1769 : decode cL_law 1769 = .ok (.aload_n 0, 1) := by decide +kernel
theorem dL_law_1770 : decode cL_law 1770 = .ok (.iload 4, 2) := by decide +kernel
theorem dL_law_1772 : decode cL_law 1772 = .ok (.iconst 1, 1) := by decide +kernel
theorem dL_law_1773 : decode cL_law 1773 = .ok (.iadd, 1) := by decide +kernel
theorem dL_law_1774 : decode cL_law 1774 = .ok (.iaload, 1) := by decide +kernel
theorem dL_law_1775 : decode cL_law 1775 = .ok (.aload_n 3, 1) := by decide +kernel
theorem dL_law_1776 : decode cL_law 1776 = .ok (.invokestatic 212, 3) := by decide +kernel
theorem dL_law_1779 : decode cL_law 1779 = .ok (.istore 5, 2) := by decide +kernel
theorem dL_law_1781 : decode cL_law 1781 = .ok (.aload_n 2, 1) := by decide +kernel
theorem dL_law_1782 : decode cL_law 1782 = .ok (.aload_n 0, 1) := by decide +kernel
theorem dL_law_1783 : decode cL_law 1783 = .ok (.iload 4, 2) := by decide +kernel
theorem dL_law_1785 : decode cL_law 1785 = .ok (.iconst 1, 1) := by decide +kernel
theorem dL_law_1786 : decode cL_law 1786 = .ok (.iadd, 1) := by decide +kernel
theorem dL_law_1787 : decode cL_law 1787 = .ok (.iaload, 1) := by decide +kernel
theorem dL_law_1788 : decode cL_law 1788 = .ok (.invokevirtual 214, 3) := by decide +kernel
theorem dL_law_1791 : decode cL_law 1791 = .ok (.istore 6, 2) := by decide +kernel
theorem dL_law_1793 : decode cL_law 1793 = .ok (.aload_n 2, 1) := by decide +kernel
theorem dL_law_1794 : decode cL_law 1794 = .ok (.invokevirtual 122, 3) := by decide +kernel
theorem dL_law_1797 : decode cL_law 1797 = .ok (.iload 5, 2) := by decide +kernel
theorem dL_law_1799 : decode cL_law 1799 = .ok (.if_icmp .eq 5, 3) := by decide +kernel
theorem dL_law_1802 : decode cL_law 1802 = .ok (.iconst 0, 1) := by decide +kernel
theorem dL_law_1803 : decode cL_law 1803 = .ok (.ireturn, 1) := by decide +kernel
theorem dL_law_1804 : decode cL_law 1804 = .ok (.iload 5, 2) := by decide +kernel
theorem dL_law_1806 : decode cL_law 1806 = .ok (.ifCond .ne 22, 3) := by decide +kernel
theorem dL_law_1809 : decode cL_law 1809 = .ok (.aload_n 3, 1) := by decide +kernel
theorem dL_law_1810 : decode cL_law 1810 = .ok (.iconst 0, 1) := by decide +kernel
theorem dL_law_1811 : decode cL_law 1811 = .ok (.laload, 1) := by decide +kernel
theorem dL_law_1812 : decode cL_law 1812 = .ok (.iload 6, 2) := by decide +kernel
theorem dL_law_1814 : decode cL_law 1814 = .ok (.ifCond .eq 7, 3) := by decide +kernel
theorem dL_law_1817 : decode cL_law 1817 = .ok (.lconst 1, 1) := by decide +kernel
theorem dL_law_1818 : decode cL_law 1818 = .ok (.goto 4, 3) := by decide +kernel
theorem dL_law_1821 : decode cL_law 1821 = .ok (.lconst 0, 1) := by decide +kernel
theorem dL_law_1822 : decode cL_law 1822 = .ok (.lcmp, 1) := by decide +kernel
theorem dL_law_1823 : decode cL_law 1823 = .ok (.ifCond .eq 5, 3) := by decide +kernel
theorem dL_law_1826 : decode cL_law 1826 = .ok (.iconst 0, 1) := by decide +kernel
theorem dL_law_1827 : decode cL_law 1827 = .ok (.ireturn, 1) := by decide +kernel
theorem dL_law_1828 : decode cL_law 1828 = .ok (.goto 301, 3) := by decide +kernel
theorem dL_law_1831 : decode cL_law 1831 = .ok (.aload_n 1, 1) := by decide +kernel
theorem dL_law_1832 : decode cL_law 1832 = .ok (.aload_n 0, 1) := by decide +kernel
theorem dL_law_1833 : decode cL_law 1833 = .ok (.iload 4, 2) := by decide +kernel
theorem dL_law_1835 : decode cL_law 1835 = .ok (.iconst 1, 1) := by decide +kernel
theorem dL_law_1836 : decode cL_law 1836 = .ok (.iadd, 1) := by decide +kernel
theorem dL_law_1837 : decode cL_law 1837 = .ok (.iaload, 1) := by decide +kernel
theorem dL_law_1838 : decode cL_law 1838 = .ok (.aload_n 0, 1) := by decide +kernel
theorem dL_law_1839 : decode cL_law 1839 = .ok (.iload 4, 2) := by decide +kernel
theorem dL_law_1841 : decode cL_law 1841 = .ok (.iconst 2, 1) := by decide +kernel
theorem dL_law_1842 : decode cL_law 1842 = .ok (.iadd, 1) := by decide +kernel
theorem dL_law_1843 : decode cL_law 1843 = .ok (.iaload, 1) := by decide +kernel
theorem dL_law_1844 : decode cL_law 1844 = .ok (.i2c, 1) := by decide +kernel
theorem dL_law_1845 : decode cL_law 1845 = .ok (.aload_n 3, 1) := by decide +kernel
theorem dL_law_1846 : decode cL_law 1846 = .ok (.invokestatic 215, 3) := by decide +kernel
theorem dL_law_1849 : decode cL_law 1849 = .ok (.istore 5, 2) := by decide +kernel
theorem dL_law_1851 : decode cL_law 1851 = .ok (.aload_n 2, 1) := by decide +kernel
theorem dL_law_1852 : decode cL_law 1852 = .ok (.aload_n 0, 1) := by decide +kernel
theorem dL_law_1853 : decode cL_law 1853 = .ok (.iload 4, 2) := by decide +kernel
theorem dL_law_1855 : decode cL_law 1855 = .ok (.iconst 1, 1) := by decide +kernel
theorem dL_law_1856 : decode cL_law 1856 = .ok (.iadd, 1) := by decide +kernel
theorem dL_law_1857 : decode cL_law 1857 = .ok (.iaload, 1) := by decide +kernel
theorem dL_law_1858 : decode cL_law 1858 = .ok (.aload_n 0, 1) := by decide +kernel
theorem dL_law_1859 : decode cL_law 1859 = .ok (.iload 4, 2) := by decide +kernel
theorem dL_law_1861 : decode cL_law 1861 = .ok (.iconst 2, 1) := by decide +kernel
theorem dL_law_1862 : decode cL_law 1862 = .ok (.iadd, 1) := by decide +kernel
theorem dL_law_1863 : decode cL_law 1863 = .ok (.iaload, 1) := by decide +kernel
theorem dL_law_1864 : decode cL_law 1864 = .ok (.i2c, 1) := by decide +kernel
theorem dL_law_1865 : decode cL_law 1865 = .ok (.invokevirtual 217, 3) := by decide +kernel
theorem dL_law_1868 : decode cL_law 1868 = .ok (.istore 6, 2) := by decide +kernel
theorem dL_law_1870 : decode cL_law 1870 = .ok (.aload_n 2, 1) := by decide +kernel
theorem dL_law_1871 : decode cL_law 1871 = .ok (.invokevirtual 122, 3) := by decide +kernel
theorem dL_law_1874 : decode cL_law 1874 = .ok (.iload 5, 2) := by decide +kernel
theorem dL_law_1876 : decode cL_law 1876 = .ok (.if_icmp .eq 5, 3) := by decide +kernel
theorem dL_law_1879 : decode cL_law 1879 = .ok (.iconst 0, 1) := by decide +kernel
theorem dL_law_1880 : decode cL_law 1880 = .ok (.ireturn, 1) := by decide +kernel
theorem dL_law_1881 : decode cL_law 1881 = .ok (.iload 5, 2) := by decide +kernel
theorem dL_law_1883 : decode cL_law 1883 = .ok (.ifCond .ne 15, 3) := by decide +kernel
theorem dL_law_1886 : decode cL_law 1886 = .ok (.aload_n 3, 1) := by decide +kernel
theorem dL_law_1887 : decode cL_law 1887 = .ok (.iconst 0, 1) := by decide +kernel
theorem dL_law_1888 : decode cL_law 1888 = .ok (.laload, 1) := by decide +kernel
theorem dL_law_1889 : decode cL_law 1889 = .ok (.iload 6, 2) := by decide +kernel
theorem dL_law_1891 : decode cL_law 1891 = .ok (.i2l, 1) := by decide +kernel
theorem dL_law_1892 : decode cL_law 1892 = .ok (.lcmp, 1) := by decide +kernel
theorem dL_law_1893 : decode cL_law 1893 = .ok (.ifCond .eq 5, 3) := by decide +kernel
theorem dL_law_1896 : decode cL_law 1896 = .ok (.iconst 0, 1) := by decide +kernel
theorem dL_law_1897 : decode cL_law 1897 = .ok (.ireturn, 1) := by decide +kernel
theorem dL_law_1898 : decode cL_law 1898 = .ok (.goto 231, 3) := by decide +kernel
theorem dL_law_1901 : decode cL_law 1901 = .ok (.aload_n 1, 1) := by decide +kernel
theorem dL_law_1902 : decode cL_law 1902 = .ok (.aload_n 0, 1) := by decide +kernel
theorem dL_law_1903 : decode cL_law 1903 = .ok (.iload 4, 2) := by decide +kernel
theorem dL_law_1905 : decode cL_law 1905 = .ok (.iconst 1, 1) := by decide +kernel
theorem dL_law_1906 : decode cL_law 1906 = .ok (.iadd, 1) := by decide +kernel
theorem dL_law_1907 : decode cL_law 1907 = .ok (.iaload, 1) := by decide +kernel
theorem dL_law_1908 : decode cL_law 1908 = .ok (.aload_n 0, 1) := by decide +kernel
theorem dL_law_1909 : decode cL_law 1909 = .ok (.iload 4, 2) := by decide +kernel
theorem dL_law_1911 : decode cL_law 1911 = .ok (.iconst 2, 1) := by decide +kernel
theorem dL_law_1912 : decode cL_law 1912 = .ok (.iadd, 1) := by decide +kernel
theorem dL_law_1913 : decode cL_law 1913 = .ok (.iaload, 1) := by decide +kernel
theorem dL_law_1914 : decode cL_law 1914 = .ok (.i2c, 1) := by decide +kernel
theorem dL_law_1915 : decode cL_law 1915 = .ok (.aload_n 3, 1) := by decide +kernel
theorem dL_law_1916 : decode cL_law 1916 = .ok (.invokestatic 218, 3) := by decide +kernel
theorem dL_law_1919 : decode cL_law 1919 = .ok (.istore 5, 2) := by decide +kernel
theorem dL_law_1921 : decode cL_law 1921 = .ok (.aload_n 2, 1) := by decide +kernel
theorem dL_law_1922 : decode cL_law 1922 = .ok (.aload_n 0, 1) := by decide +kernel
theorem dL_law_1923 : decode cL_law 1923 = .ok (.iload 4, 2) := by decide +kernel
theorem dL_law_1925 : decode cL_law 1925 = .ok (.iconst 1, 1) := by decide +kernel
theorem dL_law_1926 : decode cL_law 1926 = .ok (.iadd, 1) := by decide +kernel
theorem dL_law_1927 : decode cL_law 1927 = .ok (.iaload, 1) := by decide +kernel
theorem dL_law_1928 : decode cL_law 1928 = .ok (.aload_n 0, 1) := by decide +kernel
theorem dL_law_1929 : decode cL_law 1929 = .ok (.iload 4, 2) := by decide +kernel
theorem dL_law_1931 : decode cL_law 1931 = .ok (.iconst 2, 1) := by decide +kernel
theorem dL_law_1932 : decode cL_law 1932 = .ok (.iadd, 1) := by decide +kernel
theorem dL_law_1933 : decode cL_law 1933 = .ok (.iaload, 1) := by decide +kernel
theorem dL_law_1934 : decode cL_law 1934 = .ok (.i2c, 1) := by decide +kernel
theorem dL_law_1935 : decode cL_law 1935 = .ok (.invokevirtual 220, 3) := by decide +kernel
theorem dL_law_1938 : decode cL_law 1938 = .ok (.istore 6, 2) := by decide +kernel
theorem dL_law_1940 : decode cL_law 1940 = .ok (.aload_n 2, 1) := by decide +kernel
theorem dL_law_1941 : decode cL_law 1941 = .ok (.invokevirtual 122, 3) := by decide +kernel
theorem dL_law_1944 : decode cL_law 1944 = .ok (.iload 5, 2) := by decide +kernel
theorem dL_law_1946 : decode cL_law 1946 = .ok (.if_icmp .eq 5, 3) := by decide +kernel
theorem dL_law_1949 : decode cL_law 1949 = .ok (.iconst 0, 1) := by decide +kernel
theorem dL_law_1950 : decode cL_law 1950 = .ok (.ireturn, 1) := by decide +kernel
theorem dL_law_1951 : decode cL_law 1951 = .ok (.iload 5, 2) := by decide +kernel
theorem dL_law_1953 : decode cL_law 1953 = .ok (.ifCond .ne 15, 3) := by decide +kernel
theorem dL_law_1956 : decode cL_law 1956 = .ok (.aload_n 3, 1) := by decide +kernel
theorem dL_law_1957 : decode cL_law 1957 = .ok (.iconst 0, 1) := by decide +kernel
theorem dL_law_1958 : decode cL_law 1958 = .ok (.laload, 1) := by decide +kernel
theorem dL_law_1959 : decode cL_law 1959 = .ok (.iload 6, 2) := by decide +kernel
theorem dL_law_1961 : decode cL_law 1961 = .ok (.i2l, 1) := by decide +kernel
theorem dL_law_1962 : decode cL_law 1962 = .ok (.lcmp, 1) := by decide +kernel
theorem dL_law_1963 : decode cL_law 1963 = .ok (.ifCond .eq 5, 3) := by decide +kernel
theorem dL_law_1966 : decode cL_law 1966 = .ok (.iconst 0, 1) := by decide +kernel
theorem dL_law_1967 : decode cL_law 1967 = .ok (.ireturn, 1) := by decide +kernel
theorem dL_law_1968 : decode cL_law 1968 = .ok (.goto 161, 3) := by decide +kernel
theorem dL_law_1971 : decode cL_law 1971 = .ok (.aload_n 1, 1) := by decide +kernel
theorem dL_law_1972 : decode cL_law 1972 = .ok (.aload_n 0, 1) := by decide +kernel
theorem dL_law_1973 : decode cL_law 1973 = .ok (.iload 4, 2) := by decide +kernel
theorem dL_law_1975 : decode cL_law 1975 = .ok (.iconst 1, 1) := by decide +kernel
theorem dL_law_1976 : decode cL_law 1976 = .ok (.iadd, 1) := by decide +kernel
theorem dL_law_1977 : decode cL_law 1977 = .ok (.iaload, 1) := by decide +kernel
theorem dL_law_1978 : decode cL_law 1978 = .ok (.aload_n 0, 1) := by decide +kernel
theorem dL_law_1979 : decode cL_law 1979 = .ok (.iload 4, 2) := by decide +kernel
theorem dL_law_1981 : decode cL_law 1981 = .ok (.iconst 2, 1) := by decide +kernel
theorem dL_law_1982 : decode cL_law 1982 = .ok (.iadd, 1) := by decide +kernel
theorem dL_law_1983 : decode cL_law 1983 = .ok (.iaload, 1) := by decide +kernel
theorem dL_law_1984 : decode cL_law 1984 = .ok (.i2c, 1) := by decide +kernel
theorem dL_law_1985 : decode cL_law 1985 = .ok (.aload_n 3, 1) := by decide +kernel
theorem dL_law_1986 : decode cL_law 1986 = .ok (.invokestatic 221, 3) := by decide +kernel
theorem dL_law_1989 : decode cL_law 1989 = .ok (.istore 5, 2) := by decide +kernel
theorem dL_law_1991 : decode cL_law 1991 = .ok (.aload_n 2, 1) := by decide +kernel
theorem dL_law_1992 : decode cL_law 1992 = .ok (.aload_n 0, 1) := by decide +kernel
theorem dL_law_1993 : decode cL_law 1993 = .ok (.iload 4, 2) := by decide +kernel
theorem dL_law_1995 : decode cL_law 1995 = .ok (.iconst 1, 1) := by decide +kernel
theorem dL_law_1996 : decode cL_law 1996 = .ok (.iadd, 1) := by decide +kernel
theorem dL_law_1997 : decode cL_law 1997 = .ok (.iaload, 1) := by decide +kernel
theorem dL_law_1998 : decode cL_law 1998 = .ok (.aload_n 0, 1) := by decide +kernel
theorem dL_law_1999 : decode cL_law 1999 = .ok (.iload 4, 2) := by decide +kernel
theorem dL_law_2001 : decode cL_law 2001 = .ok (.iconst 2, 1) := by decide +kernel
theorem dL_law_2002 : decode cL_law 2002 = .ok (.iadd, 1) := by decide +kernel
theorem dL_law_2003 : decode cL_law 2003 = .ok (.iaload, 1) := by decide +kernel
theorem dL_law_2004 : decode cL_law 2004 = .ok (.i2c, 1) := by decide +kernel
theorem dL_law_2005 : decode cL_law 2005 = .ok (.invokevirtual 223, 3) := by decide +kernel
theorem dL_law_2008 : decode cL_law 2008 = .ok (.istore 6, 2) := by decide +kernel
theorem dL_law_2010 : decode cL_law 2010 = .ok (.aload_n 2, 1) := by decide +kernel
theorem dL_law_2011 : decode cL_law 2011 = .ok (.invokevirtual 122, 3) := by decide +kernel
theorem dL_law_2014 : decode cL_law 2014 = .ok (.iload 5, 2) := by decide +kernel
theorem dL_law_2016 : decode cL_law 2016 = .ok (.if_icmp .eq 5, 3) := by decide +kernel
theorem dL_law_2019 : decode cL_law 2019 = .ok (.iconst 0, 1) := by decide +kernel
theorem dL_law_2020 : decode cL_law 2020 = .ok (.ireturn, 1) := by decide +kernel
theorem dL_law_2021 : decode cL_law 2021 = .ok (.iload 5, 2) := by decide +kernel
theorem dL_law_2023 : decode cL_law 2023 = .ok (.ifCond .ne 15, 3) := by decide +kernel
theorem dL_law_2026 : decode cL_law 2026 = .ok (.aload_n 3, 1) := by decide +kernel
theorem dL_law_2027 : decode cL_law 2027 = .ok (.iconst 0, 1) := by decide +kernel
theorem dL_law_2028 : decode cL_law 2028 = .ok (.laload, 1) := by decide +kernel
theorem dL_law_2029 : decode cL_law 2029 = .ok (.iload 6, 2) := by decide +kernel
theorem dL_law_2031 : decode cL_law 2031 = .ok (.i2l, 1) := by decide +kernel
theorem dL_law_2032 : decode cL_law 2032 = .ok (.lcmp, 1) := by decide +kernel
theorem dL_law_2033 : decode cL_law 2033 = .ok (.ifCond .eq 5, 3) := by decide +kernel
theorem dL_law_2036 : decode cL_law 2036 = .ok (.iconst 0, 1) := by decide +kernel
theorem dL_law_2037 : decode cL_law 2037 = .ok (.ireturn, 1) := by decide +kernel
theorem dL_law_2038 : decode cL_law 2038 = .ok (.goto 91, 3) := by decide +kernel
theorem dL_law_2041 : decode cL_law 2041 = .ok (.aload_n 1, 1) := by decide +kernel
theorem dL_law_2042 : decode cL_law 2042 = .ok (.invokevirtual 224, 3) := by decide +kernel
theorem dL_law_2045 : decode cL_law 2045 = .ok (.aload_n 2, 1) := by decide +kernel
theorem dL_law_2046 : decode cL_law 2046 = .ok (.invokevirtual 227, 3) := by decide +kernel
theorem dL_law_2049 : decode cL_law 2049 = .ok (.if_icmp .eq 80, 3) := by decide +kernel
theorem dL_law_2052 : decode cL_law 2052 = .ok (.iconst 0, 1) := by decide +kernel
theorem dL_law_2053 : decode cL_law 2053 = .ok (.ireturn, 1) := by decide +kernel
theorem dL_law_2054 : decode cL_law 2054 = .ok (.aload_n 1, 1) := by decide +kernel
theorem dL_law_2055 : decode cL_law 2055 = .ok (.aload_n 0, 1) := by decide +kernel
theorem dL_law_2056 : decode cL_law 2056 = .ok (.iload 4, 2) := by decide +kernel
theorem dL_law_2058 : decode cL_law 2058 = .ok (.iconst 1, 1) := by decide +kernel
theorem dL_law_2059 : decode cL_law 2059 = .ok (.iadd, 1) := by decide +kernel
theorem dL_law_2060 : decode cL_law 2060 = .ok (.iaload, 1) := by decide +kernel
theorem dL_law_2061 : decode cL_law 2061 = .ok (.aload_n 0, 1) := by decide +kernel
theorem dL_law_2062 : decode cL_law 2062 = .ok (.iload 4, 2) := by decide +kernel
theorem dL_law_2064 : decode cL_law 2064 = .ok (.iconst 2, 1) := by decide +kernel
theorem dL_law_2065 : decode cL_law 2065 = .ok (.iadd, 1) := by decide +kernel
theorem dL_law_2066 : decode cL_law 2066 = .ok (.iaload, 1) := by decide +kernel
theorem dL_law_2067 : decode cL_law 2067 = .ok (.aload_n 3, 1) := by decide +kernel
theorem dL_law_2068 : decode cL_law 2068 = .ok (.invokestatic 228, 3) := by decide +kernel
theorem dL_law_2071 : decode cL_law 2071 = .ok (.istore 5, 2) := by decide +kernel
theorem dL_law_2073 : decode cL_law 2073 = .ok (.aload_n 2, 1) := by decide +kernel
theorem dL_law_2074 : decode cL_law 2074 = .ok (.aload_n 0, 1) := by decide +kernel
theorem dL_law_2075 : decode cL_law 2075 = .ok (.iload 4, 2) := by decide +kernel
theorem dL_law_2077 : decode cL_law 2077 = .ok (.iconst 1, 1) := by decide +kernel
theorem dL_law_2078 : decode cL_law 2078 = .ok (.iadd, 1) := by decide +kernel
theorem dL_law_2079 : decode cL_law 2079 = .ok (.iaload, 1) := by decide +kernel
theorem dL_law_2080 : decode cL_law 2080 = .ok (.aload_n 0, 1) := by decide +kernel
theorem dL_law_2081 : decode cL_law 2081 = .ok (.iload 4, 2) := by decide +kernel
theorem dL_law_2083 : decode cL_law 2083 = .ok (.iconst 2, 1) := by decide +kernel
theorem dL_law_2084 : decode cL_law 2084 = .ok (.iadd, 1) := by decide +kernel
theorem dL_law_2085 : decode cL_law 2085 = .ok (.iaload, 1) := by decide +kernel
theorem dL_law_2086 : decode cL_law 2086 = .ok (.invokevirtual 230, 3) := by decide +kernel
theorem dL_law_2089 : decode cL_law 2089 = .ok (.istore 6, 2) := by decide +kernel
theorem dL_law_2091 : decode cL_law 2091 = .ok (.aload_n 2, 1) := by decide +kernel
theorem dL_law_2092 : decode cL_law 2092 = .ok (.invokevirtual 122, 3) := by decide +kernel
theorem dL_law_2095 : decode cL_law 2095 = .ok (.iload 5, 2) := by decide +kernel
theorem dL_law_2097 : decode cL_law 2097 = .ok (.if_icmp .eq 5, 3) := by decide +kernel
theorem dL_law_2100 : decode cL_law 2100 = .ok (.iconst 0, 1) := by decide +kernel
theorem dL_law_2101 : decode cL_law 2101 = .ok (.ireturn, 1) := by decide +kernel
theorem dL_law_2102 : decode cL_law 2102 = .ok (.iload 5, 2) := by decide +kernel
theorem dL_law_2104 : decode cL_law 2104 = .ok (.ifCond .ne 22, 3) := by decide +kernel
theorem dL_law_2107 : decode cL_law 2107 = .ok (.aload_n 3, 1) := by decide +kernel
theorem dL_law_2108 : decode cL_law 2108 = .ok (.iconst 0, 1) := by decide +kernel
theorem dL_law_2109 : decode cL_law 2109 = .ok (.laload, 1) := by decide +kernel
theorem dL_law_2110 : decode cL_law 2110 = .ok (.iload 6, 2) := by decide +kernel
theorem dL_law_2112 : decode cL_law 2112 = .ok (.ifCond .eq 7, 3) := by decide +kernel
theorem dL_law_2115 : decode cL_law 2115 = .ok (.lconst 1, 1) := by decide +kernel
theorem dL_law_2116 : decode cL_law 2116 = .ok (.goto 4, 3) := by decide +kernel
theorem dL_law_2119 : decode cL_law 2119 = .ok (.lconst 0, 1) := by decide +kernel
theorem dL_law_2120 : decode cL_law 2120 = .ok (.lcmp, 1) := by decide +kernel
theorem dL_law_2121 : decode cL_law 2121 = .ok (.ifCond .eq 5, 3) := by decide +kernel
theorem dL_law_2124 : decode cL_law 2124 = .ok (.iconst 0, 1) := by decide +kernel
theorem dL_law_2125 : decode cL_law 2125 = .ok (.ireturn, 1) := by decide +kernel
theorem dL_law_2126 : decode cL_law 2126 = .ok (.goto 3, 3) := by decide +kernel
theorem dL_law_2129 : decode cL_law 2129 = .ok (.iinc 4 6, 3) := by decide +kernel
theorem dL_law_2132 : decode cL_law 2132 = .ok (.goto (-2109), 3) := by decide +kernel
theorem dL_law_2135 : decode cL_law 2135 = .ok (.iconst 1, 1) := by decide +kernel
theorem dL_law_2136 : decode cL_law 2136 = .ok (.ireturn, 1) := by decide +kernel
