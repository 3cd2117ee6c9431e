theorem dX6_climbArguments_9 : decode cX6_climbArguments 9 = .ok (.if_icmp .gt 59, 3) := by decide +kernel
theorem dX6_climbArguments_12 : decode cX6_climbArguments 12 = .ok (.aload_n 0, 1) := by decide +kernel
theorem dX6_climbArguments_13 : decode cX6_climbArguments 13 = .ok (.iconst 1, 1) := by decide +kernel
theorem dX6_climbArguments_14 : decode cX6_climbArguments 14 = .ok (.iload_n 2, 1) := by decide +kernel
theorem dX6_climbArguments_15 : decode cX6_climbArguments 15 = .ok (.iconst 1, 1) := by decide +kernel
theorem dX6_climbArguments_16 : decode cX6_climbArguments 16 = .ok (.iadd, 1) := by decide +kernel
theorem dX6_climbArguments_17 : decode cX6_climbArguments 17 = .ok (.invokevirtual 160, 3) := by decide +kernel
theorem dX6_climbArguments_20 : decode cX6_climbArguments 20 = .ok (.ifCond .ne 5, 3) := by decide +kernel
theorem dX6_climbArguments_23 : decode cX6_climbArguments 23 = .ok (.iconst 0, 1) := by decide +kernel
theorem dX6_climbArguments_24 : decode cX6_climbArguments 24 = .ok (.ireturn, 1) := by decide +kernel
theorem dX6_climbArguments_25 : decode cX6_climbArguments 25 = .ok (.aload_n 0, 1) := by decide +kernel
theorem dX6_climbArguments_26 : decode cX6_climbArguments 26 = .ok (.aload_n 0, 1) := by decide +kernel
theorem dX6_climbArguments_27 : decode cX6_climbArguments 27 = .ok (.invokevirtual 163, 3) := by decide +kernel
theorem dX6_climbArguments_30 : decode cX6_climbArguments 30 = .ok (.invokevirtual 129, 3) := by decide +kernel
theorem dX6_climbArguments_33 : decode cX6_climbArguments 33 = .ok (.istore 4, 2) := by decide +kernel
theorem dX6_climbArguments_35 : decode cX6_climbArguments 35 = .ok (.iload 4, 2) := by decide +kernel
theorem dX6_climbArguments_37 : decode cX6_climbArguments 37 = .ok (.iconst 5, 1) := by decide +kernel
theorem dX6_climbArguments_38 : decode cX6_climbArguments 38 = .ok (.if_icmp .ne 15, 3) := by decide +kernel
theorem dX6_climbArguments_41 : decode cX6_climbArguments 41 = .ok (.aload_n 0, 1) := by decide +kernel
theorem dX6_climbArguments_42 : decode cX6_climbArguments 42 = .ok (.getfield 46, 3) := by decide +kernel
theorem dX6_climbArguments_45 : decode cX6_climbArguments 45 = .ok (.iconst 2, 1) := by decide +kernel
theorem dX6_climbArguments_46 : decode cX6_climbArguments 46 = .ok (.iload_n 1, 1) := by decide +kernel
theorem dX6_climbArguments_47 : decode cX6_climbArguments 47 = .ok (.iconst (-1), 1) := by decide +kernel
theorem dX6_climbArguments_48 : decode cX6_climbArguments 48 = .ok (.iload_n 3, 1) := by decide +kernel
theorem dX6_climbArguments_49 : decode cX6_climbArguments 49 = .ok (.invokevirtual 143, 3) := by decide +kernel
theorem dX6_climbArguments_52 : decode cX6_climbArguments 52 = .ok (.ireturn, 1) := by decide +kernel
theorem dX6_climbArguments_53 : decode cX6_climbArguments 53 = .ok (.iload 4, 2) := by decide +kernel
theorem dX6_climbArguments_55 : decode cX6_climbArguments 55 = .ok (.bipush 6, 2) := by decide +kernel
theorem dX6_climbArguments_57 : decode cX6_climbArguments 57 = .ok (.if_icmp .eq 5, 3) := by decide +kernel
theorem dX6_climbArguments_60 : decode cX6_climbArguments 60 = .ok (.iconst 0, 1) := by decide +kernel
theorem dX6_climbArguments_61 : decode cX6_climbArguments 61 = .ok (.ireturn, 1) := by decide +kernel
theorem dX6_climbArguments_62 : decode cX6_climbArguments 62 = .ok (.iinc 3 1, 3) := by decide +kernel
theorem dX6_climbArguments_65 : decode cX6_climbArguments 65 = .ok (.goto (-58), 3) := by decide +kernel
theorem dX6_climbArguments_68 : decode cX6_climbArguments 68 = .ok (.iconst 0, 1) := by decide +kernel
theorem dX6_climbArguments_69 : decode cX6_climbArguments 69 = .ok (.ireturn, 1) := by decide +kernel
theorem dX6_dropBrackets_0 : decode cX6_dropBrackets 0 = .ok (.iconst 0, 1) := by decide +kernel
theorem dX6_dropBrackets_1 : decode cX6_dropBrackets 1 = .ok (.istore_n 2, 1) := by decide +kernel
theorem dX6_dropBrackets_2 : decode cX6_dropBrackets 2 = .ok (.iload_n 2, 1) := by decide +kernel
theorem dX6_dropBrackets_3 : decode cX6_dropBrackets 3 = .ok (.aload_n 0, 1) := by decide +kernel
theorem dX6_dropBrackets_4 : decode cX6_dropBrackets 4 = .ok (.getfield 54, 3) := by decide +kernel
theorem dX6_dropBrackets_7 : decode cX6_dropBrackets 7 = .ok (.if_icmp .ge 41, 3) := by decide +kernel
theorem dX6_dropBrackets_10 : decode cX6_dropBrackets 10 = .ok (.aload_n 0, 1) := by decide +kernel
theorem dX6_dropBrackets_11 : decode cX6_dropBrackets 11 = .ok (.iload_n 2, 1) := by decide +kernel
theorem dX6_dropBrackets_12 : decode cX6_dropBrackets 12 = .ok (.invokevirtual 169, 3) := by decide +kernel
theorem dX6_dropBrackets_15 : decode cX6_dropBrackets 15 = .ok (.ifCond .eq 27, 3) := by decide +kernel
theorem dX6_dropBrackets_18 : decode cX6_dropBrackets 18 = .ok (.aload_n 0, 1) := by decide +kernel
theorem dX6_dropBrackets_19 : decode cX6_dropBrackets 19 = .ok (.iload_n 2, 1) := by decide +kernel
theorem dX6_dropBrackets_20 : decode cX6_dropBrackets 20 = .ok (.invokevirtual 172, 3) := by decide +kernel
theorem dX6_dropBrackets_23 : decode cX6_dropBrackets 23 = .ok (.istore_n 3, 1) := by decide +kernel
theorem dX6_dropBrackets_24 : decode cX6_dropBrackets 24 = .ok (.aload_n 0, 1) := by decide +kernel
theorem dX6_dropBrackets_25 : decode cX6_dropBrackets 25 = .ok (.iload_n 2, 1) := by decide +kernel
theorem dX6_dropBrackets_26 : decode cX6_dropBrackets 26 = .ok (.iload_n 3, 1) := by decide +kernel
theorem dX6_dropBrackets_27 : decode cX6_dropBrackets 27 = .ok (.iconst 1, 1) := by decide +kernel
theorem dX6_dropBrackets_28 : decode cX6_dropBrackets 28 = .ok (.invokevirtual 175, 3) := by decide +kernel
theorem dX6_dropBrackets_31 : decode cX6_dropBrackets 31 = .ok (.aload_n 0, 1) := by decide +kernel
theorem dX6_dropBrackets_32 : decode cX6_dropBrackets 32 = .ok (.iload_n 2, 1) := by decide +kernel
theorem dX6_dropBrackets_33 : decode cX6_dropBrackets 33 = .ok (.iload_n 3, 1) := by decide +kernel
theorem dX6_dropBrackets_34 : decode cX6_dropBrackets 34 = .ok (.aload_n 0, 1) := by decide +kernel
theorem dX6_dropBrackets_35 : decode cX6_dropBrackets 35 = .ok (.aload_n 1, 1) := by decide +kernel
theorem dX6_dropBrackets_36 : decode cX6_dropBrackets 36 = .ok (.invokevirtual 179, 3) := by decide +kernel
theorem dX6_dropBrackets_39 : decode cX6_dropBrackets 39 = .ok (.invokevirtual 175, 3) := by decide +kernel
theorem dX6_dropBrackets_42 : decode cX6_dropBrackets 42 = .ok (.iinc 2 1, 3) := by decide +kernel
theorem dX6_dropBrackets_45 : decode cX6_dropBrackets 45 = .ok (.goto (-43), 3) := by decide +kernel
theorem dX6_dropBrackets_48 : decode cX6_dropBrackets 48 = .ok (.return_, 1) := by decide +kernel
theorem dX6_needsAllBrackets_0 : decode cX6_needsAllBrackets 0 = .ok (.iconst 1, 1) := by decide +kernel
theorem dX6_needsAllBrackets_1 : decode cX6_needsAllBrackets 1 = .ok (.istore_n 2, 1) := by decide +kernel
theorem dX6_needsAllBrackets_2 : decode cX6_needsAllBrackets 2 = .ok (.iconst 0, 1) := by decide +kernel
theorem dX6_needsAllBrackets_3 : decode cX6_needsAllBrackets 3 = .ok (.istore_n 3, 1) := by decide +kernel
theorem dX6_needsAllBrackets_4 : decode cX6_needsAllBrackets 4 = .ok (.iload_n 3, 1) := by decide +kernel
theorem dX6_needsAllBrackets_5 : decode cX6_needsAllBrackets 5 = .ok (.aload_n 0, 1) := by decide +kernel
theorem dX6_needsAllBrackets_6 : decode cX6_needsAllBrackets 6 = .ok (.getfield 54, 3) := by decide +kernel
theorem dX6_needsAllBrackets_9 : decode cX6_needsAllBrackets 9 = .ok (.if_icmp .ge 58, 3) := by decide +kernel
theorem dX6_needsAllBrackets_12 : decode cX6_needsAllBrackets 12 = .ok (.iload_n 2, 1) := by decide +kernel
theorem dX6_needsAllBrackets_13 : decode cX6_needsAllBrackets 13 = .ok (.ifCond .eq 54, 3) := by decide +kernel
theorem dX6_needsAllBrackets_16 : decode cX6_needsAllBrackets 16 = .ok (.aload_n 0, 1) := by decide +kernel
theorem dX6_needsAllBrackets_17 : decode cX6_needsAllBrackets 17 = .ok (.iload_n 3, 1) := by decide +kernel
theorem dX6_needsAllBrackets_18 : decode cX6_needsAllBrackets 18 = .ok (.invokevirtual 169, 3) := by decide +kernel
theorem dX6_needsAllBrackets_21 : decode cX6_needsAllBrackets 21 = .ok (.ifCond .eq 40, 3) := by decide +kernel
theorem dX6_needsAllBrackets_24 : decode cX6_needsAllBrackets 24 = .ok (.aload_n 0, 1) := by decide +kernel
theorem dX6_needsAllBrackets_25 : decode cX6_needsAllBrackets 25 = .ok (.iload_n 3, 1) := by decide +kernel
theorem dX6_needsAllBrackets_26 : decode cX6_needsAllBrackets 26 = .ok (.invokevirtual 172, 3) := by decide +kernel
theorem dX6_needsAllBrackets_29 : decode cX6_needsAllBrackets 29 = .ok (.istore 4, 2) := by decide +kernel
theorem dX6_needsAllBrackets_31 : decode cX6_needsAllBrackets 31 = .ok (.aload_n 0, 1) := by decide +kernel
theorem dX6_needsAllBrackets_32 : decode cX6_needsAllBrackets 32 = .ok (.iload_n 3, 1) := by decide +kernel
theorem dX6_needsAllBrackets_33 : decode cX6_needsAllBrackets 33 = .ok (.iload 4, 2) := by decide +kernel
theorem dX6_needsAllBrackets_35 : decode cX6_needsAllBrackets 35 = .ok (.iconst 1, 1) := by decide +kernel
theorem dX6_needsAllBrackets_36 : decode cX6_needsAllBrackets 36 = .ok (.invokevirtual 175, 3) := by decide +kernel
theorem dX6_needsAllBrackets_39 : decode cX6_needsAllBrackets 39 = .ok (.aload_n 0, 1) := by decide +kernel
theorem dX6_needsAllBrackets_40 : decode cX6_needsAllBrackets 40 = .ok (.aload_n 1, 1) := by decide +kernel
theorem dX6_needsAllBrackets_41 : decode cX6_needsAllBrackets 41 = .ok (.invokevirtual 179, 3) := by decide +kernel
theorem dX6_needsAllBrackets_44 : decode cX6_needsAllBrackets 44 = .ok (.ifCond .ne 7, 3) := by decide +kernel
theorem dX6_needsAllBrackets_47 : decode cX6_needsAllBrackets 47 = .ok (.iconst 1, 1) := by decide +kernel
theorem dX6_needsAllBrackets_48 : decode cX6_needsAllBrackets 48 = .ok (.goto 4, 3) := by decide +kernel
theorem dX6_needsAllBrackets_51 : decode cX6_needsAllBrackets 51 = .ok (.iconst 0, 1) := by decide +kernel
theorem dX6_needsAllBrackets_52 : decode cX6_needsAllBrackets 52 = .ok (.istore_n 2, 1) := by decide +kernel
theorem dX6_needsAllBrackets_53 : decode cX6_needsAllBrackets 53 = .ok (.aload_n 0, 1) := by decide +kernel
theorem dX6_needsAllBrackets_54 : decode cX6_needsAllBrackets 54 = .ok (.iload_n 3, 1) := by decide +kernel
theorem dX6_needsAllBrackets_55 : decode cX6_needsAllBrackets 55 = .ok (.iload 4, 2) := by decide +kernel
theorem dX6_needsAllBrackets_57 : decode cX6_needsAllBrackets 57 = .ok (.iconst 0, 1) := by decide +kernel
theorem dX6_needsAllBrackets_58 : decode cX6_needsAllBrackets 58 = .ok (.invokevirtual 175, 3) := by decide +kernel
theorem dX6_needsAllBrackets_61 : decode cX6_needsAllBrackets 61 = .ok (.iinc 3 1, 3) := by decide +kernel
theorem dX6_needsAllBrackets_64 : decode cX6_needsAllBrackets 64 = .ok (.goto (-60), 3) := by decide +kernel
theorem dX6_needsAllBrackets_67 : decode cX6_needsAllBrackets 67 = .ok (.iload_n 2, 1) := by decide +kernel
theorem dX6_needsAllBrackets_68 : decode cX6_needsAllBrackets 68 = .ok (.ireturn, 1) := by decide +kernel
theorem dX6_opensPair_0 : decode cX6_opensPair 0 = .ok (.aload_n 0, 1) := by decide +kernel
theorem dX6_opensPair_1 : decode cX6_opensPair 1 = .ok (.iload_n 1, 1) := by decide +kernel
theorem dX6_opensPair_2 : decode cX6_opensPair 2 = .ok (.invokevirtual 129, 3) := by decide +kernel
theorem dX6_opensPair_5 : decode cX6_opensPair 5 = .ok (.iconst 4, 1) := by decide +kernel
theorem dX6_opensPair_6 : decode cX6_opensPair 6 = .ok (.if_icmp .ne 18, 3) := by decide +kernel
theorem dX6_opensPair_9 : decode cX6_opensPair 9 = .ok (.aload_n 0, 1) := by decide +kernel
theorem dX6_opensPair_10 : decode cX6_opensPair 10 = .ok (.iload_n 1, 1) := by decide +kernel
theorem dX6_opensPair_11 : decode cX6_opensPair 11 = .ok (.iconst 1, 1) := by decide +kernel
theorem dX6_opensPair_12 : decode cX6_opensPair 12 = .ok (.isub, 1) := by decide +kernel
theorem dX6_opensPair_13 : decode cX6_opensPair 13 = .ok (.invokevirtual 129, 3) := by decide +kernel
theorem dX6_opensPair_16 : decode cX6_opensPair 16 = .ok (.iconst 1, 1) := by decide +kernel
theorem dX6_opensPair_17 : decode cX6_opensPair 17 = .ok (.if_icmp .eq 7, 3) := by decide +kernel
theorem dX6_opensPair_20 : decode cX6_opensPair 20 = .ok (.iconst 1, 1) := by decide +kernel
theorem dX6_opensPair_21 : decode cX6_opensPair 21 = .ok (.goto 4, 3) := by decide +kernel
theorem dX6_opensPair_24 : decode cX6_opensPair 24 = .ok (.iconst 0, 1) := by decide +kernel
theorem dX6_opensPair_25 : decode cX6_opensPair 25 = .ok (.ireturn, 1) := by decide +kernel
theorem dX6_partnerOf_0 : decode cX6_partnerOf 0 = .ok (.iconst 0, 1) := by decide +kernel
theorem dX6_partnerOf_1 : decode cX6_partnerOf 1 = .ok (.istore_n 2, 1) := by decide +kernel
theorem dX6_partnerOf_2 : decode cX6_partnerOf 2 = .ok (.iload_n 1, 1) := by decide +kernel
theorem dX6_partnerOf_3 : decode cX6_partnerOf 3 = .ok (.istore_n 3, 1) := by decide +kernel
theorem dX6_partnerOf_4 : decode cX6_partnerOf 4 = .ok (.iload_n 3, 1) := by decide +kernel
theorem dX6_partnerOf_5 : decode cX6_partnerOf 5 = .ok (.aload_n 0, 1) := by decide +kernel
theorem dX6_partnerOf_6 : decode cX6_partnerOf 6 = .ok (.getfield 54, 3) := by decide +kernel
theorem dX6_partnerOf_9 : decode cX6_partnerOf 9 = .ok (.if_icmp .ge 44, 3) := by decide +kernel
theorem dX6_partnerOf_12 : decode cX6_partnerOf 12 = .ok (.aload_n 0, 1) := by decide +kernel
theorem dX6_partnerOf_13 : decode cX6_partnerOf 13 = .ok (.getfield 11, 3) := by decide +kernel
theorem dX6_partnerOf_16 : decode cX6_partnerOf 16 = .ok (.iload_n 3, 1) := by decide +kernel
theorem dX6_partnerOf_17 : decode cX6_partnerOf 17 = .ok (.iaload, 1) := by decide +kernel
theorem dX6_partnerOf_18 : decode cX6_partnerOf 18 = .ok (.iconst 4, 1) := by decide +kernel
theorem dX6_partnerOf_19 : decode cX6_partnerOf 19 = .ok (.if_icmp .ne 9, 3) := by decide +kernel
theorem dX6_partnerOf_22 : decode cX6_partnerOf 22 = .ok (.iinc 2 1, 3) := by decide +kernel
theorem dX6_partnerOf_25 : decode cX6_partnerOf 25 = .ok (.goto 22, 3) := by decide +kernel
theorem dX6_partnerOf_28 : decode cX6_partnerOf 28 = .ok (.aload_n 0, 1) := by decide +kernel
theorem dX6_partnerOf_29 : decode cX6_partnerOf 29 = .ok (.getfield 11, 3) := by decide +kernel
theorem dX6_partnerOf_32 : decode cX6_partnerOf 32 = .ok (.iload_n 3, 1) := by decide +kernel
theorem dX6_partnerOf_33 : decode cX6_partnerOf 33 = .ok (.iaload, 1) := by decide +kernel
theorem dX6_partnerOf_34 : decode cX6_partnerOf 34 = .ok (.iconst 5, 1) := by decide +kernel
theorem dX6_partnerOf_35 : decode cX6_partnerOf 35 = .ok (.if_icmp .ne 12, 3) := by decide +kernel
theorem dX6_partnerOf_38 : decode cX6_partnerOf 38 = .ok (.iinc 2 (-1), 3) := by decide +kernel
theorem dX6_partnerOf_41 : decode cX6_partnerOf 41 = .ok (.iload_n 2, 1) := by decide +kernel
theorem dX6_partnerOf_42 : decode cX6_partnerOf 42 = .ok (.ifCond .ne 5, 3) := by decide +kernel
theorem dX6_partnerOf_45 : decode cX6_partnerOf 45 = .ok (.iload_n 3, 1) := by decide +kernel
theorem dX6_partnerOf_46 : decode cX6_partnerOf 46 = .ok (.ireturn, 1) := by decide +kernel
theorem dX6_partnerOf_47 : decode cX6_partnerOf 47 = .ok (.iinc 3 1, 3) := by decide +kernel
theorem dX6_partnerOf_50 : decode cX6_partnerOf 50 = .ok (.goto (-46), 3) := by decide +kernel
theorem dX6_partnerOf_53 : decode cX6_partnerOf 53 = .ok (.iload_n 1, 1) := by decide +kernel
theorem dX6_partnerOf_54 : decode cX6_partnerOf 54 = .ok (.ireturn, 1) := by decide +kernel
theorem dX6_hide_0 : decode cX6_hide 0 = .ok (.iload_n 1, 1) := by decide +kernel
theorem dX6_hide_1 : decode cX6_hide 1 = .ok (.ifCond .lt 37, 3) := by decide +kernel
theorem dX6_hide_4 : decode cX6_hide 4 = .ok (.iload_n 1, 1) := by decide +kernel
theorem dX6_hide_5 : decode cX6_hide 5 = .ok (.aload_n 0, 1) := by decide +kernel
theorem dX6_hide_6 : decode cX6_hide 6 = .ok (.getfield 54, 3) := by decide +kernel
theorem dX6_hide_9 : decode cX6_hide 9 = .ok (.if_icmp .ge 29, 3) := by decide +kernel
theorem dX6_hide_12 : decode cX6_hide 12 = .ok (.iload_n 2, 1) := by decide +kernel
theorem dX6_hide_13 : decode cX6_hide 13 = .ok (.ifCond .lt 25, 3) := by decide +kernel
theorem dX6_hide_16 : decode cX6_hide 16 = .ok (.iload_n 2, 1) := by decide +kernel
theorem dX6_hide_17 : decode cX6_hide 17 = .ok (.aload_n 0, 1) := by decide +kernel
theorem dX6_hide_18 : decode cX6_hide 18 = .ok (.getfield 54, 3) := by decide +kernel
theorem dX6_hide_21 : decode cX6_hide 21 = .ok (.if_icmp .ge 17, 3) := by decide +kernel
theorem dX6_hide_24 : decode cX6_hide 24 = .ok (.aload_n 0, 1) := by decide +kernel
theorem dX6_hide_25 : decode cX6_hide 25 = .ok (.getfield 21, 3) := by decide +kernel
theorem dX6_hide_28 : decode cX6_hide 28 = .ok (.iload_n 1, 1) := by decide +kernel
theorem dX6_hide_29 : decode cX6_hide 29 = .ok (.iload_n 3, 1) := by decide +kernel
theorem dX6_hide_30 : decode cX6_hide 30 = .ok (.bastore, 1) := by decide +kernel
theorem dX6_hide_31 : decode cX6_hide 31 = .ok (.aload_n 0, 1) := by decide +kernel
theorem dX6_hide_32 : decode cX6_hide 32 = .ok (.getfield 21, 3) := by decide +kernel
theorem dX6_hide_35 : decode cX6_hide 35 = .ok (.iload_n 2, 1) := by decide +kernel
theorem dX6_hide_36 : decode cX6_hide 36 = .ok (.iload_n 3, 1) := by decide +kernel
theorem dX6_hide_37 : decode cX6_hide 37 = .ok (.bastore, 1) := by decide +kernel
theorem dX6_hide_38 : decode cX6_hide 38 = .ok (.return_, 1) := by decide +kernel
theorem dX7_init_0 : decode cX7_init 0 = .ok (.aload_n 0, 1) := by decide +kernel
theorem dX7_init_1 : decode cX7_init 1 = .ok (.invokespecial 3, 3) := by decide +kernel
theorem dX7_init_4 : decode cX7_init 4 = .ok (.aload_n 0, 1) := by decide +kernel
theorem dX7_init_5 : decode cX7_init 5 = .ok (.new 9, 3) := by decide +kernel
theorem dX7_init_8 : decode cX7_init 8 = .ok (.dup, 1) := by decide +kernel
theorem dX7_init_9 : decode cX7_init 9 = .ok (.invokespecial 11, 3) := by decide +kernel
theorem dX7_init_12 : decode cX7_init 12 = .ok (.putfield 12, 3) := by decide +kernel
theorem dX7_init_15 : decode cX7_init 15 = .ok (.aload_n 0, 1) := by decide +kernel
theorem dX7_init_16 : decode cX7_init 16 = .ok (.aload_n 1, 1) := by decide +kernel
theorem dX7_init_17 : decode cX7_init 17 = .ok (.putfield 18, 3) := by decide +kernel
theorem dX7_init_20 : decode cX7_init 20 = .ok (.return_, 1) := by decide +kernel
theorem dX7_meaningOf_0 : decode cX7_meaningOf 0 = .ok (.aload_n 1, 1) := by decide +kernel
theorem dX7_meaningOf_1 : decode cX7_meaningOf 1 = .ok (.getfield 22, 3) := by decide +kernel
theorem dX7_meaningOf_4 : decode cX7_meaningOf 4 = .ok (.iload_n 2, 1) := by decide +kernel
theorem dX7_meaningOf_5 : decode cX7_meaningOf 5 = .ok (.iaload, 1) := by decide +kernel
theorem dX7_meaningOf_6 : decode cX7_meaningOf 6 = .ok (.iconst 3, 1) := by decide +kernel
theorem dX7_meaningOf_7 : decode cX7_meaningOf 7 = .ok (.if_icmp .ne 25, 3) := by decide +kernel
theorem dX7_meaningOf_10 : decode cX7_meaningOf 10 = .ok (.aload_n 0, 1) := by decide +kernel
theorem dX7_meaningOf_11 : decode cX7_meaningOf 11 = .ok (.getfield 18, 3) := by decide +kernel
theorem dX7_meaningOf_14 : decode cX7_meaningOf 14 = .ok (.aload_n 1, 1) := by decide +kernel
theorem dX7_meaningOf_15 : decode cX7_meaningOf 15 = .ok (.getfield 26, 3) := by decide +kernel
theorem dX7_meaningOf_18 : decode cX7_meaningOf 18 = .ok (.iload_n 2, 1) := by decide +kernel
theorem dX7_meaningOf_19 : decode cX7_meaningOf 19 = .ok (.iaload, 1) := by decide +kernel
theorem dX7_meaningOf_20 : decode cX7_meaningOf 20 = .ok (.aload_n 1, 1) := by decide +kernel
theorem dX7_meaningOf_21 : decode cX7_meaningOf 21 = .ok (.getfield 29, 3) := by decide +kernel
theorem dX7_meaningOf_24 : decode cX7_meaningOf 24 = .ok (.iload_n 2, 1) := by decide +kernel
theorem dX7_meaningOf_25 : decode cX7_meaningOf 25 = .ok (.iaload, 1) := by decide +kernel
theorem dX7_meaningOf_26 : decode cX7_meaningOf 26 = .ok (.invokevirtual 32, 3) := by decide +kernel
theorem dX7_meaningOf_29 : decode cX7_meaningOf 29 = .ok (.goto 4, 3) := by decide +kernel
theorem dX7_meaningOf_32 : decode cX7_meaningOf 32 = .ok (.iconst (-1), 1) := by decide +kernel
theorem dX7_meaningOf_33 : decode cX7_meaningOf 33 = .ok (.ireturn, 1) := by decide +kernel
theorem dX7_applyRule_0 : decode cX7_applyRule 0 = .ok (.iconst 0, 1) := by decide +kernel
theorem dX7_applyRule_1 : decode cX7_applyRule 1 = .ok (.istore_n 2, 1) := by decide +kernel
theorem dX7_applyRule_2 : decode cX7_applyRule 2 = .ok (.iload_n 2, 1) := by decide +kernel
theorem dX7_applyRule_3 : decode cX7_applyRule 3 = .ok (.aload_n 1, 1) := by decide +kernel
theorem dX7_applyRule_4 : decode cX7_applyRule 4 = .ok (.getfield 38, 3) := by decide +kernel
theorem dX7_applyRule_7 : decode cX7_applyRule 7 = .ok (.if_icmp .ge 103, 3) := by decide +kernel
theorem dX7_applyRule_10 : decode cX7_applyRule 10 = .ok (.aload_n 1, 1) := by decide +kernel
theorem dX7_applyRule_11 : decode cX7_applyRule 11 = .ok (.iload_n 2, 1) := by decide +kernel
theorem dX7_applyRule_12 : decode cX7_applyRule 12 = .ok (.invokevirtual 42, 3) := by decide +kernel
theorem dX7_applyRule_15 : decode cX7_applyRule 15 = .ok (.istore_n 3, 1) := by decide +kernel
theorem dX7_applyRule_16 : decode cX7_applyRule 16 = .ok (.aload_n 0, 1) := by decide +kernel
theorem dX7_applyRule_17 : decode cX7_applyRule 17 = .ok (.aload_n 1, 1) := by decide +kernel
theorem dX7_applyRule_18 : decode cX7_applyRule 18 = .ok (.iload_n 3, 1) := by decide +kernel
theorem dX7_applyRule_19 : decode cX7_applyRule 19 = .ok (.invokevirtual 46, 3) := by decide +kernel
theorem dX7_applyRule_22 : decode cX7_applyRule 22 = .ok (.istore 4, 2) := by decide +kernel
theorem dX7_applyRule_24 : decode cX7_applyRule 24 = .ok (.iconst 0, 1) := by decide +kernel
theorem dX7_applyRule_25 : decode cX7_applyRule 25 = .ok (.istore 5, 2) := by decide +kernel
theorem dX7_applyRule_27 : decode cX7_applyRule 27 = .ok (.iload 4, 2) := by decide +kernel
theorem dX7_applyRule_29 : decode cX7_applyRule 29 = .ok (.bipush 11, 2) := by decide +kernel
theorem dX7_applyRule_31 : decode cX7_applyRule 31 = .ok (.if_icmp .ne 39, 3) := by decide +kernel
theorem dX7_applyRule_34 : decode cX7_applyRule 34 = .ok (.aload_n 0, 1) := by decide +kernel
theorem dX7_applyRule_35 : decode cX7_applyRule 35 = .ok (.aload_n 1, 1) := by decide +kernel
theorem dX7_applyRule_36 : decode cX7_applyRule 36 = .ok (.aload_n 1, 1) := by decide +kernel
theorem dX7_applyRule_37 : decode cX7_applyRule 37 = .ok (.iload_n 3, 1) := by decide +kernel
theorem dX7_applyRule_38 : decode cX7_applyRule 38 = .ok (.iconst 0, 1) := by decide +kernel
theorem dX7_applyRule_39 : decode cX7_applyRule 39 = .ok (.invokevirtual 50, 3) := by decide +kernel
theorem dX7_applyRule_42 : decode cX7_applyRule 42 = .ok (.invokevirtual 46, 3) := by decide +kernel
theorem dX7_applyRule_45 : decode cX7_applyRule 45 = .ok (.bipush 11, 2) := by decide +kernel
theorem dX7_applyRule_47 : decode cX7_applyRule 47 = .ok (.if_icmp .ne 23, 3) := by decide +kernel
theorem dX7_applyRule_50 : decode cX7_applyRule 50 = .ok (.aload_n 1, 1) := by decide +kernel
theorem dX7_applyRule_51 : decode cX7_applyRule 51 = .ok (.iload_n 3, 1) := by decide +kernel
theorem dX7_applyRule_52 : decode cX7_applyRule 52 = .ok (.aload_n 1, 1) := by decide +kernel
theorem dX7_applyRule_53 : decode cX7_applyRule 53 = .ok (.iload_n 3, 1) := by decide +kernel
theorem dX7_applyRule_54 : decode cX7_applyRule 54 = .ok (.iconst 0, 1) := by decide +kernel
theorem dX7_applyRule_55 : decode cX7_applyRule 55 = .ok (.invokevirtual 50, 3) := by decide +kernel
theorem dX7_applyRule_58 : decode cX7_applyRule 58 = .ok (.iconst 1, 1) := by decide +kernel
theorem dX7_applyRule_59 : decode cX7_applyRule 59 = .ok (.iadd, 1) := by decide +kernel
theorem dX7_applyRule_60 : decode cX7_applyRule 60 = .ok (.invokevirtual 53, 3) := by decide +kernel
theorem dX7_applyRule_63 : decode cX7_applyRule 63 = .ok (.bipush 6, 2) := by decide +kernel
theorem dX7_applyRule_65 : decode cX7_applyRule 65 = .ok (.istore 5, 2) := by decide +kernel
theorem dX7_applyRule_67 : decode cX7_applyRule 67 = .ok (.goto 24, 3) := by decide +kernel
theorem dX7_applyRule_70 : decode cX7_applyRule 70 = .ok (.iload 4, 2) := by decide +kernel
theorem dX7_applyRule_72 : decode cX7_applyRule 72 = .ok (.ifCond .lt 19, 3) := by decide +kernel
theorem dX7_applyRule_75 : decode cX7_applyRule 75 = .ok (.iload 4, 2) := by decide +kernel
theorem dX7_applyRule_77 : decode cX7_applyRule 77 = .ok (.iconst 5, 1) := by decide +kernel
theorem dX7_applyRule_78 : decode cX7_applyRule 78 = .ok (.if_icmp .gt 13, 3) := by decide +kernel
theorem dX7_applyRule_81 : decode cX7_applyRule 81 = .ok (.aload_n 0, 1) := by decide +kernel
theorem dX7_applyRule_82 : decode cX7_applyRule 82 = .ok (.aload_n 1, 1) := by decide +kernel
theorem dX7_applyRule_83 : decode cX7_applyRule 83 = .ok (.iload_n 3, 1) := by decide +kernel
theorem dX7_applyRule_84 : decode cX7_applyRule 84 = .ok (.iload 4, 2) := by decide +kernel
theorem dX7_applyRule_86 : decode cX7_applyRule 86 = .ok (.invokevirtual 57, 3) := by decide +kernel
theorem dX7_applyRule_89 : decode cX7_applyRule 89 = .ok (.istore 5, 2) := by decide +kernel
theorem dX7_applyRule_91 : decode cX7_applyRule 91 = .ok (.iload 5, 2) := by decide +kernel
theorem dX7_applyRule_93 : decode cX7_applyRule 93 = .ok (.ifCond .eq 11, 3) := by decide +kernel
theorem dX7_applyRule_96 : decode cX7_applyRule 96 = .ok (.aload_n 0, 1) := by decide +kernel
theorem dX7_applyRule_97 : decode cX7_applyRule 97 = .ok (.iload_n 3, 1) := by decide +kernel
theorem dX7_applyRule_98 : decode cX7_applyRule 98 = .ok (.putfield 61, 3) := by decide +kernel
theorem dX7_applyRule_101 : decode cX7_applyRule 101 = .ok (.iload 5, 2) := by decide +kernel
theorem dX7_applyRule_103 : decode cX7_applyRule 103 = .ok (.ireturn, 1) := by decide +kernel
theorem dX7_applyRule_104 : decode cX7_applyRule 104 = .ok (.iinc 2 1, 3) := by decide +kernel
theorem dX7_applyRule_107 : decode cX7_applyRule 107 = .ok (.goto (-105), 3) := by decide +kernel
theorem dX7_applyRule_110 : decode cX7_applyRule 110 = .ok (.iconst 0, 1) := by decide +kernel
theorem dX7_applyRule_111 : decode cX7_applyRule 111 = .ok (.ireturn, 1) := by decide +kernel
theorem dX7_applyToTwo_0 : decode cX7_applyToTwo 0 = .ok (.aload_n 1, 1) := by decide +kernel
theorem dX7_applyToTwo_1 : decode cX7_applyToTwo 1 = .ok (.iload_n 2, 1) := by decide +kernel
theorem dX7_applyToTwo_2 : decode cX7_applyToTwo 2 = .ok (.iconst 0, 1) := by decide +kernel
theorem dX7_applyToTwo_3 : decode cX7_applyToTwo 3 = .ok (.invokevirtual 50, 3) := by decide +kernel
theorem dX7_applyToTwo_6 : decode cX7_applyToTwo 6 = .ok (.istore 4, 2) := by decide +kernel
theorem dX7_applyToTwo_8 : decode cX7_applyToTwo 8 = .ok (.aload_n 1, 1) := by decide +kernel
theorem dX7_applyToTwo_9 : decode cX7_applyToTwo 9 = .ok (.iload_n 2, 1) := by decide +kernel
theorem dX7_applyToTwo_10 : decode cX7_applyToTwo 10 = .ok (.iconst 1, 1) := by decide +kernel
theorem dX7_applyToTwo_11 : decode cX7_applyToTwo 11 = .ok (.invokevirtual 50, 3) := by decide +kernel
theorem dX7_applyToTwo_14 : decode cX7_applyToTwo 14 = .ok (.istore 5, 2) := by decide +kernel
theorem dX7_applyToTwo_16 : decode cX7_applyToTwo 16 = .ok (.aload_n 1, 1) := by decide +kernel
theorem dX7_applyToTwo_17 : decode cX7_applyToTwo 17 = .ok (.iload_n 3, 1) := by decide +kernel
theorem dX7_applyToTwo_18 : decode cX7_applyToTwo 18 = .ok (.iload 4, 2) := by decide +kernel
theorem dX7_applyToTwo_20 : decode cX7_applyToTwo 20 = .ok (.iload 5, 2) := by decide +kernel
theorem dX7_applyToTwo_22 : decode cX7_applyToTwo 22 = .ok (.invokestatic 64, 3) := by decide +kernel
theorem dX7_applyToTwo_25 : decode cX7_applyToTwo 25 = .ok (.istore 6, 2) := by decide +kernel
theorem dX7_applyToTwo_27 : decode cX7_applyToTwo 27 = .ok (.iload 6, 2) := by decide +kernel
theorem dX7_applyToTwo_29 : decode cX7_applyToTwo 29 = .ok (.ifCond .lt 12, 3) := by decide +kernel
theorem dX7_applyToTwo_32 : decode cX7_applyToTwo 32 = .ok (.aload_n 1, 1) := by decide +kernel
theorem dX7_applyToTwo_33 : decode cX7_applyToTwo 33 = .ok (.iload_n 2, 1) := by decide +kernel
theorem dX7_applyToTwo_34 : decode cX7_applyToTwo 34 = .ok (.iload 6, 2) := by decide +kernel
theorem dX7_applyToTwo_36 : decode cX7_applyToTwo 36 = .ok (.invokevirtual 68, 3) := by decide +kernel
theorem dX7_applyToTwo_39 : decode cX7_applyToTwo 39 = .ok (.iconst 1, 1) := by decide +kernel
theorem dX7_applyToTwo_40 : decode cX7_applyToTwo 40 = .ok (.ireturn, 1) := by decide +kernel
theorem dX7_applyToTwo_41 : decode cX7_applyToTwo 41 = .ok (.aload_n 1, 1) := by decide +kernel
theorem dX7_applyToTwo_42 : decode cX7_applyToTwo 42 = .ok (.iload_n 2, 1) := by decide +kernel
theorem dX7_applyToTwo_43 : decode cX7_applyToTwo 43 = .ok (.iload_n 3, 1) := by decide +kernel
theorem dX7_applyToTwo_44 : decode cX7_applyToTwo 44 = .ok (.invokestatic 71, 3) := by decide +kernel
theorem dX7_applyToTwo_47 : decode cX7_applyToTwo 47 = .ok (.istore 7, 2) := by decide +kernel
theorem dX7_applyToTwo_49 : decode cX7_applyToTwo 49 = .ok (.iload 7, 2) := by decide +kernel
theorem dX7_applyToTwo_51 : decode cX7_applyToTwo 51 = .ok (.ifCond .eq 6, 3) := by decide +kernel
theorem dX7_applyToTwo_54 : decode cX7_applyToTwo 54 = .ok (.iload 7, 2) := by decide +kernel
theorem dX7_applyToTwo_56 : decode cX7_applyToTwo 56 = .ok (.ireturn, 1) := by decide +kernel
theorem dX7_applyToTwo_57 : decode cX7_applyToTwo 57 = .ok (.iload_n 3, 1) := by decide +kernel
theorem dX7_applyToTwo_58 : decode cX7_applyToTwo 58 = .ok (.iconst 2, 1) := by decide +kernel
theorem dX7_applyToTwo_59 : decode cX7_applyToTwo 59 = .ok (.if_icmp .ne 31, 3) := by decide +kernel
theorem dX7_applyToTwo_62 : decode cX7_applyToTwo 62 = .ok (.aload_n 1, 1) := by decide +kernel
theorem dX7_applyToTwo_63 : decode cX7_applyToTwo 63 = .ok (.iload 4, 2) := by decide +kernel
theorem dX7_applyToTwo_65 : decode cX7_applyToTwo 65 = .ok (.iconst 0, 1) := by decide +kernel
theorem dX7_applyToTwo_66 : decode cX7_applyToTwo 66 = .ok (.invokevirtual 74, 3) := by decide +kernel
theorem dX7_applyToTwo_69 : decode cX7_applyToTwo 69 = .ok (.ifCond .ne 13, 3) := by decide +kernel
theorem dX7_applyToTwo_72 : decode cX7_applyToTwo 72 = .ok (.aload_n 1, 1) := by decide +kernel
theorem dX7_applyToTwo_73 : decode cX7_applyToTwo 73 = .ok (.iload 5, 2) := by decide +kernel
theorem dX7_applyToTwo_75 : decode cX7_applyToTwo 75 = .ok (.iconst 0, 1) := by decide +kernel
theorem dX7_applyToTwo_76 : decode cX7_applyToTwo 76 = .ok (.invokevirtual 74, 3) := by decide +kernel
theorem dX7_applyToTwo_79 : decode cX7_applyToTwo 79 = .ok (.ifCond .eq 11, 3) := by decide +kernel
theorem dX7_applyToTwo_82 : decode cX7_applyToTwo 82 = .ok (.aload_n 1, 1) := by decide +kernel
theorem dX7_applyToTwo_83 : decode cX7_applyToTwo 83 = .ok (.iload_n 2, 1) := by decide +kernel
theorem dX7_applyToTwo_84 : decode cX7_applyToTwo 84 = .ok (.iconst 0, 1) := by decide +kernel
theorem dX7_applyToTwo_85 : decode cX7_applyToTwo 85 = .ok (.invokevirtual 68, 3) := by decide +kernel
theorem dX7_applyToTwo_88 : decode cX7_applyToTwo 88 = .ok (.iconst 4, 1) := by decide +kernel
theorem dX7_applyToTwo_89 : decode cX7_applyToTwo 89 = .ok (.ireturn, 1) := by decide +kernel
theorem dX7_applyToTwo_90 : decode cX7_applyToTwo 90 = .ok (.iload_n 3, 1) := by decide +kernel
theorem dX7_applyToTwo_91 : decode cX7_applyToTwo 91 = .ok (.iconst 1, 1) := by decide +kernel
theorem dX7_applyToTwo_92 : decode cX7_applyToTwo 92 = .ok (.if_icmp .eq 8, 3) := by decide +kernel
theorem dX7_applyToTwo_95 : decode cX7_applyToTwo 95 = .ok (.iload_n 3, 1) := by decide +kernel
theorem dX7_applyToTwo_96 : decode cX7_applyToTwo 96 = .ok (.iconst 3, 1) := by decide +kernel
theorem dX7_applyToTwo_97 : decode cX7_applyToTwo 97 = .ok (.if_icmp .ne 31, 3) := by decide +kernel
theorem dX7_applyToTwo_100 : decode cX7_applyToTwo 100 = .ok (.aload_n 1, 1) := by decide +kernel
theorem dX7_applyToTwo_101 : decode cX7_applyToTwo 101 = .ok (.iload 4, 2) := by decide +kernel
theorem dX7_applyToTwo_103 : decode cX7_applyToTwo 103 = .ok (.iload 5, 2) := by decide +kernel
theorem dX7_applyToTwo_105 : decode cX7_applyToTwo 105 = .ok (.invokevirtual 78, 3) := by decide +kernel
theorem dX7_applyToTwo_108 : decode cX7_applyToTwo 108 = .ok (.ifCond .eq 20, 3) := by decide +kernel
theorem dX7_applyToTwo_111 : decode cX7_applyToTwo 111 = .ok (.aload_n 1, 1) := by decide +kernel
theorem dX7_applyToTwo_112 : decode cX7_applyToTwo 112 = .ok (.iload_n 2, 1) := by decide +kernel
theorem dX7_applyToTwo_113 : decode cX7_applyToTwo 113 = .ok (.iload_n 3, 1) := by decide +kernel
theorem dX7_applyToTwo_114 : decode cX7_applyToTwo 114 = .ok (.iconst 1, 1) := by decide +kernel
theorem dX7_applyToTwo_115 : decode cX7_applyToTwo 115 = .ok (.if_icmp .ne 7, 3) := by decide +kernel
theorem dX7_applyToTwo_118 : decode cX7_applyToTwo 118 = .ok (.iconst 0, 1) := by decide +kernel
theorem dX7_applyToTwo_119 : decode cX7_applyToTwo 119 = .ok (.goto 4, 3) := by decide +kernel
theorem dX7_applyToTwo_122 : decode cX7_applyToTwo 122 = .ok (.iconst 1, 1) := by decide +kernel
theorem dX7_applyToTwo_123 : decode cX7_applyToTwo 123 = .ok (.invokevirtual 68, 3) := by decide +kernel
theorem dX7_applyToTwo_126 : decode cX7_applyToTwo 126 = .ok (.iconst 5, 1) := by decide +kernel
theorem dX7_applyToTwo_127 : decode cX7_applyToTwo 127 = .ok (.ireturn, 1) := by decide +kernel
theorem dX7_applyToTwo_128 : decode cX7_applyToTwo 128 = .ok (.iload_n 3, 1) := by decide +kernel
theorem dX7_applyToTwo_129 : decode cX7_applyToTwo 129 = .ok (.ifCond .ne 21, 3) := by decide +kernel
theorem dX7_applyToTwo_132 : decode cX7_applyToTwo 132 = .ok (.aload_n 0, 1) := by decide +kernel
theorem dX7_applyToTwo_133 : decode cX7_applyToTwo 133 = .ok (.aload_n 1, 1) := by decide +kernel
theorem dX7_applyToTwo_134 : decode cX7_applyToTwo 134 = .ok (.iload_n 2, 1) := by decide +kernel
theorem dX7_applyToTwo_135 : decode cX7_applyToTwo 135 = .ok (.iload 4, 2) := by decide +kernel
theorem dX7_applyToTwo_137 : decode cX7_applyToTwo 137 = .ok (.iload 5, 2) := by decide +kernel
theorem dX7_applyToTwo_139 : decode cX7_applyToTwo 139 = .ok (.invokevirtual 81, 3) := by decide +kernel
theorem dX7_applyToTwo_142 : decode cX7_applyToTwo 142 = .ok (.ifCond .eq 8, 3) := by decide +kernel
theorem dX7_applyToTwo_145 : decode cX7_applyToTwo 145 = .ok (.bipush 7, 2) := by decide +kernel
theorem dX7_applyToTwo_147 : decode cX7_applyToTwo 147 = .ok (.goto 4, 3) := by decide +kernel
theorem dX7_applyToTwo_150 : decode cX7_applyToTwo 150 = .ok (.iconst 0, 1) := by decide +kernel
theorem dX7_applyToTwo_151 : decode cX7_applyToTwo 151 = .ok (.ireturn, 1) := by decide +kernel
theorem dX7_wholeOf_0 : decode cX7_wholeOf 0 = .ok (.aload_n 0, 1) := by decide +kernel
theorem dX7_wholeOf_1 : decode cX7_wholeOf 1 = .ok (.getfield 22, 3) := by decide +kernel
theorem dX7_wholeOf_4 : decode cX7_wholeOf 4 = .ok (.iload_n 2, 1) := by decide +kernel
theorem dX7_wholeOf_5 : decode cX7_wholeOf 5 = .ok (.iaload, 1) := by decide +kernel
theorem dX7_wholeOf_6 : decode cX7_wholeOf 6 = .ok (.ifCond .ne 12, 3) := by decide +kernel
theorem dX7_wholeOf_9 : decode cX7_wholeOf 9 = .ok (.aload_n 0, 1) := by decide +kernel
theorem dX7_wholeOf_10 : decode cX7_wholeOf 10 = .ok (.getfield 22, 3) := by decide +kernel
theorem dX7_wholeOf_13 : decode cX7_wholeOf 13 = .ok (.iload_n 3, 1) := by decide +kernel
theorem dX7_wholeOf_14 : decode cX7_wholeOf 14 = .ok (.iaload, 1) := by decide +kernel
theorem dX7_wholeOf_15 : decode cX7_wholeOf 15 = .ok (.ifCond .eq 5, 3) := by decide +kernel
theorem dX7_wholeOf_18 : decode cX7_wholeOf 18 = .ok (.iconst (-1), 1) := by decide +kernel
theorem dX7_wholeOf_19 : decode cX7_wholeOf 19 = .ok (.ireturn, 1) := by decide +kernel
theorem dX7_wholeOf_20 : decode cX7_wholeOf 20 = .ok (.aload_n 0, 1) := by decide +kernel
theorem dX7_wholeOf_21 : decode cX7_wholeOf 21 = .ok (.getfield 26, 3) := by decide +kernel
theorem dX7_wholeOf_24 : decode cX7_wholeOf 24 = .ok (.iload_n 2, 1) := by decide +kernel
theorem dX7_wholeOf_25 : decode cX7_wholeOf 25 = .ok (.iaload, 1) := by decide +kernel
theorem dX7_wholeOf_26 : decode cX7_wholeOf 26 = .ok (.i2l, 1) := by decide +kernel
theorem dX7_wholeOf_27 : decode cX7_wholeOf 27 = .ok (.lstore 4, 2) := by decide +kernel
theorem dX7_wholeOf_29 : decode cX7_wholeOf 29 = .ok (.aload_n 0, 1) := by decide +kernel
theorem dX7_wholeOf_30 : decode cX7_wholeOf 30 = .ok (.getfield 26, 3) := by decide +kernel
theorem dX7_wholeOf_33 : decode cX7_wholeOf 33 = .ok (.iload_n 3, 1) := by decide +kernel
theorem dX7_wholeOf_34 : decode cX7_wholeOf 34 = .ok (.iaload, 1) := by decide +kernel
theorem dX7_wholeOf_35 : decode cX7_wholeOf 35 = .ok (.i2l, 1) := by decide +kernel
theorem dX7_wholeOf_36 : decode cX7_wholeOf 36 = .ok (.lstore 6, 2) := by decide +kernel
theorem dX7_wholeOf_38 : decode cX7_wholeOf 38 = .ok (.iload_n 1, 1) := by decide +kernel
theorem dX7_wholeOf_39 : decode cX7_wholeOf 39 = .ok (.tableswitch 127 0 5 #[37, 47, 57, 67, 127, 100], 37) := by decide +kernel
theorem dX7_wholeOf_76 : decode cX7_wholeOf 76 = .ok (.lload 4, 2) := by decide +kernel
theorem dX7_wholeOf_78 : decode cX7_wholeOf 78 = .ok (.lload 6, 2) := by decide +kernel
theorem dX7_wholeOf_80 : decode cX7_wholeOf 80 = .ok (.ladd, 1) := by decide +kernel
theorem dX7_wholeOf_81 : decode cX7_wholeOf 81 = .ok (.lstore 8, 2) := by decide +kernel
theorem dX7_wholeOf_83 : decode cX7_wholeOf 83 = .ok (.goto 88, 3) := by decide +kernel
theorem dX7_wholeOf_86 : decode cX7_wholeOf 86 = .ok (.lload 4, 2) := by decide +kernel
theorem dX7_wholeOf_88 : decode cX7_wholeOf 88 = .ok (.lload 6, 2) := by decide +kernel
theorem dX7_wholeOf_90 : decode cX7_wholeOf 90 = .ok (.lsub, 1) := by decide +kernel
theorem dX7_wholeOf_91 : decode cX7_wholeOf 91 = .ok (.lstore 8, 2) := by decide +kernel
theorem dX7_wholeOf_93 : decode cX7_wholeOf 93 = .ok (.goto 78, 3) := by decide +kernel
theorem dX7_wholeOf_96 : decode cX7_wholeOf 96 = .ok (.lload 4, 2) := by decide +kernel
theorem dX7_wholeOf_98 : decode cX7_wholeOf 98 = .ok (.lload 6, 2) := by decide +kernel
theorem dX7_wholeOf_100 : decode cX7_wholeOf 100 = .ok (.lmul, 1) := by decide +kernel
theorem dX7_wholeOf_101 : decode cX7_wholeOf 101 = .ok (.lstore 8, 2) := by decide +kernel
theorem dX7_wholeOf_103 : decode cX7_wholeOf 103 = .ok (.goto 68, 3) := by decide +kernel
theorem dX7_wholeOf_106 : decode cX7_wholeOf 106 = .ok (.lload 6, 2) := by decide +kernel
theorem dX7_wholeOf_108 : decode cX7_wholeOf 108 = .ok (.lconst 0, 1) := by decide +kernel
theorem dX7_wholeOf_109 : decode cX7_wholeOf 109 = .ok (.lcmp, 1) := by decide +kernel
theorem dX7_wholeOf_110 : decode cX7_wholeOf 110 = .ok (.ifCond .le 21, 3) := by decide +kernel
theorem dX7_wholeOf_113 : decode cX7_wholeOf 113 = .ok (.lload 4, 2) := by decide +kernel
theorem dX7_wholeOf_115 : decode cX7_wholeOf 115 = .ok (.lload 6, 2) := by decide +kernel
theorem dX7_wholeOf_117 : decode cX7_wholeOf 117 = .ok (.lrem, 1) := by decide +kernel
theorem dX7_wholeOf_118 : decode cX7_wholeOf 118 = .ok (.lconst 0, 1) := by decide +kernel
theorem dX7_wholeOf_119 : decode cX7_wholeOf 119 = .ok (.lcmp, 1) := by decide +kernel
theorem dX7_wholeOf_120 : decode cX7_wholeOf 120 = .ok (.ifCond .ne 11, 3) := by decide +kernel
theorem dX7_wholeOf_123 : decode cX7_wholeOf 123 = .ok (.lload 4, 2) := by decide +kernel
theorem dX7_wholeOf_125 : decode cX7_wholeOf 125 = .ok (.lload 6, 2) := by decide +kernel
theorem dX7_wholeOf_127 : decode cX7_wholeOf 127 = .ok (.ldiv, 1) := by decide +kernel
theorem dX7_wholeOf_128 : decode cX7_wholeOf 128 = .ok (.goto 6, 3) := by decide +kernel
theorem dX7_wholeOf_131 : decode cX7_wholeOf 131 = .ok (.ldc2_w 85, 3) := by decide +kernel
theorem dX7_wholeOf_134 : decode cX7_wholeOf 134 = .ok (.lstore 8, 2) := by decide +kernel
theorem dX7_wholeOf_136 : decode cX7_wholeOf 136 = .ok (.goto 35, 3) := by decide +kernel
theorem dX7_wholeOf_139 : decode cX7_wholeOf 139 = .ok (.lload 6, 2) := by decide +kernel
theorem dX7_wholeOf_141 : decode cX7_wholeOf 141 = .ok (.ldc2_w 87, 3) := by decide +kernel
theorem dX7_wholeOf_144 : decode cX7_wholeOf 144 = .ok (.lcmp, 1) := by decide +kernel
theorem dX7_wholeOf_145 : decode cX7_wholeOf 145 = .ok (.ifCond .gt 13, 3) := by decide +kernel
theorem dX7_wholeOf_148 : decode cX7_wholeOf 148 = .ok (.lload 4, 2) := by decide +kernel
theorem dX7_wholeOf_150 : decode cX7_wholeOf 150 = .ok (.lload 6, 2) := by decide +kernel
theorem dX7_wholeOf_152 : decode cX7_wholeOf 152 = .ok (.invokestatic 89, 3) := by decide +kernel
theorem dX7_wholeOf_155 : decode cX7_wholeOf 155 = .ok (.goto 6, 3) := by decide +kernel
theorem dX7_wholeOf_158 : decode cX7_wholeOf 158 = .ok (.ldc2_w 85, 3) := by decide +kernel
theorem dX7_wholeOf_161 : decode cX7_wholeOf 161 = .ok (.lstore 8, 2) := by decide +kernel
theorem dX7_wholeOf_163 : decode cX7_wholeOf 163 = .ok (.goto 8, 3) := by decide +kernel
theorem dX7_wholeOf_166 : decode cX7_wholeOf 166 = .ok (.ldc2_w 85, 3) := by decide +kernel
theorem dX7_wholeOf_169 : decode cX7_wholeOf 169 = .ok (.lstore 8, 2) := by decide +kernel
theorem dX7_wholeOf_171 : decode cX7_wholeOf 171 = .ok (.lload 8, 2) := by decide +kernel
theorem dX7_wholeOf_173 : decode cX7_wholeOf 173 = .ok (.lconst 0, 1) := by decide +kernel
theorem dX7_wholeOf_174 : decode cX7_wholeOf 174 = .ok (.lcmp, 1) := by decide +kernel
theorem dX7_wholeOf_175 : decode cX7_wholeOf 175 = .ok (.ifCond .lt 18, 3) := by decide +kernel
theorem dX7_wholeOf_178 : decode cX7_wholeOf 178 = .ok (.lload 8, 2) := by decide +kernel
theorem dX7_wholeOf_180 : decode cX7_wholeOf 180 = .ok (.ldc2_w 93, 3) := by decide +kernel
theorem dX7_wholeOf_183 : decode cX7_wholeOf 183 = .ok (.lcmp, 1) := by decide +kernel
theorem dX7_wholeOf_184 : decode cX7_wholeOf 184 = .ok (.ifCond .gt 9, 3) := by decide +kernel
theorem dX7_wholeOf_187 : decode cX7_wholeOf 187 = .ok (.lload 8, 2) := by decide +kernel
theorem dX7_wholeOf_189 : decode cX7_wholeOf 189 = .ok (.l2i, 1) := by decide +kernel
theorem dX7_wholeOf_190 : decode cX7_wholeOf 190 = .ok (.goto 4, 3) := by decide +kernel
theorem dX7_wholeOf_193 : decode cX7_wholeOf 193 = .ok (.iconst (-1), 1) := by decide +kernel
theorem dX7_wholeOf_194 : decode cX7_wholeOf 194 = .ok (.ireturn, 1) := by decide +kernel
theorem dX7_powerOf_0 : decode cX7_powerOf 0 = .ok (.lconst 1, 1) := by decide +kernel
theorem dX7_powerOf_1 : decode cX7_powerOf 1 = .ok (.lstore 4, 2) := by decide +kernel
theorem dX7_powerOf_3 : decode cX7_powerOf 3 = .ok (.lconst 0, 1) := by decide +kernel
theorem dX7_powerOf_4 : decode cX7_powerOf 4 = .ok (.lstore 6, 2) := by decide +kernel
theorem dX7_powerOf_6 : decode cX7_powerOf 6 = .ok (.lload 6, 2) := by decide +kernel
theorem dX7_powerOf_8 : decode cX7_powerOf 8 = .ok (.lload_n 2, 1) := by decide +kernel
theorem dX7_powerOf_9 : decode cX7_powerOf 9 = .ok (.lcmp, 1) := by decide +kernel
theorem dX7_powerOf_10 : decode cX7_powerOf 10 = .ok (.ifCond .ge 27, 3) := by decide +kernel
theorem dX7_powerOf_13 : decode cX7_powerOf 13 = .ok (.lload 4, 2) := by decide +kernel
theorem dX7_powerOf_15 : decode cX7_powerOf 15 = .ok (.ldc2_w 93, 3) := by decide +kernel
theorem dX7_powerOf_18 : decode cX7_powerOf 18 = .ok (.lcmp, 1) := by decide +kernel
theorem dX7_powerOf_19 : decode cX7_powerOf 19 = .ok (.ifCond .gt 18, 3) := by decide +kernel
theorem dX7_powerOf_22 : decode cX7_powerOf 22 = .ok (.lload 4, 2) := by decide +kernel
theorem dX7_powerOf_24 : decode cX7_powerOf 24 = .ok (.lload_n 0, 1) := by decide +kernel
theorem dX7_powerOf_25 : decode cX7_powerOf 25 = .ok (.lmul, 1) := by decide +kernel
theorem dX7_powerOf_26 : decode cX7_powerOf 26 = .ok (.lstore 4, 2) := by decide +kernel
theorem dX7_powerOf_28 : decode cX7_powerOf 28 = .ok (.lload 6, 2) := by decide +kernel
theorem dX7_powerOf_30 : decode cX7_powerOf 30 = .ok (.lconst 1, 1) := by decide +kernel
theorem dX7_powerOf_31 : decode cX7_powerOf 31 = .ok (.ladd, 1) := by decide +kernel
theorem dX7_powerOf_32 : decode cX7_powerOf 32 = .ok (.lstore 6, 2) := by decide +kernel
theorem dX7_powerOf_34 : decode cX7_powerOf 34 = .ok (.goto (-28), 3) := by decide +kernel
theorem dX7_powerOf_37 : decode cX7_powerOf 37 = .ok (.lload 4, 2) := by decide +kernel
theorem dX7_powerOf_39 : decode cX7_powerOf 39 = .ok (.lreturn, 1) := by decide +kernel
theorem dX7_applyNeutral_0 : decode cX7_applyNeutral 0 = .ok (.aload_n 0, 1) := by decide +kernel
theorem dX7_applyNeutral_1 : decode cX7_applyNeutral 1 = .ok (.iload_n 1, 1) := by decide +kernel
theorem dX7_applyNeutral_2 : decode cX7_applyNeutral 2 = .ok (.iconst 0, 1) := by decide +kernel
theorem dX7_applyNeutral_3 : decode cX7_applyNeutral 3 = .ok (.invokevirtual 50, 3) := by decide +kernel
theorem dX7_applyNeutral_6 : decode cX7_applyNeutral 6 = .ok (.istore_n 3, 1) := by decide +kernel
theorem dX7_applyNeutral_7 : decode cX7_applyNeutral 7 = .ok (.aload_n 0, 1) := by decide +kernel
theorem dX7_applyNeutral_8 : decode cX7_applyNeutral 8 = .ok (.iload_n 1, 1) := by decide +kernel
theorem dX7_applyNeutral_9 : decode cX7_applyNeutral 9 = .ok (.iconst 1, 1) := by decide +kernel
theorem dX7_applyNeutral_10 : decode cX7_applyNeutral 10 = .ok (.invokevirtual 50, 3) := by decide +kernel
theorem dX7_applyNeutral_13 : decode cX7_applyNeutral 13 = .ok (.istore 4, 2) := by decide +kernel
theorem dX7_applyNeutral_15 : decode cX7_applyNeutral 15 = .ok (.iload_n 2, 1) := by decide +kernel
theorem dX7_applyNeutral_16 : decode cX7_applyNeutral 16 = .ok (.ifCond .eq 8, 3) := by decide +kernel
theorem dX7_applyNeutral_19 : decode cX7_applyNeutral 19 = .ok (.iload_n 2, 1) := by decide +kernel
theorem dX7_applyNeutral_20 : decode cX7_applyNeutral 20 = .ok (.iconst 1, 1) := by decide +kernel
theorem dX7_applyNeutral_21 : decode cX7_applyNeutral 21 = .ok (.if_icmp .ne 7, 3) := by decide +kernel
theorem dX7_applyNeutral_24 : decode cX7_applyNeutral 24 = .ok (.iconst 1, 1) := by decide +kernel
theorem dX7_applyNeutral_25 : decode cX7_applyNeutral 25 = .ok (.goto 4, 3) := by decide +kernel
theorem dX7_applyNeutral_28 : decode cX7_applyNeutral 28 = .ok (.iconst 0, 1) := by decide +kernel
theorem dX7_applyNeutral_29 : decode cX7_applyNeutral 29 = .ok (.istore 5, 2) := by decide +kernel
theorem dX7_applyNeutral_31 : decode cX7_applyNeutral 31 = .ok (.iload 5, 2) := by decide +kernel
theorem dX7_applyNeutral_33 : decode cX7_applyNeutral 33 = .ok (.ifCond .ne 20, 3) := by decide +kernel
theorem dX7_applyNeutral_36 : decode cX7_applyNeutral 36 = .ok (.iload_n 2, 1) := by decide +kernel
theorem dX7_applyNeutral_37 : decode cX7_applyNeutral 37 = .ok (.iconst 2, 1) := by decide +kernel
theorem dX7_applyNeutral_38 : decode cX7_applyNeutral 38 = .ok (.if_icmp .eq 15, 3) := by decide +kernel
theorem dX7_applyNeutral_41 : decode cX7_applyNeutral 41 = .ok (.iload_n 2, 1) := by decide +kernel
theorem dX7_applyNeutral_42 : decode cX7_applyNeutral 42 = .ok (.iconst 3, 1) := by decide +kernel
theorem dX7_applyNeutral_43 : decode cX7_applyNeutral 43 = .ok (.if_icmp .eq 10, 3) := by decide +kernel
theorem dX7_applyNeutral_46 : decode cX7_applyNeutral 46 = .ok (.iload_n 2, 1) := by decide +kernel
theorem dX7_applyNeutral_47 : decode cX7_applyNeutral 47 = .ok (.iconst 5, 1) := by decide +kernel
theorem dX7_applyNeutral_48 : decode cX7_applyNeutral 48 = .ok (.if_icmp .eq 5, 3) := by decide +kernel
theorem dX7_applyNeutral_51 : decode cX7_applyNeutral 51 = .ok (.iconst 0, 1) := by decide +kernel
theorem dX7_applyNeutral_52 : decode cX7_applyNeutral 52 = .ok (.ireturn, 1) := by decide +kernel
theorem dX7_applyNeutral_53 : decode cX7_applyNeutral 53 = .ok (.iload 5, 2) := by decide +kernel
theorem dX7_applyNeutral_55 : decode cX7_applyNeutral 55 = .ok (.ifCond .eq 7, 3) := by decide +kernel
theorem dX7_applyNeutral_58 : decode cX7_applyNeutral 58 = .ok (.iconst 0, 1) := by decide +kernel
theorem dX7_applyNeutral_59 : decode cX7_applyNeutral 59 = .ok (.goto 4, 3) := by decide +kernel
theorem dX7_applyNeutral_62 : decode cX7_applyNeutral 62 = .ok (.iconst 1, 1) := by decide +kernel
theorem dX7_applyNeutral_63 : decode cX7_applyNeutral 63 = .ok (.istore 6, 2) := by decide +kernel
theorem dX7_applyNeutral_65 : decode cX7_applyNeutral 65 = .ok (.iload_n 2, 1) := by decide +kernel
theorem dX7_applyNeutral_66 : decode cX7_applyNeutral 66 = .ok (.ifCond .eq 8, 3) := by decide +kernel
theorem dX7_applyNeutral_69 : decode cX7_applyNeutral 69 = .ok (.iload_n 2, 1) := by decide +kernel
theorem dX7_applyNeutral_70 : decode cX7_applyNeutral 70 = .ok (.iconst 2, 1) := by decide +kernel
theorem dX7_applyNeutral_71 : decode cX7_applyNeutral 71 = .ok (.if_icmp .ne 23, 3) := by decide +kernel
theorem dX7_applyNeutral_74 : decode cX7_applyNeutral 74 = .ok (.aload_n 0, 1) := by decide +kernel
theorem dX7_applyNeutral_75 : decode cX7_applyNeutral 75 = .ok (.iload_n 3, 1) := by decide +kernel
theorem dX7_applyNeutral_76 : decode cX7_applyNeutral 76 = .ok (.iload 6, 2) := by decide +kernel
theorem dX7_applyNeutral_78 : decode cX7_applyNeutral 78 = .ok (.invokevirtual 74, 3) := by decide +kernel
theorem dX7_applyNeutral_81 : decode cX7_applyNeutral 81 = .ok (.ifCond .eq 13, 3) := by decide +kernel
theorem dX7_applyNeutral_84 : decode cX7_applyNeutral 84 = .ok (.aload_n 0, 1) := by decide +kernel
theorem dX7_applyNeutral_85 : decode cX7_applyNeutral 85 = .ok (.iload_n 1, 1) := by decide +kernel
theorem dX7_applyNeutral_86 : decode cX7_applyNeutral 86 = .ok (.iload 4, 2) := by decide +kernel
theorem dX7_applyNeutral_88 : decode cX7_applyNeutral 88 = .ok (.invokevirtual 53, 3) := by decide +kernel
theorem dX7_applyNeutral_91 : decode cX7_applyNeutral 91 = .ok (.goto 25, 3) := by decide +kernel
theorem dX7_applyNeutral_94 : decode cX7_applyNeutral 94 = .ok (.aload_n 0, 1) := by decide +kernel
theorem dX7_applyNeutral_95 : decode cX7_applyNeutral 95 = .ok (.iload 4, 2) := by decide +kernel
theorem dX7_applyNeutral_97 : decode cX7_applyNeutral 97 = .ok (.iload 6, 2) := by decide +kernel
theorem dX7_applyNeutral_99 : decode cX7_applyNeutral 99 = .ok (.invokevirtual 74, 3) := by decide +kernel
theorem dX7_applyNeutral_102 : decode cX7_applyNeutral 102 = .ok (.ifCond .eq 12, 3) := by decide +kernel
theorem dX7_applyNeutral_105 : decode cX7_applyNeutral 105 = .ok (.aload_n 0, 1) := by decide +kernel
theorem dX7_applyNeutral_106 : decode cX7_applyNeutral 106 = .ok (.iload_n 1, 1) := by decide +kernel
theorem dX7_applyNeutral_107 : decode cX7_applyNeutral 107 = .ok (.iload_n 3, 1) := by decide +kernel
theorem dX7_applyNeutral_108 : decode cX7_applyNeutral 108 = .ok (.invokevirtual 53, 3) := by decide +kernel
theorem dX7_applyNeutral_111 : decode cX7_applyNeutral 111 = .ok (.goto 5, 3) := by decide +kernel
theorem dX7_applyNeutral_114 : decode cX7_applyNeutral 114 = .ok (.iconst 0, 1) := by decide +kernel
theorem dX7_applyNeutral_115 : decode cX7_applyNeutral 115 = .ok (.ireturn, 1) := by decide +kernel
theorem dX7_applyNeutral_116 : decode cX7_applyNeutral 116 = .ok (.iload 5, 2) := by decide +kernel
theorem dX7_applyNeutral_118 : decode cX7_applyNeutral 118 = .ok (.ifCond .eq 7, 3) := by decide +kernel
theorem dX7_applyNeutral_121 : decode cX7_applyNeutral 121 = .ok (.iconst 2, 1) := by decide +kernel
theorem dX7_applyNeutral_122 : decode cX7_applyNeutral 122 = .ok (.goto 4, 3) := by decide +kernel
theorem dX7_applyNeutral_125 : decode cX7_applyNeutral 125 = .ok (.iconst 3, 1) := by decide +kernel
theorem dX7_applyNeutral_126 : decode cX7_applyNeutral 126 = .ok (.ireturn, 1) := by decide +kernel
theorem dX7_addAlike_0 : decode cX7_addAlike 0 = .ok (.aload_n 0, 1) := by decide +kernel
theorem dX7_addAlike_1 : decode cX7_addAlike 1 = .ok (.aload_n 1, 1) := by decide +kernel
theorem dX7_addAlike_2 : decode cX7_addAlike 2 = .ok (.iload_n 3, 1) := by decide +kernel
theorem dX7_addAlike_3 : decode cX7_addAlike 3 = .ok (.invokevirtual 46, 3) := by decide +kernel
theorem dX7_addAlike_6 : decode cX7_addAlike 6 = .ok (.iconst 2, 1) := by decide +kernel
theorem dX7_addAlike_7 : decode cX7_addAlike 7 = .ok (.if_icmp .ne 14, 3) := by decide +kernel
theorem dX7_addAlike_10 : decode cX7_addAlike 10 = .ok (.aload_n 0, 1) := by decide +kernel
theorem dX7_addAlike_11 : decode cX7_addAlike 11 = .ok (.aload_n 1, 1) := by decide +kernel
theorem dX7_addAlike_12 : decode cX7_addAlike 12 = .ok (.iload 4, 2) := by decide +kernel
theorem dX7_addAlike_14 : decode cX7_addAlike 14 = .ok (.invokevirtual 46, 3) := by decide +kernel
theorem dX7_addAlike_17 : decode cX7_addAlike 17 = .ok (.iconst 2, 1) := by decide +kernel
theorem dX7_addAlike_18 : decode cX7_addAlike 18 = .ok (.if_icmp .eq 5, 3) := by decide +kernel
theorem dX7_addAlike_21 : decode cX7_addAlike 21 = .ok (.iconst 0, 1) := by decide +kernel
theorem dX7_addAlike_22 : decode cX7_addAlike 22 = .ok (.ireturn, 1) := by decide +kernel
theorem dX7_addAlike_23 : decode cX7_addAlike 23 = .ok (.aload_n 1, 1) := by decide +kernel
theorem dX7_addAlike_24 : decode cX7_addAlike 24 = .ok (.iload_n 3, 1) := by decide +kernel
theorem dX7_addAlike_25 : decode cX7_addAlike 25 = .ok (.iconst 0, 1) := by decide +kernel
theorem dX7_addAlike_26 : decode cX7_addAlike 26 = .ok (.invokevirtual 50, 3) := by decide +kernel
theorem dX7_addAlike_29 : decode cX7_addAlike 29 = .ok (.istore 5, 2) := by decide +kernel
theorem dX7_addAlike_31 : decode cX7_addAlike 31 = .ok (.aload_n 1, 1) := by decide +kernel
theorem dX7_addAlike_32 : decode cX7_addAlike 32 = .ok (.iload 4, 2) := by decide +kernel
theorem dX7_addAlike_34 : decode cX7_addAlike 34 = .ok (.iconst 0, 1) := by decide +kernel
theorem dX7_addAlike_35 : decode cX7_addAlike 35 = .ok (.invokevirtual 50, 3) := by decide +kernel
theorem dX7_addAlike_38 : decode cX7_addAlike 38 = .ok (.istore 6, 2) := by decide +kernel
theorem dX7_addAlike_40 : decode cX7_addAlike 40 = .ok (.aload_n 1, 1) := by decide +kernel
theorem dX7_addAlike_41 : decode cX7_addAlike 41 = .ok (.getfield 22, 3) := by decide +kernel
theorem dX7_addAlike_44 : decode cX7_addAlike 44 = .ok (.iload 5, 2) := by decide +kernel
theorem dX7_addAlike_46 : decode cX7_addAlike 46 = .ok (.iaload, 1) := by decide +kernel
theorem dX7_addAlike_47 : decode cX7_addAlike 47 = .ok (.ifCond .ne 33, 3) := by decide +kernel
theorem dX7_addAlike_50 : decode cX7_addAlike 50 = .ok (.aload_n 1, 1) := by decide +kernel
theorem dX7_addAlike_51 : decode cX7_addAlike 51 = .ok (.getfield 22, 3) := by decide +kernel
theorem dX7_addAlike_54 : decode cX7_addAlike 54 = .ok (.iload 6, 2) := by decide +kernel
theorem dX7_addAlike_56 : decode cX7_addAlike 56 = .ok (.iaload, 1) := by decide +kernel
theorem dX7_addAlike_57 : decode cX7_addAlike 57 = .ok (.ifCond .ne 23, 3) := by decide +kernel
theorem dX7_addAlike_60 : decode cX7_addAlike 60 = .ok (.aload_n 1, 1) := by decide +kernel
theorem dX7_addAlike_61 : decode cX7_addAlike 61 = .ok (.aload_n 1, 1) := by decide +kernel
theorem dX7_addAlike_62 : decode cX7_addAlike 62 = .ok (.iload_n 3, 1) := by decide +kernel
theorem dX7_addAlike_63 : decode cX7_addAlike 63 = .ok (.iconst 1, 1) := by decide +kernel
theorem dX7_addAlike_64 : decode cX7_addAlike 64 = .ok (.invokevirtual 50, 3) := by decide +kernel
theorem dX7_addAlike_67 : decode cX7_addAlike 67 = .ok (.aload_n 1, 1) := by decide +kernel
theorem dX7_addAlike_68 : decode cX7_addAlike 68 = .ok (.iload 4, 2) := by decide +kernel
theorem dX7_addAlike_70 : decode cX7_addAlike 70 = .ok (.iconst 1, 1) := by decide +kernel
theorem dX7_addAlike_71 : decode cX7_addAlike 71 = .ok (.invokevirtual 50, 3) := by decide +kernel
theorem dX7_addAlike_74 : decode cX7_addAlike 74 = .ok (.invokevirtual 78, 3) := by decide +kernel
theorem dX7_addAlike_77 : decode cX7_addAlike 77 = .ok (.ifCond .ne 5, 3) := by decide +kernel
theorem dX7_addAlike_80 : decode cX7_addAlike 80 = .ok (.iconst 0, 1) := by decide +kernel
theorem dX7_addAlike_81 : decode cX7_addAlike 81 = .ok (.ireturn, 1) := by decide +kernel
theorem dX7_addAlike_82 : decode cX7_addAlike 82 = .ok (.aload_n 1, 1) := by decide +kernel
theorem dX7_addAlike_83 : decode cX7_addAlike 83 = .ok (.getfield 26, 3) := by decide +kernel
theorem dX7_addAlike_86 : decode cX7_addAlike 86 = .ok (.iload 5, 2) := by decide +kernel
theorem dX7_addAlike_88 : decode cX7_addAlike 88 = .ok (.iaload, 1) := by decide +kernel
theorem dX7_addAlike_89 : decode cX7_addAlike 89 = .ok (.aload_n 1, 1) := by decide +kernel
theorem dX7_addAlike_90 : decode cX7_addAlike 90 = .ok (.getfield 26, 3) := by decide +kernel
theorem dX7_addAlike_93 : decode cX7_addAlike 93 = .ok (.iload 6, 2) := by decide +kernel
theorem dX7_addAlike_95 : decode cX7_addAlike 95 = .ok (.iaload, 1) := by decide +kernel
theorem dX7_addAlike_96 : decode cX7_addAlike 96 = .ok (.iadd, 1) := by decide +kernel
theorem dX7_addAlike_97 : decode cX7_addAlike 97 = .ok (.istore 7, 2) := by decide +kernel
theorem dX7_addAlike_99 : decode cX7_addAlike 99 = .ok (.iload 7, 2) := by decide +kernel
theorem dX7_addAlike_101 : decode cX7_addAlike 101 = .ok (.ldc 95, 2) := by decide +kernel
theorem dX7_addAlike_103 : decode cX7_addAlike 103 = .ok (.if_icmp .le 5, 3) := by decide +kernel
theorem dX7_addAlike_106 : decode cX7_addAlike 106 = .ok (.iconst 0, 1) := by decide +kernel
theorem dX7_addAlike_107 : decode cX7_addAlike 107 = .ok (.ireturn, 1) := by decide +kernel
theorem dX7_addAlike_108 : decode cX7_addAlike 108 = .ok (.aload_n 1, 1) := by decide +kernel
theorem dX7_addAlike_109 : decode cX7_addAlike 109 = .ok (.getfield 26, 3) := by decide +kernel
theorem dX7_addAlike_112 : decode cX7_addAlike 112 = .ok (.iload 5, 2) := by decide +kernel
theorem dX7_addAlike_114 : decode cX7_addAlike 114 = .ok (.iload 7, 2) := by decide +kernel
theorem dX7_addAlike_116 : decode cX7_addAlike 116 = .ok (.iastore, 1) := by decide +kernel
theorem dX7_addAlike_117 : decode cX7_addAlike 117 = .ok (.aload_n 1, 1) := by decide +kernel
theorem dX7_addAlike_118 : decode cX7_addAlike 118 = .ok (.iload_n 2, 1) := by decide +kernel
theorem dX7_addAlike_119 : decode cX7_addAlike 119 = .ok (.iload_n 3, 1) := by decide +kernel
theorem dX7_addAlike_120 : decode cX7_addAlike 120 = .ok (.invokevirtual 53, 3) := by decide +kernel
theorem dX7_addAlike_123 : decode cX7_addAlike 123 = .ok (.iconst 1, 1) := by decide +kernel
theorem dX7_addAlike_124 : decode cX7_addAlike 124 = .ok (.ireturn, 1) := by decide +kernel
theorem dX7_hasRules_0 : decode cX7_hasRules 0 = .ok (.iconst 0, 1) := by decide +kernel
theorem dX7_hasRules_1 : decode cX7_hasRules 1 = .ok (.istore_n 2, 1) := by decide +kernel
theorem dX7_hasRules_2 : decode cX7_hasRules 2 = .ok (.iload_n 2, 1) := by decide +kernel
theorem dX7_hasRules_3 : decode cX7_hasRules 3 = .ok (.aload_n 1, 1) := by decide +kernel
theorem dX7_hasRules_4 : decode cX7_hasRules 4 = .ok (.getfield 38, 3) := by decide +kernel
theorem dX7_hasRules_7 : decode cX7_hasRules 7 = .ok (.if_icmp .ge 83, 3) := by decide +kernel
theorem dX7_hasRules_10 : decode cX7_hasRules 10 = .ok (.aload_n 0, 1) := by decide +kernel
theorem dX7_hasRules_11 : decode cX7_hasRules 11 = .ok (.aload_n 1, 1) := by decide +kernel
theorem dX7_hasRules_12 : decode cX7_hasRules 12 = .ok (.iload_n 2, 1) := by decide +kernel
theorem dX7_hasRules_13 : decode cX7_hasRules 13 = .ok (.invokevirtual 46, 3) := by decide +kernel
theorem dX7_hasRules_16 : decode cX7_hasRules 16 = .ok (.istore_n 3, 1) := by decide +kernel
theorem dX7_hasRules_17 : decode cX7_hasRules 17 = .ok (.aload_n 1, 1) := by decide +kernel
theorem dX7_hasRules_18 : decode cX7_hasRules 18 = .ok (.getfield 22, 3) := by decide +kernel
theorem dX7_hasRules_21 : decode cX7_hasRules 21 = .ok (.iload_n 2, 1) := by decide +kernel
theorem dX7_hasRules_22 : decode cX7_hasRules 22 = .ok (.iaload, 1) := by decide +kernel
theorem dX7_hasRules_23 : decode cX7_hasRules 23 = .ok (.ifCond .eq 47, 3) := by decide +kernel
theorem dX7_hasRules_26 : decode cX7_hasRules 26 = .ok (.aload_n 1, 1) := by decide +kernel
theorem dX7_hasRules_27 : decode cX7_hasRules 27 = .ok (.getfield 22, 3) := by decide +kernel
theorem dX7_hasRules_30 : decode cX7_hasRules 30 = .ok (.iload_n 2, 1) := by decide +kernel
theorem dX7_hasRules_31 : decode cX7_hasRules 31 = .ok (.iaload, 1) := by decide +kernel
theorem dX7_hasRules_32 : decode cX7_hasRules 32 = .ok (.iconst 1, 1) := by decide +kernel
theorem dX7_hasRules_33 : decode cX7_hasRules 33 = .ok (.if_icmp .eq 37, 3) := by decide +kernel
theorem dX7_hasRules_36 : decode cX7_hasRules 36 = .ok (.iload_n 3, 1) := by decide +kernel
theorem dX7_hasRules_37 : decode cX7_hasRules 37 = .ok (.bipush 11, 2) := by decide +kernel
theorem dX7_hasRules_39 : decode cX7_hasRules 39 = .ok (.if_icmp .eq 31, 3) := by decide +kernel
theorem dX7_hasRules_42 : decode cX7_hasRules 42 = .ok (.iload_n 3, 1) := by decide +kernel
theorem dX7_hasRules_43 : decode cX7_hasRules 43 = .ok (.ifCond .lt 8, 3) := by decide +kernel
theorem dX7_hasRules_46 : decode cX7_hasRules 46 = .ok (.iload_n 3, 1) := by decide +kernel
theorem dX7_hasRules_47 : decode cX7_hasRules 47 = .ok (.iconst 3, 1) := by decide +kernel
theorem dX7_hasRules_48 : decode cX7_hasRules 48 = .ok (.if_icmp .le 22, 3) := by decide +kernel
theorem dX7_hasRules_51 : decode cX7_hasRules 51 = .ok (.iload_n 3, 1) := by decide +kernel
theorem dX7_hasRules_52 : decode cX7_hasRules 52 = .ok (.iconst 5, 1) := by decide +kernel
theorem dX7_hasRules_53 : decode cX7_hasRules 53 = .ok (.if_icmp .ne 21, 3) := by decide +kernel
theorem dX7_hasRules_56 : decode cX7_hasRules 56 = .ok (.aload_n 1, 1) := by decide +kernel
theorem dX7_hasRules_57 : decode cX7_hasRules 57 = .ok (.getfield 22, 3) := by decide +kernel
theorem dX7_hasRules_60 : decode cX7_hasRules 60 = .ok (.aload_n 1, 1) := by decide +kernel
theorem dX7_hasRules_61 : decode cX7_hasRules 61 = .ok (.iload_n 2, 1) := by decide +kernel
theorem dX7_hasRules_62 : decode cX7_hasRules 62 = .ok (.iconst 1, 1) := by decide +kernel
theorem dX7_hasRules_63 : decode cX7_hasRules 63 = .ok (.invokevirtual 50, 3) := by decide +kernel
theorem dX7_hasRules_66 : decode cX7_hasRules 66 = .ok (.iaload, 1) := by decide +kernel
theorem dX7_hasRules_67 : decode cX7_hasRules 67 = .ok (.ifCond .ne 7, 3) := by decide +kernel
theorem dX7_hasRules_70 : decode cX7_hasRules 70 = .ok (.iconst 1, 1) := by decide +kernel
theorem dX7_hasRules_71 : decode cX7_hasRules 71 = .ok (.goto 4, 3) := by decide +kernel
theorem dX7_hasRules_74 : decode cX7_hasRules 74 = .ok (.iconst 0, 1) := by decide +kernel
theorem dX7_hasRules_75 : decode cX7_hasRules 75 = .ok (.istore 4, 2) := by decide +kernel
theorem dX7_hasRules_77 : decode cX7_hasRules 77 = .ok (.iload 4, 2) := by decide +kernel
theorem dX7_hasRules_79 : decode cX7_hasRules 79 = .ok (.ifCond .ne 5, 3) := by decide +kernel
theorem dX7_hasRules_82 : decode cX7_hasRules 82 = .ok (.iconst 0, 1) := by decide +kernel
theorem dX7_hasRules_83 : decode cX7_hasRules 83 = .ok (.ireturn, 1) := by decide +kernel
theorem dX7_hasRules_84 : decode cX7_hasRules 84 = .ok (.iinc 2 1, 3) := by decide +kernel
theorem dX7_hasRules_87 : decode cX7_hasRules 87 = .ok (.goto (-85), 3) := by decide +kernel
theorem dX7_hasRules_90 : decode cX7_hasRules 90 = .ok (.iconst 1, 1) := by decide +kernel
theorem dX7_hasRules_91 : decode cX7_hasRules 91 = .ok (.ireturn, 1) := by decide +kernel
theorem dX7_differentiate_0 : decode cX7_differentiate 0 = .ok (.aload_n 0, 1) := by decide +kernel
theorem dX7_differentiate_1 : decode cX7_differentiate 1 = .ok (.getfield 12, 3) := by decide +kernel
theorem dX7_differentiate_4 : decode cX7_differentiate 4 = .ok (.invokevirtual 96, 3) := by decide +kernel
theorem dX7_differentiate_7 : decode cX7_differentiate 7 = .ok (.aload_n 0, 1) := by decide +kernel
theorem dX7_differentiate_8 : decode cX7_differentiate 8 = .ok (.aload_n 1, 1) := by decide +kernel
theorem dX7_differentiate_9 : decode cX7_differentiate 9 = .ok (.invokevirtual 99, 3) := by decide +kernel
theorem dX7_differentiate_12 : decode cX7_differentiate 12 = .ok (.ifCond .eq 14, 3) := by decide +kernel
theorem dX7_differentiate_15 : decode cX7_differentiate 15 = .ok (.aload_n 0, 1) := by decide +kernel
theorem dX7_differentiate_16 : decode cX7_differentiate 16 = .ok (.aload_n 1, 1) := by decide +kernel
theorem dX7_differentiate_17 : decode cX7_differentiate 17 = .ok (.iconst 0, 1) := by decide +kernel
theorem dX7_differentiate_18 : decode cX7_differentiate 18 = .ok (.iload_n 2, 1) := by decide +kernel
theorem dX7_differentiate_19 : decode cX7_differentiate 19 = .ok (.iconst 0, 1) := by decide +kernel
theorem dX7_differentiate_20 : decode cX7_differentiate 20 = .ok (.invokevirtual 103, 3) := by decide +kernel
theorem dX7_differentiate_23 : decode cX7_differentiate 23 = .ok (.ifCond .ne 5, 3) := by decide +kernel
theorem dX7_differentiate_26 : decode cX7_differentiate 26 = .ok (.iconst 0, 1) := by decide +kernel
theorem dX7_differentiate_27 : decode cX7_differentiate 27 = .ok (.ireturn, 1) := by decide +kernel
theorem dX7_differentiate_28 : decode cX7_differentiate 28 = .ok (.aload_n 0, 1) := by decide +kernel
theorem dX7_differentiate_29 : decode cX7_differentiate 29 = .ok (.getfield 12, 3) := by decide +kernel
theorem dX7_differentiate_32 : decode cX7_differentiate 32 = .ok (.invokevirtual 106, 3) := by decide +kernel
theorem dX7_differentiate_35 : decode cX7_differentiate 35 = .ok (.iconst 1, 1) := by decide +kernel
theorem dX7_differentiate_36 : decode cX7_differentiate 36 = .ok (.ireturn, 1) := by decide +kernel
theorem dX7_addDerivative_0 : decode cX7_addDerivative 0 = .ok (.aload_n 1, 1) := by decide +kernel
theorem dX7_addDerivative_1 : decode cX7_addDerivative 1 = .ok (.getfield 22, 3) := by decide +kernel
theorem dX7_addDerivative_4 : decode cX7_addDerivative 4 = .ok (.iload_n 2, 1) := by decide +kernel
theorem dX7_addDerivative_5 : decode cX7_addDerivative 5 = .ok (.iaload, 1) := by decide +kernel
theorem dX7_addDerivative_6 : decode cX7_addDerivative 6 = .ok (.istore 5, 2) := by decide +kernel
theorem dX7_addDerivative_8 : decode cX7_addDerivative 8 = .ok (.iload 4, 2) := by decide +kernel
theorem dX7_addDerivative_10 : decode cX7_addDerivative 10 = .ok (.bipush 80, 2) := by decide +kernel
theorem dX7_addDerivative_12 : decode cX7_addDerivative 12 = .ok (.if_icmp .le 5, 3) := by decide +kernel
theorem dX7_addDerivative_15 : decode cX7_addDerivative 15 = .ok (.iconst 0, 1) := by decide +kernel
theorem dX7_addDerivative_16 : decode cX7_addDerivative 16 = .ok (.ireturn, 1) := by decide +kernel
theorem dX7_addDerivative_17 : decode cX7_addDerivative 17 = .ok (.iload 5, 2) := by decide +kernel
theorem dX7_addDerivative_19 : decode cX7_addDerivative 19 = .ok (.ifCond .eq 9, 3) := by decide +kernel
theorem dX7_addDerivative_22 : decode cX7_addDerivative 22 = .ok (.iload 5, 2) := by decide +kernel
theorem dX7_addDerivative_24 : decode cX7_addDerivative 24 = .ok (.iconst 1, 1) := by decide +kernel
theorem dX7_addDerivative_25 : decode cX7_addDerivative 25 = .ok (.if_icmp .ne 29, 3) := by decide +kernel
theorem dX7_addDerivative_28 : decode cX7_addDerivative 28 = .ok (.aload_n 0, 1) := by decide +kernel
theorem dX7_addDerivative_29 : decode cX7_addDerivative 29 = .ok (.iload 5, 2) := by decide +kernel
theorem dX7_addDerivative_31 : decode cX7_addDerivative 31 = .ok (.iconst 1, 1) := by decide +kernel
theorem dX7_addDerivative_32 : decode cX7_addDerivative 32 = .ok (.if_icmp .ne 17, 3) := by decide +kernel
theorem dX7_addDerivative_35 : decode cX7_addDerivative 35 = .ok (.aload_n 1, 1) := by decide +kernel
theorem dX7_addDerivative_36 : decode cX7_addDerivative 36 = .ok (.getfield 26, 3) := by decide +kernel
theorem dX7_addDerivative_39 : decode cX7_addDerivative 39 = .ok (.iload_n 2, 1) := by decide +kernel
theorem dX7_addDerivative_40 : decode cX7_addDerivative 40 = .ok (.iaload, 1) := by decide +kernel
theorem dX7_addDerivative_41 : decode cX7_addDerivative 41 = .ok (.iload_n 3, 1) := by decide +kernel
theorem dX7_addDerivative_42 : decode cX7_addDerivative 42 = .ok (.if_icmp .ne 7, 3) := by decide +kernel
theorem dX7_addDerivative_45 : decode cX7_addDerivative 45 = .ok (.iconst 1, 1) := by decide +kernel
theorem dX7_addDerivative_46 : decode cX7_addDerivative 46 = .ok (.goto 4, 3) := by decide +kernel
theorem dX7_addDerivative_49 : decode cX7_addDerivative 49 = .ok (.iconst 0, 1) := by decide +kernel
theorem dX7_addDerivative_50 : decode cX7_addDerivative 50 = .ok (.invokevirtual 109, 3) := by decide +kernel
theorem dX7_addDerivative_53 : decode cX7_addDerivative 53 = .ok (.ireturn, 1) := by decide +kernel
theorem dX7_addDerivative_54 : decode cX7_addDerivative 54 = .ok (.aload_n 1, 1) := by decide +kernel
theorem dX7_addDerivative_55 : decode cX7_addDerivative 55 = .ok (.iload_n 2, 1) := by decide +kernel
theorem dX7_addDerivative_56 : decode cX7_addDerivative 56 = .ok (.iconst 0, 1) := by decide +kernel
theorem dX7_addDerivative_57 : decode cX7_addDerivative 57 = .ok (.invokevirtual 50, 3) := by decide +kernel
theorem dX7_addDerivative_60 : decode cX7_addDerivative 60 = .ok (.istore 6, 2) := by decide +kernel
theorem dX7_addDerivative_62 : decode cX7_addDerivative 62 = .ok (.aload_n 1, 1) := by decide +kernel
theorem dX7_addDerivative_63 : decode cX7_addDerivative 63 = .ok (.iload_n 2, 1) := by decide +kernel
theorem dX7_addDerivative_64 : decode cX7_addDerivative 64 = .ok (.iconst 1, 1) := by decide +kernel
theorem dX7_addDerivative_65 : decode cX7_addDerivative 65 = .ok (.invokevirtual 50, 3) := by decide +kernel
theorem dX7_addDerivative_68 : decode cX7_addDerivative 68 = .ok (.istore 7, 2) := by decide +kernel
theorem dX7_addDerivative_70 : decode cX7_addDerivative 70 = .ok (.aload_n 0, 1) := by decide +kernel
theorem dX7_addDerivative_71 : decode cX7_addDerivative 71 = .ok (.aload_n 1, 1) := by decide +kernel
theorem dX7_addDerivative_72 : decode cX7_addDerivative 72 = .ok (.iload_n 2, 1) := by decide +kernel
theorem dX7_addDerivative_73 : decode cX7_addDerivative 73 = .ok (.invokevirtual 46, 3) := by decide +kernel
theorem dX7_addDerivative_76 : decode cX7_addDerivative 76 = .ok (.istore 8, 2) := by decide +kernel
theorem dX7_addDerivative_78 : decode cX7_addDerivative 78 = .ok (.iload 8, 2) := by decide +kernel
theorem dX7_addDerivative_80 : decode cX7_addDerivative 80 = .ok (.tableswitch 312 0 11 #[97, 97, 145, 145, 312, 312, 312, 312, 312, 312, 312, 64], 64) := by decide +kernel
theorem dX7_addDerivative_144 : decode cX7_addDerivative 144 = .ok (.aload_n 0, 1) := by decide +kernel
theorem dX7_addDerivative_145 : decode cX7_addDerivative 145 = .ok (.getfield 12, 3) := by decide +kernel
theorem dX7_addDerivative_148 : decode cX7_addDerivative 148 = .ok (.aload_n 1, 1) := by decide +kernel
theorem dX7_addDerivative_149 : decode cX7_addDerivative 149 = .ok (.iload_n 2, 1) := by decide +kernel
theorem dX7_addDerivative_150 : decode cX7_addDerivative 150 = .ok (.invokevirtual 113, 3) := by decide +kernel
theorem dX7_addDerivative_153 : decode cX7_addDerivative 153 = .ok (.ifCond .eq 22, 3) := by decide +kernel
theorem dX7_addDerivative_156 : decode cX7_addDerivative 156 = .ok (.aload_n 0, 1) := by decide +kernel
theorem dX7_addDerivative_157 : decode cX7_addDerivative 157 = .ok (.aload_n 1, 1) := by decide +kernel
theorem dX7_addDerivative_158 : decode cX7_addDerivative 158 = .ok (.iload 6, 2) := by decide +kernel
theorem dX7_addDerivative_160 : decode cX7_addDerivative 160 = .ok (.iload_n 3, 1) := by decide +kernel
theorem dX7_addDerivative_161 : decode cX7_addDerivative 161 = .ok (.iload 4, 2) := by decide +kernel
theorem dX7_addDerivative_163 : decode cX7_addDerivative 163 = .ok (.iconst 1, 1) := by decide +kernel
theorem dX7_addDerivative_164 : decode cX7_addDerivative 164 = .ok (.iadd, 1) := by decide +kernel
theorem dX7_addDerivative_165 : decode cX7_addDerivative 165 = .ok (.invokevirtual 103, 3) := by decide +kernel
theorem dX7_addDerivative_168 : decode cX7_addDerivative 168 = .ok (.ifCond .eq 7, 3) := by decide +kernel
theorem dX7_addDerivative_171 : decode cX7_addDerivative 171 = .ok (.iconst 1, 1) := by decide +kernel
theorem dX7_addDerivative_172 : decode cX7_addDerivative 172 = .ok (.goto 4, 3) := by decide +kernel
theorem dX7_addDerivative_175 : decode cX7_addDerivative 175 = .ok (.iconst 0, 1) := by decide +kernel
theorem dX7_addDerivative_176 : decode cX7_addDerivative 176 = .ok (.ireturn, 1) := by decide +kernel
theorem dX7_addDerivative_177 : decode cX7_addDerivative 177 = .ok (.aload_n 0, 1) := by decide +kernel
theorem dX7_addDerivative_178 : decode cX7_addDerivative 178 = .ok (.getfield 12, 3) := by decide +kernel
theorem dX7_addDerivative_181 : decode cX7_addDerivative 181 = .ok (.aload_n 1, 1) := by decide +kernel
theorem dX7_addDerivative_182 : decode cX7_addDerivative 182 = .ok (.iload_n 2, 1) := by decide +kernel
theorem dX7_addDerivative_183 : decode cX7_addDerivative 183 = .ok (.invokevirtual 113, 3) := by decide +kernel
theorem dX7_addDerivative_186 : decode cX7_addDerivative 186 = .ok (.ifCond .eq 37, 3) := by decide +kernel
theorem dX7_addDerivative_189 : decode cX7_addDerivative 189 = .ok (.aload_n 0, 1) := by decide +kernel
theorem dX7_addDerivative_190 : decode cX7_addDerivative 190 = .ok (.aload_n 1, 1) := by decide +kernel
theorem dX7_addDerivative_191 : decode cX7_addDerivative 191 = .ok (.iload 6, 2) := by decide +kernel
theorem dX7_addDerivative_193 : decode cX7_addDerivative 193 = .ok (.iload_n 3, 1) := by decide +kernel
theorem dX7_addDerivative_194 : decode cX7_addDerivative 194 = .ok (.iload 4, 2) := by decide +kernel
theorem dX7_addDerivative_196 : decode cX7_addDerivative 196 = .ok (.iconst 1, 1) := by decide +kernel
theorem dX7_addDerivative_197 : decode cX7_addDerivative 197 = .ok (.iadd, 1) := by decide +kernel
theorem dX7_addDerivative_198 : decode cX7_addDerivative 198 = .ok (.invokevirtual 103, 3) := by decide +kernel
theorem dX7_addDerivative_201 : decode cX7_addDerivative 201 = .ok (.ifCond .eq 22, 3) := by decide +kernel
theorem dX7_addDerivative_204 : decode cX7_addDerivative 204 = .ok (.aload_n 0, 1) := by decide +kernel
theorem dX7_addDerivative_205 : decode cX7_addDerivative 205 = .ok (.aload_n 1, 1) := by decide +kernel
theorem dX7_addDerivative_206 : decode cX7_addDerivative 206 = .ok (.iload 7, 2) := by decide +kernel
theorem dX7_addDerivative_208 : decode cX7_addDerivative 208 = .ok (.iload_n 3, 1) := by decide +kernel
theorem dX7_addDerivative_209 : decode cX7_addDerivative 209 = .ok (.iload 4, 2) := by decide +kernel
theorem dX7_addDerivative_211 : decode cX7_addDerivative 211 = .ok (.iconst 1, 1) := by decide +kernel
theorem dX7_addDerivative_212 : decode cX7_addDerivative 212 = .ok (.iadd, 1) := by decide +kernel
theorem dX7_addDerivative_213 : decode cX7_addDerivative 213 = .ok (.invokevirtual 103, 3) := by decide +kernel
theorem dX7_addDerivative_216 : decode cX7_addDerivative 216 = .ok (.ifCond .eq 7, 3) := by decide +kernel
theorem dX7_addDerivative_219 : decode cX7_addDerivative 219 = .ok (.iconst 1, 1) := by decide +kernel
theorem dX7_addDerivative_220 : decode cX7_addDerivative 220 = .ok (.goto 4, 3) := by decide +kernel
theorem dX7_addDerivative_223 : decode cX7_addDerivative 223 = .ok (.iconst 0, 1) := by decide +kernel
theorem dX7_addDerivative_224 : decode cX7_addDerivative 224 = .ok (.ireturn, 1) := by decide +kernel
theorem dX7_addDerivative_225 : decode cX7_addDerivative 225 = .ok (.iload 8, 2) := by decide +kernel
theorem dX7_addDerivative_227 : decode cX7_addDerivative 227 = .ok (.iconst 3, 1) := by decide +kernel
theorem dX7_addDerivative_228 : decode cX7_addDerivative 228 = .ok (.if_icmp .ne 7, 3) := by decide +kernel
theorem dX7_addDerivative_231 : decode cX7_addDerivative 231 = .ok (.iconst 1, 1) := by decide +kernel
theorem dX7_addDerivative_232 : decode cX7_addDerivative 232 = .ok (.goto 4, 3) := by decide +kernel
theorem dX7_addDerivative_235 : decode cX7_addDerivative 235 = .ok (.iconst 0, 1) := by decide +kernel
theorem dX7_addDerivative_236 : decode cX7_addDerivative 236 = .ok (.istore 9, 2) := by decide +kernel
theorem dX7_addDerivative_238 : decode cX7_addDerivative 238 = .ok (.iload 9, 2) := by decide +kernel
theorem dX7_addDerivative_240 : decode cX7_addDerivative 240 = .ok (.ifCond .eq 15, 3) := by decide +kernel
theorem dX7_addDerivative_243 : decode cX7_addDerivative 243 = .ok (.aload_n 0, 1) := by decide +kernel
theorem dX7_addDerivative_244 : decode cX7_addDerivative 244 = .ok (.getfield 12, 3) := by decide +kernel
theorem dX7_addDerivative_247 : decode cX7_addDerivative 247 = .ok (.aload_n 1, 1) := by decide +kernel
theorem dX7_addDerivative_248 : decode cX7_addDerivative 248 = .ok (.iload_n 2, 1) := by decide +kernel
theorem dX7_addDerivative_249 : decode cX7_addDerivative 249 = .ok (.invokevirtual 113, 3) := by decide +kernel
theorem dX7_addDerivative_252 : decode cX7_addDerivative 252 = .ok (.ifCond .eq 138, 3) := by decide +kernel
theorem dX7_addDerivative_255 : decode cX7_addDerivative 255 = .ok (.aload_n 0, 1) := by decide +kernel
theorem dX7_addDerivative_256 : decode cX7_addDerivative 256 = .ok (.iload 9, 2) := by decide +kernel
theorem dX7_addDerivative_258 : decode cX7_addDerivative 258 = .ok (.ifCond .eq 7, 3) := by decide +kernel
theorem dX7_addDerivative_261 : decode cX7_addDerivative 261 = .ok (.iconst 1, 1) := by decide +kernel
theorem dX7_addDerivative_262 : decode cX7_addDerivative 262 = .ok (.goto 4, 3) := by decide +kernel
theorem dX7_addDerivative_265 : decode cX7_addDerivative 265 = .ok (.iconst 0, 1) := by decide +kernel
theorem dX7_addDerivative_266 : decode cX7_addDerivative 266 = .ok (.aload_n 1, 1) := by decide +kernel
theorem dX7_addDerivative_267 : decode cX7_addDerivative 267 = .ok (.iload_n 2, 1) := by decide +kernel
theorem dX7_addDerivative_268 : decode cX7_addDerivative 268 = .ok (.invokevirtual 117, 3) := by decide +kernel
theorem dX7_addDerivative_271 : decode cX7_addDerivative 271 = .ok (.ifCond .eq 119, 3) := by decide +kernel
theorem dX7_addDerivative_274 : decode cX7_addDerivative 274 = .ok (.aload_n 0, 1) := by decide +kernel
theorem dX7_addDerivative_275 : decode cX7_addDerivative 275 = .ok (.iconst 2, 1) := by decide +kernel
theorem dX7_addDerivative_276 : decode cX7_addDerivative 276 = .ok (.aload_n 1, 1) := by decide +kernel
theorem dX7_addDerivative_277 : decode cX7_addDerivative 277 = .ok (.iload_n 2, 1) := by decide +kernel
theorem dX7_addDerivative_278 : decode cX7_addDerivative 278 = .ok (.invokevirtual 117, 3) := by decide +kernel
theorem dX7_addDerivative_281 : decode cX7_addDerivative 281 = .ok (.ifCond .eq 109, 3) := by decide +kernel
theorem dX7_addDerivative_284 : decode cX7_addDerivative 284 = .ok (.aload_n 0, 1) := by decide +kernel
theorem dX7_addDerivative_285 : decode cX7_addDerivative 285 = .ok (.aload_n 1, 1) := by decide +kernel
theorem dX7_addDerivative_286 : decode cX7_addDerivative 286 = .ok (.iload 6, 2) := by decide +kernel
theorem dX7_addDerivative_288 : decode cX7_addDerivative 288 = .ok (.iload_n 3, 1) := by decide +kernel
theorem dX7_addDerivative_289 : decode cX7_addDerivative 289 = .ok (.iload 4, 2) := by decide +kernel
theorem dX7_addDerivative_291 : decode cX7_addDerivative 291 = .ok (.iconst 1, 1) := by decide +kernel
theorem dX7_addDerivative_292 : decode cX7_addDerivative 292 = .ok (.iadd, 1) := by decide +kernel
theorem dX7_addDerivative_293 : decode cX7_addDerivative 293 = .ok (.invokevirtual 103, 3) := by decide +kernel
theorem dX7_addDerivative_296 : decode cX7_addDerivative 296 = .ok (.ifCond .eq 94, 3) := by decide +kernel
theorem dX7_addDerivative_299 : decode cX7_addDerivative 299 = .ok (.aload_n 0, 1) := by decide +kernel
theorem dX7_addDerivative_300 : decode cX7_addDerivative 300 = .ok (.getfield 12, 3) := by decide +kernel
theorem dX7_addDerivative_303 : decode cX7_addDerivative 303 = .ok (.aload_n 1, 1) := by decide +kernel
theorem dX7_addDerivative_304 : decode cX7_addDerivative 304 = .ok (.iload 7, 2) := by decide +kernel
theorem dX7_addDerivative_306 : decode cX7_addDerivative 306 = .ok (.invokevirtual 121, 3) := by decide +kernel
theorem dX7_addDerivative_309 : decode cX7_addDerivative 309 = .ok (.ifCond .eq 81, 3) := by decide +kernel
theorem dX7_addDerivative_312 : decode cX7_addDerivative 312 = .ok (.aload_n 0, 1) := by decide +kernel
theorem dX7_addDerivative_313 : decode cX7_addDerivative 313 = .ok (.iconst 2, 1) := by decide +kernel
theorem dX7_addDerivative_314 : decode cX7_addDerivative 314 = .ok (.aload_n 1, 1) := by decide +kernel
theorem dX7_addDerivative_315 : decode cX7_addDerivative 315 = .ok (.iload_n 2, 1) := by decide +kernel
theorem dX7_addDerivative_316 : decode cX7_addDerivative 316 = .ok (.invokevirtual 117, 3) := by decide +kernel
theorem dX7_addDerivative_319 : decode cX7_addDerivative 319 = .ok (.ifCond .eq 71, 3) := by decide +kernel
theorem dX7_addDerivative_322 : decode cX7_addDerivative 322 = .ok (.aload_n 0, 1) := by decide +kernel
theorem dX7_addDerivative_323 : decode cX7_addDerivative 323 = .ok (.getfield 12, 3) := by decide +kernel
theorem dX7_addDerivative_326 : decode cX7_addDerivative 326 = .ok (.aload_n 1, 1) := by decide +kernel
theorem dX7_addDerivative_327 : decode cX7_addDerivative 327 = .ok (.iload 6, 2) := by decide +kernel
theorem dX7_addDerivative_329 : decode cX7_addDerivative 329 = .ok (.invokevirtual 121, 3) := by decide +kernel
theorem dX7_addDerivative_332 : decode cX7_addDerivative 332 = .ok (.ifCond .eq 58, 3) := by decide +kernel
theorem dX7_addDerivative_335 : decode cX7_addDerivative 335 = .ok (.aload_n 0, 1) := by decide +kernel
theorem dX7_addDerivative_336 : decode cX7_addDerivative 336 = .ok (.aload_n 1, 1) := by decide +kernel
theorem dX7_addDerivative_337 : decode cX7_addDerivative 337 = .ok (.iload 7, 2) := by decide +kernel
theorem dX7_addDerivative_339 : decode cX7_addDerivative 339 = .ok (.iload_n 3, 1) := by decide +kernel
theorem dX7_addDerivative_340 : decode cX7_addDerivative 340 = .ok (.iload 4, 2) := by decide +kernel
theorem dX7_addDerivative_342 : decode cX7_addDerivative 342 = .ok (.iconst 1, 1) := by decide +kernel
theorem dX7_addDerivative_343 : decode cX7_addDerivative 343 = .ok (.iadd, 1) := by decide +kernel
theorem dX7_addDerivative_344 : decode cX7_addDerivative 344 = .ok (.invokevirtual 103, 3) := by decide +kernel
theorem dX7_addDerivative_347 : decode cX7_addDerivative 347 = .ok (.ifCond .eq 43, 3) := by decide +kernel
theorem dX7_addDerivative_350 : decode cX7_addDerivative 350 = .ok (.iload 9, 2) := by decide +kernel
theorem dX7_addDerivative_352 : decode cX7_addDerivative 352 = .ok (.ifCond .eq 34, 3) := by decide +kernel
theorem dX7_addDerivative_355 : decode cX7_addDerivative 355 = .ok (.aload_n 0, 1) := by decide +kernel
theorem dX7_addDerivative_356 : decode cX7_addDerivative 356 = .ok (.iconst 5, 1) := by decide +kernel
theorem dX7_addDerivative_357 : decode cX7_addDerivative 357 = .ok (.aload_n 1, 1) := by decide +kernel
theorem dX7_addDerivative_358 : decode cX7_addDerivative 358 = .ok (.iload_n 2, 1) := by decide +kernel
theorem dX7_addDerivative_359 : decode cX7_addDerivative 359 = .ok (.invokevirtual 117, 3) := by decide +kernel
theorem dX7_addDerivative_362 : decode cX7_addDerivative 362 = .ok (.ifCond .eq 28, 3) := by decide +kernel
theorem dX7_addDerivative_365 : decode cX7_addDerivative 365 = .ok (.aload_n 0, 1) := by decide +kernel
theorem dX7_addDerivative_366 : decode cX7_addDerivative 366 = .ok (.getfield 12, 3) := by decide +kernel
theorem dX7_addDerivative_369 : decode cX7_addDerivative 369 = .ok (.aload_n 1, 1) := by decide +kernel
theorem dX7_addDerivative_370 : decode cX7_addDerivative 370 = .ok (.iload 7, 2) := by decide +kernel
theorem dX7_addDerivative_372 : decode cX7_addDerivative 372 = .ok (.invokevirtual 121, 3) := by decide +kernel
theorem dX7_addDerivative_375 : decode cX7_addDerivative 375 = .ok (.ifCond .eq 15, 3) := by decide +kernel
theorem dX7_addDerivative_378 : decode cX7_addDerivative 378 = .ok (.aload_n 0, 1) := by decide +kernel
theorem dX7_addDerivative_379 : decode cX7_addDerivative 379 = .ok (.iconst 2, 1) := by decide +kernel
theorem dX7_addDerivative_380 : decode cX7_addDerivative 380 = .ok (.invokevirtual 109, 3) := by decide +kernel
theorem dX7_addDerivative_383 : decode cX7_addDerivative 383 = .ok (.ifCond .eq 7, 3) := by decide +kernel
theorem dX7_addDerivative_386 : decode cX7_addDerivative 386 = .ok (.iconst 1, 1) := by decide +kernel
theorem dX7_addDerivative_387 : decode cX7_addDerivative 387 = .ok (.goto 4, 3) := by decide +kernel
theorem dX7_addDerivative_390 : decode cX7_addDerivative 390 = .ok (.iconst 0, 1) := by decide +kernel
theorem dX7_addDerivative_391 : decode cX7_addDerivative 391 = .ok (.ireturn, 1) := by decide +kernel
theorem dX7_addDerivative_392 : decode cX7_addDerivative 392 = .ok (.aload_n 1, 1) := by decide +kernel
theorem dX7_addDerivative_393 : decode cX7_addDerivative 393 = .ok (.getfield 26, 3) := by decide +kernel
theorem dX7_addDerivative_396 : decode cX7_addDerivative 396 = .ok (.iload 7, 2) := by decide +kernel
theorem dX7_addDerivative_398 : decode cX7_addDerivative 398 = .ok (.iaload, 1) := by decide +kernel
theorem dX7_addDerivative_399 : decode cX7_addDerivative 399 = .ok (.istore 10, 2) := by decide +kernel
theorem dX7_addDerivative_401 : decode cX7_addDerivative 401 = .ok (.iload 10, 2) := by decide +kernel
theorem dX7_addDerivative_403 : decode cX7_addDerivative 403 = .ok (.ifCond .ne 9, 3) := by decide +kernel
theorem dX7_addDerivative_406 : decode cX7_addDerivative 406 = .ok (.aload_n 0, 1) := by decide +kernel
theorem dX7_addDerivative_407 : decode cX7_addDerivative 407 = .ok (.iconst 0, 1) := by decide +kernel
theorem dX7_addDerivative_408 : decode cX7_addDerivative 408 = .ok (.invokevirtual 109, 3) := by decide +kernel
theorem dX7_addDerivative_411 : decode cX7_addDerivative 411 = .ok (.ireturn, 1) := by decide +kernel
theorem dX7_addDerivative_412 : decode cX7_addDerivative 412 = .ok (.aload_n 0, 1) := by decide +kernel
theorem dX7_addDerivative_413 : decode cX7_addDerivative 413 = .ok (.iconst 2, 1) := by decide +kernel
theorem dX7_addDerivative_414 : decode cX7_addDerivative 414 = .ok (.aload_n 1, 1) := by decide +kernel
theorem dX7_addDerivative_415 : decode cX7_addDerivative 415 = .ok (.iload_n 2, 1) := by decide +kernel
theorem dX7_addDerivative_416 : decode cX7_addDerivative 416 = .ok (.invokevirtual 117, 3) := by decide +kernel
theorem dX7_addDerivative_419 : decode cX7_addDerivative 419 = .ok (.ifCond .eq 77, 3) := by decide +kernel
theorem dX7_addDerivative_422 : decode cX7_addDerivative 422 = .ok (.aload_n 0, 1) := by decide +kernel
theorem dX7_addDerivative_423 : decode cX7_addDerivative 423 = .ok (.iconst 2, 1) := by decide +kernel
theorem dX7_addDerivative_424 : decode cX7_addDerivative 424 = .ok (.aload_n 1, 1) := by decide +kernel
theorem dX7_addDerivative_425 : decode cX7_addDerivative 425 = .ok (.iload_n 2, 1) := by decide +kernel
theorem dX7_addDerivative_426 : decode cX7_addDerivative 426 = .ok (.invokevirtual 117, 3) := by decide +kernel
theorem dX7_addDerivative_429 : decode cX7_addDerivative 429 = .ok (.ifCond .eq 67, 3) := by decide +kernel
theorem dX7_addDerivative_432 : decode cX7_addDerivative 432 = .ok (.aload_n 0, 1) := by decide +kernel
theorem dX7_addDerivative_433 : decode cX7_addDerivative 433 = .ok (.iload 10, 2) := by decide +kernel
theorem dX7_addDerivative_435 : decode cX7_addDerivative 435 = .ok (.invokevirtual 109, 3) := by decide +kernel
theorem dX7_addDerivative_438 : decode cX7_addDerivative 438 = .ok (.ifCond .eq 58, 3) := by decide +kernel
theorem dX7_addDerivative_441 : decode cX7_addDerivative 441 = .ok (.aload_n 0, 1) := by decide +kernel
theorem dX7_addDerivative_442 : decode cX7_addDerivative 442 = .ok (.getfield 12, 3) := by decide +kernel
theorem dX7_addDerivative_445 : decode cX7_addDerivative 445 = .ok (.aload_n 1, 1) := by decide +kernel
theorem dX7_addDerivative_446 : decode cX7_addDerivative 446 = .ok (.iload_n 2, 1) := by decide +kernel
theorem dX7_addDerivative_447 : decode cX7_addDerivative 447 = .ok (.invokevirtual 113, 3) := by decide +kernel
theorem dX7_addDerivative_450 : decode cX7_addDerivative 450 = .ok (.ifCond .eq 46, 3) := by decide +kernel
theorem dX7_addDerivative_453 : decode cX7_addDerivative 453 = .ok (.aload_n 0, 1) := by decide +kernel
theorem dX7_addDerivative_454 : decode cX7_addDerivative 454 = .ok (.getfield 12, 3) := by decide +kernel
theorem dX7_addDerivative_457 : decode cX7_addDerivative 457 = .ok (.aload_n 1, 1) := by decide +kernel
theorem dX7_addDerivative_458 : decode cX7_addDerivative 458 = .ok (.iload 6, 2) := by decide +kernel
theorem dX7_addDerivative_460 : decode cX7_addDerivative 460 = .ok (.invokevirtual 121, 3) := by decide +kernel
theorem dX7_addDerivative_463 : decode cX7_addDerivative 463 = .ok (.ifCond .eq 33, 3) := by decide +kernel
theorem dX7_addDerivative_466 : decode cX7_addDerivative 466 = .ok (.aload_n 0, 1) := by decide +kernel
theorem dX7_addDerivative_467 : decode cX7_addDerivative 467 = .ok (.iload 10, 2) := by decide +kernel
theorem dX7_addDerivative_469 : decode cX7_addDerivative 469 = .ok (.iconst 1, 1) := by decide +kernel
theorem dX7_addDerivative_470 : decode cX7_addDerivative 470 = .ok (.isub, 1) := by decide +kernel
theorem dX7_addDerivative_471 : decode cX7_addDerivative 471 = .ok (.invokevirtual 109, 3) := by decide +kernel
theorem dX7_addDerivative_474 : decode cX7_addDerivative 474 = .ok (.ifCond .eq 22, 3) := by decide +kernel
theorem dX7_addDerivative_477 : decode cX7_addDerivative 477 = .ok (.aload_n 0, 1) := by decide +kernel
theorem dX7_addDerivative_478 : decode cX7_addDerivative 478 = .ok (.aload_n 1, 1) := by decide +kernel
theorem dX7_addDerivative_479 : decode cX7_addDerivative 479 = .ok (.iload 6, 2) := by decide +kernel
theorem dX7_addDerivative_481 : decode cX7_addDerivative 481 = .ok (.iload_n 3, 1) := by decide +kernel
theorem dX7_addDerivative_482 : decode cX7_addDerivative 482 = .ok (.iload 4, 2) := by decide +kernel
theorem dX7_addDerivative_484 : decode cX7_addDerivative 484 = .ok (.iconst 1, 1) := by decide +kernel
theorem dX7_addDerivative_485 : decode cX7_addDerivative 485 = .ok (.iadd, 1) := by decide +kernel
theorem dX7_addDerivative_486 : decode cX7_addDerivative 486 = .ok (.invokevirtual 103, 3) := by decide +kernel
theorem dX7_addDerivative_489 : decode cX7_addDerivative 489 = .ok (.ifCond .eq 7, 3) := by decide +kernel
theorem dX7_addDerivative_492 : decode cX7_addDerivative 492 = .ok (.iconst 1, 1) := by decide +kernel
theorem dX7_addDerivative_493 : decode cX7_addDerivative 493 = .ok (.goto 4, 3) := by decide +kernel
theorem dX7_addDerivative_496 : decode cX7_addDerivative 496 = .ok (.iconst 0, 1) := by decide +kernel
theorem dX7_addDerivative_497 : decode cX7_addDerivative 497 = .ok (.ireturn, 1) := by decide +kernel
theorem dX7_addNumber_0 : decode cX7_addNumber 0 = .ok (.aload_n 0, 1) := by decide +kernel
theorem dX7_addNumber_1 : decode cX7_addNumber 1 = .ok (.getfield 12, 3) := by decide +kernel
theorem dX7_addNumber_4 : decode cX7_addNumber 4 = .ok (.iconst 0, 1) := by decide +kernel
theorem dX7_addNumber_5 : decode cX7_addNumber 5 = .ok (.iload_n 1, 1) := by decide +kernel
theorem dX7_addNumber_6 : decode cX7_addNumber 6 = .ok (.iconst (-1), 1) := by decide +kernel
theorem dX7_addNumber_7 : decode cX7_addNumber 7 = .ok (.iconst 0, 1) := by decide +kernel
theorem dX7_addNumber_8 : decode cX7_addNumber 8 = .ok (.invokevirtual 124, 3) := by decide +kernel
theorem dX7_addNumber_11 : decode cX7_addNumber 11 = .ok (.ireturn, 1) := by decide +kernel
theorem dX7_addWanted_0 : decode cX7_addWanted 0 = .ok (.aload_n 0, 1) := by decide +kernel
theorem dX7_addWanted_1 : decode cX7_addWanted 1 = .ok (.aload_n 2, 1) := by decide +kernel
theorem dX7_addWanted_2 : decode cX7_addWanted 2 = .ok (.iload_n 3, 1) := by decide +kernel
theorem dX7_addWanted_3 : decode cX7_addWanted 3 = .ok (.invokevirtual 46, 3) := by decide +kernel
theorem dX7_addWanted_6 : decode cX7_addWanted 6 = .ok (.iload_n 1, 1) := by decide +kernel
theorem dX7_addWanted_7 : decode cX7_addWanted 7 = .ok (.if_icmp .ne 13, 3) := by decide +kernel
theorem dX7_addWanted_10 : decode cX7_addWanted 10 = .ok (.aload_n 0, 1) := by decide +kernel
theorem dX7_addWanted_11 : decode cX7_addWanted 11 = .ok (.getfield 12, 3) := by decide +kernel
theorem dX7_addWanted_14 : decode cX7_addWanted 14 = .ok (.aload_n 2, 1) := by decide +kernel
theorem dX7_addWanted_15 : decode cX7_addWanted 15 = .ok (.iload_n 3, 1) := by decide +kernel
theorem dX7_addWanted_16 : decode cX7_addWanted 16 = .ok (.invokevirtual 113, 3) := by decide +kernel
theorem dX7_addWanted_19 : decode cX7_addWanted 19 = .ok (.ireturn, 1) := by decide +kernel
theorem dX7_addWanted_20 : decode cX7_addWanted 20 = .ok (.aload_n 0, 1) := by decide +kernel
theorem dX7_addWanted_21 : decode cX7_addWanted 21 = .ok (.getfield 18, 3) := by decide +kernel
theorem dX7_addWanted_24 : decode cX7_addWanted 24 = .ok (.iload_n 1, 1) := by decide +kernel
theorem dX7_addWanted_25 : decode cX7_addWanted 25 = .ok (.invokevirtual 128, 3) := by decide +kernel
theorem dX7_addWanted_28 : decode cX7_addWanted 28 = .ok (.istore 4, 2) := by decide +kernel
theorem dX7_addWanted_30 : decode cX7_addWanted 30 = .ok (.iload 4, 2) := by decide +kernel
theorem dX7_addWanted_32 : decode cX7_addWanted 32 = .ok (.iconst (-1), 1) := by decide +kernel
theorem dX7_addWanted_33 : decode cX7_addWanted 33 = .ok (.if_icmp .eq 22, 3) := by decide +kernel
theorem dX7_addWanted_36 : decode cX7_addWanted 36 = .ok (.aload_n 0, 1) := by decide +kernel
theorem dX7_addWanted_37 : decode cX7_addWanted 37 = .ok (.getfield 12, 3) := by decide +kernel
theorem dX7_addWanted_40 : decode cX7_addWanted 40 = .ok (.iconst 3, 1) := by decide +kernel
theorem dX7_addWanted_41 : decode cX7_addWanted 41 = .ok (.iload 4, 2) := by decide +kernel
theorem dX7_addWanted_43 : decode cX7_addWanted 43 = .ok (.iconst 2, 1) := by decide +kernel
theorem dX7_addWanted_44 : decode cX7_addWanted 44 = .ok (.iconst 2, 1) := by decide +kernel
theorem dX7_addWanted_45 : decode cX7_addWanted 45 = .ok (.invokevirtual 124, 3) := by decide +kernel
theorem dX7_addWanted_48 : decode cX7_addWanted 48 = .ok (.ifCond .eq 7, 3) := by decide +kernel
theorem dX7_addWanted_51 : decode cX7_addWanted 51 = .ok (.iconst 1, 1) := by decide +kernel
theorem dX7_addWanted_52 : decode cX7_addWanted 52 = .ok (.goto 4, 3) := by decide +kernel
theorem dX7_addWanted_55 : decode cX7_addWanted 55 = .ok (.iconst 0, 1) := by decide +kernel
theorem dX7_addWanted_56 : decode cX7_addWanted 56 = .ok (.ireturn, 1) := by decide +kernel
theorem dX8_init_0 : decode cX8_init 0 = .ok (.aload_n 0, 1) := by decide +kernel
theorem dX8_init_1 : decode cX8_init 1 = .ok (.invokespecial 3, 3) := by decide +kernel
theorem dX8_init_4 : decode cX8_init 4 = .ok (.aload_n 0, 1) := by decide +kernel
theorem dX8_init_5 : decode cX8_init 5 = .ok (.bipush 80, 2) := by decide +kernel
theorem dX8_init_7 : decode cX8_init 7 = .ok (.anewarray 11, 3) := by decide +kernel
theorem dX8_init_10 : decode cX8_init 10 = .ok (.putfield 13, 3) := by decide +kernel
theorem dX8_init_13 : decode cX8_init 13 = .ok (.aload_n 0, 1) := by decide +kernel
theorem dX8_init_14 : decode cX8_init 14 = .ok (.new 11, 3) := by decide +kernel
theorem dX8_init_17 : decode cX8_init 17 = .ok (.dup, 1) := by decide +kernel
theorem dX8_init_18 : decode cX8_init 18 = .ok (.bipush 7, 2) := by decide +kernel
theorem dX8_init_20 : decode cX8_init 20 = .ok (.invokespecial 21, 3) := by decide +kernel
theorem dX8_init_23 : decode cX8_init 23 = .ok (.putfield 24, 3) := by decide +kernel
theorem dX8_init_26 : decode cX8_init 26 = .ok (.aload_n 0, 1) := by decide +kernel
theorem dX8_init_27 : decode cX8_init 27 = .ok (.new 11, 3) := by decide +kernel
theorem dX8_init_30 : decode cX8_init 30 = .ok (.dup, 1) := by decide +kernel
theorem dX8_init_31 : decode cX8_init 31 = .ok (.bipush 7, 2) := by decide +kernel
theorem dX8_init_33 : decode cX8_init 33 = .ok (.invokespecial 21, 3) := by decide +kernel
theorem dX8_init_36 : decode cX8_init 36 = .ok (.putfield 28, 3) := by decide +kernel
theorem dX8_init_39 : decode cX8_init 39 = .ok (.aload_n 0, 1) := by decide +kernel
theorem dX8_init_40 : decode cX8_init 40 = .ok (.new 11, 3) := by decide +kernel
theorem dX8_init_43 : decode cX8_init 43 = .ok (.dup, 1) := by decide +kernel
theorem dX8_init_44 : decode cX8_init 44 = .ok (.bipush 100, 2) := by decide +kernel
theorem dX8_init_46 : decode cX8_init 46 = .ok (.invokespecial 21, 3) := by decide +kernel
theorem dX8_init_49 : decode cX8_init 49 = .ok (.putfield 31, 3) := by decide +kernel
theorem dX8_init_52 : decode cX8_init 52 = .ok (.aload_n 0, 1) := by decide +kernel
theorem dX8_init_53 : decode cX8_init 53 = .ok (.new 11, 3) := by decide +kernel
theorem dX8_init_56 : decode cX8_init 56 = .ok (.dup, 1) := by decide +kernel
theorem dX8_init_57 : decode cX8_init 57 = .ok (.bipush 100, 2) := by decide +kernel
theorem dX8_init_59 : decode cX8_init 59 = .ok (.invokespecial 21, 3) := by decide +kernel
theorem dX8_init_62 : decode cX8_init 62 = .ok (.putfield 34, 3) := by decide +kernel
theorem dX8_init_65 : decode cX8_init 65 = .ok (.aload_n 0, 1) := by decide +kernel
theorem dX8_init_66 : decode cX8_init 66 = .ok (.aload_n 1, 1) := by decide +kernel
theorem dX8_init_67 : decode cX8_init 67 = .ok (.putfield 37, 3) := by decide +kernel
theorem dX8_init_70 : decode cX8_init 70 = .ok (.aload_n 0, 1) := by decide +kernel
theorem dX8_init_71 : decode cX8_init 71 = .ok (.aload_n 2, 1) := by decide +kernel
theorem dX8_init_72 : decode cX8_init 72 = .ok (.putfield 41, 3) := by decide +kernel
theorem dX8_init_75 : decode cX8_init 75 = .ok (.iconst 0, 1) := by decide +kernel
theorem dX8_init_76 : decode cX8_init 76 = .ok (.istore_n 3, 1) := by decide +kernel
theorem dX8_init_77 : decode cX8_init 77 = .ok (.iload_n 3, 1) := by decide +kernel
theorem dX8_init_78 : decode cX8_init 78 = .ok (.bipush 80, 2) := by decide +kernel
theorem dX8_init_80 : decode cX8_init 80 = .ok (.if_icmp .ge 24, 3) := by decide +kernel
theorem dX8_init_83 : decode cX8_init 83 = .ok (.aload_n 0, 1) := by decide +kernel
theorem dX8_init_84 : decode cX8_init 84 = .ok (.getfield 13, 3) := by decide +kernel
theorem dX8_init_87 : decode cX8_init 87 = .ok (.iload_n 3, 1) := by decide +kernel
theorem dX8_init_88 : decode cX8_init 88 = .ok (.new 11, 3) := by decide +kernel
theorem dX8_init_91 : decode cX8_init 91 = .ok (.dup, 1) := by decide +kernel
theorem dX8_init_92 : decode cX8_init 92 = .ok (.bipush 7, 2) := by decide +kernel
theorem dX8_init_94 : decode cX8_init 94 = .ok (.invokespecial 21, 3) := by decide +kernel
theorem dX8_init_97 : decode cX8_init 97 = .ok (.aastore, 1) := by decide +kernel
theorem dX8_init_98 : decode cX8_init 98 = .ok (.iinc 3 1, 3) := by decide +kernel
theorem dX8_init_101 : decode cX8_init 101 = .ok (.goto (-24), 3) := by decide +kernel
theorem dX8_init_104 : decode cX8_init 104 = .ok (.return_, 1) := by decide +kernel
theorem dX8_result_0 : decode cX8_result 0 = .ok (.aload_n 0, 1) := by decide +kernel
theorem dX8_result_1 : decode cX8_result 1 = .ok (.getfield 13, 3) := by decide +kernel
theorem dX8_result_4 : decode cX8_result 4 = .ok (.iconst 0, 1) := by decide +kernel
theorem dX8_result_5 : decode cX8_result 5 = .ok (.aaload, 1) := by decide +kernel
theorem dX8_result_6 : decode cX8_result 6 = .ok (.areturn, 1) := by decide +kernel
theorem dX8_reckonPart_0 : decode cX8_reckonPart 0 = .ok (.aload_n 0, 1) := by decide +kernel
theorem dX8_reckonPart_1 : decode cX8_reckonPart 1 = .ok (.getfield 37, 3) := by decide +kernel
theorem dX8_reckonPart_4 : decode cX8_reckonPart 4 = .ok (.invokevirtual 45, 3) := by decide +kernel
theorem dX8_reckonPart_7 : decode cX8_reckonPart 7 = .ok (.aload_n 0, 1) := by decide +kernel
theorem dX8_reckonPart_8 : decode cX8_reckonPart 8 = .ok (.iconst 0, 1) := by decide +kernel
theorem dX8_reckonPart_9 : decode cX8_reckonPart 9 = .ok (.putfield 50, 3) := by decide +kernel
theorem dX8_reckonPart_12 : decode cX8_reckonPart 12 = .ok (.iconst 0, 1) := by decide +kernel
theorem dX8_reckonPart_13 : decode cX8_reckonPart 13 = .ok (.istore_n 3, 1) := by decide +kernel
theorem dX8_reckonPart_14 : decode cX8_reckonPart 14 = .ok (.iconst 0, 1) := by decide +kernel
theorem dX8_reckonPart_15 : decode cX8_reckonPart 15 = .ok (.istore 4, 2) := by decide +kernel
theorem dX8_reckonPart_17 : decode cX8_reckonPart 17 = .ok (.iload 4, 2) := by decide +kernel
theorem dX8_reckonPart_19 : decode cX8_reckonPart 19 = .ok (.aload_n 1, 1) := by decide +kernel
theorem dX8_reckonPart_20 : decode cX8_reckonPart 20 = .ok (.getfield 54, 3) := by decide +kernel
theorem dX8_reckonPart_23 : decode cX8_reckonPart 23 = .ok (.if_icmp .ge 122, 3) := by decide +kernel
theorem dX8_reckonPart_26 : decode cX8_reckonPart 26 = .ok (.iload_n 3, 1) := by decide +kernel
theorem dX8_reckonPart_27 : decode cX8_reckonPart 27 = .ok (.ifCond .ne 118, 3) := by decide +kernel
theorem dX8_reckonPart_30 : decode cX8_reckonPart 30 = .ok (.aload_n 1, 1) := by decide +kernel
theorem dX8_reckonPart_31 : decode cX8_reckonPart 31 = .ok (.iload 4, 2) := by decide +kernel
theorem dX8_reckonPart_33 : decode cX8_reckonPart 33 = .ok (.invokevirtual 57, 3) := by decide +kernel
theorem dX8_reckonPart_36 : decode cX8_reckonPart 36 = .ok (.istore 5, 2) := by decide +kernel
theorem dX8_reckonPart_38 : decode cX8_reckonPart 38 = .ok (.aload_n 1, 1) := by decide +kernel
theorem dX8_reckonPart_39 : decode cX8_reckonPart 39 = .ok (.getfield 61, 3) := by decide +kernel
theorem dX8_reckonPart_42 : decode cX8_reckonPart 42 = .ok (.iload 5, 2) := by decide +kernel
theorem dX8_reckonPart_44 : decode cX8_reckonPart 44 = .ok (.iaload, 1) := by decide +kernel
theorem dX8_reckonPart_45 : decode cX8_reckonPart 45 = .ok (.iconst 3, 1) := by decide +kernel
theorem dX8_reckonPart_46 : decode cX8_reckonPart 46 = .ok (.if_icmp .ne 41, 3) := by decide +kernel
theorem dX8_reckonPart_49 : decode cX8_reckonPart 49 = .ok (.aload_n 0, 1) := by decide +kernel
theorem dX8_reckonPart_50 : decode cX8_reckonPart 50 = .ok (.getfield 24, 3) := by decide +kernel
theorem dX8_reckonPart_53 : decode cX8_reckonPart 53 = .ok (.aload_n 0, 1) := by decide +kernel
theorem dX8_reckonPart_54 : decode cX8_reckonPart 54 = .ok (.getfield 37, 3) := by decide +kernel
theorem dX8_reckonPart_57 : decode cX8_reckonPart 57 = .ok (.aload_n 1, 1) := by decide +kernel
theorem dX8_reckonPart_58 : decode cX8_reckonPart 58 = .ok (.getfield 65, 3) := by decide +kernel
theorem dX8_reckonPart_61 : decode cX8_reckonPart 61 = .ok (.iload 5, 2) := by decide +kernel
theorem dX8_reckonPart_63 : decode cX8_reckonPart 63 = .ok (.iaload, 1) := by decide +kernel
theorem dX8_reckonPart_64 : decode cX8_reckonPart 64 = .ok (.iconst 1, 1) := by decide +kernel
theorem dX8_reckonPart_65 : decode cX8_reckonPart 65 = .ok (.isub, 1) := by decide +kernel
theorem dX8_reckonPart_66 : decode cX8_reckonPart 66 = .ok (.invokevirtual 68, 3) := by decide +kernel
theorem dX8_reckonPart_69 : decode cX8_reckonPart 69 = .ok (.invokevirtual 72, 3) := by decide +kernel
theorem dX8_reckonPart_72 : decode cX8_reckonPart 72 = .ok (.aload_n 0, 1) := by decide +kernel
theorem dX8_reckonPart_73 : decode cX8_reckonPart 73 = .ok (.getfield 28, 3) := by decide +kernel
theorem dX8_reckonPart_76 : decode cX8_reckonPart 76 = .ok (.aload_n 0, 1) := by decide +kernel
theorem dX8_reckonPart_77 : decode cX8_reckonPart 77 = .ok (.getfield 37, 3) := by decide +kernel
theorem dX8_reckonPart_80 : decode cX8_reckonPart 80 = .ok (.iconst 0, 1) := by decide +kernel
theorem dX8_reckonPart_81 : decode cX8_reckonPart 81 = .ok (.invokevirtual 68, 3) := by decide +kernel
theorem dX8_reckonPart_84 : decode cX8_reckonPart 84 = .ok (.invokevirtual 72, 3) := by decide +kernel
theorem dX8_reckonPart_87 : decode cX8_reckonPart 87 = .ok (.aload_n 0, 1) := by decide +kernel
theorem dX8_reckonPart_88 : decode cX8_reckonPart 88 = .ok (.getfield 37, 3) := by decide +kernel
theorem dX8_reckonPart_91 : decode cX8_reckonPart 91 = .ok (.aload_n 1, 1) := by decide +kernel
theorem dX8_reckonPart_92 : decode cX8_reckonPart 92 = .ok (.iload 5, 2) := by decide +kernel
theorem dX8_reckonPart_94 : decode cX8_reckonPart 94 = .ok (.invokevirtual 76, 3) := by decide +kernel
theorem dX8_reckonPart_97 : decode cX8_reckonPart 97 = .ok (.istore 6, 2) := by decide +kernel
theorem dX8_reckonPart_99 : decode cX8_reckonPart 99 = .ok (.aload_n 0, 1) := by decide +kernel
theorem dX8_reckonPart_100 : decode cX8_reckonPart 100 = .ok (.getfield 37, 3) := by decide +kernel
theorem dX8_reckonPart_103 : decode cX8_reckonPart 103 = .ok (.aload_n 1, 1) := by decide +kernel
theorem dX8_reckonPart_104 : decode cX8_reckonPart 104 = .ok (.iload 5, 2) := by decide +kernel
theorem dX8_reckonPart_106 : decode cX8_reckonPart 106 = .ok (.iconst (-1), 1) := by decide +kernel
theorem dX8_reckonPart_107 : decode cX8_reckonPart 107 = .ok (.invokevirtual 80, 3) := by decide +kernel
theorem dX8_reckonPart_110 : decode cX8_reckonPart 110 = .ok (.istore_n 3, 1) := by decide +kernel
theorem dX8_reckonPart_111 : decode cX8_reckonPart 111 = .ok (.iload_n 3, 1) := by decide +kernel
theorem dX8_reckonPart_112 : decode cX8_reckonPart 112 = .ok (.ifCond .ne 27, 3) := by decide +kernel
theorem dX8_reckonPart_115 : decode cX8_reckonPart 115 = .ok (.iload 6, 2) := by decide +kernel
theorem dX8_reckonPart_117 : decode cX8_reckonPart 117 = .ok (.iconst (-1), 1) := by decide +kernel
theorem dX8_reckonPart_118 : decode cX8_reckonPart 118 = .ok (.if_icmp .ne 14, 3) := by decide +kernel
theorem dX8_reckonPart_121 : decode cX8_reckonPart 121 = .ok (.aload_n 0, 1) := by decide +kernel
theorem dX8_reckonPart_122 : decode cX8_reckonPart 122 = .ok (.aload_n 1, 1) := by decide +kernel
theorem dX8_reckonPart_123 : decode cX8_reckonPart 123 = .ok (.iload 5, 2) := by decide +kernel
theorem dX8_reckonPart_125 : decode cX8_reckonPart 125 = .ok (.iload_n 2, 1) := by decide +kernel
theorem dX8_reckonPart_126 : decode cX8_reckonPart 126 = .ok (.invokevirtual 84, 3) := by decide +kernel
theorem dX8_reckonPart_129 : decode cX8_reckonPart 129 = .ok (.goto 9, 3) := by decide +kernel
theorem dX8_reckonPart_132 : decode cX8_reckonPart 132 = .ok (.aload_n 0, 1) := by decide +kernel
theorem dX8_reckonPart_133 : decode cX8_reckonPart 133 = .ok (.iload 6, 2) := by decide +kernel
theorem dX8_reckonPart_135 : decode cX8_reckonPart 135 = .ok (.invokevirtual 87, 3) := by decide +kernel
theorem dX8_reckonPart_138 : decode cX8_reckonPart 138 = .ok (.istore_n 3, 1) := by decide +kernel
theorem dX8_reckonPart_139 : decode cX8_reckonPart 139 = .ok (.iinc 4 1, 3) := by decide +kernel
theorem dX8_reckonPart_142 : decode cX8_reckonPart 142 = .ok (.goto (-125), 3) := by decide +kernel
theorem dX8_reckonPart_145 : decode cX8_reckonPart 145 = .ok (.iload_n 3, 1) := by decide +kernel
theorem dX8_reckonPart_146 : decode cX8_reckonPart 146 = .ok (.ireturn, 1) := by decide +kernel
theorem dX8_leafPart_0 : decode cX8_leafPart 0 = .ok (.aload_n 0, 1) := by decide +kernel
theorem dX8_leafPart_1 : decode cX8_leafPart 1 = .ok (.getfield 50, 3) := by decide +kernel
theorem dX8_leafPart_4 : decode cX8_leafPart 4 = .ok (.bipush 80, 2) := by decide +kernel
theorem dX8_leafPart_6 : decode cX8_leafPart 6 = .ok (.if_icmp .lt 6, 3) := by decide +kernel
theorem dX8_leafPart_9 : decode cX8_leafPart 9 = .ok (.bipush 9, 2) := by decide +kernel
theorem dX8_leafPart_11 : decode cX8_leafPart 11 = .ok (.ireturn, 1) := by decide +kernel
theorem dX8_leafPart_12 : decode cX8_leafPart 12 = .ok (.aload_n 0, 1) := by decide +kernel
theorem dX8_leafPart_13 : decode cX8_leafPart 13 = .ok (.getfield 13, 3) := by decide +kernel
theorem dX8_leafPart_16 : decode cX8_leafPart 16 = .ok (.aload_n 0, 1) := by decide +kernel
theorem dX8_leafPart_17 : decode cX8_leafPart 17 = .ok (.getfield 50, 3) := by decide +kernel
theorem dX8_leafPart_20 : decode cX8_leafPart 20 = .ok (.aaload, 1) := by decide +kernel
theorem dX8_leafPart_21 : decode cX8_leafPart 21 = .ok (.aload_n 1, 1) := by decide +kernel
theorem dX8_leafPart_22 : decode cX8_leafPart 22 = .ok (.getfield 61, 3) := by decide +kernel
theorem dX8_leafPart_25 : decode cX8_leafPart 25 = .ok (.iload_n 2, 1) := by decide +kernel
theorem dX8_leafPart_26 : decode cX8_leafPart 26 = .ok (.iaload, 1) := by decide +kernel
theorem dX8_leafPart_27 : decode cX8_leafPart 27 = .ok (.iconst 1, 1) := by decide +kernel
theorem dX8_leafPart_28 : decode cX8_leafPart 28 = .ok (.if_icmp .ne 17, 3) := by decide +kernel
theorem dX8_leafPart_31 : decode cX8_leafPart 31 = .ok (.aload_n 1, 1) := by decide +kernel
theorem dX8_leafPart_32 : decode cX8_leafPart 32 = .ok (.getfield 90, 3) := by decide +kernel
theorem dX8_leafPart_35 : decode cX8_leafPart 35 = .ok (.iload_n 2, 1) := by decide +kernel
theorem dX8_leafPart_36 : decode cX8_leafPart 36 = .ok (.iaload, 1) := by decide +kernel
theorem dX8_leafPart_37 : decode cX8_leafPart 37 = .ok (.iload_n 3, 1) := by decide +kernel
theorem dX8_leafPart_38 : decode cX8_leafPart 38 = .ok (.if_icmp .ne 7, 3) := by decide +kernel
theorem dX8_leafPart_41 : decode cX8_leafPart 41 = .ok (.lconst 1, 1) := by decide +kernel
theorem dX8_leafPart_42 : decode cX8_leafPart 42 = .ok (.goto 4, 3) := by decide +kernel
theorem dX8_leafPart_45 : decode cX8_leafPart 45 = .ok (.lconst 0, 1) := by decide +kernel
theorem dX8_leafPart_46 : decode cX8_leafPart 46 = .ok (.invokevirtual 93, 3) := by decide +kernel
theorem dX8_leafPart_49 : decode cX8_leafPart 49 = .ok (.aload_n 0, 1) := by decide +kernel
theorem dX8_leafPart_50 : decode cX8_leafPart 50 = .ok (.dup, 1) := by decide +kernel
theorem dX8_leafPart_51 : decode cX8_leafPart 51 = .ok (.getfield 50, 3) := by decide +kernel
theorem dX8_leafPart_54 : decode cX8_leafPart 54 = .ok (.iconst 1, 1) := by decide +kernel
theorem dX8_leafPart_55 : decode cX8_leafPart 55 = .ok (.iadd, 1) := by decide +kernel
theorem dX8_leafPart_56 : decode cX8_leafPart 56 = .ok (.putfield 50, 3) := by decide +kernel
theorem dX8_leafPart_59 : decode cX8_leafPart 59 = .ok (.iconst 0, 1) := by decide +kernel
theorem dX8_leafPart_60 : decode cX8_leafPart 60 = .ok (.ireturn, 1) := by decide +kernel
theorem dX8_operatorPart_0 : decode cX8_operatorPart 0 = .ok (.iload_n 1, 1) := by decide +kernel
theorem dX8_operatorPart_1 : decode cX8_operatorPart 1 = .ok (.bipush 11, 2) := by decide +kernel
theorem dX8_operatorPart_3 : decode cX8_operatorPart 3 = .ok (.if_icmp .ne 7, 3) := by decide +kernel
theorem dX8_operatorPart_6 : decode cX8_operatorPart 6 = .ok (.iconst 1, 1) := by decide +kernel
theorem dX8_operatorPart_7 : decode cX8_operatorPart 7 = .ok (.goto 4, 3) := by decide +kernel
theorem dX8_operatorPart_10 : decode cX8_operatorPart 10 = .ok (.iconst 2, 1) := by decide +kernel
theorem dX8_operatorPart_11 : decode cX8_operatorPart 11 = .ok (.istore_n 2, 1) := by decide +kernel
theorem dX8_operatorPart_12 : decode cX8_operatorPart 12 = .ok (.aload_n 0, 1) := by decide +kernel
theorem dX8_operatorPart_13 : decode cX8_operatorPart 13 = .ok (.getfield 50, 3) := by decide +kernel
theorem dX8_operatorPart_16 : decode cX8_operatorPart 16 = .ok (.iload_n 2, 1) := by decide +kernel
theorem dX8_operatorPart_17 : decode cX8_operatorPart 17 = .ok (.if_icmp .ge 6, 3) := by decide +kernel
theorem dX8_operatorPart_20 : decode cX8_operatorPart 20 = .ok (.bipush 9, 2) := by decide +kernel
theorem dX8_operatorPart_22 : decode cX8_operatorPart 22 = .ok (.ireturn, 1) := by decide +kernel
theorem dX8_operatorPart_23 : decode cX8_operatorPart 23 = .ok (.aload_n 0, 1) := by decide +kernel
theorem dX8_operatorPart_24 : decode cX8_operatorPart 24 = .ok (.getfield 13, 3) := by decide +kernel
theorem dX8_operatorPart_27 : decode cX8_operatorPart 27 = .ok (.aload_n 0, 1) := by decide +kernel
theorem dX8_operatorPart_28 : decode cX8_operatorPart 28 = .ok (.getfield 50, 3) := by decide +kernel
theorem dX8_operatorPart_31 : decode cX8_operatorPart 31 = .ok (.iload_n 2, 1) := by decide +kernel
theorem dX8_operatorPart_32 : decode cX8_operatorPart 32 = .ok (.isub, 1) := by decide +kernel
theorem dX8_operatorPart_33 : decode cX8_operatorPart 33 = .ok (.aaload, 1) := by decide +kernel
theorem dX8_operatorPart_34 : decode cX8_operatorPart 34 = .ok (.astore_n 3, 1) := by decide +kernel
theorem dX8_operatorPart_35 : decode cX8_operatorPart 35 = .ok (.aload_n 0, 1) := by decide +kernel
theorem dX8_operatorPart_36 : decode cX8_operatorPart 36 = .ok (.getfield 13, 3) := by decide +kernel
theorem dX8_operatorPart_39 : decode cX8_operatorPart 39 = .ok (.aload_n 0, 1) := by decide +kernel
theorem dX8_operatorPart_40 : decode cX8_operatorPart 40 = .ok (.getfield 50, 3) := by decide +kernel
theorem dX8_operatorPart_43 : decode cX8_operatorPart 43 = .ok (.iconst 1, 1) := by decide +kernel
theorem dX8_operatorPart_44 : decode cX8_operatorPart 44 = .ok (.isub, 1) := by decide +kernel
theorem dX8_operatorPart_45 : decode cX8_operatorPart 45 = .ok (.aaload, 1) := by decide +kernel
theorem dX8_operatorPart_46 : decode cX8_operatorPart 46 = .ok (.astore 4, 2) := by decide +kernel
theorem dX8_operatorPart_48 : decode cX8_operatorPart 48 = .ok (.iload_n 1, 1) := by decide +kernel
theorem dX8_operatorPart_49 : decode cX8_operatorPart 49 = .ok (.tableswitch 180 0 11 #[63, 81, 120, 131, 180, 180, 180, 180, 180, 180, 180, 99], 63) := by decide +kernel
theorem dX8_operatorPart_112 : decode cX8_operatorPart 112 = .ok (.aload_n 0, 1) := by decide +kernel
theorem dX8_operatorPart_113 : decode cX8_operatorPart 113 = .ok (.getfield 41, 3) := by decide +kernel
theorem dX8_operatorPart_116 : decode cX8_operatorPart 116 = .ok (.aload_n 0, 1) := by decide +kernel
theorem dX8_operatorPart_117 : decode cX8_operatorPart 117 = .ok (.getfield 31, 3) := by decide +kernel
theorem dX8_operatorPart_120 : decode cX8_operatorPart 120 = .ok (.aload_n 3, 1) := by decide +kernel
theorem dX8_operatorPart_121 : decode cX8_operatorPart 121 = .ok (.aload 4, 2) := by decide +kernel
theorem dX8_operatorPart_123 : decode cX8_operatorPart 123 = .ok (.iconst 0, 1) := by decide +kernel
theorem dX8_operatorPart_124 : decode cX8_operatorPart 124 = .ok (.invokevirtual 97, 3) := by decide +kernel
theorem dX8_operatorPart_127 : decode cX8_operatorPart 127 = .ok (.goto 117, 3) := by decide +kernel
theorem dX8_operatorPart_130 : decode cX8_operatorPart 130 = .ok (.aload_n 0, 1) := by decide +kernel
theorem dX8_operatorPart_131 : decode cX8_operatorPart 131 = .ok (.getfield 41, 3) := by decide +kernel
theorem dX8_operatorPart_134 : decode cX8_operatorPart 134 = .ok (.aload_n 0, 1) := by decide +kernel
theorem dX8_operatorPart_135 : decode cX8_operatorPart 135 = .ok (.getfield 31, 3) := by decide +kernel
theorem dX8_operatorPart_138 : decode cX8_operatorPart 138 = .ok (.aload_n 3, 1) := by decide +kernel
theorem dX8_operatorPart_139 : decode cX8_operatorPart 139 = .ok (.aload 4, 2) := by decide +kernel
theorem dX8_operatorPart_141 : decode cX8_operatorPart 141 = .ok (.iconst 1, 1) := by decide +kernel
theorem dX8_operatorPart_142 : decode cX8_operatorPart 142 = .ok (.invokevirtual 97, 3) := by decide +kernel
theorem dX8_operatorPart_145 : decode cX8_operatorPart 145 = .ok (.goto 99, 3) := by decide +kernel
theorem dX8_operatorPart_148 : decode cX8_operatorPart 148 = .ok (.aload_n 0, 1) := by decide +kernel
theorem dX8_operatorPart_149 : decode cX8_operatorPart 149 = .ok (.getfield 31, 3) := by decide +kernel
theorem dX8_operatorPart_152 : decode cX8_operatorPart 152 = .ok (.aload_n 3, 1) := by decide +kernel
theorem dX8_operatorPart_153 : decode cX8_operatorPart 153 = .ok (.invokevirtual 72, 3) := by decide +kernel
theorem dX8_operatorPart_156 : decode cX8_operatorPart 156 = .ok (.aload_n 0, 1) := by decide +kernel
theorem dX8_operatorPart_157 : decode cX8_operatorPart 157 = .ok (.getfield 31, 3) := by decide +kernel
theorem dX8_operatorPart_160 : decode cX8_operatorPart 160 = .ok (.getfield 103, 3) := by decide +kernel
theorem dX8_operatorPart_163 : decode cX8_operatorPart 163 = .ok (.invokevirtual 107, 3) := by decide +kernel
theorem dX8_operatorPart_166 : decode cX8_operatorPart 166 = .ok (.goto 78, 3) := by decide +kernel
theorem dX8_operatorPart_169 : decode cX8_operatorPart 169 = .ok (.aload_n 0, 1) := by decide +kernel
theorem dX8_operatorPart_170 : decode cX8_operatorPart 170 = .ok (.aload_n 3, 1) := by decide +kernel
theorem dX8_operatorPart_171 : decode cX8_operatorPart 171 = .ok (.aload 4, 2) := by decide +kernel
theorem dX8_operatorPart_173 : decode cX8_operatorPart 173 = .ok (.iconst 0, 1) := by decide +kernel
theorem dX8_operatorPart_174 : decode cX8_operatorPart 174 = .ok (.invokevirtual 110, 3) := by decide +kernel
theorem dX8_operatorPart_177 : decode cX8_operatorPart 177 = .ok (.goto 67, 3) := by decide +kernel
theorem dX8_operatorPart_180 : decode cX8_operatorPart 180 = .ok (.aload_n 0, 1) := by decide +kernel
theorem dX8_operatorPart_181 : decode cX8_operatorPart 181 = .ok (.aload_n 3, 1) := by decide +kernel
theorem dX8_operatorPart_182 : decode cX8_operatorPart 182 = .ok (.aload 4, 2) := by decide +kernel
theorem dX8_operatorPart_184 : decode cX8_operatorPart 184 = .ok (.iconst 1, 1) := by decide +kernel
theorem dX8_operatorPart_185 : decode cX8_operatorPart 185 = .ok (.invokevirtual 110, 3) := by decide +kernel
theorem dX8_operatorPart_188 : decode cX8_operatorPart 188 = .ok (.aload_n 0, 1) := by decide +kernel
theorem dX8_operatorPart_189 : decode cX8_operatorPart 189 = .ok (.getfield 41, 3) := by decide +kernel
theorem dX8_operatorPart_192 : decode cX8_operatorPart 192 = .ok (.aload_n 0, 1) := by decide +kernel
theorem dX8_operatorPart_193 : decode cX8_operatorPart 193 = .ok (.getfield 34, 3) := by decide +kernel
theorem dX8_operatorPart_196 : decode cX8_operatorPart 196 = .ok (.aload_n 0, 1) := by decide +kernel
theorem dX8_operatorPart_197 : decode cX8_operatorPart 197 = .ok (.getfield 28, 3) := by decide +kernel
theorem dX8_operatorPart_200 : decode cX8_operatorPart 200 = .ok (.aload_n 0, 1) := by decide +kernel
theorem dX8_operatorPart_201 : decode cX8_operatorPart 201 = .ok (.getfield 28, 3) := by decide +kernel
theorem dX8_operatorPart_204 : decode cX8_operatorPart 204 = .ok (.invokevirtual 114, 3) := by decide +kernel
theorem dX8_operatorPart_207 : decode cX8_operatorPart 207 = .ok (.aload_n 0, 1) := by decide +kernel
theorem dX8_operatorPart_208 : decode cX8_operatorPart 208 = .ok (.getfield 41, 3) := by decide +kernel
theorem dX8_operatorPart_211 : decode cX8_operatorPart 211 = .ok (.aload_n 0, 1) := by decide +kernel
theorem dX8_operatorPart_212 : decode cX8_operatorPart 212 = .ok (.getfield 31, 3) := by decide +kernel
theorem dX8_operatorPart_215 : decode cX8_operatorPart 215 = .ok (.aload_n 0, 1) := by decide +kernel
theorem dX8_operatorPart_216 : decode cX8_operatorPart 216 = .ok (.getfield 31, 3) := by decide +kernel
theorem dX8_operatorPart_219 : decode cX8_operatorPart 219 = .ok (.aload_n 0, 1) := by decide +kernel
theorem dX8_operatorPart_220 : decode cX8_operatorPart 220 = .ok (.getfield 34, 3) := by decide +kernel
theorem dX8_operatorPart_223 : decode cX8_operatorPart 223 = .ok (.invokevirtual 118, 3) := by decide +kernel
theorem dX8_operatorPart_226 : decode cX8_operatorPart 226 = .ok (.goto 18, 3) := by decide +kernel
theorem dX8_operatorPart_229 : decode cX8_operatorPart 229 = .ok (.aload_n 0, 1) := by decide +kernel
theorem dX8_operatorPart_230 : decode cX8_operatorPart 230 = .ok (.aload_n 3, 1) := by decide +kernel
theorem dX8_operatorPart_231 : decode cX8_operatorPart 231 = .ok (.aload_n 0, 1) := by decide +kernel
theorem dX8_operatorPart_232 : decode cX8_operatorPart 232 = .ok (.getfield 28, 3) := by decide +kernel
theorem dX8_operatorPart_235 : decode cX8_operatorPart 235 = .ok (.getfield 103, 3) := by decide +kernel
theorem dX8_operatorPart_238 : decode cX8_operatorPart 238 = .ok (.invokevirtual 121, 3) := by decide +kernel
theorem dX8_operatorPart_241 : decode cX8_operatorPart 241 = .ok (.invokevirtual 125, 3) := by decide +kernel
theorem dX8_operatorPart_244 : decode cX8_operatorPart 244 = .ok (.aload_n 0, 1) := by decide +kernel
theorem dX8_operatorPart_245 : decode cX8_operatorPart 245 = .ok (.getfield 41, 3) := by decide +kernel
theorem dX8_operatorPart_248 : decode cX8_operatorPart 248 = .ok (.aload_n 0, 1) := by decide +kernel
theorem dX8_operatorPart_249 : decode cX8_operatorPart 249 = .ok (.getfield 31, 3) := by decide +kernel
theorem dX8_operatorPart_252 : decode cX8_operatorPart 252 = .ok (.invokevirtual 129, 3) := by decide +kernel
theorem dX8_operatorPart_255 : decode cX8_operatorPart 255 = .ok (.aload_n 0, 1) := by decide +kernel
theorem dX8_operatorPart_256 : decode cX8_operatorPart 256 = .ok (.getfield 31, 3) := by decide +kernel
theorem dX8_operatorPart_259 : decode cX8_operatorPart 259 = .ok (.invokevirtual 132, 3) := by decide +kernel
theorem dX8_operatorPart_262 : decode cX8_operatorPart 262 = .ok (.ifCond .ne 5, 3) := by decide +kernel
theorem dX8_operatorPart_265 : decode cX8_operatorPart 265 = .ok (.iconst 3, 1) := by decide +kernel
theorem dX8_operatorPart_266 : decode cX8_operatorPart 266 = .ok (.ireturn, 1) := by decide +kernel
theorem dX8_operatorPart_267 : decode cX8_operatorPart 267 = .ok (.aload_n 3, 1) := by decide +kernel
theorem dX8_operatorPart_268 : decode cX8_operatorPart 268 = .ok (.aload_n 0, 1) := by decide +kernel
theorem dX8_operatorPart_269 : decode cX8_operatorPart 269 = .ok (.getfield 31, 3) := by decide +kernel
theorem dX8_operatorPart_272 : decode cX8_operatorPart 272 = .ok (.invokevirtual 72, 3) := by decide +kernel
theorem dX8_operatorPart_275 : decode cX8_operatorPart 275 = .ok (.aload_n 0, 1) := by decide +kernel
theorem dX8_operatorPart_276 : decode cX8_operatorPart 276 = .ok (.dup, 1) := by decide +kernel
theorem dX8_operatorPart_277 : decode cX8_operatorPart 277 = .ok (.getfield 50, 3) := by decide +kernel
theorem dX8_operatorPart_280 : decode cX8_operatorPart 280 = .ok (.iload_n 2, 1) := by decide +kernel
theorem dX8_operatorPart_281 : decode cX8_operatorPart 281 = .ok (.iconst 1, 1) := by decide +kernel
theorem dX8_operatorPart_282 : decode cX8_operatorPart 282 = .ok (.isub, 1) := by decide +kernel
theorem dX8_operatorPart_283 : decode cX8_operatorPart 283 = .ok (.isub, 1) := by decide +kernel
theorem dX8_operatorPart_284 : decode cX8_operatorPart 284 = .ok (.putfield 50, 3) := by decide +kernel
theorem dX8_operatorPart_287 : decode cX8_operatorPart 287 = .ok (.iconst 0, 1) := by decide +kernel
theorem dX8_operatorPart_288 : decode cX8_operatorPart 288 = .ok (.ireturn, 1) := by decide +kernel
theorem dX8_crosswise_0 : decode cX8_crosswise 0 = .ok (.aload_n 0, 1) := by decide +kernel
theorem dX8_crosswise_1 : decode cX8_crosswise 1 = .ok (.getfield 41, 3) := by decide +kernel
theorem dX8_crosswise_4 : decode cX8_crosswise 4 = .ok (.aload_n 0, 1) := by decide +kernel
theorem dX8_crosswise_5 : decode cX8_crosswise 5 = .ok (.getfield 31, 3) := by decide +kernel
theorem dX8_crosswise_8 : decode cX8_crosswise 8 = .ok (.aload_n 1, 1) := by decide +kernel
theorem dX8_crosswise_9 : decode cX8_crosswise 9 = .ok (.aload_n 0, 1) := by decide +kernel
theorem dX8_crosswise_10 : decode cX8_crosswise 10 = .ok (.getfield 28, 3) := by decide +kernel
theorem dX8_crosswise_13 : decode cX8_crosswise 13 = .ok (.invokevirtual 114, 3) := by decide +kernel
theorem dX8_crosswise_16 : decode cX8_crosswise 16 = .ok (.aload_n 0, 1) := by decide +kernel
theorem dX8_crosswise_17 : decode cX8_crosswise 17 = .ok (.getfield 41, 3) := by decide +kernel
theorem dX8_crosswise_20 : decode cX8_crosswise 20 = .ok (.aload_n 0, 1) := by decide +kernel
theorem dX8_crosswise_21 : decode cX8_crosswise 21 = .ok (.getfield 34, 3) := by decide +kernel
theorem dX8_crosswise_24 : decode cX8_crosswise 24 = .ok (.aload_n 0, 1) := by decide +kernel
theorem dX8_crosswise_25 : decode cX8_crosswise 25 = .ok (.getfield 24, 3) := by decide +kernel
theorem dX8_crosswise_28 : decode cX8_crosswise 28 = .ok (.aload_n 2, 1) := by decide +kernel
theorem dX8_crosswise_29 : decode cX8_crosswise 29 = .ok (.invokevirtual 114, 3) := by decide +kernel
theorem dX8_crosswise_32 : decode cX8_crosswise 32 = .ok (.aload_n 0, 1) := by decide +kernel
theorem dX8_crosswise_33 : decode cX8_crosswise 33 = .ok (.getfield 41, 3) := by decide +kernel
theorem dX8_crosswise_36 : decode cX8_crosswise 36 = .ok (.aload_n 0, 1) := by decide +kernel
theorem dX8_crosswise_37 : decode cX8_crosswise 37 = .ok (.getfield 31, 3) := by decide +kernel
theorem dX8_crosswise_40 : decode cX8_crosswise 40 = .ok (.aload_n 0, 1) := by decide +kernel
theorem dX8_crosswise_41 : decode cX8_crosswise 41 = .ok (.getfield 31, 3) := by decide +kernel
theorem dX8_crosswise_44 : decode cX8_crosswise 44 = .ok (.aload_n 0, 1) := by decide +kernel
theorem dX8_crosswise_45 : decode cX8_crosswise 45 = .ok (.getfield 34, 3) := by decide +kernel
theorem dX8_crosswise_48 : decode cX8_crosswise 48 = .ok (.iload_n 3, 1) := by decide +kernel
theorem dX8_crosswise_49 : decode cX8_crosswise 49 = .ok (.invokevirtual 97, 3) := by decide +kernel
theorem dX8_crosswise_52 : decode cX8_crosswise 52 = .ok (.return_, 1) := by decide +kernel
theorem dX8_powerPart_0 : decode cX8_powerPart 0 = .ok (.iload_n 2, 1) := by decide +kernel
theorem dX8_powerPart_1 : decode cX8_powerPart 1 = .ok (.ifCond .ne 12, 3) := by decide +kernel
theorem dX8_powerPart_4 : decode cX8_powerPart 4 = .ok (.aload_n 0, 1) := by decide +kernel
theorem dX8_powerPart_5 : decode cX8_powerPart 5 = .ok (.getfield 31, 3) := by decide +kernel
theorem dX8_powerPart_8 : decode cX8_powerPart 8 = .ok (.lconst 0, 1) := by decide +kernel
theorem dX8_powerPart_9 : decode cX8_powerPart 9 = .ok (.invokevirtual 93, 3) := by decide +kernel
theorem dX8_powerPart_12 : decode cX8_powerPart 12 = .ok (.return_, 1) := by decide +kernel
theorem dX8_powerPart_13 : decode cX8_powerPart 13 = .ok (.aload_n 0, 1) := by decide +kernel
theorem dX8_powerPart_14 : decode cX8_powerPart 14 = .ok (.getfield 41, 3) := by decide +kernel
theorem dX8_powerPart_17 : decode cX8_powerPart 17 = .ok (.aload_n 0, 1) := by decide +kernel
theorem dX8_powerPart_18 : decode cX8_powerPart 18 = .ok (.getfield 31, 3) := by decide +kernel
theorem dX8_powerPart_21 : decode cX8_powerPart 21 = .ok (.aload_n 0, 1) := by decide +kernel
theorem dX8_powerPart_22 : decode cX8_powerPart 22 = .ok (.getfield 24, 3) := by decide +kernel
theorem dX8_powerPart_25 : decode cX8_powerPart 25 = .ok (.iload_n 2, 1) := by decide +kernel
theorem dX8_powerPart_26 : decode cX8_powerPart 26 = .ok (.iconst 1, 1) := by decide +kernel
theorem dX8_powerPart_27 : decode cX8_powerPart 27 = .ok (.isub, 1) := by decide +kernel
theorem dX8_powerPart_28 : decode cX8_powerPart 28 = .ok (.invokevirtual 136, 3) := by decide +kernel
theorem dX8_powerPart_31 : decode cX8_powerPart 31 = .ok (.pop, 1) := by decide +kernel
theorem dX8_powerPart_32 : decode cX8_powerPart 32 = .ok (.aload_n 0, 1) := by decide +kernel
theorem dX8_powerPart_33 : decode cX8_powerPart 33 = .ok (.getfield 41, 3) := by decide +kernel
theorem dX8_powerPart_36 : decode cX8_powerPart 36 = .ok (.aload_n 0, 1) := by decide +kernel
theorem dX8_powerPart_37 : decode cX8_powerPart 37 = .ok (.getfield 31, 3) := by decide +kernel
theorem dX8_powerPart_40 : decode cX8_powerPart 40 = .ok (.aload_n 0, 1) := by decide +kernel
theorem dX8_powerPart_41 : decode cX8_powerPart 41 = .ok (.getfield 31, 3) := by decide +kernel
theorem dX8_powerPart_44 : decode cX8_powerPart 44 = .ok (.aload_n 0, 1) := by decide +kernel
theorem dX8_powerPart_45 : decode cX8_powerPart 45 = .ok (.getfield 28, 3) := by decide +kernel
theorem dX8_powerPart_48 : decode cX8_powerPart 48 = .ok (.invokevirtual 114, 3) := by decide +kernel
theorem dX8_powerPart_51 : decode cX8_powerPart 51 = .ok (.aload_n 0, 1) := by decide +kernel
theorem dX8_powerPart_52 : decode cX8_powerPart 52 = .ok (.getfield 41, 3) := by decide +kernel
theorem dX8_powerPart_55 : decode cX8_powerPart 55 = .ok (.aload_n 0, 1) := by decide +kernel
theorem dX8_powerPart_56 : decode cX8_powerPart 56 = .ok (.getfield 31, 3) := by decide +kernel
theorem dX8_powerPart_59 : decode cX8_powerPart 59 = .ok (.aload_n 0, 1) := by decide +kernel
theorem dX8_powerPart_60 : decode cX8_powerPart 60 = .ok (.getfield 31, 3) := by decide +kernel
theorem dX8_powerPart_63 : decode cX8_powerPart 63 = .ok (.aload_n 1, 1) := by decide +kernel
theorem dX8_powerPart_64 : decode cX8_powerPart 64 = .ok (.invokevirtual 114, 3) := by decide +kernel
theorem dX8_powerPart_67 : decode cX8_powerPart 67 = .ok (.return_, 1) := by decide +kernel
theorem dX9_init_0 : decode cX9_init 0 = .ok (.aload_n 0, 1) := by decide +kernel
theorem dX9_init_1 : decode cX9_init 1 = .ok (.invokespecial 3, 3) := by decide +kernel
theorem dX9_init_4 : decode cX9_init 4 = .ok (.aload_n 0, 1) := by decide +kernel
theorem dX9_init_5 : decode cX9_init 5 = .ok (.bipush 80, 2) := by decide +kernel
theorem dX9_init_7 : decode cX9_init 7 = .ok (.newarray .int, 2) := by decide +kernel
theorem dX9_init_9 : decode cX9_init 9 = .ok (.putfield 11, 3) := by decide +kernel
theorem dX9_init_12 : decode cX9_init 12 = .ok (.aload_n 0, 1) := by decide +kernel
theorem dX9_init_13 : decode cX9_init 13 = .ok (.bipush 80, 2) := by decide +kernel
theorem dX9_init_15 : decode cX9_init 15 = .ok (.newarray .int, 2) := by decide +kernel
theorem dX9_init_17 : decode cX9_init 17 = .ok (.putfield 15, 3) := by decide +kernel
theorem dX9_init_20 : decode cX9_init 20 = .ok (.aload_n 0, 1) := by decide +kernel
theorem dX9_init_21 : decode cX9_init 21 = .ok (.bipush 80, 2) := by decide +kernel
theorem dX9_init_23 : decode cX9_init 23 = .ok (.newarray .int, 2) := by decide +kernel
theorem dX9_init_25 : decode cX9_init 25 = .ok (.putfield 18, 3) := by decide +kernel
theorem dX9_init_28 : decode cX9_init 28 = .ok (.aload_n 0, 1) := by decide +kernel
theorem dX9_init_29 : decode cX9_init 29 = .ok (.bipush 80, 2) := by decide +kernel
theorem dX9_init_31 : decode cX9_init 31 = .ok (.newarray .int, 2) := by decide +kernel
theorem dX9_init_33 : decode cX9_init 33 = .ok (.putfield 21, 3) := by decide +kernel
theorem dX9_init_36 : decode cX9_init 36 = .ok (.aload_n 0, 1) := by decide +kernel
theorem dX9_init_37 : decode cX9_init 37 = .ok (.bipush 80, 2) := by decide +kernel
theorem dX9_init_39 : decode cX9_init 39 = .ok (.newarray .int, 2) := by decide +kernel
theorem dX9_init_41 : decode cX9_init 41 = .ok (.putfield 24, 3) := by decide +kernel
theorem dX9_init_44 : decode cX9_init 44 = .ok (.aload_n 0, 1) := by decide +kernel
theorem dX9_init_45 : decode cX9_init 45 = .ok (.bipush 80, 2) := by decide +kernel
theorem dX9_init_47 : decode cX9_init 47 = .ok (.newarray .int, 2) := by decide +kernel
theorem dX9_init_49 : decode cX9_init 49 = .ok (.putfield 27, 3) := by decide +kernel
theorem dX9_init_52 : decode cX9_init 52 = .ok (.aload_n 0, 1) := by decide +kernel
theorem dX9_init_53 : decode cX9_init 53 = .ok (.bipush 80, 2) := by decide +kernel
theorem dX9_init_55 : decode cX9_init 55 = .ok (.newarray .int, 2) := by decide +kernel
theorem dX9_init_57 : decode cX9_init 57 = .ok (.putfield 30, 3) := by decide +kernel
theorem dX9_init_60 : decode cX9_init 60 = .ok (.return_, 1) := by decide +kernel
theorem dX9_clear_0 : decode cX9_clear 0 = .ok (.aload_n 0, 1) := by decide +kernel
theorem dX9_clear_1 : decode cX9_clear 1 = .ok (.iconst 0, 1) := by decide +kernel
theorem dX9_clear_2 : decode cX9_clear 2 = .ok (.putfield 33, 3) := by decide +kernel
theorem dX9_clear_5 : decode cX9_clear 5 = .ok (.return_, 1) := by decide +kernel
theorem dX9_add_0 : decode cX9_add 0 = .ok (.aload_n 0, 1) := by decide +kernel
theorem dX9_add_1 : decode cX9_add 1 = .ok (.getfield 33, 3) := by decide +kernel
theorem dX9_add_4 : decode cX9_add 4 = .ok (.bipush 80, 2) := by decide +kernel
theorem dX9_add_6 : decode cX9_add 6 = .ok (.if_icmp .lt 5, 3) := by decide +kernel
theorem dX9_add_9 : decode cX9_add 9 = .ok (.iconst 0, 1) := by decide +kernel
theorem dX9_add_10 : decode cX9_add 10 = .ok (.ireturn, 1) := by decide +kernel
theorem dX9_add_11 : decode cX9_add 11 = .ok (.aload_n 0, 1) := by decide +kernel
theorem dX9_add_12 : decode cX9_add 12 = .ok (.getfield 11, 3) := by decide +kernel
theorem dX9_add_15 : decode cX9_add 15 = .ok (.aload_n 0, 1) := by decide +kernel
theorem dX9_add_16 : decode cX9_add 16 = .ok (.getfield 33, 3) := by decide +kernel
theorem dX9_add_19 : decode cX9_add 19 = .ok (.iload_n 1, 1) := by decide +kernel
theorem dX9_add_20 : decode cX9_add 20 = .ok (.iastore, 1) := by decide +kernel
theorem dX9_add_21 : decode cX9_add 21 = .ok (.aload_n 0, 1) := by decide +kernel
theorem dX9_add_22 : decode cX9_add 22 = .ok (.getfield 15, 3) := by decide +kernel
theorem dX9_add_25 : decode cX9_add 25 = .ok (.aload_n 0, 1) := by decide +kernel
theorem dX9_add_26 : decode cX9_add 26 = .ok (.getfield 33, 3) := by decide +kernel
theorem dX9_add_29 : decode cX9_add 29 = .ok (.iload_n 2, 1) := by decide +kernel
theorem dX9_add_30 : decode cX9_add 30 = .ok (.iastore, 1) := by decide +kernel
theorem dX9_add_31 : decode cX9_add 31 = .ok (.aload_n 0, 1) := by decide +kernel
theorem dX9_add_32 : decode cX9_add 32 = .ok (.getfield 18, 3) := by decide +kernel
theorem dX9_add_35 : decode cX9_add 35 = .ok (.aload_n 0, 1) := by decide +kernel
theorem dX9_add_36 : decode cX9_add 36 = .ok (.getfield 33, 3) := by decide +kernel
theorem dX9_add_39 : decode cX9_add 39 = .ok (.iload_n 3, 1) := by decide +kernel
theorem dX9_add_40 : decode cX9_add 40 = .ok (.iastore, 1) := by decide +kernel
theorem dX9_add_41 : decode cX9_add 41 = .ok (.aload_n 0, 1) := by decide +kernel
theorem dX9_add_42 : decode cX9_add 42 = .ok (.getfield 21, 3) := by decide +kernel
theorem dX9_add_45 : decode cX9_add 45 = .ok (.aload_n 0, 1) := by decide +kernel
theorem dX9_add_46 : decode cX9_add 46 = .ok (.getfield 33, 3) := by decide +kernel
theorem dX9_add_49 : decode cX9_add 49 = .ok (.iload 4, 2) := by decide +kernel
theorem dX9_add_51 : decode cX9_add 51 = .ok (.iastore, 1) := by decide +kernel
theorem dX9_add_52 : decode cX9_add 52 = .ok (.aload_n 0, 1) := by decide +kernel
theorem dX9_add_53 : decode cX9_add 53 = .ok (.dup, 1) := by decide +kernel
theorem dX9_add_54 : decode cX9_add 54 = .ok (.getfield 33, 3) := by decide +kernel
theorem dX9_add_57 : decode cX9_add 57 = .ok (.iconst 1, 1) := by decide +kernel
theorem dX9_add_58 : decode cX9_add 58 = .ok (.iadd, 1) := by decide +kernel
theorem dX9_add_59 : decode cX9_add 59 = .ok (.putfield 33, 3) := by decide +kernel
theorem dX9_add_62 : decode cX9_add 62 = .ok (.iconst 1, 1) := by decide +kernel
theorem dX9_add_63 : decode cX9_add 63 = .ok (.ireturn, 1) := by decide +kernel
theorem dX9_addNode_0 : decode cX9_addNode 0 = .ok (.iload_n 2, 1) := by decide +kernel
theorem dX9_addNode_1 : decode cX9_addNode 1 = .ok (.ifCond .lt 46, 3) := by decide +kernel
theorem dX9_addNode_4 : decode cX9_addNode 4 = .ok (.iload_n 2, 1) := by decide +kernel
theorem dX9_addNode_5 : decode cX9_addNode 5 = .ok (.aload_n 1, 1) := by decide +kernel
theorem dX9_addNode_6 : decode cX9_addNode 6 = .ok (.getfield 33, 3) := by decide +kernel
theorem dX9_addNode_9 : decode cX9_addNode 9 = .ok (.if_icmp .ge 38, 3) := by decide +kernel
theorem dX9_addNode_12 : decode cX9_addNode 12 = .ok (.aload_n 0, 1) := by decide +kernel
theorem dX9_addNode_13 : decode cX9_addNode 13 = .ok (.aload_n 1, 1) := by decide +kernel
theorem dX9_addNode_14 : decode cX9_addNode 14 = .ok (.getfield 11, 3) := by decide +kernel
theorem dX9_addNode_17 : decode cX9_addNode 17 = .ok (.iload_n 2, 1) := by decide +kernel
theorem dX9_addNode_18 : decode cX9_addNode 18 = .ok (.iaload, 1) := by decide +kernel
theorem dX9_addNode_19 : decode cX9_addNode 19 = .ok (.aload_n 1, 1) := by decide +kernel
theorem dX9_addNode_20 : decode cX9_addNode 20 = .ok (.getfield 15, 3) := by decide +kernel
theorem dX9_addNode_23 : decode cX9_addNode 23 = .ok (.iload_n 2, 1) := by decide +kernel
theorem dX9_addNode_24 : decode cX9_addNode 24 = .ok (.iaload, 1) := by decide +kernel
theorem dX9_addNode_25 : decode cX9_addNode 25 = .ok (.aload_n 1, 1) := by decide +kernel
theorem dX9_addNode_26 : decode cX9_addNode 26 = .ok (.getfield 18, 3) := by decide +kernel
theorem dX9_addNode_29 : decode cX9_addNode 29 = .ok (.iload_n 2, 1) := by decide +kernel
theorem dX9_addNode_30 : decode cX9_addNode 30 = .ok (.iaload, 1) := by decide +kernel
theorem dX9_addNode_31 : decode cX9_addNode 31 = .ok (.aload_n 1, 1) := by decide +kernel
theorem dX9_addNode_32 : decode cX9_addNode 32 = .ok (.getfield 21, 3) := by decide +kernel
theorem dX9_addNode_35 : decode cX9_addNode 35 = .ok (.iload_n 2, 1) := by decide +kernel
theorem dX9_addNode_36 : decode cX9_addNode 36 = .ok (.iaload, 1) := by decide +kernel
theorem dX9_addNode_37 : decode cX9_addNode 37 = .ok (.invokevirtual 37, 3) := by decide +kernel
theorem dX9_addNode_40 : decode cX9_addNode 40 = .ok (.ifCond .eq 7, 3) := by decide +kernel
theorem dX9_addNode_43 : decode cX9_addNode 43 = .ok (.iconst 1, 1) := by decide +kernel
theorem dX9_addNode_44 : decode cX9_addNode 44 = .ok (.goto 4, 3) := by decide +kernel
theorem dX9_addNode_47 : decode cX9_addNode 47 = .ok (.iconst 0, 1) := by decide +kernel
theorem dX9_addNode_48 : decode cX9_addNode 48 = .ok (.ireturn, 1) := by decide +kernel
theorem dX9_addPart_0 : decode cX9_addPart 0 = .ok (.iload_n 2, 1) := by decide +kernel
theorem dX9_addPart_1 : decode cX9_addPart 1 = .ok (.ifCond .lt 11, 3) := by decide +kernel
theorem dX9_addPart_4 : decode cX9_addPart 4 = .ok (.iload_n 2, 1) := by decide +kernel
theorem dX9_addPart_5 : decode cX9_addPart 5 = .ok (.aload_n 1, 1) := by decide +kernel
theorem dX9_addPart_6 : decode cX9_addPart 6 = .ok (.getfield 33, 3) := by decide +kernel
theorem dX9_addPart_9 : decode cX9_addPart 9 = .ok (.if_icmp .lt 5, 3) := by decide +kernel
theorem dX9_addPart_12 : decode cX9_addPart 12 = .ok (.iconst 0, 1) := by decide +kernel
theorem dX9_addPart_13 : decode cX9_addPart 13 = .ok (.ireturn, 1) := by decide +kernel
theorem dX9_addPart_14 : decode cX9_addPart 14 = .ok (.iload_n 2, 1) := by decide +kernel
theorem dX9_addPart_15 : decode cX9_addPart 15 = .ok (.aload_n 1, 1) := by decide +kernel
theorem dX9_addPart_16 : decode cX9_addPart 16 = .ok (.getfield 24, 3) := by decide +kernel
theorem dX9_addPart_19 : decode cX9_addPart 19 = .ok (.iload_n 2, 1) := by decide +kernel
theorem dX9_addPart_20 : decode cX9_addPart 20 = .ok (.iaload, 1) := by decide +kernel
theorem dX9_addPart_21 : decode cX9_addPart 21 = .ok (.iadd, 1) := by decide +kernel
theorem dX9_addPart_22 : decode cX9_addPart 22 = .ok (.aload_n 1, 1) := by decide +kernel
theorem dX9_addPart_23 : decode cX9_addPart 23 = .ok (.getfield 33, 3) := by decide +kernel
theorem dX9_addPart_26 : decode cX9_addPart 26 = .ok (.invokestatic 41, 3) := by decide +kernel
theorem dX9_addPart_29 : decode cX9_addPart 29 = .ok (.istore_n 3, 1) := by decide +kernel
theorem dX9_addPart_30 : decode cX9_addPart 30 = .ok (.iconst 1, 1) := by decide +kernel
theorem dX9_addPart_31 : decode cX9_addPart 31 = .ok (.istore 4, 2) := by decide +kernel
theorem dX9_addPart_33 : decode cX9_addPart 33 = .ok (.iload_n 2, 1) := by decide +kernel
theorem dX9_addPart_34 : decode cX9_addPart 34 = .ok (.istore 5, 2) := by decide +kernel
theorem dX9_addPart_36 : decode cX9_addPart 36 = .ok (.iload 5, 2) := by decide +kernel
theorem dX9_addPart_38 : decode cX9_addPart 38 = .ok (.iload_n 3, 1) := by decide +kernel
theorem dX9_addPart_39 : decode cX9_addPart 39 = .ok (.if_icmp .ge 23, 3) := by decide +kernel
theorem dX9_addPart_42 : decode cX9_addPart 42 = .ok (.iload 4, 2) := by decide +kernel
theorem dX9_addPart_44 : decode cX9_addPart 44 = .ok (.ifCond .eq 18, 3) := by decide +kernel
theorem dX9_addPart_47 : decode cX9_addPart 47 = .ok (.aload_n 0, 1) := by decide +kernel
theorem dX9_addPart_48 : decode cX9_addPart 48 = .ok (.aload_n 1, 1) := by decide +kernel
theorem dX9_addPart_49 : decode cX9_addPart 49 = .ok (.iload 5, 2) := by decide +kernel
theorem dX9_addPart_51 : decode cX9_addPart 51 = .ok (.invokevirtual 47, 3) := by decide +kernel
theorem dX9_addPart_54 : decode cX9_addPart 54 = .ok (.istore 4, 2) := by decide +kernel
theorem dX9_addPart_56 : decode cX9_addPart 56 = .ok (.iinc 5 1, 3) := by decide +kernel
theorem dX9_addPart_59 : decode cX9_addPart 59 = .ok (.goto (-23), 3) := by decide +kernel
theorem dX9_addPart_62 : decode cX9_addPart 62 = .ok (.iload 4, 2) := by decide +kernel
theorem dX9_addPart_64 : decode cX9_addPart 64 = .ok (.ireturn, 1) := by decide +kernel
theorem dX9_copy_0 : decode cX9_copy 0 = .ok (.aload_n 0, 1) := by decide +kernel
theorem dX9_copy_1 : decode cX9_copy 1 = .ok (.invokevirtual 51, 3) := by decide +kernel
theorem dX9_copy_4 : decode cX9_copy 4 = .ok (.aload_n 0, 1) := by decide +kernel
theorem dX9_copy_5 : decode cX9_copy 5 = .ok (.aload_n 1, 1) := by decide +kernel
theorem dX9_copy_6 : decode cX9_copy 6 = .ok (.iconst 0, 1) := by decide +kernel
theorem dX9_copy_7 : decode cX9_copy 7 = .ok (.invokevirtual 54, 3) := by decide +kernel
theorem dX9_copy_10 : decode cX9_copy 10 = .ok (.pop, 1) := by decide +kernel
theorem dX9_copy_11 : decode cX9_copy 11 = .ok (.aload_n 0, 1) := by decide +kernel
theorem dX9_copy_12 : decode cX9_copy 12 = .ok (.invokevirtual 57, 3) := by decide +kernel
theorem dX9_copy_15 : decode cX9_copy 15 = .ok (.return_, 1) := by decide +kernel
theorem dX9_measure_0 : decode cX9_measure 0 = .ok (.aload_n 0, 1) := by decide +kernel
theorem dX9_measure_1 : decode cX9_measure 1 = .ok (.getfield 33, 3) := by decide +kernel
theorem dX9_measure_4 : decode cX9_measure 4 = .ok (.iconst 1, 1) := by decide +kernel
theorem dX9_measure_5 : decode cX9_measure 5 = .ok (.isub, 1) := by decide +kernel
theorem dX9_measure_6 : decode cX9_measure 6 = .ok (.istore_n 1, 1) := by decide +kernel
theorem dX9_measure_7 : decode cX9_measure 7 = .ok (.iload_n 1, 1) := by decide +kernel
theorem dX9_measure_8 : decode cX9_measure 8 = .ok (.ifCond .lt 57, 3) := by decide +kernel
theorem dX9_measure_11 : decode cX9_measure 11 = .ok (.iload_n 1, 1) := by decide +kernel
theorem dX9_measure_12 : decode cX9_measure 12 = .ok (.iconst 1, 1) := by decide +kernel
theorem dX9_measure_13 : decode cX9_measure 13 = .ok (.iadd, 1) := by decide +kernel
theorem dX9_measure_14 : decode cX9_measure 14 = .ok (.istore_n 2, 1) := by decide +kernel
theorem dX9_measure_15 : decode cX9_measure 15 = .ok (.iconst 0, 1) := by decide +kernel
theorem dX9_measure_16 : decode cX9_measure 16 = .ok (.istore_n 3, 1) := by decide +kernel
theorem dX9_measure_17 : decode cX9_measure 17 = .ok (.iload_n 3, 1) := by decide +kernel
theorem dX9_measure_18 : decode cX9_measure 18 = .ok (.aload_n 0, 1) := by decide +kernel
theorem dX9_measure_19 : decode cX9_measure 19 = .ok (.getfield 21, 3) := by decide +kernel
theorem dX9_measure_22 : decode cX9_measure 22 = .ok (.iload_n 1, 1) := by decide +kernel
theorem dX9_measure_23 : decode cX9_measure 23 = .ok (.iaload, 1) := by decide +kernel
theorem dX9_measure_24 : decode cX9_measure 24 = .ok (.if_icmp .ge 26, 3) := by decide +kernel
theorem dX9_measure_27 : decode cX9_measure 27 = .ok (.iload_n 2, 1) := by decide +kernel
theorem dX9_measure_28 : decode cX9_measure 28 = .ok (.aload_n 0, 1) := by decide +kernel
theorem dX9_measure_29 : decode cX9_measure 29 = .ok (.getfield 33, 3) := by decide +kernel
theorem dX9_measure_32 : decode cX9_measure 32 = .ok (.if_icmp .ge 18, 3) := by decide +kernel
theorem dX9_measure_35 : decode cX9_measure 35 = .ok (.iload_n 2, 1) := by decide +kernel
theorem dX9_measure_36 : decode cX9_measure 36 = .ok (.aload_n 0, 1) := by decide +kernel
theorem dX9_measure_37 : decode cX9_measure 37 = .ok (.getfield 24, 3) := by decide +kernel
theorem dX9_measure_40 : decode cX9_measure 40 = .ok (.iload_n 2, 1) := by decide +kernel
theorem dX9_measure_41 : decode cX9_measure 41 = .ok (.iaload, 1) := by decide +kernel
theorem dX9_measure_42 : decode cX9_measure 42 = .ok (.iadd, 1) := by decide +kernel
theorem dX9_measure_43 : decode cX9_measure 43 = .ok (.istore_n 2, 1) := by decide +kernel
theorem dX9_measure_44 : decode cX9_measure 44 = .ok (.iinc 3 1, 3) := by decide +kernel
theorem dX9_measure_47 : decode cX9_measure 47 = .ok (.goto (-30), 3) := by decide +kernel
theorem dX9_measure_50 : decode cX9_measure 50 = .ok (.aload_n 0, 1) := by decide +kernel
theorem dX9_measure_51 : decode cX9_measure 51 = .ok (.getfield 24, 3) := by decide +kernel
theorem dX9_measure_54 : decode cX9_measure 54 = .ok (.iload_n 1, 1) := by decide +kernel
theorem dX9_measure_55 : decode cX9_measure 55 = .ok (.iload_n 2, 1) := by decide +kernel
theorem dX9_measure_56 : decode cX9_measure 56 = .ok (.iload_n 1, 1) := by decide +kernel
theorem dX9_measure_57 : decode cX9_measure 57 = .ok (.isub, 1) := by decide +kernel
theorem dX9_measure_58 : decode cX9_measure 58 = .ok (.iastore, 1) := by decide +kernel
theorem dX9_measure_59 : decode cX9_measure 59 = .ok (.iinc 1 (-1), 3) := by decide +kernel
theorem dX9_measure_62 : decode cX9_measure 62 = .ok (.goto (-55), 3) := by decide +kernel
theorem dX9_measure_65 : decode cX9_measure 65 = .ok (.aload_n 0, 1) := by decide +kernel
theorem dX9_measure_66 : decode cX9_measure 66 = .ok (.getfield 27, 3) := by decide +kernel
theorem dX9_measure_69 : decode cX9_measure 69 = .ok (.iconst 0, 1) := by decide +kernel
theorem dX9_measure_70 : decode cX9_measure 70 = .ok (.aload_n 0, 1) := by decide +kernel
theorem dX9_measure_71 : decode cX9_measure 71 = .ok (.getfield 33, 3) := by decide +kernel
theorem dX9_measure_74 : decode cX9_measure 74 = .ok (.iconst 1, 1) := by decide +kernel
theorem dX9_measure_75 : decode cX9_measure 75 = .ok (.isub, 1) := by decide +kernel
theorem dX9_measure_76 : decode cX9_measure 76 = .ok (.iastore, 1) := by decide +kernel
theorem dX9_measure_77 : decode cX9_measure 77 = .ok (.iconst 0, 1) := by decide +kernel
theorem dX9_measure_78 : decode cX9_measure 78 = .ok (.istore_n 1, 1) := by decide +kernel
theorem dX9_measure_79 : decode cX9_measure 79 = .ok (.iload_n 1, 1) := by decide +kernel
theorem dX9_measure_80 : decode cX9_measure 80 = .ok (.aload_n 0, 1) := by decide +kernel
theorem dX9_measure_81 : decode cX9_measure 81 = .ok (.getfield 33, 3) := by decide +kernel
theorem dX9_measure_84 : decode cX9_measure 84 = .ok (.if_icmp .ge 84, 3) := by decide +kernel
theorem dX9_measure_87 : decode cX9_measure 87 = .ok (.aload_n 0, 1) := by decide +kernel
theorem dX9_measure_88 : decode cX9_measure 88 = .ok (.getfield 27, 3) := by decide +kernel
theorem dX9_measure_91 : decode cX9_measure 91 = .ok (.iload_n 1, 1) := by decide +kernel
theorem dX9_measure_92 : decode cX9_measure 92 = .ok (.iaload, 1) := by decide +kernel
theorem dX9_measure_93 : decode cX9_measure 93 = .ok (.aload_n 0, 1) := by decide +kernel
theorem dX9_measure_94 : decode cX9_measure 94 = .ok (.getfield 24, 3) := by decide +kernel
theorem dX9_measure_97 : decode cX9_measure 97 = .ok (.iload_n 1, 1) := by decide +kernel
theorem dX9_measure_98 : decode cX9_measure 98 = .ok (.iaload, 1) := by decide +kernel
theorem dX9_measure_99 : decode cX9_measure 99 = .ok (.isub, 1) := by decide +kernel
theorem dX9_measure_100 : decode cX9_measure 100 = .ok (.iconst 1, 1) := by decide +kernel
theorem dX9_measure_101 : decode cX9_measure 101 = .ok (.iadd, 1) := by decide +kernel
theorem dX9_measure_102 : decode cX9_measure 102 = .ok (.istore_n 2, 1) := by decide +kernel
theorem dX9_measure_103 : decode cX9_measure 103 = .ok (.iload_n 1, 1) := by decide +kernel
theorem dX9_measure_104 : decode cX9_measure 104 = .ok (.iconst 1, 1) := by decide +kernel
theorem dX9_measure_105 : decode cX9_measure 105 = .ok (.iadd, 1) := by decide +kernel
theorem dX9_measure_106 : decode cX9_measure 106 = .ok (.istore_n 3, 1) := by decide +kernel
theorem dX9_measure_107 : decode cX9_measure 107 = .ok (.iconst 0, 1) := by decide +kernel
theorem dX9_measure_108 : decode cX9_measure 108 = .ok (.istore 4, 2) := by decide +kernel
theorem dX9_measure_110 : decode cX9_measure 110 = .ok (.iload 4, 2) := by decide +kernel
theorem dX9_measure_112 : decode cX9_measure 112 = .ok (.aload_n 0, 1) := by decide +kernel
theorem dX9_measure_113 : decode cX9_measure 113 = .ok (.getfield 21, 3) := by decide +kernel
theorem dX9_measure_116 : decode cX9_measure 116 = .ok (.iload_n 1, 1) := by decide +kernel
theorem dX9_measure_117 : decode cX9_measure 117 = .ok (.iaload, 1) := by decide +kernel
theorem dX9_measure_118 : decode cX9_measure 118 = .ok (.if_icmp .ge 44, 3) := by decide +kernel
theorem dX9_measure_121 : decode cX9_measure 121 = .ok (.iload_n 3, 1) := by decide +kernel
theorem dX9_measure_122 : decode cX9_measure 122 = .ok (.aload_n 0, 1) := by decide +kernel
theorem dX9_measure_123 : decode cX9_measure 123 = .ok (.getfield 33, 3) := by decide +kernel
theorem dX9_measure_126 : decode cX9_measure 126 = .ok (.if_icmp .ge 36, 3) := by decide +kernel
theorem dX9_measure_129 : decode cX9_measure 129 = .ok (.iload_n 2, 1) := by decide +kernel
theorem dX9_measure_130 : decode cX9_measure 130 = .ok (.aload_n 0, 1) := by decide +kernel
theorem dX9_measure_131 : decode cX9_measure 131 = .ok (.getfield 24, 3) := by decide +kernel
theorem dX9_measure_134 : decode cX9_measure 134 = .ok (.iload_n 3, 1) := by decide +kernel
theorem dX9_measure_135 : decode cX9_measure 135 = .ok (.iaload, 1) := by decide +kernel
theorem dX9_measure_136 : decode cX9_measure 136 = .ok (.iadd, 1) := by decide +kernel
theorem dX9_measure_137 : decode cX9_measure 137 = .ok (.istore_n 2, 1) := by decide +kernel
theorem dX9_measure_138 : decode cX9_measure 138 = .ok (.aload_n 0, 1) := by decide +kernel
theorem dX9_measure_139 : decode cX9_measure 139 = .ok (.getfield 27, 3) := by decide +kernel
theorem dX9_measure_142 : decode cX9_measure 142 = .ok (.iload_n 3, 1) := by decide +kernel
theorem dX9_measure_143 : decode cX9_measure 143 = .ok (.iload_n 2, 1) := by decide +kernel
theorem dX9_measure_144 : decode cX9_measure 144 = .ok (.iconst 1, 1) := by decide +kernel
theorem dX9_measure_145 : decode cX9_measure 145 = .ok (.isub, 1) := by decide +kernel
theorem dX9_measure_146 : decode cX9_measure 146 = .ok (.iastore, 1) := by decide +kernel
theorem dX9_measure_147 : decode cX9_measure 147 = .ok (.iload_n 3, 1) := by decide +kernel
theorem dX9_measure_148 : decode cX9_measure 148 = .ok (.aload_n 0, 1) := by decide +kernel
theorem dX9_measure_149 : decode cX9_measure 149 = .ok (.getfield 24, 3) := by decide +kernel
theorem dX9_measure_152 : decode cX9_measure 152 = .ok (.iload_n 3, 1) := by decide +kernel
theorem dX9_measure_153 : decode cX9_measure 153 = .ok (.iaload, 1) := by decide +kernel
theorem dX9_measure_154 : decode cX9_measure 154 = .ok (.iadd, 1) := by decide +kernel
theorem dX9_measure_155 : decode cX9_measure 155 = .ok (.istore_n 3, 1) := by decide +kernel
theorem dX9_measure_156 : decode cX9_measure 156 = .ok (.iinc 4 1, 3) := by decide +kernel
theorem dX9_measure_159 : decode cX9_measure 159 = .ok (.goto (-49), 3) := by decide +kernel
theorem dX9_measure_162 : decode cX9_measure 162 = .ok (.iinc 1 1, 3) := by decide +kernel
theorem dX9_measure_165 : decode cX9_measure 165 = .ok (.goto (-86), 3) := by decide +kernel
theorem dX9_measure_168 : decode cX9_measure 168 = .ok (.iconst 0, 1) := by decide +kernel
theorem dX9_measure_169 : decode cX9_measure 169 = .ok (.istore_n 1, 1) := by decide +kernel
theorem dX9_measure_170 : decode cX9_measure 170 = .ok (.iload_n 1, 1) := by decide +kernel
theorem dX9_measure_171 : decode cX9_measure 171 = .ok (.aload_n 0, 1) := by decide +kernel
theorem dX9_measure_172 : decode cX9_measure 172 = .ok (.getfield 33, 3) := by decide +kernel
theorem dX9_measure_175 : decode cX9_measure 175 = .ok (.if_icmp .ge 41, 3) := by decide +kernel
theorem dX9_measure_178 : decode cX9_measure 178 = .ok (.aload_n 0, 1) := by decide +kernel
theorem dX9_measure_179 : decode cX9_measure 179 = .ok (.getfield 27, 3) := by decide +kernel
theorem dX9_measure_182 : decode cX9_measure 182 = .ok (.iload_n 1, 1) := by decide +kernel
theorem dX9_measure_183 : decode cX9_measure 183 = .ok (.iaload, 1) := by decide +kernel
theorem dX9_measure_184 : decode cX9_measure 184 = .ok (.ifCond .lt 26, 3) := by decide +kernel
theorem dX9_measure_187 : decode cX9_measure 187 = .ok (.aload_n 0, 1) := by decide +kernel
theorem dX9_measure_188 : decode cX9_measure 188 = .ok (.getfield 27, 3) := by decide +kernel
theorem dX9_measure_191 : decode cX9_measure 191 = .ok (.iload_n 1, 1) := by decide +kernel
theorem dX9_measure_192 : decode cX9_measure 192 = .ok (.iaload, 1) := by decide +kernel
theorem dX9_measure_193 : decode cX9_measure 193 = .ok (.bipush 80, 2) := by decide +kernel
theorem dX9_measure_195 : decode cX9_measure 195 = .ok (.if_icmp .ge 15, 3) := by decide +kernel
theorem dX9_measure_198 : decode cX9_measure 198 = .ok (.aload_n 0, 1) := by decide +kernel
theorem dX9_measure_199 : decode cX9_measure 199 = .ok (.getfield 30, 3) := by decide +kernel
theorem dX9_measure_202 : decode cX9_measure 202 = .ok (.aload_n 0, 1) := by decide +kernel
theorem dX9_measure_203 : decode cX9_measure 203 = .ok (.getfield 27, 3) := by decide +kernel
theorem dX9_measure_206 : decode cX9_measure 206 = .ok (.iload_n 1, 1) := by decide +kernel
theorem dX9_measure_207 : decode cX9_measure 207 = .ok (.iaload, 1) := by decide +kernel
theorem dX9_measure_208 : decode cX9_measure 208 = .ok (.iload_n 1, 1) := by decide +kernel
theorem dX9_measure_209 : decode cX9_measure 209 = .ok (.iastore, 1) := by decide +kernel
theorem dX9_measure_210 : decode cX9_measure 210 = .ok (.iinc 1 1, 3) := by decide +kernel
theorem dX9_measure_213 : decode cX9_measure 213 = .ok (.goto (-43), 3) := by decide +kernel
theorem dX9_measure_216 : decode cX9_measure 216 = .ok (.return_, 1) := by decide +kernel
theorem dX9_turn_0 : decode cX9_turn 0 = .ok (.aload_n 0, 1) := by decide +kernel
theorem dX9_turn_1 : decode cX9_turn 1 = .ok (.aload_n 1, 1) := by decide +kernel
theorem dX9_turn_2 : decode cX9_turn 2 = .ok (.getfield 33, 3) := by decide +kernel
theorem dX9_turn_5 : decode cX9_turn 5 = .ok (.putfield 33, 3) := by decide +kernel
theorem dX9_turn_8 : decode cX9_turn 8 = .ok (.iconst 0, 1) := by decide +kernel
theorem dX9_turn_9 : decode cX9_turn 9 = .ok (.istore_n 2, 1) := by decide +kernel
theorem dX9_turn_10 : decode cX9_turn 10 = .ok (.iload_n 2, 1) := by decide +kernel
theorem dX9_turn_11 : decode cX9_turn 11 = .ok (.aload_n 0, 1) := by decide +kernel
theorem dX9_turn_12 : decode cX9_turn 12 = .ok (.getfield 33, 3) := by decide +kernel
theorem dX9_turn_15 : decode cX9_turn 15 = .ok (.if_icmp .ge 57, 3) := by decide +kernel
theorem dX9_turn_18 : decode cX9_turn 18 = .ok (.iload_n 2, 1) := by decide +kernel
theorem dX9_turn_19 : decode cX9_turn 19 = .ok (.istore_n 3, 1) := by decide +kernel
theorem dX9_turn_20 : decode cX9_turn 20 = .ok (.iconst 0, 1) := by decide +kernel
theorem dX9_turn_21 : decode cX9_turn 21 = .ok (.istore 4, 2) := by decide +kernel
theorem dX9_turn_23 : decode cX9_turn 23 = .ok (.iload 4, 2) := by decide +kernel
theorem dX9_turn_25 : decode cX9_turn 25 = .ok (.aload_n 1, 1) := by decide +kernel
theorem dX9_turn_26 : decode cX9_turn 26 = .ok (.getfield 21, 3) := by decide +kernel
theorem dX9_turn_29 : decode cX9_turn 29 = .ok (.iload_n 2, 1) := by decide +kernel
theorem dX9_turn_30 : decode cX9_turn 30 = .ok (.iaload, 1) := by decide +kernel
theorem dX9_turn_31 : decode cX9_turn 31 = .ok (.if_icmp .ge 24, 3) := by decide +kernel
theorem dX9_turn_34 : decode cX9_turn 34 = .ok (.iload_n 3, 1) := by decide +kernel
theorem dX9_turn_35 : decode cX9_turn 35 = .ok (.ifCond .le 20, 3) := by decide +kernel
theorem dX9_turn_38 : decode cX9_turn 38 = .ok (.iload_n 3, 1) := by decide +kernel
theorem dX9_turn_39 : decode cX9_turn 39 = .ok (.aload_n 1, 1) := by decide +kernel
theorem dX9_turn_40 : decode cX9_turn 40 = .ok (.getfield 24, 3) := by decide +kernel
theorem dX9_turn_43 : decode cX9_turn 43 = .ok (.iload_n 3, 1) := by decide +kernel
theorem dX9_turn_44 : decode cX9_turn 44 = .ok (.iconst 1, 1) := by decide +kernel
theorem dX9_turn_45 : decode cX9_turn 45 = .ok (.isub, 1) := by decide +kernel
theorem dX9_turn_46 : decode cX9_turn 46 = .ok (.iaload, 1) := by decide +kernel
theorem dX9_turn_47 : decode cX9_turn 47 = .ok (.isub, 1) := by decide +kernel
theorem dX9_turn_48 : decode cX9_turn 48 = .ok (.istore_n 3, 1) := by decide +kernel
theorem dX9_turn_49 : decode cX9_turn 49 = .ok (.iinc 4 1, 3) := by decide +kernel
theorem dX9_turn_52 : decode cX9_turn 52 = .ok (.goto (-29), 3) := by decide +kernel
theorem dX9_turn_55 : decode cX9_turn 55 = .ok (.aload_n 1, 1) := by decide +kernel
theorem dX9_turn_56 : decode cX9_turn 56 = .ok (.getfield 24, 3) := by decide +kernel
theorem dX9_turn_59 : decode cX9_turn 59 = .ok (.iload_n 2, 1) := by decide +kernel
theorem dX9_turn_60 : decode cX9_turn 60 = .ok (.iload_n 2, 1) := by decide +kernel
theorem dX9_turn_61 : decode cX9_turn 61 = .ok (.iload_n 3, 1) := by decide +kernel
theorem dX9_turn_62 : decode cX9_turn 62 = .ok (.isub, 1) := by decide +kernel
theorem dX9_turn_63 : decode cX9_turn 63 = .ok (.iconst 1, 1) := by decide +kernel
theorem dX9_turn_64 : decode cX9_turn 64 = .ok (.iadd, 1) := by decide +kernel
theorem dX9_turn_65 : decode cX9_turn 65 = .ok (.iastore, 1) := by decide +kernel
theorem dX9_turn_66 : decode cX9_turn 66 = .ok (.iinc 2 1, 3) := by decide +kernel
theorem dX9_turn_69 : decode cX9_turn 69 = .ok (.goto (-59), 3) := by decide +kernel
theorem dX9_turn_72 : decode cX9_turn 72 = .ok (.aload_n 1, 1) := by decide +kernel
theorem dX9_turn_73 : decode cX9_turn 73 = .ok (.getfield 27, 3) := by decide +kernel
theorem dX9_turn_76 : decode cX9_turn 76 = .ok (.aload_n 0, 1) := by decide +kernel
theorem dX9_turn_77 : decode cX9_turn 77 = .ok (.getfield 33, 3) := by decide +kernel
theorem dX9_turn_80 : decode cX9_turn 80 = .ok (.iconst 1, 1) := by decide +kernel
theorem dX9_turn_81 : decode cX9_turn 81 = .ok (.isub, 1) := by decide +kernel
theorem dX9_turn_82 : decode cX9_turn 82 = .ok (.iconst 0, 1) := by decide +kernel
theorem dX9_turn_83 : decode cX9_turn 83 = .ok (.invokestatic 60, 3) := by decide +kernel
theorem dX9_turn_86 : decode cX9_turn 86 = .ok (.iconst 0, 1) := by decide +kernel
theorem dX9_turn_87 : decode cX9_turn 87 = .ok (.iastore, 1) := by decide +kernel
theorem dX9_turn_88 : decode cX9_turn 88 = .ok (.aload_n 0, 1) := by decide +kernel
theorem dX9_turn_89 : decode cX9_turn 89 = .ok (.getfield 33, 3) := by decide +kernel
theorem dX9_turn_92 : decode cX9_turn 92 = .ok (.iconst 1, 1) := by decide +kernel
theorem dX9_turn_93 : decode cX9_turn 93 = .ok (.isub, 1) := by decide +kernel
theorem dX9_turn_94 : decode cX9_turn 94 = .ok (.istore_n 2, 1) := by decide +kernel
theorem dX9_turn_95 : decode cX9_turn 95 = .ok (.iload_n 2, 1) := by decide +kernel
theorem dX9_turn_96 : decode cX9_turn 96 = .ok (.ifCond .lt 95, 3) := by decide +kernel
theorem dX9_turn_99 : decode cX9_turn 99 = .ok (.aload_n 1, 1) := by decide +kernel
theorem dX9_turn_100 : decode cX9_turn 100 = .ok (.getfield 27, 3) := by decide +kernel
theorem dX9_turn_103 : decode cX9_turn 103 = .ok (.iload_n 2, 1) := by decide +kernel
theorem dX9_turn_104 : decode cX9_turn 104 = .ok (.iaload, 1) := by decide +kernel
theorem dX9_turn_105 : decode cX9_turn 105 = .ok (.aload_n 1, 1) := by decide +kernel
theorem dX9_turn_106 : decode cX9_turn 106 = .ok (.getfield 24, 3) := by decide +kernel
theorem dX9_turn_109 : decode cX9_turn 109 = .ok (.iload_n 2, 1) := by decide +kernel
theorem dX9_turn_110 : decode cX9_turn 110 = .ok (.iaload, 1) := by decide +kernel
theorem dX9_turn_111 : decode cX9_turn 111 = .ok (.iadd, 1) := by decide +kernel
theorem dX9_turn_112 : decode cX9_turn 112 = .ok (.istore_n 3, 1) := by decide +kernel
theorem dX9_turn_113 : decode cX9_turn 113 = .ok (.iload_n 2, 1) := by decide +kernel
theorem dX9_turn_114 : decode cX9_turn 114 = .ok (.iconst 1, 1) := by decide +kernel
theorem dX9_turn_115 : decode cX9_turn 115 = .ok (.isub, 1) := by decide +kernel
theorem dX9_turn_116 : decode cX9_turn 116 = .ok (.istore 4, 2) := by decide +kernel
theorem dX9_turn_118 : decode cX9_turn 118 = .ok (.iconst 0, 1) := by decide +kernel
theorem dX9_turn_119 : decode cX9_turn 119 = .ok (.istore 5, 2) := by decide +kernel
theorem dX9_turn_121 : decode cX9_turn 121 = .ok (.iload 5, 2) := by decide +kernel
theorem dX9_turn_123 : decode cX9_turn 123 = .ok (.aload_n 1, 1) := by decide +kernel
theorem dX9_turn_124 : decode cX9_turn 124 = .ok (.getfield 21, 3) := by decide +kernel
theorem dX9_turn_127 : decode cX9_turn 127 = .ok (.iload_n 2, 1) := by decide +kernel
theorem dX9_turn_128 : decode cX9_turn 128 = .ok (.iaload, 1) := by decide +kernel
theorem dX9_turn_129 : decode cX9_turn 129 = .ok (.if_icmp .ge 44, 3) := by decide +kernel
theorem dX9_turn_132 : decode cX9_turn 132 = .ok (.iload 4, 2) := by decide +kernel
theorem dX9_turn_134 : decode cX9_turn 134 = .ok (.ifCond .lt 39, 3) := by decide +kernel
theorem dX9_turn_137 : decode cX9_turn 137 = .ok (.iload_n 3, 1) := by decide +kernel
theorem dX9_turn_138 : decode cX9_turn 138 = .ok (.aload_n 1, 1) := by decide +kernel
theorem dX9_turn_139 : decode cX9_turn 139 = .ok (.getfield 24, 3) := by decide +kernel
theorem dX9_turn_142 : decode cX9_turn 142 = .ok (.iload 4, 2) := by decide +kernel
theorem dX9_turn_144 : decode cX9_turn 144 = .ok (.iaload, 1) := by decide +kernel
theorem dX9_turn_145 : decode cX9_turn 145 = .ok (.isub, 1) := by decide +kernel
theorem dX9_turn_146 : decode cX9_turn 146 = .ok (.istore_n 3, 1) := by decide +kernel
theorem dX9_turn_147 : decode cX9_turn 147 = .ok (.aload_n 1, 1) := by decide +kernel
theorem dX9_turn_148 : decode cX9_turn 148 = .ok (.getfield 27, 3) := by decide +kernel
theorem dX9_turn_151 : decode cX9_turn 151 = .ok (.iload 4, 2) := by decide +kernel
theorem dX9_turn_153 : decode cX9_turn 153 = .ok (.iload_n 3, 1) := by decide +kernel
theorem dX9_turn_154 : decode cX9_turn 154 = .ok (.iastore, 1) := by decide +kernel
theorem dX9_turn_155 : decode cX9_turn 155 = .ok (.iload 4, 2) := by decide +kernel
theorem dX9_turn_157 : decode cX9_turn 157 = .ok (.aload_n 1, 1) := by decide +kernel
theorem dX9_turn_158 : decode cX9_turn 158 = .ok (.getfield 24, 3) := by decide +kernel
theorem dX9_turn_161 : decode cX9_turn 161 = .ok (.iload 4, 2) := by decide +kernel
theorem dX9_turn_163 : decode cX9_turn 163 = .ok (.iaload, 1) := by decide +kernel
theorem dX9_turn_164 : decode cX9_turn 164 = .ok (.isub, 1) := by decide +kernel
theorem dX9_turn_165 : decode cX9_turn 165 = .ok (.istore 4, 2) := by decide +kernel
theorem dX9_turn_167 : decode cX9_turn 167 = .ok (.iinc 5 1, 3) := by decide +kernel
theorem dX9_turn_170 : decode cX9_turn 170 = .ok (.goto (-49), 3) := by decide +kernel
theorem dX9_turn_173 : decode cX9_turn 173 = .ok (.aload_n 0, 1) := by decide +kernel
theorem dX9_turn_174 : decode cX9_turn 174 = .ok (.aload_n 1, 1) := by decide +kernel
theorem dX9_turn_175 : decode cX9_turn 175 = .ok (.getfield 27, 3) := by decide +kernel
theorem dX9_turn_178 : decode cX9_turn 178 = .ok (.iload_n 2, 1) := by decide +kernel
theorem dX9_turn_179 : decode cX9_turn 179 = .ok (.iaload, 1) := by decide +kernel
theorem dX9_turn_180 : decode cX9_turn 180 = .ok (.aload_n 1, 1) := by decide +kernel
theorem dX9_turn_181 : decode cX9_turn 181 = .ok (.iload_n 2, 1) := by decide +kernel
theorem dX9_turn_182 : decode cX9_turn 182 = .ok (.invokevirtual 63, 3) := by decide +kernel
theorem dX9_turn_185 : decode cX9_turn 185 = .ok (.iinc 2 (-1), 3) := by decide +kernel
theorem dX9_turn_188 : decode cX9_turn 188 = .ok (.goto (-93), 3) := by decide +kernel
theorem dX9_turn_191 : decode cX9_turn 191 = .ok (.aload_n 0, 1) := by decide +kernel
theorem dX9_turn_192 : decode cX9_turn 192 = .ok (.invokevirtual 57, 3) := by decide +kernel
theorem dX9_turn_195 : decode cX9_turn 195 = .ok (.return_, 1) := by decide +kernel
theorem dX9_put_0 : decode cX9_put 0 = .ok (.iload_n 1, 1) := by decide +kernel
theorem dX9_put_1 : decode cX9_put 1 = .ok (.ifCond .lt 59, 3) := by decide +kernel
theorem dX9_put_4 : decode cX9_put 4 = .ok (.iload_n 1, 1) := by decide +kernel
theorem dX9_put_5 : decode cX9_put 5 = .ok (.aload_n 0, 1) := by decide +kernel
theorem dX9_put_6 : decode cX9_put 6 = .ok (.getfield 33, 3) := by decide +kernel
theorem dX9_put_9 : decode cX9_put 9 = .ok (.if_icmp .ge 51, 3) := by decide +kernel
theorem dX9_put_12 : decode cX9_put 12 = .ok (.aload_n 0, 1) := by decide +kernel
theorem dX9_put_13 : decode cX9_put 13 = .ok (.getfield 11, 3) := by decide +kernel
theorem dX9_put_16 : decode cX9_put 16 = .ok (.iload_n 1, 1) := by decide +kernel
theorem dX9_put_17 : decode cX9_put 17 = .ok (.aload_n 2, 1) := by decide +kernel
theorem dX9_put_18 : decode cX9_put 18 = .ok (.getfield 11, 3) := by decide +kernel
theorem dX9_put_21 : decode cX9_put 21 = .ok (.iload_n 3, 1) := by decide +kernel
theorem dX9_put_22 : decode cX9_put 22 = .ok (.iaload, 1) := by decide +kernel
theorem dX9_put_23 : decode cX9_put 23 = .ok (.iastore, 1) := by decide +kernel
theorem dX9_put_24 : decode cX9_put 24 = .ok (.aload_n 0, 1) := by decide +kernel
theorem dX9_put_25 : decode cX9_put 25 = .ok (.getfield 15, 3) := by decide +kernel
theorem dX9_put_28 : decode cX9_put 28 = .ok (.iload_n 1, 1) := by decide +kernel
theorem dX9_put_29 : decode cX9_put 29 = .ok (.aload_n 2, 1) := by decide +kernel
theorem dX9_put_30 : decode cX9_put 30 = .ok (.getfield 15, 3) := by decide +kernel
theorem dX9_put_33 : decode cX9_put 33 = .ok (.iload_n 3, 1) := by decide +kernel
theorem dX9_put_34 : decode cX9_put 34 = .ok (.iaload, 1) := by decide +kernel
theorem dX9_put_35 : decode cX9_put 35 = .ok (.iastore, 1) := by decide +kernel
theorem dX9_put_36 : decode cX9_put 36 = .ok (.aload_n 0, 1) := by decide +kernel
theorem dX9_put_37 : decode cX9_put 37 = .ok (.getfield 18, 3) := by decide +kernel
theorem dX9_put_40 : decode cX9_put 40 = .ok (.iload_n 1, 1) := by decide +kernel
theorem dX9_put_41 : decode cX9_put 41 = .ok (.aload_n 2, 1) := by decide +kernel
theorem dX9_put_42 : decode cX9_put 42 = .ok (.getfield 18, 3) := by decide +kernel
theorem dX9_put_45 : decode cX9_put 45 = .ok (.iload_n 3, 1) := by decide +kernel
theorem dX9_put_46 : decode cX9_put 46 = .ok (.iaload, 1) := by decide +kernel
theorem dX9_put_47 : decode cX9_put 47 = .ok (.iastore, 1) := by decide +kernel
theorem dX9_put_48 : decode cX9_put 48 = .ok (.aload_n 0, 1) := by decide +kernel
theorem dX9_put_49 : decode cX9_put 49 = .ok (.getfield 21, 3) := by decide +kernel
theorem dX9_put_52 : decode cX9_put 52 = .ok (.iload_n 1, 1) := by decide +kernel
theorem dX9_put_53 : decode cX9_put 53 = .ok (.aload_n 2, 1) := by decide +kernel
theorem dX9_put_54 : decode cX9_put 54 = .ok (.getfield 21, 3) := by decide +kernel
theorem dX9_put_57 : decode cX9_put 57 = .ok (.iload_n 3, 1) := by decide +kernel
theorem dX9_put_58 : decode cX9_put 58 = .ok (.iaload, 1) := by decide +kernel
theorem dX9_put_59 : decode cX9_put 59 = .ok (.iastore, 1) := by decide +kernel
theorem dX9_put_60 : decode cX9_put 60 = .ok (.return_, 1) := by decide +kernel
theorem dX9_graftOnto_0 : decode cX9_graftOnto 0 = .ok (.aload_n 0, 1) := by decide +kernel
theorem dX9_graftOnto_1 : decode cX9_graftOnto 1 = .ok (.invokevirtual 51, 3) := by decide +kernel
theorem dX9_graftOnto_4 : decode cX9_graftOnto 4 = .ok (.iconst 1, 1) := by decide +kernel
theorem dX9_graftOnto_5 : decode cX9_graftOnto 5 = .ok (.istore 4, 2) := by decide +kernel
theorem dX9_graftOnto_7 : decode cX9_graftOnto 7 = .ok (.iconst 0, 1) := by decide +kernel
theorem dX9_graftOnto_8 : decode cX9_graftOnto 8 = .ok (.istore 5, 2) := by decide +kernel
theorem dX9_graftOnto_10 : decode cX9_graftOnto 10 = .ok (.iload 5, 2) := by decide +kernel
theorem dX9_graftOnto_12 : decode cX9_graftOnto 12 = .ok (.aload_n 1, 1) := by decide +kernel
theorem dX9_graftOnto_13 : decode cX9_graftOnto 13 = .ok (.getfield 33, 3) := by decide +kernel
theorem dX9_graftOnto_16 : decode cX9_graftOnto 16 = .ok (.if_icmp .ge 96, 3) := by decide +kernel
theorem dX9_graftOnto_19 : decode cX9_graftOnto 19 = .ok (.iload 4, 2) := by decide +kernel
theorem dX9_graftOnto_21 : decode cX9_graftOnto 21 = .ok (.ifCond .eq 91, 3) := by decide +kernel
theorem dX9_graftOnto_24 : decode cX9_graftOnto 24 = .ok (.iload 5, 2) := by decide +kernel
theorem dX9_graftOnto_26 : decode cX9_graftOnto 26 = .ok (.ifCond .le 20, 3) := by decide +kernel
theorem dX9_graftOnto_29 : decode cX9_graftOnto 29 = .ok (.aload_n 1, 1) := by decide +kernel
theorem dX9_graftOnto_30 : decode cX9_graftOnto 30 = .ok (.iload 5, 2) := by decide +kernel
theorem dX9_graftOnto_32 : decode cX9_graftOnto 32 = .ok (.iconst 1, 1) := by decide +kernel
theorem dX9_graftOnto_33 : decode cX9_graftOnto 33 = .ok (.isub, 1) := by decide +kernel
theorem dX9_graftOnto_34 : decode cX9_graftOnto 34 = .ok (.bipush 115, 2) := by decide +kernel
theorem dX9_graftOnto_36 : decode cX9_graftOnto 36 = .ok (.invokevirtual 67, 3) := by decide +kernel
theorem dX9_graftOnto_39 : decode cX9_graftOnto 39 = .ok (.ifCond .eq 7, 3) := by decide +kernel
theorem dX9_graftOnto_42 : decode cX9_graftOnto 42 = .ok (.iconst 1, 1) := by decide +kernel
theorem dX9_graftOnto_43 : decode cX9_graftOnto 43 = .ok (.goto 4, 3) := by decide +kernel
theorem dX9_graftOnto_46 : decode cX9_graftOnto 46 = .ok (.iconst 0, 1) := by decide +kernel
theorem dX9_graftOnto_47 : decode cX9_graftOnto 47 = .ok (.istore 6, 2) := by decide +kernel
theorem dX9_graftOnto_49 : decode cX9_graftOnto 49 = .ok (.aload_n 1, 1) := by decide +kernel
theorem dX9_graftOnto_50 : decode cX9_graftOnto 50 = .ok (.getfield 11, 3) := by decide +kernel
theorem dX9_graftOnto_53 : decode cX9_graftOnto 53 = .ok (.iload 5, 2) := by decide +kernel
theorem dX9_graftOnto_55 : decode cX9_graftOnto 55 = .ok (.iaload, 1) := by decide +kernel
theorem dX9_graftOnto_56 : decode cX9_graftOnto 56 = .ok (.iconst 1, 1) := by decide +kernel
theorem dX9_graftOnto_57 : decode cX9_graftOnto 57 = .ok (.if_icmp .ne 23, 3) := by decide +kernel
theorem dX9_graftOnto_60 : decode cX9_graftOnto 60 = .ok (.aload_n 1, 1) := by decide +kernel
theorem dX9_graftOnto_61 : decode cX9_graftOnto 61 = .ok (.getfield 15, 3) := by decide +kernel
theorem dX9_graftOnto_64 : decode cX9_graftOnto 64 = .ok (.iload 5, 2) := by decide +kernel
theorem dX9_graftOnto_66 : decode cX9_graftOnto 66 = .ok (.iaload, 1) := by decide +kernel
theorem dX9_graftOnto_67 : decode cX9_graftOnto 67 = .ok (.iload_n 2, 1) := by decide +kernel
theorem dX9_graftOnto_68 : decode cX9_graftOnto 68 = .ok (.if_icmp .ne 12, 3) := by decide +kernel
theorem dX9_graftOnto_71 : decode cX9_graftOnto 71 = .ok (.iload 6, 2) := by decide +kernel
theorem dX9_graftOnto_73 : decode cX9_graftOnto 73 = .ok (.ifCond .ne 7, 3) := by decide +kernel
theorem dX9_graftOnto_76 : decode cX9_graftOnto 76 = .ok (.iconst 1, 1) := by decide +kernel
theorem dX9_graftOnto_77 : decode cX9_graftOnto 77 = .ok (.goto 4, 3) := by decide +kernel
theorem dX9_graftOnto_80 : decode cX9_graftOnto 80 = .ok (.iconst 0, 1) := by decide +kernel
theorem dX9_graftOnto_81 : decode cX9_graftOnto 81 = .ok (.istore 7, 2) := by decide +kernel
theorem dX9_graftOnto_83 : decode cX9_graftOnto 83 = .ok (.iload 7, 2) := by decide +kernel
theorem dX9_graftOnto_85 : decode cX9_graftOnto 85 = .ok (.ifCond .eq 12, 3) := by decide +kernel
theorem dX9_graftOnto_88 : decode cX9_graftOnto 88 = .ok (.aload_n 0, 1) := by decide +kernel
theorem dX9_graftOnto_89 : decode cX9_graftOnto 89 = .ok (.aload_n 3, 1) := by decide +kernel
theorem dX9_graftOnto_90 : decode cX9_graftOnto 90 = .ok (.iconst 0, 1) := by decide +kernel
theorem dX9_graftOnto_91 : decode cX9_graftOnto 91 = .ok (.invokevirtual 54, 3) := by decide +kernel
theorem dX9_graftOnto_94 : decode cX9_graftOnto 94 = .ok (.goto 10, 3) := by decide +kernel
theorem dX9_graftOnto_97 : decode cX9_graftOnto 97 = .ok (.aload_n 0, 1) := by decide +kernel
theorem dX9_graftOnto_98 : decode cX9_graftOnto 98 = .ok (.aload_n 1, 1) := by decide +kernel
theorem dX9_graftOnto_99 : decode cX9_graftOnto 99 = .ok (.iload 5, 2) := by decide +kernel
theorem dX9_graftOnto_101 : decode cX9_graftOnto 101 = .ok (.invokevirtual 47, 3) := by decide +kernel
theorem dX9_graftOnto_104 : decode cX9_graftOnto 104 = .ok (.istore 4, 2) := by decide +kernel
theorem dX9_graftOnto_106 : decode cX9_graftOnto 106 = .ok (.iinc 5 1, 3) := by decide +kernel
theorem dX9_graftOnto_109 : decode cX9_graftOnto 109 = .ok (.goto (-99), 3) := by decide +kernel
theorem dX9_graftOnto_112 : decode cX9_graftOnto 112 = .ok (.iload 4, 2) := by decide +kernel
theorem dX9_graftOnto_114 : decode cX9_graftOnto 114 = .ok (.ifCond .eq 7, 3) := by decide +kernel
theorem dX9_graftOnto_117 : decode cX9_graftOnto 117 = .ok (.aload_n 0, 1) := by decide +kernel
theorem dX9_graftOnto_118 : decode cX9_graftOnto 118 = .ok (.invokevirtual 57, 3) := by decide +kernel
theorem dX9_graftOnto_121 : decode cX9_graftOnto 121 = .ok (.iload 4, 2) := by decide +kernel
theorem dX9_graftOnto_123 : decode cX9_graftOnto 123 = .ok (.ireturn, 1) := by decide +kernel
theorem dX9_keepOnly_0 : decode cX9_keepOnly 0 = .ok (.iload_n 1, 1) := by decide +kernel
theorem dX9_keepOnly_1 : decode cX9_keepOnly 1 = .ok (.aload_n 0, 1) := by decide +kernel
theorem dX9_keepOnly_2 : decode cX9_keepOnly 2 = .ok (.getfield 24, 3) := by decide +kernel
theorem dX9_keepOnly_5 : decode cX9_keepOnly 5 = .ok (.iload_n 1, 1) := by decide +kernel
theorem dX9_keepOnly_6 : decode cX9_keepOnly 6 = .ok (.iaload, 1) := by decide +kernel
theorem dX9_keepOnly_7 : decode cX9_keepOnly 7 = .ok (.iadd, 1) := by decide +kernel
theorem dX9_keepOnly_8 : decode cX9_keepOnly 8 = .ok (.istore_n 3, 1) := by decide +kernel
theorem dX9_keepOnly_9 : decode cX9_keepOnly 9 = .ok (.iload_n 2, 1) := by decide +kernel
theorem dX9_keepOnly_10 : decode cX9_keepOnly 10 = .ok (.aload_n 0, 1) := by decide +kernel
theorem dX9_keepOnly_11 : decode cX9_keepOnly 11 = .ok (.getfield 24, 3) := by decide +kernel
theorem dX9_keepOnly_14 : decode cX9_keepOnly 14 = .ok (.iload_n 2, 1) := by decide +kernel
theorem dX9_keepOnly_15 : decode cX9_keepOnly 15 = .ok (.iaload, 1) := by decide +kernel
theorem dX9_keepOnly_16 : decode cX9_keepOnly 16 = .ok (.iadd, 1) := by decide +kernel
theorem dX9_keepOnly_17 : decode cX9_keepOnly 17 = .ok (.istore 4, 2) := by decide +kernel
theorem dX9_keepOnly_19 : decode cX9_keepOnly 19 = .ok (.aload_n 0, 1) := by decide +kernel
theorem dX9_keepOnly_20 : decode cX9_keepOnly 20 = .ok (.iload 4, 2) := by decide +kernel
theorem dX9_keepOnly_22 : decode cX9_keepOnly 22 = .ok (.iload_n 3, 1) := by decide +kernel
theorem dX9_keepOnly_23 : decode cX9_keepOnly 23 = .ok (.invokevirtual 71, 3) := by decide +kernel
theorem dX9_keepOnly_26 : decode cX9_keepOnly 26 = .ok (.aload_n 0, 1) := by decide +kernel
theorem dX9_keepOnly_27 : decode cX9_keepOnly 27 = .ok (.iload_n 1, 1) := by decide +kernel
theorem dX9_keepOnly_28 : decode cX9_keepOnly 28 = .ok (.iload_n 2, 1) := by decide +kernel
theorem dX9_keepOnly_29 : decode cX9_keepOnly 29 = .ok (.invokevirtual 71, 3) := by decide +kernel
theorem dX9_keepOnly_32 : decode cX9_keepOnly 32 = .ok (.aload_n 0, 1) := by decide +kernel
theorem dX9_keepOnly_33 : decode cX9_keepOnly 33 = .ok (.invokevirtual 57, 3) := by decide +kernel
theorem dX9_keepOnly_36 : decode cX9_keepOnly 36 = .ok (.return_, 1) := by decide +kernel
theorem dX9_makeNumber_0 : decode cX9_makeNumber 0 = .ok (.aload_n 0, 1) := by decide +kernel
theorem dX9_makeNumber_1 : decode cX9_makeNumber 1 = .ok (.iload_n 1, 1) := by decide +kernel
theorem dX9_makeNumber_2 : decode cX9_makeNumber 2 = .ok (.iconst 1, 1) := by decide +kernel
theorem dX9_makeNumber_3 : decode cX9_makeNumber 3 = .ok (.iadd, 1) := by decide +kernel
theorem dX9_makeNumber_4 : decode cX9_makeNumber 4 = .ok (.iload_n 1, 1) := by decide +kernel
theorem dX9_makeNumber_5 : decode cX9_makeNumber 5 = .ok (.aload_n 0, 1) := by decide +kernel
theorem dX9_makeNumber_6 : decode cX9_makeNumber 6 = .ok (.getfield 24, 3) := by decide +kernel
theorem dX9_makeNumber_9 : decode cX9_makeNumber 9 = .ok (.iload_n 1, 1) := by decide +kernel
theorem dX9_makeNumber_10 : decode cX9_makeNumber 10 = .ok (.iaload, 1) := by decide +kernel
theorem dX9_makeNumber_11 : decode cX9_makeNumber 11 = .ok (.iadd, 1) := by decide +kernel
theorem dX9_makeNumber_12 : decode cX9_makeNumber 12 = .ok (.invokevirtual 71, 3) := by decide +kernel
theorem dX9_makeNumber_15 : decode cX9_makeNumber 15 = .ok (.aload_n 0, 1) := by decide +kernel
theorem dX9_makeNumber_16 : decode cX9_makeNumber 16 = .ok (.getfield 11, 3) := by decide +kernel
theorem dX9_makeNumber_19 : decode cX9_makeNumber 19 = .ok (.iload_n 1, 1) := by decide +kernel
theorem dX9_makeNumber_20 : decode cX9_makeNumber 20 = .ok (.iconst 0, 1) := by decide +kernel
theorem dX9_makeNumber_21 : decode cX9_makeNumber 21 = .ok (.iastore, 1) := by decide +kernel
theorem dX9_makeNumber_22 : decode cX9_makeNumber 22 = .ok (.aload_n 0, 1) := by decide +kernel
theorem dX9_makeNumber_23 : decode cX9_makeNumber 23 = .ok (.getfield 15, 3) := by decide +kernel
theorem dX9_makeNumber_26 : decode cX9_makeNumber 26 = .ok (.iload_n 1, 1) := by decide +kernel
theorem dX9_makeNumber_27 : decode cX9_makeNumber 27 = .ok (.iload_n 2, 1) := by decide +kernel
theorem dX9_makeNumber_28 : decode cX9_makeNumber 28 = .ok (.iastore, 1) := by decide +kernel
theorem dX9_makeNumber_29 : decode cX9_makeNumber 29 = .ok (.aload_n 0, 1) := by decide +kernel
theorem dX9_makeNumber_30 : decode cX9_makeNumber 30 = .ok (.getfield 18, 3) := by decide +kernel
theorem dX9_makeNumber_33 : decode cX9_makeNumber 33 = .ok (.iload_n 1, 1) := by decide +kernel
theorem dX9_makeNumber_34 : decode cX9_makeNumber 34 = .ok (.iconst (-1), 1) := by decide +kernel
theorem dX9_makeNumber_35 : decode cX9_makeNumber 35 = .ok (.iastore, 1) := by decide +kernel
theorem dX9_makeNumber_36 : decode cX9_makeNumber 36 = .ok (.aload_n 0, 1) := by decide +kernel
theorem dX9_makeNumber_37 : decode cX9_makeNumber 37 = .ok (.getfield 21, 3) := by decide +kernel
theorem dX9_makeNumber_40 : decode cX9_makeNumber 40 = .ok (.iload_n 1, 1) := by decide +kernel
theorem dX9_makeNumber_41 : decode cX9_makeNumber 41 = .ok (.iconst 0, 1) := by decide +kernel
theorem dX9_makeNumber_42 : decode cX9_makeNumber 42 = .ok (.iastore, 1) := by decide +kernel
theorem dX9_makeNumber_43 : decode cX9_makeNumber 43 = .ok (.aload_n 0, 1) := by decide +kernel
theorem dX9_makeNumber_44 : decode cX9_makeNumber 44 = .ok (.invokevirtual 57, 3) := by decide +kernel
theorem dX9_makeNumber_47 : decode cX9_makeNumber 47 = .ok (.return_, 1) := by decide +kernel
theorem dX9_cut_0 : decode cX9_cut 0 = .ok (.iload_n 2, 1) := by decide +kernel
theorem dX9_cut_1 : decode cX9_cut 1 = .ok (.iload_n 1, 1) := by decide +kernel
theorem dX9_cut_2 : decode cX9_cut 2 = .ok (.isub, 1) := by decide +kernel
theorem dX9_cut_3 : decode cX9_cut 3 = .ok (.istore_n 3, 1) := by decide +kernel
theorem dX9_cut_4 : decode cX9_cut 4 = .ok (.iload_n 3, 1) := by decide +kernel
theorem dX9_cut_5 : decode cX9_cut 5 = .ok (.ifCond .le 15, 3) := by decide +kernel
theorem dX9_cut_8 : decode cX9_cut 8 = .ok (.iload_n 1, 1) := by decide +kernel
theorem dX9_cut_9 : decode cX9_cut 9 = .ok (.ifCond .lt 11, 3) := by decide +kernel
theorem dX9_cut_12 : decode cX9_cut 12 = .ok (.iload_n 2, 1) := by decide +kernel
theorem dX9_cut_13 : decode cX9_cut 13 = .ok (.aload_n 0, 1) := by decide +kernel
theorem dX9_cut_14 : decode cX9_cut 14 = .ok (.getfield 33, 3) := by decide +kernel
theorem dX9_cut_17 : decode cX9_cut 17 = .ok (.if_icmp .le 4, 3) := by decide +kernel
theorem dX9_cut_20 : decode cX9_cut 20 = .ok (.return_, 1) := by decide +kernel
theorem dX9_cut_21 : decode cX9_cut 21 = .ok (.iload_n 2, 1) := by decide +kernel
theorem dX9_cut_22 : decode cX9_cut 22 = .ok (.istore 4, 2) := by decide +kernel
theorem dX9_cut_24 : decode cX9_cut 24 = .ok (.iload 4, 2) := by decide +kernel
theorem dX9_cut_26 : decode cX9_cut 26 = .ok (.aload_n 0, 1) := by decide +kernel
theorem dX9_cut_27 : decode cX9_cut 27 = .ok (.getfield 33, 3) := by decide +kernel
theorem dX9_cut_30 : decode cX9_cut 30 = .ok (.if_icmp .ge 73, 3) := by decide +kernel
theorem dX9_cut_33 : decode cX9_cut 33 = .ok (.aload_n 0, 1) := by decide +kernel
theorem dX9_cut_34 : decode cX9_cut 34 = .ok (.getfield 11, 3) := by decide +kernel
theorem dX9_cut_37 : decode cX9_cut 37 = .ok (.iload 4, 2) := by decide +kernel
theorem dX9_cut_39 : decode cX9_cut 39 = .ok (.iload_n 3, 1) := by decide +kernel
theorem dX9_cut_40 : decode cX9_cut 40 = .ok (.isub, 1) := by decide +kernel
theorem dX9_cut_41 : decode cX9_cut 41 = .ok (.aload_n 0, 1) := by decide +kernel
theorem dX9_cut_42 : decode cX9_cut 42 = .ok (.getfield 11, 3) := by decide +kernel
theorem dX9_cut_45 : decode cX9_cut 45 = .ok (.iload 4, 2) := by decide +kernel
theorem dX9_cut_47 : decode cX9_cut 47 = .ok (.iaload, 1) := by decide +kernel
theorem dX9_cut_48 : decode cX9_cut 48 = .ok (.iastore, 1) := by decide +kernel
theorem dX9_cut_49 : decode cX9_cut 49 = .ok (.aload_n 0, 1) := by decide +kernel
theorem dX9_cut_50 : decode cX9_cut 50 = .ok (.getfield 15, 3) := by decide +kernel
theorem dX9_cut_53 : decode cX9_cut 53 = .ok (.iload 4, 2) := by decide +kernel
theorem dX9_cut_55 : decode cX9_cut 55 = .ok (.iload_n 3, 1) := by decide +kernel
theorem dX9_cut_56 : decode cX9_cut 56 = .ok (.isub, 1) := by decide +kernel
theorem dX9_cut_57 : decode cX9_cut 57 = .ok (.aload_n 0, 1) := by decide +kernel
theorem dX9_cut_58 : decode cX9_cut 58 = .ok (.getfield 15, 3) := by decide +kernel
theorem dX9_cut_61 : decode cX9_cut 61 = .ok (.iload 4, 2) := by decide +kernel
theorem dX9_cut_63 : decode cX9_cut 63 = .ok (.iaload, 1) := by decide +kernel
theorem dX9_cut_64 : decode cX9_cut 64 = .ok (.iastore, 1) := by decide +kernel
theorem dX9_cut_65 : decode cX9_cut 65 = .ok (.aload_n 0, 1) := by decide +kernel
theorem dX9_cut_66 : decode cX9_cut 66 = .ok (.getfield 18, 3) := by decide +kernel
theorem dX9_cut_69 : decode cX9_cut 69 = .ok (.iload 4, 2) := by decide +kernel
theorem dX9_cut_71 : decode cX9_cut 71 = .ok (.iload_n 3, 1) := by decide +kernel
theorem dX9_cut_72 : decode cX9_cut 72 = .ok (.isub, 1) := by decide +kernel
theorem dX9_cut_73 : decode cX9_cut 73 = .ok (.aload_n 0, 1) := by decide +kernel
theorem dX9_cut_74 : decode cX9_cut 74 = .ok (.getfield 18, 3) := by decide +kernel
theorem dX9_cut_77 : decode cX9_cut 77 = .ok (.iload 4, 2) := by decide +kernel
theorem dX9_cut_79 : decode cX9_cut 79 = .ok (.iaload, 1) := by decide +kernel
theorem dX9_cut_80 : decode cX9_cut 80 = .ok (.iastore, 1) := by decide +kernel
theorem dX9_cut_81 : decode cX9_cut 81 = .ok (.aload_n 0, 1) := by decide +kernel
theorem dX9_cut_82 : decode cX9_cut 82 = .ok (.getfield 21, 3) := by decide +kernel
theorem dX9_cut_85 : decode cX9_cut 85 = .ok (.iload 4, 2) := by decide +kernel
theorem dX9_cut_87 : decode cX9_cut 87 = .ok (.iload_n 3, 1) := by decide +kernel
theorem dX9_cut_88 : decode cX9_cut 88 = .ok (.isub, 1) := by decide +kernel
theorem dX9_cut_89 : decode cX9_cut 89 = .ok (.aload_n 0, 1) := by decide +kernel
theorem dX9_cut_90 : decode cX9_cut 90 = .ok (.getfield 21, 3) := by decide +kernel
theorem dX9_cut_93 : decode cX9_cut 93 = .ok (.iload 4, 2) := by decide +kernel
theorem dX9_cut_95 : decode cX9_cut 95 = .ok (.iaload, 1) := by decide +kernel
theorem dX9_cut_96 : decode cX9_cut 96 = .ok (.iastore, 1) := by decide +kernel
theorem dX9_cut_97 : decode cX9_cut 97 = .ok (.iinc 4 1, 3) := by decide +kernel
theorem dX9_cut_100 : decode cX9_cut 100 = .ok (.goto (-76), 3) := by decide +kernel
theorem dX9_cut_103 : decode cX9_cut 103 = .ok (.aload_n 0, 1) := by decide +kernel
theorem dX9_cut_104 : decode cX9_cut 104 = .ok (.dup, 1) := by decide +kernel
theorem dX9_cut_105 : decode cX9_cut 105 = .ok (.getfield 33, 3) := by decide +kernel
theorem dX9_cut_108 : decode cX9_cut 108 = .ok (.iload_n 3, 1) := by decide +kernel
theorem dX9_cut_109 : decode cX9_cut 109 = .ok (.isub, 1) := by decide +kernel
theorem dX9_cut_110 : decode cX9_cut 110 = .ok (.putfield 33, 3) := by decide +kernel
theorem dX9_cut_113 : decode cX9_cut 113 = .ok (.return_, 1) := by decide +kernel
theorem dX9_child_0 : decode cX9_child 0 = .ok (.iload_n 1, 1) := by decide +kernel
theorem dX9_child_1 : decode cX9_child 1 = .ok (.iconst 1, 1) := by decide +kernel
theorem dX9_child_2 : decode cX9_child 2 = .ok (.iadd, 1) := by decide +kernel
theorem dX9_child_3 : decode cX9_child 3 = .ok (.istore_n 3, 1) := by decide +kernel
theorem dX9_child_4 : decode cX9_child 4 = .ok (.iconst 0, 1) := by decide +kernel
theorem dX9_child_5 : decode cX9_child 5 = .ok (.istore 4, 2) := by decide +kernel
theorem dX9_child_7 : decode cX9_child 7 = .ok (.iload 4, 2) := by decide +kernel
theorem dX9_child_9 : decode cX9_child 9 = .ok (.iload_n 2, 1) := by decide +kernel
theorem dX9_child_10 : decode cX9_child 10 = .ok (.if_icmp .ge 26, 3) := by decide +kernel
theorem dX9_child_13 : decode cX9_child 13 = .ok (.iload_n 3, 1) := by decide +kernel
theorem dX9_child_14 : decode cX9_child 14 = .ok (.aload_n 0, 1) := by decide +kernel
theorem dX9_child_15 : decode cX9_child 15 = .ok (.getfield 33, 3) := by decide +kernel
theorem dX9_child_18 : decode cX9_child 18 = .ok (.if_icmp .ge 18, 3) := by decide +kernel
theorem dX9_child_21 : decode cX9_child 21 = .ok (.iload_n 3, 1) := by decide +kernel
theorem dX9_child_22 : decode cX9_child 22 = .ok (.aload_n 0, 1) := by decide +kernel
theorem dX9_child_23 : decode cX9_child 23 = .ok (.getfield 24, 3) := by decide +kernel
theorem dX9_child_26 : decode cX9_child 26 = .ok (.iload_n 3, 1) := by decide +kernel
theorem dX9_child_27 : decode cX9_child 27 = .ok (.iaload, 1) := by decide +kernel
theorem dX9_child_28 : decode cX9_child 28 = .ok (.iadd, 1) := by decide +kernel
theorem dX9_child_29 : decode cX9_child 29 = .ok (.istore_n 3, 1) := by decide +kernel
theorem dX9_child_30 : decode cX9_child 30 = .ok (.iinc 4 1, 3) := by decide +kernel
theorem dX9_child_33 : decode cX9_child 33 = .ok (.goto (-26), 3) := by decide +kernel
theorem dX9_child_36 : decode cX9_child 36 = .ok (.iload_n 3, 1) := by decide +kernel
theorem dX9_child_37 : decode cX9_child 37 = .ok (.aload_n 0, 1) := by decide +kernel
theorem dX9_child_38 : decode cX9_child 38 = .ok (.getfield 33, 3) := by decide +kernel
theorem dX9_child_41 : decode cX9_child 41 = .ok (.iconst 1, 1) := by decide +kernel
theorem dX9_child_42 : decode cX9_child 42 = .ok (.isub, 1) := by decide +kernel
theorem dX9_child_43 : decode cX9_child 43 = .ok (.invokestatic 41, 3) := by decide +kernel
theorem dX9_child_46 : decode cX9_child 46 = .ok (.ireturn, 1) := by decide +kernel
theorem dX9_parentOf_0 : decode cX9_parentOf 0 = .ok (.iload_n 1, 1) := by decide +kernel
theorem dX9_parentOf_1 : decode cX9_parentOf 1 = .ok (.iconst 1, 1) := by decide +kernel
theorem dX9_parentOf_2 : decode cX9_parentOf 2 = .ok (.isub, 1) := by decide +kernel
theorem dX9_parentOf_3 : decode cX9_parentOf 3 = .ok (.istore_n 2, 1) := by decide +kernel
theorem dX9_parentOf_4 : decode cX9_parentOf 4 = .ok (.iload_n 2, 1) := by decide +kernel
theorem dX9_parentOf_5 : decode cX9_parentOf 5 = .ok (.ifCond .lt 23, 3) := by decide +kernel
theorem dX9_parentOf_8 : decode cX9_parentOf 8 = .ok (.iload_n 2, 1) := by decide +kernel
theorem dX9_parentOf_9 : decode cX9_parentOf 9 = .ok (.aload_n 0, 1) := by decide +kernel
theorem dX9_parentOf_10 : decode cX9_parentOf 10 = .ok (.getfield 24, 3) := by decide +kernel
theorem dX9_parentOf_13 : decode cX9_parentOf 13 = .ok (.iload_n 2, 1) := by decide +kernel
theorem dX9_parentOf_14 : decode cX9_parentOf 14 = .ok (.iaload, 1) := by decide +kernel
theorem dX9_parentOf_15 : decode cX9_parentOf 15 = .ok (.iadd, 1) := by decide +kernel
theorem dX9_parentOf_16 : decode cX9_parentOf 16 = .ok (.iload_n 1, 1) := by decide +kernel
theorem dX9_parentOf_17 : decode cX9_parentOf 17 = .ok (.if_icmp .le 5, 3) := by decide +kernel
theorem dX9_parentOf_20 : decode cX9_parentOf 20 = .ok (.iload_n 2, 1) := by decide +kernel
theorem dX9_parentOf_21 : decode cX9_parentOf 21 = .ok (.ireturn, 1) := by decide +kernel
theorem dX9_parentOf_22 : decode cX9_parentOf 22 = .ok (.iinc 2 (-1), 3) := by decide +kernel
theorem dX9_parentOf_25 : decode cX9_parentOf 25 = .ok (.goto (-21), 3) := by decide +kernel
theorem dX9_parentOf_28 : decode cX9_parentOf 28 = .ok (.iconst (-1), 1) := by decide +kernel
theorem dX9_parentOf_29 : decode cX9_parentOf 29 = .ok (.ireturn, 1) := by decide +kernel
theorem dX9_nodeAt_0 : decode cX9_nodeAt 0 = .ok (.iload_n 1, 1) := by decide +kernel
theorem dX9_nodeAt_1 : decode cX9_nodeAt 1 = .ok (.ifCond .lt 20, 3) := by decide +kernel
theorem dX9_nodeAt_4 : decode cX9_nodeAt 4 = .ok (.iload_n 1, 1) := by decide +kernel
theorem dX9_nodeAt_5 : decode cX9_nodeAt 5 = .ok (.aload_n 0, 1) := by decide +kernel
theorem dX9_nodeAt_6 : decode cX9_nodeAt 6 = .ok (.getfield 33, 3) := by decide +kernel
theorem dX9_nodeAt_9 : decode cX9_nodeAt 9 = .ok (.if_icmp .ge 12, 3) := by decide +kernel
theorem dX9_nodeAt_12 : decode cX9_nodeAt 12 = .ok (.aload_n 0, 1) := by decide +kernel
theorem dX9_nodeAt_13 : decode cX9_nodeAt 13 = .ok (.getfield 30, 3) := by decide +kernel
theorem dX9_nodeAt_16 : decode cX9_nodeAt 16 = .ok (.iload_n 1, 1) := by decide +kernel
theorem dX9_nodeAt_17 : decode cX9_nodeAt 17 = .ok (.iaload, 1) := by decide +kernel
theorem dX9_nodeAt_18 : decode cX9_nodeAt 18 = .ok (.goto 4, 3) := by decide +kernel
theorem dX9_nodeAt_21 : decode cX9_nodeAt 21 = .ok (.iconst 0, 1) := by decide +kernel
theorem dX9_nodeAt_22 : decode cX9_nodeAt 22 = .ok (.ireturn, 1) := by decide +kernel
theorem dX9_isCallOf_0 : decode cX9_isCallOf 0 = .ok (.aload_n 0, 1) := by decide +kernel
theorem dX9_isCallOf_1 : decode cX9_isCallOf 1 = .ok (.getfield 11, 3) := by decide +kernel
theorem dX9_isCallOf_4 : decode cX9_isCallOf 4 = .ok (.iload_n 1, 1) := by decide +kernel
theorem dX9_isCallOf_5 : decode cX9_isCallOf 5 = .ok (.iaload, 1) := by decide +kernel
theorem dX9_isCallOf_6 : decode cX9_isCallOf 6 = .ok (.iconst 2, 1) := by decide +kernel
theorem dX9_isCallOf_7 : decode cX9_isCallOf 7 = .ok (.if_icmp .ne 17, 3) := by decide +kernel
theorem dX9_isCallOf_10 : decode cX9_isCallOf 10 = .ok (.aload_n 0, 1) := by decide +kernel
theorem dX9_isCallOf_11 : decode cX9_isCallOf 11 = .ok (.getfield 15, 3) := by decide +kernel
theorem dX9_isCallOf_14 : decode cX9_isCallOf 14 = .ok (.iload_n 1, 1) := by decide +kernel
theorem dX9_isCallOf_15 : decode cX9_isCallOf 15 = .ok (.iaload, 1) := by decide +kernel
theorem dX9_isCallOf_16 : decode cX9_isCallOf 16 = .ok (.iload_n 2, 1) := by decide +kernel
theorem dX9_isCallOf_17 : decode cX9_isCallOf 17 = .ok (.if_icmp .ne 7, 3) := by decide +kernel
theorem dX9_isCallOf_20 : decode cX9_isCallOf 20 = .ok (.iconst 1, 1) := by decide +kernel
theorem dX9_isCallOf_21 : decode cX9_isCallOf 21 = .ok (.goto 4, 3) := by decide +kernel
theorem dX9_isCallOf_24 : decode cX9_isCallOf 24 = .ok (.iconst 0, 1) := by decide +kernel
theorem dX9_isCallOf_25 : decode cX9_isCallOf 25 = .ok (.ireturn, 1) := by decide +kernel
theorem dX9_hasLazyCall_0 : decode cX9_hasLazyCall 0 = .ok (.iconst 0, 1) := by decide +kernel
theorem dX9_hasLazyCall_1 : decode cX9_hasLazyCall 1 = .ok (.istore_n 1, 1) := by decide +kernel
theorem dX9_hasLazyCall_2 : decode cX9_hasLazyCall 2 = .ok (.iload_n 1, 1) := by decide +kernel
theorem dX9_hasLazyCall_3 : decode cX9_hasLazyCall 3 = .ok (.aload_n 0, 1) := by decide +kernel
theorem dX9_hasLazyCall_4 : decode cX9_hasLazyCall 4 = .ok (.getfield 33, 3) := by decide +kernel
theorem dX9_hasLazyCall_7 : decode cX9_hasLazyCall 7 = .ok (.if_icmp .ge 31, 3) := by decide +kernel
theorem dX9_hasLazyCall_10 : decode cX9_hasLazyCall 10 = .ok (.aload_n 0, 1) := by decide +kernel
theorem dX9_hasLazyCall_11 : decode cX9_hasLazyCall 11 = .ok (.iload_n 1, 1) := by decide +kernel
theorem dX9_hasLazyCall_12 : decode cX9_hasLazyCall 12 = .ok (.bipush 105, 2) := by decide +kernel
theorem dX9_hasLazyCall_14 : decode cX9_hasLazyCall 14 = .ok (.invokevirtual 67, 3) := by decide +kernel
theorem dX9_hasLazyCall_17 : decode cX9_hasLazyCall 17 = .ok (.ifCond .ne 13, 3) := by decide +kernel
theorem dX9_hasLazyCall_20 : decode cX9_hasLazyCall 20 = .ok (.aload_n 0, 1) := by decide +kernel
theorem dX9_hasLazyCall_21 : decode cX9_hasLazyCall 21 = .ok (.iload_n 1, 1) := by decide +kernel
theorem dX9_hasLazyCall_22 : decode cX9_hasLazyCall 22 = .ok (.bipush 115, 2) := by decide +kernel
theorem dX9_hasLazyCall_24 : decode cX9_hasLazyCall 24 = .ok (.invokevirtual 67, 3) := by decide +kernel
theorem dX9_hasLazyCall_27 : decode cX9_hasLazyCall 27 = .ok (.ifCond .eq 5, 3) := by decide +kernel
theorem dX9_hasLazyCall_30 : decode cX9_hasLazyCall 30 = .ok (.iconst 1, 1) := by decide +kernel
theorem dX9_hasLazyCall_31 : decode cX9_hasLazyCall 31 = .ok (.ireturn, 1) := by decide +kernel
theorem dX9_hasLazyCall_32 : decode cX9_hasLazyCall 32 = .ok (.iinc 1 1, 3) := by decide +kernel
theorem dX9_hasLazyCall_35 : decode cX9_hasLazyCall 35 = .ok (.goto (-33), 3) := by decide +kernel
theorem dX9_hasLazyCall_38 : decode cX9_hasLazyCall 38 = .ok (.iconst 0, 1) := by decide +kernel
theorem dX9_hasLazyCall_39 : decode cX9_hasLazyCall 39 = .ok (.ireturn, 1) := by decide +kernel
theorem dX9_isNumber_0 : decode cX9_isNumber 0 = .ok (.aload_n 0, 1) := by decide +kernel
theorem dX9_isNumber_1 : decode cX9_isNumber 1 = .ok (.getfield 11, 3) := by decide +kernel
theorem dX9_isNumber_4 : decode cX9_isNumber 4 = .ok (.iload_n 1, 1) := by decide +kernel
theorem dX9_isNumber_5 : decode cX9_isNumber 5 = .ok (.iaload, 1) := by decide +kernel
theorem dX9_isNumber_6 : decode cX9_isNumber 6 = .ok (.ifCond .ne 17, 3) := by decide +kernel
theorem dX9_isNumber_9 : decode cX9_isNumber 9 = .ok (.aload_n 0, 1) := by decide +kernel
theorem dX9_isNumber_10 : decode cX9_isNumber 10 = .ok (.getfield 15, 3) := by decide +kernel
theorem dX9_isNumber_13 : decode cX9_isNumber 13 = .ok (.iload_n 1, 1) := by decide +kernel
theorem dX9_isNumber_14 : decode cX9_isNumber 14 = .ok (.iaload, 1) := by decide +kernel
theorem dX9_isNumber_15 : decode cX9_isNumber 15 = .ok (.iload_n 2, 1) := by decide +kernel
theorem dX9_isNumber_16 : decode cX9_isNumber 16 = .ok (.if_icmp .ne 7, 3) := by decide +kernel
theorem dX9_isNumber_19 : decode cX9_isNumber 19 = .ok (.iconst 1, 1) := by decide +kernel
theorem dX9_isNumber_20 : decode cX9_isNumber 20 = .ok (.goto 4, 3) := by decide +kernel
theorem dX9_isNumber_23 : decode cX9_isNumber 23 = .ok (.iconst 0, 1) := by decide +kernel
theorem dX9_isNumber_24 : decode cX9_isNumber 24 = .ok (.ireturn, 1) := by decide +kernel
theorem dX9_sameAs_0 : decode cX9_sameAs 0 = .ok (.aload_n 0, 1) := by decide +kernel
theorem dX9_sameAs_1 : decode cX9_sameAs 1 = .ok (.getfield 33, 3) := by decide +kernel
theorem dX9_sameAs_4 : decode cX9_sameAs 4 = .ok (.aload_n 1, 1) := by decide +kernel
theorem dX9_sameAs_5 : decode cX9_sameAs 5 = .ok (.getfield 33, 3) := by decide +kernel
theorem dX9_sameAs_8 : decode cX9_sameAs 8 = .ok (.if_icmp .eq 5, 3) := by decide +kernel
theorem dX9_sameAs_11 : decode cX9_sameAs 11 = .ok (.iconst 0, 1) := by decide +kernel
theorem dX9_sameAs_12 : decode cX9_sameAs 12 = .ok (.ireturn, 1) := by decide +kernel
theorem dX9_sameAs_13 : decode cX9_sameAs 13 = .ok (.iconst 0, 1) := by decide +kernel
theorem dX9_sameAs_14 : decode cX9_sameAs 14 = .ok (.istore_n 2, 1) := by decide +kernel
theorem dX9_sameAs_15 : decode cX9_sameAs 15 = .ok (.iload_n 2, 1) := by decide +kernel
theorem dX9_sameAs_16 : decode cX9_sameAs 16 = .ok (.aload_n 0, 1) := by decide +kernel
theorem dX9_sameAs_17 : decode cX9_sameAs 17 = .ok (.getfield 33, 3) := by decide +kernel
theorem dX9_sameAs_20 : decode cX9_sameAs 20 = .ok (.if_icmp .ge 21, 3) := by decide +kernel
theorem dX9_sameAs_23 : decode cX9_sameAs 23 = .ok (.aload_n 0, 1) := by decide +kernel
theorem dX9_sameAs_24 : decode cX9_sameAs 24 = .ok (.iload_n 2, 1) := by decide +kernel
theorem dX9_sameAs_25 : decode cX9_sameAs 25 = .ok (.aload_n 1, 1) := by decide +kernel
theorem dX9_sameAs_26 : decode cX9_sameAs 26 = .ok (.iload_n 2, 1) := by decide +kernel
theorem dX9_sameAs_27 : decode cX9_sameAs 27 = .ok (.invokevirtual 75, 3) := by decide +kernel
theorem dX9_sameAs_30 : decode cX9_sameAs 30 = .ok (.ifCond .ne 5, 3) := by decide +kernel
theorem dX9_sameAs_33 : decode cX9_sameAs 33 = .ok (.iconst 0, 1) := by decide +kernel
theorem dX9_sameAs_34 : decode cX9_sameAs 34 = .ok (.ireturn, 1) := by decide +kernel
theorem dX9_sameAs_35 : decode cX9_sameAs 35 = .ok (.iinc 2 1, 3) := by decide +kernel
theorem dX9_sameAs_38 : decode cX9_sameAs 38 = .ok (.goto (-23), 3) := by decide +kernel
theorem dX9_sameAs_41 : decode cX9_sameAs 41 = .ok (.iconst 1, 1) := by decide +kernel
theorem dX9_sameAs_42 : decode cX9_sameAs 42 = .ok (.ireturn, 1) := by decide +kernel
theorem dX9_hasLine_0 : decode cX9_hasLine 0 = .ok (.aload_n 0, 1) := by decide +kernel
theorem dX9_hasLine_1 : decode cX9_hasLine 1 = .ok (.getfield 33, 3) := by decide +kernel
theorem dX9_hasLine_4 : decode cX9_hasLine 4 = .ok (.aload_n 1, 1) := by decide +kernel
theorem dX9_hasLine_5 : decode cX9_hasLine 5 = .ok (.getfield 33, 3) := by decide +kernel
theorem dX9_hasLine_8 : decode cX9_hasLine 8 = .ok (.if_icmp .eq 5, 3) := by decide +kernel
theorem dX9_hasLine_11 : decode cX9_hasLine 11 = .ok (.iconst 0, 1) := by decide +kernel
theorem dX9_hasLine_12 : decode cX9_hasLine 12 = .ok (.ireturn, 1) := by decide +kernel
theorem dX9_hasLine_13 : decode cX9_hasLine 13 = .ok (.iconst 0, 1) := by decide +kernel
theorem dX9_hasLine_14 : decode cX9_hasLine 14 = .ok (.istore_n 2, 1) := by decide +kernel
theorem dX9_hasLine_15 : decode cX9_hasLine 15 = .ok (.iload_n 2, 1) := by decide +kernel
theorem dX9_hasLine_16 : decode cX9_hasLine 16 = .ok (.aload_n 0, 1) := by decide +kernel
theorem dX9_hasLine_17 : decode cX9_hasLine 17 = .ok (.getfield 33, 3) := by decide +kernel
theorem dX9_hasLine_20 : decode cX9_hasLine 20 = .ok (.if_icmp .ge 25, 3) := by decide +kernel
theorem dX9_hasLine_23 : decode cX9_hasLine 23 = .ok (.aload_n 0, 1) := by decide +kernel
theorem dX9_hasLine_24 : decode cX9_hasLine 24 = .ok (.aload_n 0, 1) := by decide +kernel
theorem dX9_hasLine_25 : decode cX9_hasLine 25 = .ok (.iload_n 2, 1) := by decide +kernel
theorem dX9_hasLine_26 : decode cX9_hasLine 26 = .ok (.invokevirtual 79, 3) := by decide +kernel
theorem dX9_hasLine_29 : decode cX9_hasLine 29 = .ok (.aload_n 1, 1) := by decide +kernel
theorem dX9_hasLine_30 : decode cX9_hasLine 30 = .ok (.iload_n 2, 1) := by decide +kernel
theorem dX9_hasLine_31 : decode cX9_hasLine 31 = .ok (.invokevirtual 75, 3) := by decide +kernel
theorem dX9_hasLine_34 : decode cX9_hasLine 34 = .ok (.ifCond .ne 5, 3) := by decide +kernel
theorem dX9_hasLine_37 : decode cX9_hasLine 37 = .ok (.iconst 0, 1) := by decide +kernel
theorem dX9_hasLine_38 : decode cX9_hasLine 38 = .ok (.ireturn, 1) := by decide +kernel
theorem dX9_hasLine_39 : decode cX9_hasLine 39 = .ok (.iinc 2 1, 3) := by decide +kernel
theorem dX9_hasLine_42 : decode cX9_hasLine 42 = .ok (.goto (-27), 3) := by decide +kernel
theorem dX9_hasLine_45 : decode cX9_hasLine 45 = .ok (.iconst 1, 1) := by decide +kernel
theorem dX9_hasLine_46 : decode cX9_hasLine 46 = .ok (.ireturn, 1) := by decide +kernel
theorem dX9_sameParts_0 : decode cX9_sameParts 0 = .ok (.aload_n 0, 1) := by decide +kernel
theorem dX9_sameParts_1 : decode cX9_sameParts 1 = .ok (.getfield 24, 3) := by decide +kernel
theorem dX9_sameParts_4 : decode cX9_sameParts 4 = .ok (.iload_n 1, 1) := by decide +kernel
theorem dX9_sameParts_5 : decode cX9_sameParts 5 = .ok (.iaload, 1) := by decide +kernel
theorem dX9_sameParts_6 : decode cX9_sameParts 6 = .ok (.istore_n 3, 1) := by decide +kernel
theorem dX9_sameParts_7 : decode cX9_sameParts 7 = .ok (.iload_n 3, 1) := by decide +kernel
theorem dX9_sameParts_8 : decode cX9_sameParts 8 = .ok (.aload_n 0, 1) := by decide +kernel
theorem dX9_sameParts_9 : decode cX9_sameParts 9 = .ok (.getfield 24, 3) := by decide +kernel
theorem dX9_sameParts_12 : decode cX9_sameParts 12 = .ok (.iload_n 2, 1) := by decide +kernel
theorem dX9_sameParts_13 : decode cX9_sameParts 13 = .ok (.iaload, 1) := by decide +kernel
theorem dX9_sameParts_14 : decode cX9_sameParts 14 = .ok (.if_icmp .eq 5, 3) := by decide +kernel
theorem dX9_sameParts_17 : decode cX9_sameParts 17 = .ok (.iconst 0, 1) := by decide +kernel
theorem dX9_sameParts_18 : decode cX9_sameParts 18 = .ok (.ireturn, 1) := by decide +kernel
theorem dX9_sameParts_19 : decode cX9_sameParts 19 = .ok (.iconst 0, 1) := by decide +kernel
theorem dX9_sameParts_20 : decode cX9_sameParts 20 = .ok (.istore 4, 2) := by decide +kernel
theorem dX9_sameParts_22 : decode cX9_sameParts 22 = .ok (.iload 4, 2) := by decide +kernel
theorem dX9_sameParts_24 : decode cX9_sameParts 24 = .ok (.iload_n 3, 1) := by decide +kernel
theorem dX9_sameParts_25 : decode cX9_sameParts 25 = .ok (.if_icmp .ge 49, 3) := by decide +kernel
theorem dX9_sameParts_28 : decode cX9_sameParts 28 = .ok (.iload_n 1, 1) := by decide +kernel
theorem dX9_sameParts_29 : decode cX9_sameParts 29 = .ok (.iload 4, 2) := by decide +kernel
theorem dX9_sameParts_31 : decode cX9_sameParts 31 = .ok (.iadd, 1) := by decide +kernel
theorem dX9_sameParts_32 : decode cX9_sameParts 32 = .ok (.aload_n 0, 1) := by decide +kernel
theorem dX9_sameParts_33 : decode cX9_sameParts 33 = .ok (.getfield 33, 3) := by decide +kernel
theorem dX9_sameParts_36 : decode cX9_sameParts 36 = .ok (.if_icmp .ge 38, 3) := by decide +kernel
theorem dX9_sameParts_39 : decode cX9_sameParts 39 = .ok (.iload_n 2, 1) := by decide +kernel
theorem dX9_sameParts_40 : decode cX9_sameParts 40 = .ok (.iload 4, 2) := by decide +kernel
theorem dX9_sameParts_42 : decode cX9_sameParts 42 = .ok (.iadd, 1) := by decide +kernel
theorem dX9_sameParts_43 : decode cX9_sameParts 43 = .ok (.aload_n 0, 1) := by decide +kernel
theorem dX9_sameParts_44 : decode cX9_sameParts 44 = .ok (.getfield 33, 3) := by decide +kernel
theorem dX9_sameParts_47 : decode cX9_sameParts 47 = .ok (.if_icmp .ge 27, 3) := by decide +kernel
theorem dX9_sameParts_50 : decode cX9_sameParts 50 = .ok (.aload_n 0, 1) := by decide +kernel
theorem dX9_sameParts_51 : decode cX9_sameParts 51 = .ok (.iload_n 1, 1) := by decide +kernel
theorem dX9_sameParts_52 : decode cX9_sameParts 52 = .ok (.iload 4, 2) := by decide +kernel
theorem dX9_sameParts_54 : decode cX9_sameParts 54 = .ok (.iadd, 1) := by decide +kernel
theorem dX9_sameParts_55 : decode cX9_sameParts 55 = .ok (.aload_n 0, 1) := by decide +kernel
theorem dX9_sameParts_56 : decode cX9_sameParts 56 = .ok (.iload_n 2, 1) := by decide +kernel
theorem dX9_sameParts_57 : decode cX9_sameParts 57 = .ok (.iload 4, 2) := by decide +kernel
theorem dX9_sameParts_59 : decode cX9_sameParts 59 = .ok (.iadd, 1) := by decide +kernel
theorem dX9_sameParts_60 : decode cX9_sameParts 60 = .ok (.invokevirtual 75, 3) := by decide +kernel
theorem dX9_sameParts_63 : decode cX9_sameParts 63 = .ok (.ifCond .ne 5, 3) := by decide +kernel
theorem dX9_sameParts_66 : decode cX9_sameParts 66 = .ok (.iconst 0, 1) := by decide +kernel
theorem dX9_sameParts_67 : decode cX9_sameParts 67 = .ok (.ireturn, 1) := by decide +kernel
theorem dX9_sameParts_68 : decode cX9_sameParts 68 = .ok (.iinc 4 1, 3) := by decide +kernel
theorem dX9_sameParts_71 : decode cX9_sameParts 71 = .ok (.goto (-49), 3) := by decide +kernel
theorem dX9_sameParts_74 : decode cX9_sameParts 74 = .ok (.iconst 1, 1) := by decide +kernel
theorem dX9_sameParts_75 : decode cX9_sameParts 75 = .ok (.ireturn, 1) := by decide +kernel
theorem dX9_sameNode_0 : decode cX9_sameNode 0 = .ok (.aload_n 0, 1) := by decide +kernel
theorem dX9_sameNode_1 : decode cX9_sameNode 1 = .ok (.getfield 11, 3) := by decide +kernel
theorem dX9_sameNode_4 : decode cX9_sameNode 4 = .ok (.iload_n 1, 1) := by decide +kernel
theorem dX9_sameNode_5 : decode cX9_sameNode 5 = .ok (.iaload, 1) := by decide +kernel
theorem dX9_sameNode_6 : decode cX9_sameNode 6 = .ok (.aload_n 2, 1) := by decide +kernel
theorem dX9_sameNode_7 : decode cX9_sameNode 7 = .ok (.getfield 11, 3) := by decide +kernel
theorem dX9_sameNode_10 : decode cX9_sameNode 10 = .ok (.iload_n 3, 1) := by decide +kernel
theorem dX9_sameNode_11 : decode cX9_sameNode 11 = .ok (.iaload, 1) := by decide +kernel
theorem dX9_sameNode_12 : decode cX9_sameNode 12 = .ok (.if_icmp .ne 52, 3) := by decide +kernel
theorem dX9_sameNode_15 : decode cX9_sameNode 15 = .ok (.aload_n 0, 1) := by decide +kernel
theorem dX9_sameNode_16 : decode cX9_sameNode 16 = .ok (.getfield 15, 3) := by decide +kernel
theorem dX9_sameNode_19 : decode cX9_sameNode 19 = .ok (.iload_n 1, 1) := by decide +kernel
theorem dX9_sameNode_20 : decode cX9_sameNode 20 = .ok (.iaload, 1) := by decide +kernel
theorem dX9_sameNode_21 : decode cX9_sameNode 21 = .ok (.aload_n 2, 1) := by decide +kernel
theorem dX9_sameNode_22 : decode cX9_sameNode 22 = .ok (.getfield 15, 3) := by decide +kernel
theorem dX9_sameNode_25 : decode cX9_sameNode 25 = .ok (.iload_n 3, 1) := by decide +kernel
theorem dX9_sameNode_26 : decode cX9_sameNode 26 = .ok (.iaload, 1) := by decide +kernel
theorem dX9_sameNode_27 : decode cX9_sameNode 27 = .ok (.if_icmp .ne 37, 3) := by decide +kernel
theorem dX9_sameNode_30 : decode cX9_sameNode 30 = .ok (.aload_n 0, 1) := by decide +kernel
theorem dX9_sameNode_31 : decode cX9_sameNode 31 = .ok (.getfield 18, 3) := by decide +kernel
theorem dX9_sameNode_34 : decode cX9_sameNode 34 = .ok (.iload_n 1, 1) := by decide +kernel
theorem dX9_sameNode_35 : decode cX9_sameNode 35 = .ok (.iaload, 1) := by decide +kernel
theorem dX9_sameNode_36 : decode cX9_sameNode 36 = .ok (.aload_n 2, 1) := by decide +kernel
theorem dX9_sameNode_37 : decode cX9_sameNode 37 = .ok (.getfield 18, 3) := by decide +kernel
theorem dX9_sameNode_40 : decode cX9_sameNode 40 = .ok (.iload_n 3, 1) := by decide +kernel
theorem dX9_sameNode_41 : decode cX9_sameNode 41 = .ok (.iaload, 1) := by decide +kernel
theorem dX9_sameNode_42 : decode cX9_sameNode 42 = .ok (.if_icmp .ne 22, 3) := by decide +kernel
theorem dX9_sameNode_45 : decode cX9_sameNode 45 = .ok (.aload_n 0, 1) := by decide +kernel
theorem dX9_sameNode_46 : decode cX9_sameNode 46 = .ok (.getfield 21, 3) := by decide +kernel
theorem dX9_sameNode_49 : decode cX9_sameNode 49 = .ok (.iload_n 1, 1) := by decide +kernel
theorem dX9_sameNode_50 : decode cX9_sameNode 50 = .ok (.iaload, 1) := by decide +kernel
theorem dX9_sameNode_51 : decode cX9_sameNode 51 = .ok (.aload_n 2, 1) := by decide +kernel
theorem dX9_sameNode_52 : decode cX9_sameNode 52 = .ok (.getfield 21, 3) := by decide +kernel
theorem dX9_sameNode_55 : decode cX9_sameNode 55 = .ok (.iload_n 3, 1) := by decide +kernel
theorem dX9_sameNode_56 : decode cX9_sameNode 56 = .ok (.iaload, 1) := by decide +kernel
theorem dX9_sameNode_57 : decode cX9_sameNode 57 = .ok (.if_icmp .ne 7, 3) := by decide +kernel
theorem dX9_sameNode_60 : decode cX9_sameNode 60 = .ok (.iconst 1, 1) := by decide +kernel
theorem dX9_sameNode_61 : decode cX9_sameNode 61 = .ok (.goto 4, 3) := by decide +kernel
theorem dX9_sameNode_64 : decode cX9_sameNode 64 = .ok (.iconst 0, 1) := by decide +kernel
theorem dX9_sameNode_65 : decode cX9_sameNode 65 = .ok (.ireturn, 1) := by decide +kernel
theorem dX10_init_0 : decode cX10_init 0 = .ok (.aload_n 0, 1) := by decide +kernel
theorem dX10_init_1 : decode cX10_init 1 = .ok (.invokespecial 3, 3) := by decide +kernel
theorem dX10_init_4 : decode cX10_init 4 = .ok (.aload_n 0, 1) := by decide +kernel
theorem dX10_init_5 : decode cX10_init 5 = .ok (.iload_n 1, 1) := by decide +kernel
theorem dX10_init_6 : decode cX10_init 6 = .ok (.bipush 7, 2) := by decide +kernel
theorem dX10_init_8 : decode cX10_init 8 = .ok (.if_icmp .le 7, 3) := by decide +kernel
theorem dX10_init_11 : decode cX10_init 11 = .ok (.iload_n 1, 1) := by decide +kernel
theorem dX10_init_12 : decode cX10_init 12 = .ok (.goto 5, 3) := by decide +kernel
theorem dX10_init_15 : decode cX10_init 15 = .ok (.bipush 7, 2) := by decide +kernel
theorem dX10_init_17 : decode cX10_init 17 = .ok (.newarray .int, 2) := by decide +kernel
theorem dX10_init_19 : decode cX10_init 19 = .ok (.putfield 9, 3) := by decide +kernel
theorem dX10_init_22 : decode cX10_init 22 = .ok (.return_, 1) := by decide +kernel
theorem dX10_set_0 : decode cX10_set 0 = .ok (.aload_n 0, 1) := by decide +kernel
theorem dX10_set_1 : decode cX10_set 1 = .ok (.lload_n 1, 1) := by decide +kernel
theorem dX10_set_2 : decode cX10_set 2 = .ok (.lconst 0, 1) := by decide +kernel
theorem dX10_set_3 : decode cX10_set 3 = .ok (.lcmp, 1) := by decide +kernel
theorem dX10_set_4 : decode cX10_set 4 = .ok (.ifCond .ge 7, 3) := by decide +kernel
theorem dX10_set_7 : decode cX10_set 7 = .ok (.iconst 1, 1) := by decide +kernel
theorem dX10_set_8 : decode cX10_set 8 = .ok (.goto 4, 3) := by decide +kernel
theorem dX10_set_11 : decode cX10_set 11 = .ok (.iconst 0, 1) := by decide +kernel
theorem dX10_set_12 : decode cX10_set 12 = .ok (.putfield 13, 3) := by decide +kernel
theorem dX10_set_15 : decode cX10_set 15 = .ok (.aload_n 0, 1) := by decide +kernel
theorem dX10_set_16 : decode cX10_set 16 = .ok (.iconst 0, 1) := by decide +kernel
theorem dX10_set_17 : decode cX10_set 17 = .ok (.putfield 17, 3) := by decide +kernel
theorem dX10_set_20 : decode cX10_set 20 = .ok (.aload_n 0, 1) := by decide +kernel
theorem dX10_set_21 : decode cX10_set 21 = .ok (.getfield 13, 3) := by decide +kernel
theorem dX10_set_24 : decode cX10_set 24 = .ok (.ifCond .eq 8, 3) := by decide +kernel
theorem dX10_set_27 : decode cX10_set 27 = .ok (.lload_n 1, 1) := by decide +kernel
theorem dX10_set_28 : decode cX10_set 28 = .ok (.lneg, 1) := by decide +kernel
theorem dX10_set_29 : decode cX10_set 29 = .ok (.goto 4, 3) := by decide +kernel
theorem dX10_set_32 : decode cX10_set 32 = .ok (.lload_n 1, 1) := by decide +kernel
theorem dX10_set_33 : decode cX10_set 33 = .ok (.lstore_n 3, 1) := by decide +kernel
theorem dX10_set_34 : decode cX10_set 34 = .ok (.iconst 0, 1) := by decide +kernel
theorem dX10_set_35 : decode cX10_set 35 = .ok (.istore 5, 2) := by decide +kernel
theorem dX10_set_37 : decode cX10_set 37 = .ok (.iload 5, 2) := by decide +kernel
theorem dX10_set_39 : decode cX10_set 39 = .ok (.aload_n 0, 1) := by decide +kernel
theorem dX10_set_40 : decode cX10_set 40 = .ok (.getfield 9, 3) := by decide +kernel
theorem dX10_set_43 : decode cX10_set 43 = .ok (.arraylength, 1) := by decide +kernel
theorem dX10_set_44 : decode cX10_set 44 = .ok (.if_icmp .ge 41, 3) := by decide +kernel
theorem dX10_set_47 : decode cX10_set 47 = .ok (.lload_n 3, 1) := by decide +kernel
theorem dX10_set_48 : decode cX10_set 48 = .ok (.lconst 0, 1) := by decide +kernel
theorem dX10_set_49 : decode cX10_set 49 = .ok (.lcmp, 1) := by decide +kernel
theorem dX10_set_50 : decode cX10_set 50 = .ok (.ifCond .le 35, 3) := by decide +kernel
theorem dX10_set_53 : decode cX10_set 53 = .ok (.aload_n 0, 1) := by decide +kernel
theorem dX10_set_54 : decode cX10_set 54 = .ok (.getfield 9, 3) := by decide +kernel
theorem dX10_set_57 : decode cX10_set 57 = .ok (.iload 5, 2) := by decide +kernel
theorem dX10_set_59 : decode cX10_set 59 = .ok (.lload_n 3, 1) := by decide +kernel
theorem dX10_set_60 : decode cX10_set 60 = .ok (.ldc2_w 21, 3) := by decide +kernel
theorem dX10_set_63 : decode cX10_set 63 = .ok (.land, 1) := by decide +kernel
theorem dX10_set_64 : decode cX10_set 64 = .ok (.l2i, 1) := by decide +kernel
theorem dX10_set_65 : decode cX10_set 65 = .ok (.iastore, 1) := by decide +kernel
theorem dX10_set_66 : decode cX10_set 66 = .ok (.lload_n 3, 1) := by decide +kernel
theorem dX10_set_67 : decode cX10_set 67 = .ok (.bipush 30, 2) := by decide +kernel
theorem dX10_set_69 : decode cX10_set 69 = .ok (.lshr, 1) := by decide +kernel
theorem dX10_set_70 : decode cX10_set 70 = .ok (.lstore_n 3, 1) := by decide +kernel
theorem dX10_set_71 : decode cX10_set 71 = .ok (.aload_n 0, 1) := by decide +kernel
theorem dX10_set_72 : decode cX10_set 72 = .ok (.iload 5, 2) := by decide +kernel
theorem dX10_set_74 : decode cX10_set 74 = .ok (.iconst 1, 1) := by decide +kernel
theorem dX10_set_75 : decode cX10_set 75 = .ok (.iadd, 1) := by decide +kernel
theorem dX10_set_76 : decode cX10_set 76 = .ok (.putfield 17, 3) := by decide +kernel
theorem dX10_set_79 : decode cX10_set 79 = .ok (.iinc 5 1, 3) := by decide +kernel
theorem dX10_set_82 : decode cX10_set 82 = .ok (.goto (-45), 3) := by decide +kernel
theorem dX10_set_85 : decode cX10_set 85 = .ok (.return_, 1) := by decide +kernel
theorem dX10_copy_0 : decode cX10_copy 0 = .ok (.aload_n 0, 1) := by decide +kernel
theorem dX10_copy_1 : decode cX10_copy 1 = .ok (.aload_n 1, 1) := by decide +kernel
theorem dX10_copy_2 : decode cX10_copy 2 = .ok (.getfield 13, 3) := by decide +kernel
theorem dX10_copy_5 : decode cX10_copy 5 = .ok (.putfield 13, 3) := by decide +kernel
theorem dX10_copy_8 : decode cX10_copy 8 = .ok (.aload_n 0, 1) := by decide +kernel
theorem dX10_copy_9 : decode cX10_copy 9 = .ok (.aload_n 1, 1) := by decide +kernel
theorem dX10_copy_10 : decode cX10_copy 10 = .ok (.invokevirtual 23, 3) := by decide +kernel
theorem dX10_copy_13 : decode cX10_copy 13 = .ok (.return_, 1) := by decide +kernel
theorem dX10_copySize_0 : decode cX10_copySize 0 = .ok (.aload_n 0, 1) := by decide +kernel
theorem dX10_copySize_1 : decode cX10_copySize 1 = .ok (.aload_n 1, 1) := by decide +kernel
theorem dX10_copySize_2 : decode cX10_copySize 2 = .ok (.getfield 17, 3) := by decide +kernel
theorem dX10_copySize_5 : decode cX10_copySize 5 = .ok (.aload_n 0, 1) := by decide +kernel
theorem dX10_copySize_6 : decode cX10_copySize 6 = .ok (.getfield 9, 3) := by decide +kernel
theorem dX10_copySize_9 : decode cX10_copySize 9 = .ok (.arraylength, 1) := by decide +kernel
theorem dX10_copySize_10 : decode cX10_copySize 10 = .ok (.if_icmp .ge 10, 3) := by decide +kernel
theorem dX10_copySize_13 : decode cX10_copySize 13 = .ok (.aload_n 1, 1) := by decide +kernel
theorem dX10_copySize_14 : decode cX10_copySize 14 = .ok (.getfield 17, 3) := by decide +kernel
theorem dX10_copySize_17 : decode cX10_copySize 17 = .ok (.goto 8, 3) := by decide +kernel
theorem dX10_copySize_20 : decode cX10_copySize 20 = .ok (.aload_n 0, 1) := by decide +kernel
theorem dX10_copySize_21 : decode cX10_copySize 21 = .ok (.getfield 9, 3) := by decide +kernel
theorem dX10_copySize_24 : decode cX10_copySize 24 = .ok (.arraylength, 1) := by decide +kernel
theorem dX10_copySize_25 : decode cX10_copySize 25 = .ok (.putfield 17, 3) := by decide +kernel
theorem dX10_copySize_28 : decode cX10_copySize 28 = .ok (.iconst 0, 1) := by decide +kernel
theorem dX10_copySize_29 : decode cX10_copySize 29 = .ok (.istore_n 2, 1) := by decide +kernel
theorem dX10_copySize_30 : decode cX10_copySize 30 = .ok (.iload_n 2, 1) := by decide +kernel
theorem dX10_copySize_31 : decode cX10_copySize 31 = .ok (.aload_n 0, 1) := by decide +kernel
theorem dX10_copySize_32 : decode cX10_copySize 32 = .ok (.getfield 17, 3) := by decide +kernel
theorem dX10_copySize_35 : decode cX10_copySize 35 = .ok (.if_icmp .ge 21, 3) := by decide +kernel
theorem dX10_copySize_38 : decode cX10_copySize 38 = .ok (.aload_n 0, 1) := by decide +kernel
theorem dX10_copySize_39 : decode cX10_copySize 39 = .ok (.getfield 9, 3) := by decide +kernel
theorem dX10_copySize_42 : decode cX10_copySize 42 = .ok (.iload_n 2, 1) := by decide +kernel
theorem dX10_copySize_43 : decode cX10_copySize 43 = .ok (.aload_n 1, 1) := by decide +kernel
theorem dX10_copySize_44 : decode cX10_copySize 44 = .ok (.getfield 9, 3) := by decide +kernel
theorem dX10_copySize_47 : decode cX10_copySize 47 = .ok (.iload_n 2, 1) := by decide +kernel
theorem dX10_copySize_48 : decode cX10_copySize 48 = .ok (.iaload, 1) := by decide +kernel
theorem dX10_copySize_49 : decode cX10_copySize 49 = .ok (.iastore, 1) := by decide +kernel
theorem dX10_copySize_50 : decode cX10_copySize 50 = .ok (.iinc 2 1, 3) := by decide +kernel
theorem dX10_copySize_53 : decode cX10_copySize 53 = .ok (.goto (-23), 3) := by decide +kernel
theorem dX10_copySize_56 : decode cX10_copySize 56 = .ok (.return_, 1) := by decide +kernel
theorem dX10_isZero_0 : decode cX10_isZero 0 = .ok (.aload_n 0, 1) := by decide +kernel
theorem dX10_isZero_1 : decode cX10_isZero 1 = .ok (.getfield 17, 3) := by decide +kernel
theorem dX10_isZero_4 : decode cX10_isZero 4 = .ok (.ifCond .ne 7, 3) := by decide +kernel
theorem dX10_isZero_7 : decode cX10_isZero 7 = .ok (.iconst 1, 1) := by decide +kernel
theorem dX10_isZero_8 : decode cX10_isZero 8 = .ok (.goto 4, 3) := by decide +kernel
theorem dX10_isZero_11 : decode cX10_isZero 11 = .ok (.iconst 0, 1) := by decide +kernel
theorem dX10_isZero_12 : decode cX10_isZero 12 = .ok (.ireturn, 1) := by decide +kernel
theorem dX10_isOne_0 : decode cX10_isOne 0 = .ok (.aload_n 0, 1) := by decide +kernel
theorem dX10_isOne_1 : decode cX10_isOne 1 = .ok (.getfield 17, 3) := by decide +kernel
theorem dX10_isOne_4 : decode cX10_isOne 4 = .ok (.iconst 1, 1) := by decide +kernel
theorem dX10_isOne_5 : decode cX10_isOne 5 = .ok (.if_icmp .ne 24, 3) := by decide +kernel
theorem dX10_isOne_8 : decode cX10_isOne 8 = .ok (.aload_n 0, 1) := by decide +kernel
theorem dX10_isOne_9 : decode cX10_isOne 9 = .ok (.getfield 9, 3) := by decide +kernel
theorem dX10_isOne_12 : decode cX10_isOne 12 = .ok (.iconst 0, 1) := by decide +kernel
theorem dX10_isOne_13 : decode cX10_isOne 13 = .ok (.iaload, 1) := by decide +kernel
theorem dX10_isOne_14 : decode cX10_isOne 14 = .ok (.iconst 1, 1) := by decide +kernel
theorem dX10_isOne_15 : decode cX10_isOne 15 = .ok (.if_icmp .ne 14, 3) := by decide +kernel
theorem dX10_isOne_18 : decode cX10_isOne 18 = .ok (.aload_n 0, 1) := by decide +kernel
theorem dX10_isOne_19 : decode cX10_isOne 19 = .ok (.getfield 13, 3) := by decide +kernel
theorem dX10_isOne_22 : decode cX10_isOne 22 = .ok (.ifCond .ne 7, 3) := by decide +kernel
theorem dX10_isOne_25 : decode cX10_isOne 25 = .ok (.iconst 1, 1) := by decide +kernel
theorem dX10_isOne_26 : decode cX10_isOne 26 = .ok (.goto 4, 3) := by decide +kernel
theorem dX10_isOne_29 : decode cX10_isOne 29 = .ok (.iconst 0, 1) := by decide +kernel
theorem dX10_isOne_30 : decode cX10_isOne 30 = .ok (.ireturn, 1) := by decide +kernel
theorem dX10_flip_0 : decode cX10_flip 0 = .ok (.aload_n 0, 1) := by decide +kernel
theorem dX10_flip_1 : decode cX10_flip 1 = .ok (.aload_n 0, 1) := by decide +kernel
theorem dX10_flip_2 : decode cX10_flip 2 = .ok (.getfield 13, 3) := by decide +kernel
theorem dX10_flip_5 : decode cX10_flip 5 = .ok (.ifCond .ne 14, 3) := by decide +kernel
theorem dX10_flip_8 : decode cX10_flip 8 = .ok (.aload_n 0, 1) := by decide +kernel
theorem dX10_flip_9 : decode cX10_flip 9 = .ok (.getfield 17, 3) := by decide +kernel
theorem dX10_flip_12 : decode cX10_flip 12 = .ok (.ifCond .le 7, 3) := by decide +kernel
theorem dX10_flip_15 : decode cX10_flip 15 = .ok (.iconst 1, 1) := by decide +kernel
theorem dX10_flip_16 : decode cX10_flip 16 = .ok (.goto 4, 3) := by decide +kernel
theorem dX10_flip_19 : decode cX10_flip 19 = .ok (.iconst 0, 1) := by decide +kernel
theorem dX10_flip_20 : decode cX10_flip 20 = .ok (.putfield 13, 3) := by decide +kernel
theorem dX10_flip_23 : decode cX10_flip 23 = .ok (.return_, 1) := by decide +kernel
theorem dX10_bits_0 : decode cX10_bits 0 = .ok (.aload_n 0, 1) := by decide +kernel
theorem dX10_bits_1 : decode cX10_bits 1 = .ok (.getfield 17, 3) := by decide +kernel
theorem dX10_bits_4 : decode cX10_bits 4 = .ok (.ifCond .ne 5, 3) := by decide +kernel
theorem dX10_bits_7 : decode cX10_bits 7 = .ok (.iconst 0, 1) := by decide +kernel
theorem dX10_bits_8 : decode cX10_bits 8 = .ok (.ireturn, 1) := by decide +kernel
theorem dX10_bits_9 : decode cX10_bits 9 = .ok (.aload_n 0, 1) := by decide +kernel
theorem dX10_bits_10 : decode cX10_bits 10 = .ok (.getfield 17, 3) := by decide +kernel
theorem dX10_bits_13 : decode cX10_bits 13 = .ok (.iconst 1, 1) := by decide +kernel
theorem dX10_bits_14 : decode cX10_bits 14 = .ok (.isub, 1) := by decide +kernel
theorem dX10_bits_15 : decode cX10_bits 15 = .ok (.bipush 30, 2) := by decide +kernel
theorem dX10_bits_17 : decode cX10_bits 17 = .ok (.imul, 1) := by decide +kernel
theorem dX10_bits_18 : decode cX10_bits 18 = .ok (.istore_n 1, 1) := by decide +kernel
theorem dX10_bits_19 : decode cX10_bits 19 = .ok (.aload_n 0, 1) := by decide +kernel
theorem dX10_bits_20 : decode cX10_bits 20 = .ok (.getfield 9, 3) := by decide +kernel
theorem dX10_bits_23 : decode cX10_bits 23 = .ok (.aload_n 0, 1) := by decide +kernel
theorem dX10_bits_24 : decode cX10_bits 24 = .ok (.getfield 17, 3) := by decide +kernel
theorem dX10_bits_27 : decode cX10_bits 27 = .ok (.iconst 1, 1) := by decide +kernel
theorem dX10_bits_28 : decode cX10_bits 28 = .ok (.isub, 1) := by decide +kernel
theorem dX10_bits_29 : decode cX10_bits 29 = .ok (.iaload, 1) := by decide +kernel
theorem dX10_bits_30 : decode cX10_bits 30 = .ok (.istore_n 2, 1) := by decide +kernel
theorem dX10_bits_31 : decode cX10_bits 31 = .ok (.iload_n 2, 1) := by decide +kernel
theorem dX10_bits_32 : decode cX10_bits 32 = .ok (.ifCond .le 13, 3) := by decide +kernel
theorem dX10_bits_35 : decode cX10_bits 35 = .ok (.iinc 1 1, 3) := by decide +kernel
theorem dX10_bits_38 : decode cX10_bits 38 = .ok (.iload_n 2, 1) := by decide +kernel
theorem dX10_bits_39 : decode cX10_bits 39 = .ok (.iconst 1, 1) := by decide +kernel
theorem dX10_bits_40 : decode cX10_bits 40 = .ok (.ishr, 1) := by decide +kernel
theorem dX10_bits_41 : decode cX10_bits 41 = .ok (.istore_n 2, 1) := by decide +kernel
theorem dX10_bits_42 : decode cX10_bits 42 = .ok (.goto (-11), 3) := by decide +kernel
theorem dX10_bits_45 : decode cX10_bits 45 = .ok (.iload_n 1, 1) := by decide +kernel
theorem dX10_bits_46 : decode cX10_bits 46 = .ok (.ireturn, 1) := by decide +kernel
theorem dX10_clamped_0 : decode cX10_clamped 0 = .ok (.aload_n 0, 1) := by decide +kernel
theorem dX10_clamped_1 : decode cX10_clamped 1 = .ok (.getfield 17, 3) := by decide +kernel
theorem dX10_clamped_4 : decode cX10_clamped 4 = .ok (.ifCond .ne 7, 3) := by decide +kernel
theorem dX10_clamped_7 : decode cX10_clamped 7 = .ok (.iconst 0, 1) := by decide +kernel
theorem dX10_clamped_8 : decode cX10_clamped 8 = .ok (.goto 22, 3) := by decide +kernel
theorem dX10_clamped_11 : decode cX10_clamped 11 = .ok (.aload_n 0, 1) := by decide +kernel
theorem dX10_clamped_12 : decode cX10_clamped 12 = .ok (.getfield 17, 3) := by decide +kernel
theorem dX10_clamped_15 : decode cX10_clamped 15 = .ok (.iconst 1, 1) := by decide +kernel
theorem dX10_clamped_16 : decode cX10_clamped 16 = .ok (.if_icmp .ne 12, 3) := by decide +kernel
theorem dX10_clamped_19 : decode cX10_clamped 19 = .ok (.aload_n 0, 1) := by decide +kernel
theorem dX10_clamped_20 : decode cX10_clamped 20 = .ok (.getfield 9, 3) := by decide +kernel
theorem dX10_clamped_23 : decode cX10_clamped 23 = .ok (.iconst 0, 1) := by decide +kernel
theorem dX10_clamped_24 : decode cX10_clamped 24 = .ok (.iaload, 1) := by decide +kernel
theorem dX10_clamped_25 : decode cX10_clamped 25 = .ok (.goto 5, 3) := by decide +kernel
theorem dX10_clamped_28 : decode cX10_clamped 28 = .ok (.ldc 27, 2) := by decide +kernel
theorem dX10_clamped_30 : decode cX10_clamped 30 = .ok (.istore_n 1, 1) := by decide +kernel
theorem dX10_clamped_31 : decode cX10_clamped 31 = .ok (.aload_n 0, 1) := by decide +kernel
theorem dX10_clamped_32 : decode cX10_clamped 32 = .ok (.getfield 13, 3) := by decide +kernel
theorem dX10_clamped_35 : decode cX10_clamped 35 = .ok (.ifCond .eq 8, 3) := by decide +kernel
theorem dX10_clamped_38 : decode cX10_clamped 38 = .ok (.iload_n 1, 1) := by decide +kernel
theorem dX10_clamped_39 : decode cX10_clamped 39 = .ok (.ineg, 1) := by decide +kernel
theorem dX10_clamped_40 : decode cX10_clamped 40 = .ok (.goto 4, 3) := by decide +kernel
theorem dX10_clamped_43 : decode cX10_clamped 43 = .ok (.iload_n 1, 1) := by decide +kernel
theorem dX10_clamped_44 : decode cX10_clamped 44 = .ok (.ireturn, 1) := by decide +kernel
theorem dX10_compareSizes_0 : decode cX10_compareSizes 0 = .ok (.aload_n 0, 1) := by decide +kernel
theorem dX10_compareSizes_1 : decode cX10_compareSizes 1 = .ok (.getfield 17, 3) := by decide +kernel
theorem dX10_compareSizes_4 : decode cX10_compareSizes 4 = .ok (.aload_n 1, 1) := by decide +kernel
theorem dX10_compareSizes_5 : decode cX10_compareSizes 5 = .ok (.getfield 17, 3) := by decide +kernel
theorem dX10_compareSizes_8 : decode cX10_compareSizes 8 = .ok (.if_icmp .eq 20, 3) := by decide +kernel
theorem dX10_compareSizes_11 : decode cX10_compareSizes 11 = .ok (.aload_n 0, 1) := by decide +kernel
theorem dX10_compareSizes_12 : decode cX10_compareSizes 12 = .ok (.getfield 17, 3) := by decide +kernel
theorem dX10_compareSizes_15 : decode cX10_compareSizes 15 = .ok (.aload_n 1, 1) := by decide +kernel
theorem dX10_compareSizes_16 : decode cX10_compareSizes 16 = .ok (.getfield 17, 3) := by decide +kernel
theorem dX10_compareSizes_19 : decode cX10_compareSizes 19 = .ok (.if_icmp .ge 7, 3) := by decide +kernel
theorem dX10_compareSizes_22 : decode cX10_compareSizes 22 = .ok (.iconst (-1), 1) := by decide +kernel
theorem dX10_compareSizes_23 : decode cX10_compareSizes 23 = .ok (.goto 4, 3) := by decide +kernel
theorem dX10_compareSizes_26 : decode cX10_compareSizes 26 = .ok (.iconst 1, 1) := by decide +kernel
theorem dX10_compareSizes_27 : decode cX10_compareSizes 27 = .ok (.ireturn, 1) := by decide +kernel
theorem dX10_compareSizes_28 : decode cX10_compareSizes 28 = .ok (.aload_n 0, 1) := by decide +kernel
theorem dX10_compareSizes_29 : decode cX10_compareSizes 29 = .ok (.getfield 17, 3) := by decide +kernel
theorem dX10_compareSizes_32 : decode cX10_compareSizes 32 = .ok (.iconst 1, 1) := by decide +kernel
theorem dX10_compareSizes_33 : decode cX10_compareSizes 33 = .ok (.isub, 1) := by decide +kernel
theorem dX10_compareSizes_34 : decode cX10_compareSizes 34 = .ok (.istore_n 2, 1) := by decide +kernel
theorem dX10_compareSizes_35 : decode cX10_compareSizes 35 = .ok (.iload_n 2, 1) := by decide +kernel
theorem dX10_compareSizes_36 : decode cX10_compareSizes 36 = .ok (.ifCond .lt 45, 3) := by decide +kernel
theorem dX10_compareSizes_39 : decode cX10_compareSizes 39 = .ok (.aload_n 0, 1) := by decide +kernel
theorem dX10_compareSizes_40 : decode cX10_compareSizes 40 = .ok (.getfield 9, 3) := by decide +kernel
theorem dX10_compareSizes_43 : decode cX10_compareSizes 43 = .ok (.iload_n 2, 1) := by decide +kernel
theorem dX10_compareSizes_44 : decode cX10_compareSizes 44 = .ok (.iaload, 1) := by decide +kernel
theorem dX10_compareSizes_45 : decode cX10_compareSizes 45 = .ok (.aload_n 1, 1) := by decide +kernel
theorem dX10_compareSizes_46 : decode cX10_compareSizes 46 = .ok (.getfield 9, 3) := by decide +kernel
theorem dX10_compareSizes_49 : decode cX10_compareSizes 49 = .ok (.iload_n 2, 1) := by decide +kernel
theorem dX10_compareSizes_50 : decode cX10_compareSizes 50 = .ok (.iaload, 1) := by decide +kernel
theorem dX10_compareSizes_51 : decode cX10_compareSizes 51 = .ok (.if_icmp .eq 24, 3) := by decide +kernel
theorem dX10_compareSizes_54 : decode cX10_compareSizes 54 = .ok (.aload_n 0, 1) := by decide +kernel
theorem dX10_compareSizes_55 : decode cX10_compareSizes 55 = .ok (.getfield 9, 3) := by decide +kernel
theorem dX10_compareSizes_58 : decode cX10_compareSizes 58 = .ok (.iload_n 2, 1) := by decide +kernel
theorem dX10_compareSizes_59 : decode cX10_compareSizes 59 = .ok (.iaload, 1) := by decide +kernel
theorem dX10_compareSizes_60 : decode cX10_compareSizes 60 = .ok (.aload_n 1, 1) := by decide +kernel
theorem dX10_compareSizes_61 : decode cX10_compareSizes 61 = .ok (.getfield 9, 3) := by decide +kernel
theorem dX10_compareSizes_64 : decode cX10_compareSizes 64 = .ok (.iload_n 2, 1) := by decide +kernel
theorem dX10_compareSizes_65 : decode cX10_compareSizes 65 = .ok (.iaload, 1) := by decide +kernel
theorem dX10_compareSizes_66 : decode cX10_compareSizes 66 = .ok (.if_icmp .ge 7, 3) := by decide +kernel
theorem dX10_compareSizes_69 : decode cX10_compareSizes 69 = .ok (.iconst (-1), 1) := by decide +kernel
theorem dX10_compareSizes_70 : decode cX10_compareSizes 70 = .ok (.goto 4, 3) := by decide +kernel
theorem dX10_compareSizes_73 : decode cX10_compareSizes 73 = .ok (.iconst 1, 1) := by decide +kernel
theorem dX10_compareSizes_74 : decode cX10_compareSizes 74 = .ok (.ireturn, 1) := by decide +kernel
theorem dX10_compareSizes_75 : decode cX10_compareSizes 75 = .ok (.iinc 2 (-1), 3) := by decide +kernel
theorem dX10_compareSizes_78 : decode cX10_compareSizes 78 = .ok (.goto (-43), 3) := by decide +kernel
theorem dX10_compareSizes_81 : decode cX10_compareSizes 81 = .ok (.iconst 0, 1) := by decide +kernel
theorem dX10_compareSizes_82 : decode cX10_compareSizes 82 = .ok (.ireturn, 1) := by decide +kernel
theorem dX10_compareSigned_0 : decode cX10_compareSigned 0 = .ok (.aload_n 0, 1) := by decide +kernel
theorem dX10_compareSigned_1 : decode cX10_compareSigned 1 = .ok (.getfield 13, 3) := by decide +kernel
theorem dX10_compareSigned_4 : decode cX10_compareSigned 4 = .ok (.aload_n 1, 1) := by decide +kernel
theorem dX10_compareSigned_5 : decode cX10_compareSigned 5 = .ok (.getfield 13, 3) := by decide +kernel
theorem dX10_compareSigned_8 : decode cX10_compareSigned 8 = .ok (.if_icmp .eq 16, 3) := by decide +kernel
theorem dX10_compareSigned_11 : decode cX10_compareSigned 11 = .ok (.aload_n 0, 1) := by decide +kernel
theorem dX10_compareSigned_12 : decode cX10_compareSigned 12 = .ok (.getfield 13, 3) := by decide +kernel
theorem dX10_compareSigned_15 : decode cX10_compareSigned 15 = .ok (.ifCond .eq 7, 3) := by decide +kernel
theorem dX10_compareSigned_18 : decode cX10_compareSigned 18 = .ok (.iconst (-1), 1) := by decide +kernel
theorem dX10_compareSigned_19 : decode cX10_compareSigned 19 = .ok (.goto 4, 3) := by decide +kernel
theorem dX10_compareSigned_22 : decode cX10_compareSigned 22 = .ok (.iconst 1, 1) := by decide +kernel
theorem dX10_compareSigned_23 : decode cX10_compareSigned 23 = .ok (.ireturn, 1) := by decide +kernel
theorem dX10_compareSigned_24 : decode cX10_compareSigned 24 = .ok (.aload_n 0, 1) := by decide +kernel
theorem dX10_compareSigned_25 : decode cX10_compareSigned 25 = .ok (.getfield 13, 3) := by decide +kernel
theorem dX10_compareSigned_28 : decode cX10_compareSigned 28 = .ok (.ifCond .eq 11, 3) := by decide +kernel
theorem dX10_compareSigned_31 : decode cX10_compareSigned 31 = .ok (.aload_n 1, 1) := by decide +kernel
theorem dX10_compareSigned_32 : decode cX10_compareSigned 32 = .ok (.aload_n 0, 1) := by decide +kernel
theorem dX10_compareSigned_33 : decode cX10_compareSigned 33 = .ok (.invokestatic 28, 3) := by decide +kernel
theorem dX10_compareSigned_36 : decode cX10_compareSigned 36 = .ok (.goto 8, 3) := by decide +kernel
theorem dX10_compareSigned_39 : decode cX10_compareSigned 39 = .ok (.aload_n 0, 1) := by decide +kernel
theorem dX10_compareSigned_40 : decode cX10_compareSigned 40 = .ok (.aload_n 1, 1) := by decide +kernel
theorem dX10_compareSigned_41 : decode cX10_compareSigned 41 = .ok (.invokestatic 28, 3) := by decide +kernel
theorem dX10_compareSigned_44 : decode cX10_compareSigned 44 = .ok (.ireturn, 1) := by decide +kernel
theorem dX10_sum_0 : decode cX10_sum 0 = .ok (.aload_n 2, 1) := by decide +kernel
theorem dX10_sum_1 : decode cX10_sum 1 = .ok (.getfield 13, 3) := by decide +kernel
theorem dX10_sum_4 : decode cX10_sum 4 = .ok (.iload_n 3, 1) := by decide +kernel
theorem dX10_sum_5 : decode cX10_sum 5 = .ok (.if_icmp .eq 7, 3) := by decide +kernel
theorem dX10_sum_8 : decode cX10_sum 8 = .ok (.iconst 1, 1) := by decide +kernel
theorem dX10_sum_9 : decode cX10_sum 9 = .ok (.goto 4, 3) := by decide +kernel
theorem dX10_sum_12 : decode cX10_sum 12 = .ok (.iconst 0, 1) := by decide +kernel
theorem dX10_sum_13 : decode cX10_sum 13 = .ok (.istore 4, 2) := by decide +kernel
theorem dX10_sum_15 : decode cX10_sum 15 = .ok (.aload_n 1, 1) := by decide +kernel
theorem dX10_sum_16 : decode cX10_sum 16 = .ok (.aload_n 2, 1) := by decide +kernel
theorem dX10_sum_17 : decode cX10_sum 17 = .ok (.invokestatic 28, 3) := by decide +kernel
theorem dX10_sum_20 : decode cX10_sum 20 = .ok (.ifCond .ge 7, 3) := by decide +kernel
theorem dX10_sum_23 : decode cX10_sum 23 = .ok (.iconst 1, 1) := by decide +kernel
theorem dX10_sum_24 : decode cX10_sum 24 = .ok (.goto 4, 3) := by decide +kernel
theorem dX10_sum_27 : decode cX10_sum 27 = .ok (.iconst 0, 1) := by decide +kernel
theorem dX10_sum_28 : decode cX10_sum 28 = .ok (.istore 5, 2) := by decide +kernel
theorem dX10_sum_30 : decode cX10_sum 30 = .ok (.iload 5, 2) := by decide +kernel
theorem dX10_sum_32 : decode cX10_sum 32 = .ok (.ifCond .eq 7, 3) := by decide +kernel
theorem dX10_sum_35 : decode cX10_sum 35 = .ok (.aload_n 2, 1) := by decide +kernel
theorem dX10_sum_36 : decode cX10_sum 36 = .ok (.goto 4, 3) := by decide +kernel
theorem dX10_sum_39 : decode cX10_sum 39 = .ok (.aload_n 1, 1) := by decide +kernel
theorem dX10_sum_40 : decode cX10_sum 40 = .ok (.astore 6, 2) := by decide +kernel
theorem dX10_sum_42 : decode cX10_sum 42 = .ok (.iload 5, 2) := by decide +kernel
theorem dX10_sum_44 : decode cX10_sum 44 = .ok (.ifCond .eq 7, 3) := by decide +kernel
theorem dX10_sum_47 : decode cX10_sum 47 = .ok (.aload_n 1, 1) := by decide +kernel
theorem dX10_sum_48 : decode cX10_sum 48 = .ok (.goto 4, 3) := by decide +kernel
theorem dX10_sum_51 : decode cX10_sum 51 = .ok (.aload_n 2, 1) := by decide +kernel
theorem dX10_sum_52 : decode cX10_sum 52 = .ok (.astore 7, 2) := by decide +kernel
theorem dX10_sum_54 : decode cX10_sum 54 = .ok (.aload_n 1, 1) := by decide +kernel
theorem dX10_sum_55 : decode cX10_sum 55 = .ok (.getfield 13, 3) := by decide +kernel
theorem dX10_sum_58 : decode cX10_sum 58 = .ok (.iload 4, 2) := by decide +kernel
theorem dX10_sum_60 : decode cX10_sum 60 = .ok (.if_icmp .ne 7, 3) := by decide +kernel
theorem dX10_sum_63 : decode cX10_sum 63 = .ok (.iconst 1, 1) := by decide +kernel
theorem dX10_sum_64 : decode cX10_sum 64 = .ok (.goto 4, 3) := by decide +kernel
theorem dX10_sum_67 : decode cX10_sum 67 = .ok (.iconst (-1), 1) := by decide +kernel
theorem dX10_sum_68 : decode cX10_sum 68 = .ok (.istore 8, 2) := by decide +kernel
theorem dX10_sum_70 : decode cX10_sum 70 = .ok (.aload 6, 2) := by decide +kernel
theorem dX10_sum_72 : decode cX10_sum 72 = .ok (.getfield 17, 3) := by decide +kernel
theorem dX10_sum_75 : decode cX10_sum 75 = .ok (.iconst 1, 1) := by decide +kernel
theorem dX10_sum_76 : decode cX10_sum 76 = .ok (.iadd, 1) := by decide +kernel
theorem dX10_sum_77 : decode cX10_sum 77 = .ok (.aload_n 0, 1) := by decide +kernel
theorem dX10_sum_78 : decode cX10_sum 78 = .ok (.getfield 9, 3) := by decide +kernel
theorem dX10_sum_81 : decode cX10_sum 81 = .ok (.arraylength, 1) := by decide +kernel
theorem dX10_sum_82 : decode cX10_sum 82 = .ok (.invokestatic 32, 3) := by decide +kernel
theorem dX10_sum_85 : decode cX10_sum 85 = .ok (.istore 9, 2) := by decide +kernel
theorem dX10_sum_87 : decode cX10_sum 87 = .ok (.lconst 0, 1) := by decide +kernel
theorem dX10_sum_88 : decode cX10_sum 88 = .ok (.lstore 10, 2) := by decide +kernel
theorem dX10_sum_90 : decode cX10_sum 90 = .ok (.iconst 0, 1) := by decide +kernel
theorem dX10_sum_91 : decode cX10_sum 91 = .ok (.istore 12, 2) := by decide +kernel
theorem dX10_sum_93 : decode cX10_sum 93 = .ok (.iload 12, 2) := by decide +kernel
theorem dX10_sum_95 : decode cX10_sum 95 = .ok (.iload 9, 2) := by decide +kernel
theorem dX10_sum_97 : decode cX10_sum 97 = .ok (.if_icmp .ge 94, 3) := by decide +kernel
theorem dX10_sum_100 : decode cX10_sum 100 = .ok (.iload 12, 2) := by decide +kernel
theorem dX10_sum_102 : decode cX10_sum 102 = .ok (.aload 6, 2) := by decide +kernel
theorem dX10_sum_104 : decode cX10_sum 104 = .ok (.getfield 17, 3) := by decide +kernel
theorem dX10_sum_107 : decode cX10_sum 107 = .ok (.if_icmp .ge 15, 3) := by decide +kernel
theorem dX10_sum_110 : decode cX10_sum 110 = .ok (.aload 6, 2) := by decide +kernel
theorem dX10_sum_112 : decode cX10_sum 112 = .ok (.getfield 9, 3) := by decide +kernel
theorem dX10_sum_115 : decode cX10_sum 115 = .ok (.iload 12, 2) := by decide +kernel
theorem dX10_sum_117 : decode cX10_sum 117 = .ok (.iaload, 1) := by decide +kernel
theorem dX10_sum_118 : decode cX10_sum 118 = .ok (.i2l, 1) := by decide +kernel
theorem dX10_sum_119 : decode cX10_sum 119 = .ok (.goto 4, 3) := by decide +kernel
theorem dX10_sum_122 : decode cX10_sum 122 = .ok (.lconst 0, 1) := by decide +kernel
theorem dX10_sum_123 : decode cX10_sum 123 = .ok (.lstore 13, 2) := by decide +kernel
theorem dX10_sum_125 : decode cX10_sum 125 = .ok (.iload 12, 2) := by decide +kernel
theorem dX10_sum_127 : decode cX10_sum 127 = .ok (.aload 7, 2) := by decide +kernel
theorem dX10_sum_129 : decode cX10_sum 129 = .ok (.getfield 17, 3) := by decide +kernel
theorem dX10_sum_132 : decode cX10_sum 132 = .ok (.if_icmp .ge 15, 3) := by decide +kernel
theorem dX10_sum_135 : decode cX10_sum 135 = .ok (.aload 7, 2) := by decide +kernel
theorem dX10_sum_137 : decode cX10_sum 137 = .ok (.getfield 9, 3) := by decide +kernel
theorem dX10_sum_140 : decode cX10_sum 140 = .ok (.iload 12, 2) := by decide +kernel
theorem dX10_sum_142 : decode cX10_sum 142 = .ok (.iaload, 1) := by decide +kernel
theorem dX10_sum_143 : decode cX10_sum 143 = .ok (.i2l, 1) := by decide +kernel
theorem dX10_sum_144 : decode cX10_sum 144 = .ok (.goto 4, 3) := by decide +kernel
theorem dX10_sum_147 : decode cX10_sum 147 = .ok (.lconst 0, 1) := by decide +kernel
theorem dX10_sum_148 : decode cX10_sum 148 = .ok (.lstore 15, 2) := by decide +kernel
theorem dX10_sum_150 : decode cX10_sum 150 = .ok (.lload 13, 2) := by decide +kernel
theorem dX10_sum_152 : decode cX10_sum 152 = .ok (.iload 8, 2) := by decide +kernel
theorem dX10_sum_154 : decode cX10_sum 154 = .ok (.i2l, 1) := by decide +kernel
theorem dX10_sum_155 : decode cX10_sum 155 = .ok (.lload 15, 2) := by decide +kernel
theorem dX10_sum_157 : decode cX10_sum 157 = .ok (.lmul, 1) := by decide +kernel
theorem dX10_sum_158 : decode cX10_sum 158 = .ok (.ladd, 1) := by decide +kernel
theorem dX10_sum_159 : decode cX10_sum 159 = .ok (.lload 10, 2) := by decide +kernel
theorem dX10_sum_161 : decode cX10_sum 161 = .ok (.ladd, 1) := by decide +kernel
theorem dX10_sum_162 : decode cX10_sum 162 = .ok (.lstore 17, 2) := by decide +kernel
theorem dX10_sum_164 : decode cX10_sum 164 = .ok (.aload_n 0, 1) := by decide +kernel
theorem dX10_sum_165 : decode cX10_sum 165 = .ok (.getfield 9, 3) := by decide +kernel
theorem dX10_sum_168 : decode cX10_sum 168 = .ok (.iload 12, 2) := by decide +kernel
theorem dX10_sum_170 : decode cX10_sum 170 = .ok (.lload 17, 2) := by decide +kernel
theorem dX10_sum_172 : decode cX10_sum 172 = .ok (.ldc2_w 21, 3) := by decide +kernel
theorem dX10_sum_175 : decode cX10_sum 175 = .ok (.land, 1) := by decide +kernel
theorem dX10_sum_176 : decode cX10_sum 176 = .ok (.l2i, 1) := by decide +kernel
theorem dX10_sum_177 : decode cX10_sum 177 = .ok (.iastore, 1) := by decide +kernel
theorem dX10_sum_178 : decode cX10_sum 178 = .ok (.lload 17, 2) := by decide +kernel
theorem dX10_sum_180 : decode cX10_sum 180 = .ok (.bipush 30, 2) := by decide +kernel
theorem dX10_sum_182 : decode cX10_sum 182 = .ok (.lshr, 1) := by decide +kernel
theorem dX10_sum_183 : decode cX10_sum 183 = .ok (.lstore 10, 2) := by decide +kernel
theorem dX10_sum_185 : decode cX10_sum 185 = .ok (.iinc 12 1, 3) := by decide +kernel
theorem dX10_sum_188 : decode cX10_sum 188 = .ok (.goto (-95), 3) := by decide +kernel
theorem dX10_sum_191 : decode cX10_sum 191 = .ok (.aload_n 0, 1) := by decide +kernel
theorem dX10_sum_192 : decode cX10_sum 192 = .ok (.iload 5, 2) := by decide +kernel
theorem dX10_sum_194 : decode cX10_sum 194 = .ok (.ifCond .eq 8, 3) := by decide +kernel
theorem dX10_sum_197 : decode cX10_sum 197 = .ok (.iload 4, 2) := by decide +kernel
theorem dX10_sum_199 : decode cX10_sum 199 = .ok (.goto 7, 3) := by decide +kernel
theorem dX10_sum_202 : decode cX10_sum 202 = .ok (.aload_n 1, 1) := by decide +kernel
theorem dX10_sum_203 : decode cX10_sum 203 = .ok (.getfield 13, 3) := by decide +kernel
theorem dX10_sum_206 : decode cX10_sum 206 = .ok (.putfield 13, 3) := by decide +kernel
theorem dX10_sum_209 : decode cX10_sum 209 = .ok (.aload_n 0, 1) := by decide +kernel
theorem dX10_sum_210 : decode cX10_sum 210 = .ok (.iload 9, 2) := by decide +kernel
theorem dX10_sum_212 : decode cX10_sum 212 = .ok (.invokevirtual 38, 3) := by decide +kernel
theorem dX10_sum_215 : decode cX10_sum 215 = .ok (.return_, 1) := by decide +kernel
theorem dX10_multiply_0 : decode cX10_multiply 0 = .ok (.aload_n 1, 1) := by decide +kernel
theorem dX10_multiply_1 : decode cX10_multiply 1 = .ok (.getfield 17, 3) := by decide +kernel
theorem dX10_multiply_4 : decode cX10_multiply 4 = .ok (.aload_n 2, 1) := by decide +kernel
theorem dX10_multiply_5 : decode cX10_multiply 5 = .ok (.getfield 17, 3) := by decide +kernel
theorem dX10_multiply_8 : decode cX10_multiply 8 = .ok (.iadd, 1) := by decide +kernel
theorem dX10_multiply_9 : decode cX10_multiply 9 = .ok (.aload_n 0, 1) := by decide +kernel
theorem dX10_multiply_10 : decode cX10_multiply 10 = .ok (.getfield 9, 3) := by decide +kernel
theorem dX10_multiply_13 : decode cX10_multiply 13 = .ok (.arraylength, 1) := by decide +kernel
theorem dX10_multiply_14 : decode cX10_multiply 14 = .ok (.invokestatic 32, 3) := by decide +kernel
theorem dX10_multiply_17 : decode cX10_multiply 17 = .ok (.istore_n 3, 1) := by decide +kernel
theorem dX10_multiply_18 : decode cX10_multiply 18 = .ok (.iconst 0, 1) := by decide +kernel
theorem dX10_multiply_19 : decode cX10_multiply 19 = .ok (.istore 4, 2) := by decide +kernel
theorem dX10_multiply_21 : decode cX10_multiply 21 = .ok (.iload 4, 2) := by decide +kernel
theorem dX10_multiply_23 : decode cX10_multiply 23 = .ok (.iload_n 3, 1) := by decide +kernel
theorem dX10_multiply_24 : decode cX10_multiply 24 = .ok (.if_icmp .ge 17, 3) := by decide +kernel
theorem dX10_multiply_27 : decode cX10_multiply 27 = .ok (.aload_n 0, 1) := by decide +kernel
theorem dX10_multiply_28 : decode cX10_multiply 28 = .ok (.getfield 9, 3) := by decide +kernel
theorem dX10_multiply_31 : decode cX10_multiply 31 = .ok (.iload 4, 2) := by decide +kernel
theorem dX10_multiply_33 : decode cX10_multiply 33 = .ok (.iconst 0, 1) := by decide +kernel
theorem dX10_multiply_34 : decode cX10_multiply 34 = .ok (.iastore, 1) := by decide +kernel
theorem dX10_multiply_35 : decode cX10_multiply 35 = .ok (.iinc 4 1, 3) := by decide +kernel
theorem dX10_multiply_38 : decode cX10_multiply 38 = .ok (.goto (-17), 3) := by decide +kernel
theorem dX10_multiply_41 : decode cX10_multiply 41 = .ok (.iconst 0, 1) := by decide +kernel
theorem dX10_multiply_42 : decode cX10_multiply 42 = .ok (.istore 4, 2) := by decide +kernel
theorem dX10_multiply_44 : decode cX10_multiply 44 = .ok (.iload 4, 2) := by decide +kernel
theorem dX10_multiply_46 : decode cX10_multiply 46 = .ok (.aload_n 1, 1) := by decide +kernel
theorem dX10_multiply_47 : decode cX10_multiply 47 = .ok (.getfield 17, 3) := by decide +kernel
theorem dX10_multiply_50 : decode cX10_multiply 50 = .ok (.if_icmp .ge 129, 3) := by decide +kernel
theorem dX10_multiply_53 : decode cX10_multiply 53 = .ok (.iload 4, 2) := by decide +kernel
theorem dX10_multiply_55 : decode cX10_multiply 55 = .ok (.iload_n 3, 1) := by decide +kernel
theorem dX10_multiply_56 : decode cX10_multiply 56 = .ok (.if_icmp .ge 123, 3) := by decide +kernel
theorem dX10_multiply_59 : decode cX10_multiply 59 = .ok (.lconst 0, 1) := by decide +kernel
theorem dX10_multiply_60 : decode cX10_multiply 60 = .ok (.lstore 5, 2) := by decide +kernel
theorem dX10_multiply_62 : decode cX10_multiply 62 = .ok (.iconst 0, 1) := by decide +kernel
theorem dX10_multiply_63 : decode cX10_multiply 63 = .ok (.istore 7, 2) := by decide +kernel
theorem dX10_multiply_65 : decode cX10_multiply 65 = .ok (.iload 7, 2) := by decide +kernel
theorem dX10_multiply_67 : decode cX10_multiply 67 = .ok (.aload_n 2, 1) := by decide +kernel
theorem dX10_multiply_68 : decode cX10_multiply 68 = .ok (.getfield 17, 3) := by decide +kernel
theorem dX10_multiply_71 : decode cX10_multiply 71 = .ok (.if_icmp .ge 76, 3) := by decide +kernel
theorem dX10_multiply_74 : decode cX10_multiply 74 = .ok (.iload 4, 2) := by decide +kernel
theorem dX10_multiply_76 : decode cX10_multiply 76 = .ok (.iload 7, 2) := by decide +kernel
theorem dX10_multiply_78 : decode cX10_multiply 78 = .ok (.iadd, 1) := by decide +kernel
theorem dX10_multiply_79 : decode cX10_multiply 79 = .ok (.iload_n 3, 1) := by decide +kernel
theorem dX10_multiply_80 : decode cX10_multiply 80 = .ok (.if_icmp .ge 67, 3) := by decide +kernel
theorem dX10_multiply_83 : decode cX10_multiply 83 = .ok (.aload_n 0, 1) := by decide +kernel
theorem dX10_multiply_84 : decode cX10_multiply 84 = .ok (.getfield 9, 3) := by decide +kernel
theorem dX10_multiply_87 : decode cX10_multiply 87 = .ok (.iload 4, 2) := by decide +kernel
theorem dX10_multiply_89 : decode cX10_multiply 89 = .ok (.iload 7, 2) := by decide +kernel
theorem dX10_multiply_91 : decode cX10_multiply 91 = .ok (.iadd, 1) := by decide +kernel
theorem dX10_multiply_92 : decode cX10_multiply 92 = .ok (.iaload, 1) := by decide +kernel
theorem dX10_multiply_93 : decode cX10_multiply 93 = .ok (.i2l, 1) := by decide +kernel
theorem dX10_multiply_94 : decode cX10_multiply 94 = .ok (.aload_n 1, 1) := by decide +kernel
theorem dX10_multiply_95 : decode cX10_multiply 95 = .ok (.getfield 9, 3) := by decide +kernel
theorem dX10_multiply_98 : decode cX10_multiply 98 = .ok (.iload 4, 2) := by decide +kernel
theorem dX10_multiply_100 : decode cX10_multiply 100 = .ok (.iaload, 1) := by decide +kernel
theorem dX10_multiply_101 : decode cX10_multiply 101 = .ok (.i2l, 1) := by decide +kernel
theorem dX10_multiply_102 : decode cX10_multiply 102 = .ok (.aload_n 2, 1) := by decide +kernel
theorem dX10_multiply_103 : decode cX10_multiply 103 = .ok (.getfield 9, 3) := by decide +kernel
theorem dX10_multiply_106 : decode cX10_multiply 106 = .ok (.iload 7, 2) := by decide +kernel
theorem dX10_multiply_108 : decode cX10_multiply 108 = .ok (.iaload, 1) := by decide +kernel
theorem dX10_multiply_109 : decode cX10_multiply 109 = .ok (.i2l, 1) := by decide +kernel
theorem dX10_multiply_110 : decode cX10_multiply 110 = .ok (.lmul, 1) := by decide +kernel
theorem dX10_multiply_111 : decode cX10_multiply 111 = .ok (.ladd, 1) := by decide +kernel
theorem dX10_multiply_112 : decode cX10_multiply 112 = .ok (.lload 5, 2) := by decide +kernel
theorem dX10_multiply_114 : decode cX10_multiply 114 = .ok (.ladd, 1) := by decide +kernel
theorem dX10_multiply_115 : decode cX10_multiply 115 = .ok (.lstore 8, 2) := by decide +kernel
theorem dX10_multiply_117 : decode cX10_multiply 117 = .ok (.aload_n 0, 1) := by decide +kernel
theorem dX10_multiply_118 : decode cX10_multiply 118 = .ok (.getfield 9, 3) := by decide +kernel
theorem dX10_multiply_121 : decode cX10_multiply 121 = .ok (.iload 4, 2) := by decide +kernel
theorem dX10_multiply_123 : decode cX10_multiply 123 = .ok (.iload 7, 2) := by decide +kernel
theorem dX10_multiply_125 : decode cX10_multiply 125 = .ok (.iadd, 1) := by decide +kernel
theorem dX10_multiply_126 : decode cX10_multiply 126 = .ok (.lload 8, 2) := by decide +kernel
theorem dX10_multiply_128 : decode cX10_multiply 128 = .ok (.ldc2_w 21, 3) := by decide +kernel
theorem dX10_multiply_131 : decode cX10_multiply 131 = .ok (.land, 1) := by decide +kernel
theorem dX10_multiply_132 : decode cX10_multiply 132 = .ok (.l2i, 1) := by decide +kernel
theorem dX10_multiply_133 : decode cX10_multiply 133 = .ok (.iastore, 1) := by decide +kernel
theorem dX10_multiply_134 : decode cX10_multiply 134 = .ok (.lload 8, 2) := by decide +kernel
theorem dX10_multiply_136 : decode cX10_multiply 136 = .ok (.bipush 30, 2) := by decide +kernel
theorem dX10_multiply_138 : decode cX10_multiply 138 = .ok (.lshr, 1) := by decide +kernel
theorem dX10_multiply_139 : decode cX10_multiply 139 = .ok (.lstore 5, 2) := by decide +kernel
theorem dX10_multiply_141 : decode cX10_multiply 141 = .ok (.iinc 7 1, 3) := by decide +kernel
theorem dX10_multiply_144 : decode cX10_multiply 144 = .ok (.goto (-79), 3) := by decide +kernel
theorem dX10_multiply_147 : decode cX10_multiply 147 = .ok (.iload 4, 2) := by decide +kernel
theorem dX10_multiply_149 : decode cX10_multiply 149 = .ok (.aload_n 2, 1) := by decide +kernel
theorem dX10_multiply_150 : decode cX10_multiply 150 = .ok (.getfield 17, 3) := by decide +kernel
theorem dX10_multiply_153 : decode cX10_multiply 153 = .ok (.iadd, 1) := by decide +kernel
theorem dX10_multiply_154 : decode cX10_multiply 154 = .ok (.iload_n 3, 1) := by decide +kernel
theorem dX10_multiply_155 : decode cX10_multiply 155 = .ok (.if_icmp .ge 18, 3) := by decide +kernel
theorem dX10_multiply_158 : decode cX10_multiply 158 = .ok (.aload_n 0, 1) := by decide +kernel
theorem dX10_multiply_159 : decode cX10_multiply 159 = .ok (.getfield 9, 3) := by decide +kernel
theorem dX10_multiply_162 : decode cX10_multiply 162 = .ok (.iload 4, 2) := by decide +kernel
theorem dX10_multiply_164 : decode cX10_multiply 164 = .ok (.aload_n 2, 1) := by decide +kernel
theorem dX10_multiply_165 : decode cX10_multiply 165 = .ok (.getfield 17, 3) := by decide +kernel
theorem dX10_multiply_168 : decode cX10_multiply 168 = .ok (.iadd, 1) := by decide +kernel
theorem dX10_multiply_169 : decode cX10_multiply 169 = .ok (.lload 5, 2) := by decide +kernel
theorem dX10_multiply_171 : decode cX10_multiply 171 = .ok (.l2i, 1) := by decide +kernel
theorem dX10_multiply_172 : decode cX10_multiply 172 = .ok (.iastore, 1) := by decide +kernel
theorem dX10_multiply_173 : decode cX10_multiply 173 = .ok (.iinc 4 1, 3) := by decide +kernel
theorem dX10_multiply_176 : decode cX10_multiply 176 = .ok (.goto (-132), 3) := by decide +kernel
theorem dX10_multiply_179 : decode cX10_multiply 179 = .ok (.aload_n 0, 1) := by decide +kernel
theorem dX10_multiply_180 : decode cX10_multiply 180 = .ok (.aload_n 1, 1) := by decide +kernel
theorem dX10_multiply_181 : decode cX10_multiply 181 = .ok (.getfield 13, 3) := by decide +kernel
theorem dX10_multiply_184 : decode cX10_multiply 184 = .ok (.aload_n 2, 1) := by decide +kernel
theorem dX10_multiply_185 : decode cX10_multiply 185 = .ok (.getfield 13, 3) := by decide +kernel
theorem dX10_multiply_188 : decode cX10_multiply 188 = .ok (.if_icmp .eq 7, 3) := by decide +kernel
theorem dX10_multiply_191 : decode cX10_multiply 191 = .ok (.iconst 1, 1) := by decide +kernel
theorem dX10_multiply_192 : decode cX10_multiply 192 = .ok (.goto 4, 3) := by decide +kernel
theorem dX10_multiply_195 : decode cX10_multiply 195 = .ok (.iconst 0, 1) := by decide +kernel
theorem dX10_multiply_196 : decode cX10_multiply 196 = .ok (.putfield 13, 3) := by decide +kernel
theorem dX10_multiply_199 : decode cX10_multiply 199 = .ok (.aload_n 0, 1) := by decide +kernel
theorem dX10_multiply_200 : decode cX10_multiply 200 = .ok (.iload_n 3, 1) := by decide +kernel
theorem dX10_multiply_201 : decode cX10_multiply 201 = .ok (.invokevirtual 38, 3) := by decide +kernel
theorem dX10_multiply_204 : decode cX10_multiply 204 = .ok (.return_, 1) := by decide +kernel
theorem dX10_shrink_0 : decode cX10_shrink 0 = .ok (.iload_n 1, 1) := by decide +kernel
theorem dX10_shrink_1 : decode cX10_shrink 1 = .ok (.iconst 1, 1) := by decide +kernel
theorem dX10_shrink_2 : decode cX10_shrink 2 = .ok (.if_icmp .ge 5, 3) := by decide +kernel
theorem dX10_shrink_5 : decode cX10_shrink 5 = .ok (.iconst 0, 1) := by decide +kernel
theorem dX10_shrink_6 : decode cX10_shrink 6 = .ok (.ireturn, 1) := by decide +kernel
theorem dX10_shrink_7 : decode cX10_shrink 7 = .ok (.lconst 0, 1) := by decide +kernel
theorem dX10_shrink_8 : decode cX10_shrink 8 = .ok (.lstore_n 2, 1) := by decide +kernel
theorem dX10_shrink_9 : decode cX10_shrink 9 = .ok (.aload_n 0, 1) := by decide +kernel
theorem dX10_shrink_10 : decode cX10_shrink 10 = .ok (.getfield 17, 3) := by decide +kernel
theorem dX10_shrink_13 : decode cX10_shrink 13 = .ok (.iconst 1, 1) := by decide +kernel
theorem dX10_shrink_14 : decode cX10_shrink 14 = .ok (.isub, 1) := by decide +kernel
theorem dX10_shrink_15 : decode cX10_shrink 15 = .ok (.istore 4, 2) := by decide +kernel
theorem dX10_shrink_17 : decode cX10_shrink 17 = .ok (.iload 4, 2) := by decide +kernel
theorem dX10_shrink_19 : decode cX10_shrink 19 = .ok (.ifCond .lt 43, 3) := by decide +kernel
theorem dX10_shrink_22 : decode cX10_shrink 22 = .ok (.lload_n 2, 1) := by decide +kernel
theorem dX10_shrink_23 : decode cX10_shrink 23 = .ok (.bipush 30, 2) := by decide +kernel
theorem dX10_shrink_25 : decode cX10_shrink 25 = .ok (.lshl, 1) := by decide +kernel
theorem dX10_shrink_26 : decode cX10_shrink 26 = .ok (.aload_n 0, 1) := by decide +kernel
theorem dX10_shrink_27 : decode cX10_shrink 27 = .ok (.getfield 9, 3) := by decide +kernel
theorem dX10_shrink_30 : decode cX10_shrink 30 = .ok (.iload 4, 2) := by decide +kernel
theorem dX10_shrink_32 : decode cX10_shrink 32 = .ok (.iaload, 1) := by decide +kernel
theorem dX10_shrink_33 : decode cX10_shrink 33 = .ok (.i2l, 1) := by decide +kernel
theorem dX10_shrink_34 : decode cX10_shrink 34 = .ok (.lor, 1) := by decide +kernel
theorem dX10_shrink_35 : decode cX10_shrink 35 = .ok (.lstore 5, 2) := by decide +kernel
theorem dX10_shrink_37 : decode cX10_shrink 37 = .ok (.aload_n 0, 1) := by decide +kernel
theorem dX10_shrink_38 : decode cX10_shrink 38 = .ok (.getfield 9, 3) := by decide +kernel
theorem dX10_shrink_41 : decode cX10_shrink 41 = .ok (.iload 4, 2) := by decide +kernel
theorem dX10_shrink_43 : decode cX10_shrink 43 = .ok (.lload 5, 2) := by decide +kernel
theorem dX10_shrink_45 : decode cX10_shrink 45 = .ok (.iload_n 1, 1) := by decide +kernel
theorem dX10_shrink_46 : decode cX10_shrink 46 = .ok (.i2l, 1) := by decide +kernel
theorem dX10_shrink_47 : decode cX10_shrink 47 = .ok (.ldiv, 1) := by decide +kernel
theorem dX10_shrink_48 : decode cX10_shrink 48 = .ok (.l2i, 1) := by decide +kernel
theorem dX10_shrink_49 : decode cX10_shrink 49 = .ok (.iastore, 1) := by decide +kernel
theorem dX10_shrink_50 : decode cX10_shrink 50 = .ok (.lload 5, 2) := by decide +kernel
theorem dX10_shrink_52 : decode cX10_shrink 52 = .ok (.iload_n 1, 1) := by decide +kernel
theorem dX10_shrink_53 : decode cX10_shrink 53 = .ok (.i2l, 1) := by decide +kernel
theorem dX10_shrink_54 : decode cX10_shrink 54 = .ok (.lrem, 1) := by decide +kernel
theorem dX10_shrink_55 : decode cX10_shrink 55 = .ok (.lstore_n 2, 1) := by decide +kernel
theorem dX10_shrink_56 : decode cX10_shrink 56 = .ok (.iinc 4 (-1), 3) := by decide +kernel
theorem dX10_shrink_59 : decode cX10_shrink 59 = .ok (.goto (-42), 3) := by decide +kernel
theorem dX10_shrink_62 : decode cX10_shrink 62 = .ok (.aload_n 0, 1) := by decide +kernel
theorem dX10_shrink_63 : decode cX10_shrink 63 = .ok (.getfield 17, 3) := by decide +kernel
theorem dX10_shrink_66 : decode cX10_shrink 66 = .ok (.ifCond .le 27, 3) := by decide +kernel
theorem dX10_shrink_69 : decode cX10_shrink 69 = .ok (.aload_n 0, 1) := by decide +kernel
theorem dX10_shrink_70 : decode cX10_shrink 70 = .ok (.getfield 9, 3) := by decide +kernel
theorem dX10_shrink_73 : decode cX10_shrink 73 = .ok (.aload_n 0, 1) := by decide +kernel
theorem dX10_shrink_74 : decode cX10_shrink 74 = .ok (.getfield 17, 3) := by decide +kernel
theorem dX10_shrink_77 : decode cX10_shrink 77 = .ok (.iconst 1, 1) := by decide +kernel
theorem dX10_shrink_78 : decode cX10_shrink 78 = .ok (.isub, 1) := by decide +kernel
theorem dX10_shrink_79 : decode cX10_shrink 79 = .ok (.iaload, 1) := by decide +kernel
theorem dX10_shrink_80 : decode cX10_shrink 80 = .ok (.ifCond .ne 13, 3) := by decide +kernel
theorem dX10_shrink_83 : decode cX10_shrink 83 = .ok (.aload_n 0, 1) := by decide +kernel
theorem dX10_shrink_84 : decode cX10_shrink 84 = .ok (.dup, 1) := by decide +kernel
theorem dX10_shrink_85 : decode cX10_shrink 85 = .ok (.getfield 17, 3) := by decide +kernel
theorem dX10_shrink_88 : decode cX10_shrink 88 = .ok (.iconst 1, 1) := by decide +kernel
theorem dX10_shrink_89 : decode cX10_shrink 89 = .ok (.isub, 1) := by decide +kernel
theorem dX10_shrink_90 : decode cX10_shrink 90 = .ok (.putfield 17, 3) := by decide +kernel
theorem dX10_shrink_93 : decode cX10_shrink 93 = .ok (.aload_n 0, 1) := by decide +kernel
theorem dX10_shrink_94 : decode cX10_shrink 94 = .ok (.aload_n 0, 1) := by decide +kernel
theorem dX10_shrink_95 : decode cX10_shrink 95 = .ok (.getfield 13, 3) := by decide +kernel
theorem dX10_shrink_98 : decode cX10_shrink 98 = .ok (.ifCond .eq 14, 3) := by decide +kernel
theorem dX10_shrink_101 : decode cX10_shrink 101 = .ok (.aload_n 0, 1) := by decide +kernel
theorem dX10_shrink_102 : decode cX10_shrink 102 = .ok (.getfield 17, 3) := by decide +kernel
theorem dX10_shrink_105 : decode cX10_shrink 105 = .ok (.ifCond .le 7, 3) := by decide +kernel
theorem dX10_shrink_108 : decode cX10_shrink 108 = .ok (.iconst 1, 1) := by decide +kernel
theorem dX10_shrink_109 : decode cX10_shrink 109 = .ok (.goto 4, 3) := by decide +kernel
theorem dX10_shrink_112 : decode cX10_shrink 112 = .ok (.iconst 0, 1) := by decide +kernel
theorem dX10_shrink_113 : decode cX10_shrink 113 = .ok (.putfield 13, 3) := by decide +kernel
theorem dX10_shrink_116 : decode cX10_shrink 116 = .ok (.lload_n 2, 1) := by decide +kernel
theorem dX10_shrink_117 : decode cX10_shrink 117 = .ok (.l2i, 1) := by decide +kernel
theorem dX10_shrink_118 : decode cX10_shrink 118 = .ok (.ireturn, 1) := by decide +kernel
theorem dX10_divideBy_0 : decode cX10_divideBy 0 = .ok (.aload_n 0, 1) := by decide +kernel
theorem dX10_divideBy_1 : decode cX10_divideBy 1 = .ok (.iconst 0, 1) := by decide +kernel
theorem dX10_divideBy_2 : decode cX10_divideBy 2 = .ok (.putfield 13, 3) := by decide +kernel
theorem dX10_divideBy_5 : decode cX10_divideBy 5 = .ok (.aload_n 2, 1) := by decide +kernel
theorem dX10_divideBy_6 : decode cX10_divideBy 6 = .ok (.lconst 0, 1) := by decide +kernel
theorem dX10_divideBy_7 : decode cX10_divideBy 7 = .ok (.invokevirtual 42, 3) := by decide +kernel
theorem dX10_divideBy_10 : decode cX10_divideBy 10 = .ok (.aload_n 1, 1) := by decide +kernel
theorem dX10_divideBy_11 : decode cX10_divideBy 11 = .ok (.getfield 17, 3) := by decide +kernel
theorem dX10_divideBy_14 : decode cX10_divideBy 14 = .ok (.istore_n 3, 1) := by decide +kernel
theorem dX10_divideBy_15 : decode cX10_divideBy 15 = .ok (.iload_n 3, 1) := by decide +kernel
theorem dX10_divideBy_16 : decode cX10_divideBy 16 = .ok (.ifCond .eq 11, 3) := by decide +kernel
theorem dX10_divideBy_19 : decode cX10_divideBy 19 = .ok (.aload_n 0, 1) := by decide +kernel
theorem dX10_divideBy_20 : decode cX10_divideBy 20 = .ok (.aload_n 1, 1) := by decide +kernel
theorem dX10_divideBy_21 : decode cX10_divideBy 21 = .ok (.invokestatic 28, 3) := by decide +kernel
theorem dX10_divideBy_24 : decode cX10_divideBy 24 = .ok (.ifCond .ge 4, 3) := by decide +kernel
theorem dX10_divideBy_27 : decode cX10_divideBy 27 = .ok (.return_, 1) := by decide +kernel
theorem dX10_divideBy_28 : decode cX10_divideBy 28 = .ok (.iload_n 3, 1) := by decide +kernel
theorem dX10_divideBy_29 : decode cX10_divideBy 29 = .ok (.iconst 1, 1) := by decide +kernel
theorem dX10_divideBy_30 : decode cX10_divideBy 30 = .ok (.if_icmp .ne 24, 3) := by decide +kernel
theorem dX10_divideBy_33 : decode cX10_divideBy 33 = .ok (.aload_n 2, 1) := by decide +kernel
theorem dX10_divideBy_34 : decode cX10_divideBy 34 = .ok (.aload_n 0, 1) := by decide +kernel
theorem dX10_divideBy_35 : decode cX10_divideBy 35 = .ok (.invokevirtual 23, 3) := by decide +kernel
theorem dX10_divideBy_38 : decode cX10_divideBy 38 = .ok (.aload_n 0, 1) := by decide +kernel
theorem dX10_divideBy_39 : decode cX10_divideBy 39 = .ok (.aload_n 2, 1) := by decide +kernel
theorem dX10_divideBy_40 : decode cX10_divideBy 40 = .ok (.aload_n 1, 1) := by decide +kernel
theorem dX10_divideBy_41 : decode cX10_divideBy 41 = .ok (.getfield 9, 3) := by decide +kernel
theorem dX10_divideBy_44 : decode cX10_divideBy 44 = .ok (.iconst 0, 1) := by decide +kernel
theorem dX10_divideBy_45 : decode cX10_divideBy 45 = .ok (.iaload, 1) := by decide +kernel
theorem dX10_divideBy_46 : decode cX10_divideBy 46 = .ok (.invokevirtual 46, 3) := by decide +kernel
theorem dX10_divideBy_49 : decode cX10_divideBy 49 = .ok (.i2l, 1) := by decide +kernel
theorem dX10_divideBy_50 : decode cX10_divideBy 50 = .ok (.invokevirtual 42, 3) := by decide +kernel
theorem dX10_divideBy_53 : decode cX10_divideBy 53 = .ok (.return_, 1) := by decide +kernel
theorem dX10_divideBy_54 : decode cX10_divideBy 54 = .ok (.aload_n 0, 1) := by decide +kernel
theorem dX10_divideBy_55 : decode cX10_divideBy 55 = .ok (.getfield 17, 3) := by decide +kernel
theorem dX10_divideBy_58 : decode cX10_divideBy 58 = .ok (.iload_n 3, 1) := by decide +kernel
theorem dX10_divideBy_59 : decode cX10_divideBy 59 = .ok (.isub, 1) := by decide +kernel
theorem dX10_divideBy_60 : decode cX10_divideBy 60 = .ok (.iconst 1, 1) := by decide +kernel
theorem dX10_divideBy_61 : decode cX10_divideBy 61 = .ok (.iadd, 1) := by decide +kernel
theorem dX10_divideBy_62 : decode cX10_divideBy 62 = .ok (.aload_n 2, 1) := by decide +kernel
theorem dX10_divideBy_63 : decode cX10_divideBy 63 = .ok (.getfield 9, 3) := by decide +kernel
theorem dX10_divideBy_66 : decode cX10_divideBy 66 = .ok (.arraylength, 1) := by decide +kernel
theorem dX10_divideBy_67 : decode cX10_divideBy 67 = .ok (.invokestatic 32, 3) := by decide +kernel
theorem dX10_divideBy_70 : decode cX10_divideBy 70 = .ok (.istore 4, 2) := by decide +kernel
theorem dX10_divideBy_72 : decode cX10_divideBy 72 = .ok (.iload 4, 2) := by decide +kernel
theorem dX10_divideBy_74 : decode cX10_divideBy 74 = .ok (.iconst 1, 1) := by decide +kernel
theorem dX10_divideBy_75 : decode cX10_divideBy 75 = .ok (.isub, 1) := by decide +kernel
theorem dX10_divideBy_76 : decode cX10_divideBy 76 = .ok (.istore 5, 2) := by decide +kernel
theorem dX10_divideBy_78 : decode cX10_divideBy 78 = .ok (.iload 5, 2) := by decide +kernel
theorem dX10_divideBy_80 : decode cX10_divideBy 80 = .ok (.ifCond .lt 37, 3) := by decide +kernel
theorem dX10_divideBy_83 : decode cX10_divideBy 83 = .ok (.aload_n 0, 1) := by decide +kernel
theorem dX10_divideBy_84 : decode cX10_divideBy 84 = .ok (.aload_n 1, 1) := by decide +kernel
theorem dX10_divideBy_85 : decode cX10_divideBy 85 = .ok (.iload 5, 2) := by decide +kernel
theorem dX10_divideBy_87 : decode cX10_divideBy 87 = .ok (.iload_n 3, 1) := by decide +kernel
theorem dX10_divideBy_88 : decode cX10_divideBy 88 = .ok (.iadd, 1) := by decide +kernel
theorem dX10_divideBy_89 : decode cX10_divideBy 89 = .ok (.invokevirtual 50, 3) := by decide +kernel
theorem dX10_divideBy_92 : decode cX10_divideBy 92 = .ok (.lstore 6, 2) := by decide +kernel
theorem dX10_divideBy_94 : decode cX10_divideBy 94 = .ok (.aload_n 2, 1) := by decide +kernel
theorem dX10_divideBy_95 : decode cX10_divideBy 95 = .ok (.getfield 9, 3) := by decide +kernel
theorem dX10_divideBy_98 : decode cX10_divideBy 98 = .ok (.iload 5, 2) := by decide +kernel
theorem dX10_divideBy_100 : decode cX10_divideBy 100 = .ok (.aload_n 0, 1) := by decide +kernel
theorem dX10_divideBy_101 : decode cX10_divideBy 101 = .ok (.aload_n 1, 1) := by decide +kernel
theorem dX10_divideBy_102 : decode cX10_divideBy 102 = .ok (.lload 6, 2) := by decide +kernel
theorem dX10_divideBy_104 : decode cX10_divideBy 104 = .ok (.iload 5, 2) := by decide +kernel
theorem dX10_divideBy_106 : decode cX10_divideBy 106 = .ok (.invokevirtual 54, 3) := by decide +kernel
theorem dX10_divideBy_109 : decode cX10_divideBy 109 = .ok (.l2i, 1) := by decide +kernel
theorem dX10_divideBy_110 : decode cX10_divideBy 110 = .ok (.iastore, 1) := by decide +kernel
theorem dX10_divideBy_111 : decode cX10_divideBy 111 = .ok (.iinc 5 (-1), 3) := by decide +kernel
theorem dX10_divideBy_114 : decode cX10_divideBy 114 = .ok (.goto (-36), 3) := by decide +kernel
theorem dX10_divideBy_117 : decode cX10_divideBy 117 = .ok (.aload_n 2, 1) := by decide +kernel
theorem dX10_divideBy_118 : decode cX10_divideBy 118 = .ok (.iload 4, 2) := by decide +kernel
theorem dX10_divideBy_120 : decode cX10_divideBy 120 = .ok (.invokevirtual 38, 3) := by decide +kernel
theorem dX10_divideBy_123 : decode cX10_divideBy 123 = .ok (.aload_n 0, 1) := by decide +kernel
theorem dX10_divideBy_124 : decode cX10_divideBy 124 = .ok (.aload_n 0, 1) := by decide +kernel
theorem dX10_divideBy_125 : decode cX10_divideBy 125 = .ok (.getfield 17, 3) := by decide +kernel
theorem dX10_divideBy_128 : decode cX10_divideBy 128 = .ok (.invokevirtual 38, 3) := by decide +kernel
theorem dX10_divideBy_131 : decode cX10_divideBy 131 = .ok (.return_, 1) := by decide +kernel
theorem dX10_guess_0 : decode cX10_guess 0 = .ok (.aload_n 1, 1) := by decide +kernel
theorem dX10_guess_1 : decode cX10_guess 1 = .ok (.getfield 17, 3) := by decide +kernel
theorem dX10_guess_4 : decode cX10_guess 4 = .ok (.istore_n 3, 1) := by decide +kernel
theorem dX10_guess_5 : decode cX10_guess 5 = .ok (.iload_n 3, 1) := by decide +kernel
theorem dX10_guess_6 : decode cX10_guess 6 = .ok (.iconst 2, 1) := by decide +kernel
theorem dX10_guess_7 : decode cX10_guess 7 = .ok (.if_icmp .lt 16, 3) := by decide +kernel
theorem dX10_guess_10 : decode cX10_guess 10 = .ok (.iload_n 2, 1) := by decide +kernel
theorem dX10_guess_11 : decode cX10_guess 11 = .ok (.iconst 2, 1) := by decide +kernel
theorem dX10_guess_12 : decode cX10_guess 12 = .ok (.if_icmp .lt 11, 3) := by decide +kernel
theorem dX10_guess_15 : decode cX10_guess 15 = .ok (.iload_n 2, 1) := by decide +kernel
theorem dX10_guess_16 : decode cX10_guess 16 = .ok (.aload_n 0, 1) := by decide +kernel
theorem dX10_guess_17 : decode cX10_guess 17 = .ok (.getfield 17, 3) := by decide +kernel
theorem dX10_guess_20 : decode cX10_guess 20 = .ok (.if_icmp .le 5, 3) := by decide +kernel
theorem dX10_guess_23 : decode cX10_guess 23 = .ok (.lconst 0, 1) := by decide +kernel
theorem dX10_guess_24 : decode cX10_guess 24 = .ok (.lreturn, 1) := by decide +kernel
theorem dX10_guess_25 : decode cX10_guess 25 = .ok (.iconst 0, 1) := by decide +kernel
theorem dX10_guess_26 : decode cX10_guess 26 = .ok (.istore 4, 2) := by decide +kernel
theorem dX10_guess_28 : decode cX10_guess 28 = .ok (.aload_n 1, 1) := by decide +kernel
theorem dX10_guess_29 : decode cX10_guess 29 = .ok (.getfield 9, 3) := by decide +kernel
theorem dX10_guess_32 : decode cX10_guess 32 = .ok (.iload_n 3, 1) := by decide +kernel
theorem dX10_guess_33 : decode cX10_guess 33 = .ok (.iconst 1, 1) := by decide +kernel
theorem dX10_guess_34 : decode cX10_guess 34 = .ok (.isub, 1) := by decide +kernel
theorem dX10_guess_35 : decode cX10_guess 35 = .ok (.iaload, 1) := by decide +kernel
theorem dX10_guess_36 : decode cX10_guess 36 = .ok (.istore 5, 2) := by decide +kernel
theorem dX10_guess_38 : decode cX10_guess 38 = .ok (.iload 4, 2) := by decide +kernel
theorem dX10_guess_40 : decode cX10_guess 40 = .ok (.bipush 29, 2) := by decide +kernel
theorem dX10_guess_42 : decode cX10_guess 42 = .ok (.if_icmp .ge 20, 3) := by decide +kernel
theorem dX10_guess_45 : decode cX10_guess 45 = .ok (.iload 5, 2) := by decide +kernel
theorem dX10_guess_47 : decode cX10_guess 47 = .ok (.bipush 29, 2) := by decide +kernel
theorem dX10_guess_49 : decode cX10_guess 49 = .ok (.iload 4, 2) := by decide +kernel
theorem dX10_guess_51 : decode cX10_guess 51 = .ok (.isub, 1) := by decide +kernel
theorem dX10_guess_52 : decode cX10_guess 52 = .ok (.ishr, 1) := by decide +kernel
theorem dX10_guess_53 : decode cX10_guess 53 = .ok (.ifCond .ne 9, 3) := by decide +kernel
theorem dX10_guess_56 : decode cX10_guess 56 = .ok (.iinc 4 1, 3) := by decide +kernel
theorem dX10_guess_59 : decode cX10_guess 59 = .ok (.goto (-21), 3) := by decide +kernel
theorem dX10_guess_62 : decode cX10_guess 62 = .ok (.bipush 30, 2) := by decide +kernel
theorem dX10_guess_64 : decode cX10_guess 64 = .ok (.iload 4, 2) := by decide +kernel
theorem dX10_guess_66 : decode cX10_guess 66 = .ok (.isub, 1) := by decide +kernel
theorem dX10_guess_67 : decode cX10_guess 67 = .ok (.istore 5, 2) := by decide +kernel
theorem dX10_guess_69 : decode cX10_guess 69 = .ok (.aload_n 1, 1) := by decide +kernel
theorem dX10_guess_70 : decode cX10_guess 70 = .ok (.getfield 9, 3) := by decide +kernel
theorem dX10_guess_73 : decode cX10_guess 73 = .ok (.iload_n 3, 1) := by decide +kernel
theorem dX10_guess_74 : decode cX10_guess 74 = .ok (.iconst 1, 1) := by decide +kernel
theorem dX10_guess_75 : decode cX10_guess 75 = .ok (.isub, 1) := by decide +kernel
theorem dX10_guess_76 : decode cX10_guess 76 = .ok (.iaload, 1) := by decide +kernel
theorem dX10_guess_77 : decode cX10_guess 77 = .ok (.i2l, 1) := by decide +kernel
theorem dX10_guess_78 : decode cX10_guess 78 = .ok (.iload 4, 2) := by decide +kernel
theorem dX10_guess_80 : decode cX10_guess 80 = .ok (.lshl, 1) := by decide +kernel
theorem dX10_guess_81 : decode cX10_guess 81 = .ok (.aload_n 1, 1) := by decide +kernel
theorem dX10_guess_82 : decode cX10_guess 82 = .ok (.getfield 9, 3) := by decide +kernel
theorem dX10_guess_85 : decode cX10_guess 85 = .ok (.iload_n 3, 1) := by decide +kernel
theorem dX10_guess_86 : decode cX10_guess 86 = .ok (.iconst 2, 1) := by decide +kernel
theorem dX10_guess_87 : decode cX10_guess 87 = .ok (.isub, 1) := by decide +kernel
theorem dX10_guess_88 : decode cX10_guess 88 = .ok (.iaload, 1) := by decide +kernel
theorem dX10_guess_89 : decode cX10_guess 89 = .ok (.iload 5, 2) := by decide +kernel
theorem dX10_guess_91 : decode cX10_guess 91 = .ok (.ishr, 1) := by decide +kernel
theorem dX10_guess_92 : decode cX10_guess 92 = .ok (.i2l, 1) := by decide +kernel
theorem dX10_guess_93 : decode cX10_guess 93 = .ok (.lor, 1) := by decide +kernel
theorem dX10_guess_94 : decode cX10_guess 94 = .ok (.lstore 6, 2) := by decide +kernel
theorem dX10_guess_96 : decode cX10_guess 96 = .ok (.aload_n 1, 1) := by decide +kernel
theorem dX10_guess_97 : decode cX10_guess 97 = .ok (.getfield 9, 3) := by decide +kernel
theorem dX10_guess_100 : decode cX10_guess 100 = .ok (.iload_n 3, 1) := by decide +kernel
theorem dX10_guess_101 : decode cX10_guess 101 = .ok (.iconst 2, 1) := by decide +kernel
theorem dX10_guess_102 : decode cX10_guess 102 = .ok (.isub, 1) := by decide +kernel
theorem dX10_guess_103 : decode cX10_guess 103 = .ok (.iaload, 1) := by decide +kernel
theorem dX10_guess_104 : decode cX10_guess 104 = .ok (.i2l, 1) := by decide +kernel
theorem dX10_guess_105 : decode cX10_guess 105 = .ok (.iload 4, 2) := by decide +kernel
theorem dX10_guess_107 : decode cX10_guess 107 = .ok (.lshl, 1) := by decide +kernel
theorem dX10_guess_108 : decode cX10_guess 108 = .ok (.ldc2_w 21, 3) := by decide +kernel
theorem dX10_guess_111 : decode cX10_guess 111 = .ok (.land, 1) := by decide +kernel
theorem dX10_guess_112 : decode cX10_guess 112 = .ok (.iload_n 3, 1) := by decide +kernel
theorem dX10_guess_113 : decode cX10_guess 113 = .ok (.iconst 2, 1) := by decide +kernel
theorem dX10_guess_114 : decode cX10_guess 114 = .ok (.if_icmp .le 17, 3) := by decide +kernel
theorem dX10_guess_117 : decode cX10_guess 117 = .ok (.aload_n 1, 1) := by decide +kernel
theorem dX10_guess_118 : decode cX10_guess 118 = .ok (.getfield 9, 3) := by decide +kernel
theorem dX10_guess_121 : decode cX10_guess 121 = .ok (.iload_n 3, 1) := by decide +kernel
theorem dX10_guess_122 : decode cX10_guess 122 = .ok (.iconst 3, 1) := by decide +kernel
theorem dX10_guess_123 : decode cX10_guess 123 = .ok (.isub, 1) := by decide +kernel
theorem dX10_guess_124 : decode cX10_guess 124 = .ok (.iaload, 1) := by decide +kernel
theorem dX10_guess_125 : decode cX10_guess 125 = .ok (.iload 5, 2) := by decide +kernel
theorem dX10_guess_127 : decode cX10_guess 127 = .ok (.ishr, 1) := by decide +kernel
theorem dX10_guess_128 : decode cX10_guess 128 = .ok (.goto 4, 3) := by decide +kernel
theorem dX10_guess_131 : decode cX10_guess 131 = .ok (.iconst 0, 1) := by decide +kernel
theorem dX10_guess_132 : decode cX10_guess 132 = .ok (.i2l, 1) := by decide +kernel
theorem dX10_guess_133 : decode cX10_guess 133 = .ok (.lor, 1) := by decide +kernel
theorem dX10_guess_134 : decode cX10_guess 134 = .ok (.lstore 8, 2) := by decide +kernel
theorem dX10_guess_136 : decode cX10_guess 136 = .ok (.iload_n 2, 1) := by decide +kernel
theorem dX10_guess_137 : decode cX10_guess 137 = .ok (.aload_n 0, 1) := by decide +kernel
theorem dX10_guess_138 : decode cX10_guess 138 = .ok (.getfield 17, 3) := by decide +kernel
theorem dX10_guess_141 : decode cX10_guess 141 = .ok (.if_icmp .ge 12, 3) := by decide +kernel
theorem dX10_guess_144 : decode cX10_guess 144 = .ok (.aload_n 0, 1) := by decide +kernel
theorem dX10_guess_145 : decode cX10_guess 145 = .ok (.getfield 9, 3) := by decide +kernel
theorem dX10_guess_148 : decode cX10_guess 148 = .ok (.iload_n 2, 1) := by decide +kernel
theorem dX10_guess_149 : decode cX10_guess 149 = .ok (.iaload, 1) := by decide +kernel
theorem dX10_guess_150 : decode cX10_guess 150 = .ok (.goto 4, 3) := by decide +kernel
theorem dX10_guess_153 : decode cX10_guess 153 = .ok (.iconst 0, 1) := by decide +kernel
theorem dX10_guess_154 : decode cX10_guess 154 = .ok (.i2l, 1) := by decide +kernel
theorem dX10_guess_155 : decode cX10_guess 155 = .ok (.iload 4, 2) := by decide +kernel
theorem dX10_guess_157 : decode cX10_guess 157 = .ok (.lshl, 1) := by decide +kernel
theorem dX10_guess_158 : decode cX10_guess 158 = .ok (.aload_n 0, 1) := by decide +kernel
theorem dX10_guess_159 : decode cX10_guess 159 = .ok (.getfield 9, 3) := by decide +kernel
theorem dX10_guess_162 : decode cX10_guess 162 = .ok (.iload_n 2, 1) := by decide +kernel
theorem dX10_guess_163 : decode cX10_guess 163 = .ok (.iconst 1, 1) := by decide +kernel
theorem dX10_guess_164 : decode cX10_guess 164 = .ok (.isub, 1) := by decide +kernel
theorem dX10_guess_165 : decode cX10_guess 165 = .ok (.iaload, 1) := by decide +kernel
theorem dX10_guess_166 : decode cX10_guess 166 = .ok (.iload 5, 2) := by decide +kernel
theorem dX10_guess_168 : decode cX10_guess 168 = .ok (.ishr, 1) := by decide +kernel
theorem dX10_guess_169 : decode cX10_guess 169 = .ok (.i2l, 1) := by decide +kernel
theorem dX10_guess_170 : decode cX10_guess 170 = .ok (.lor, 1) := by decide +kernel
theorem dX10_guess_171 : decode cX10_guess 171 = .ok (.lstore 10, 2) := by decide +kernel
theorem dX10_guess_173 : decode cX10_guess 173 = .ok (.aload_n 0, 1) := by decide +kernel
theorem dX10_guess_174 : decode cX10_guess 174 = .ok (.getfield 9, 3) := by decide +kernel
theorem dX10_guess_177 : decode cX10_guess 177 = .ok (.iload_n 2, 1) := by decide +kernel
theorem dX10_guess_178 : decode cX10_guess 178 = .ok (.iconst 1, 1) := by decide +kernel
theorem dX10_guess_179 : decode cX10_guess 179 = .ok (.isub, 1) := by decide +kernel
theorem dX10_guess_180 : decode cX10_guess 180 = .ok (.iaload, 1) := by decide +kernel
theorem dX10_guess_181 : decode cX10_guess 181 = .ok (.i2l, 1) := by decide +kernel
theorem dX10_guess_182 : decode cX10_guess 182 = .ok (.iload 4, 2) := by decide +kernel
theorem dX10_guess_184 : decode cX10_guess 184 = .ok (.lshl, 1) := by decide +kernel
theorem dX10_guess_185 : decode cX10_guess 185 = .ok (.ldc2_w 21, 3) := by decide +kernel
theorem dX10_guess_188 : decode cX10_guess 188 = .ok (.land, 1) := by decide +kernel
theorem dX10_guess_189 : decode cX10_guess 189 = .ok (.aload_n 0, 1) := by decide +kernel
theorem dX10_guess_190 : decode cX10_guess 190 = .ok (.getfield 9, 3) := by decide +kernel
theorem dX10_guess_193 : decode cX10_guess 193 = .ok (.iload_n 2, 1) := by decide +kernel
theorem dX10_guess_194 : decode cX10_guess 194 = .ok (.iconst 2, 1) := by decide +kernel
theorem dX10_guess_195 : decode cX10_guess 195 = .ok (.isub, 1) := by decide +kernel
theorem dX10_guess_196 : decode cX10_guess 196 = .ok (.iaload, 1) := by decide +kernel
theorem dX10_guess_197 : decode cX10_guess 197 = .ok (.iload 5, 2) := by decide +kernel
theorem dX10_guess_199 : decode cX10_guess 199 = .ok (.ishr, 1) := by decide +kernel
theorem dX10_guess_200 : decode cX10_guess 200 = .ok (.i2l, 1) := by decide +kernel
theorem dX10_guess_201 : decode cX10_guess 201 = .ok (.lor, 1) := by decide +kernel
theorem dX10_guess_202 : decode cX10_guess 202 = .ok (.lstore 12, 2) := by decide +kernel
theorem dX10_guess_204 : decode cX10_guess 204 = .ok (.aload_n 0, 1) := by decide +kernel
theorem dX10_guess_205 : decode cX10_guess 205 = .ok (.getfield 9, 3) := by decide +kernel
theorem dX10_guess_208 : decode cX10_guess 208 = .ok (.iload_n 2, 1) := by decide +kernel
theorem dX10_guess_209 : decode cX10_guess 209 = .ok (.iconst 2, 1) := by decide +kernel
theorem dX10_guess_210 : decode cX10_guess 210 = .ok (.isub, 1) := by decide +kernel
theorem dX10_guess_211 : decode cX10_guess 211 = .ok (.iaload, 1) := by decide +kernel
theorem dX10_guess_212 : decode cX10_guess 212 = .ok (.i2l, 1) := by decide +kernel
theorem dX10_guess_213 : decode cX10_guess 213 = .ok (.iload 4, 2) := by decide +kernel
theorem dX10_guess_215 : decode cX10_guess 215 = .ok (.lshl, 1) := by decide +kernel
theorem dX10_guess_216 : decode cX10_guess 216 = .ok (.ldc2_w 21, 3) := by decide +kernel
theorem dX10_guess_219 : decode cX10_guess 219 = .ok (.land, 1) := by decide +kernel
theorem dX10_guess_220 : decode cX10_guess 220 = .ok (.iload_n 2, 1) := by decide +kernel
theorem dX10_guess_221 : decode cX10_guess 221 = .ok (.iconst 2, 1) := by decide +kernel
theorem dX10_guess_222 : decode cX10_guess 222 = .ok (.if_icmp .le 17, 3) := by decide +kernel
theorem dX10_guess_225 : decode cX10_guess 225 = .ok (.aload_n 0, 1) := by decide +kernel
theorem dX10_guess_226 : decode cX10_guess 226 = .ok (.getfield 9, 3) := by decide +kernel
theorem dX10_guess_229 : decode cX10_guess 229 = .ok (.iload_n 2, 1) := by decide +kernel
theorem dX10_guess_230 : decode cX10_guess 230 = .ok (.iconst 3, 1) := by decide +kernel
theorem dX10_guess_231 : decode cX10_guess 231 = .ok (.isub, 1) := by decide +kernel
theorem dX10_guess_232 : decode cX10_guess 232 = .ok (.iaload, 1) := by decide +kernel
theorem dX10_guess_233 : decode cX10_guess 233 = .ok (.iload 5, 2) := by decide +kernel
theorem dX10_guess_235 : decode cX10_guess 235 = .ok (.ishr, 1) := by decide +kernel
theorem dX10_guess_236 : decode cX10_guess 236 = .ok (.goto 4, 3) := by decide +kernel
theorem dX10_guess_239 : decode cX10_guess 239 = .ok (.iconst 0, 1) := by decide +kernel
theorem dX10_guess_240 : decode cX10_guess 240 = .ok (.i2l, 1) := by decide +kernel
theorem dX10_guess_241 : decode cX10_guess 241 = .ok (.lor, 1) := by decide +kernel
theorem dX10_guess_242 : decode cX10_guess 242 = .ok (.lstore 14, 2) := by decide +kernel
theorem dX10_guess_244 : decode cX10_guess 244 = .ok (.lload 6, 2) := by decide +kernel
theorem dX10_guess_246 : decode cX10_guess 246 = .ok (.lconst 1, 1) := by decide +kernel
theorem dX10_guess_247 : decode cX10_guess 247 = .ok (.lcmp, 1) := by decide +kernel
theorem dX10_guess_248 : decode cX10_guess 248 = .ok (.ifCond .ge 5, 3) := by decide +kernel
theorem dX10_guess_251 : decode cX10_guess 251 = .ok (.lconst 0, 1) := by decide +kernel
theorem dX10_guess_252 : decode cX10_guess 252 = .ok (.lreturn, 1) := by decide +kernel
theorem dX10_guess_253 : decode cX10_guess 253 = .ok (.lload 10, 2) := by decide +kernel
theorem dX10_guess_255 : decode cX10_guess 255 = .ok (.bipush 30, 2) := by decide +kernel
theorem dX10_guess_257 : decode cX10_guess 257 = .ok (.lshl, 1) := by decide +kernel
theorem dX10_guess_258 : decode cX10_guess 258 = .ok (.lload 12, 2) := by decide +kernel
theorem dX10_guess_260 : decode cX10_guess 260 = .ok (.lor, 1) := by decide +kernel
theorem dX10_guess_261 : decode cX10_guess 261 = .ok (.lstore 16, 2) := by decide +kernel
theorem dX10_guess_263 : decode cX10_guess 263 = .ok (.lload 16, 2) := by decide +kernel
theorem dX10_guess_265 : decode cX10_guess 265 = .ok (.lload 6, 2) := by decide +kernel
theorem dX10_guess_267 : decode cX10_guess 267 = .ok (.ldiv, 1) := by decide +kernel
theorem dX10_guess_268 : decode cX10_guess 268 = .ok (.ldc2_w 21, 3) := by decide +kernel
theorem dX10_guess_271 : decode cX10_guess 271 = .ok (.lcmp, 1) := by decide +kernel
theorem dX10_guess_272 : decode cX10_guess 272 = .ok (.ifCond .ge 11, 3) := by decide +kernel
theorem dX10_guess_275 : decode cX10_guess 275 = .ok (.lload 16, 2) := by decide +kernel
theorem dX10_guess_277 : decode cX10_guess 277 = .ok (.lload 6, 2) := by decide +kernel
theorem dX10_guess_279 : decode cX10_guess 279 = .ok (.ldiv, 1) := by decide +kernel
theorem dX10_guess_280 : decode cX10_guess 280 = .ok (.goto 6, 3) := by decide +kernel
theorem dX10_guess_283 : decode cX10_guess 283 = .ok (.ldc2_w 21, 3) := by decide +kernel
theorem dX10_guess_286 : decode cX10_guess 286 = .ok (.lstore 18, 2) := by decide +kernel
theorem dX10_guess_288 : decode cX10_guess 288 = .ok (.lload 16, 2) := by decide +kernel
theorem dX10_guess_290 : decode cX10_guess 290 = .ok (.lload 18, 2) := by decide +kernel
theorem dX10_guess_292 : decode cX10_guess 292 = .ok (.lload 6, 2) := by decide +kernel
theorem dX10_guess_294 : decode cX10_guess 294 = .ok (.lmul, 1) := by decide +kernel
theorem dX10_guess_295 : decode cX10_guess 295 = .ok (.lsub, 1) := by decide +kernel
theorem dX10_guess_296 : decode cX10_guess 296 = .ok (.lstore 20, 2) := by decide +kernel
theorem dX10_guess_298 : decode cX10_guess 298 = .ok (.iconst 0, 1) := by decide +kernel
theorem dX10_guess_299 : decode cX10_guess 299 = .ok (.istore 22, 2) := by decide +kernel
theorem dX10_guess_301 : decode cX10_guess 301 = .ok (.iload 22, 2) := by decide +kernel
theorem dX10_guess_303 : decode cX10_guess 303 = .ok (.iconst 3, 1) := by decide +kernel
theorem dX10_guess_304 : decode cX10_guess 304 = .ok (.if_icmp .ge 48, 3) := by decide +kernel
theorem dX10_guess_307 : decode cX10_guess 307 = .ok (.lload 20, 2) := by decide +kernel
theorem dX10_guess_309 : decode cX10_guess 309 = .ok (.ldc2_w 21, 3) := by decide +kernel
theorem dX10_guess_312 : decode cX10_guess 312 = .ok (.lcmp, 1) := by decide +kernel
theorem dX10_guess_313 : decode cX10_guess 313 = .ok (.ifCond .gt 39, 3) := by decide +kernel
theorem dX10_guess_316 : decode cX10_guess 316 = .ok (.lload 18, 2) := by decide +kernel
theorem dX10_guess_318 : decode cX10_guess 318 = .ok (.lload 8, 2) := by decide +kernel
theorem dX10_guess_320 : decode cX10_guess 320 = .ok (.lmul, 1) := by decide +kernel
theorem dX10_guess_321 : decode cX10_guess 321 = .ok (.lload 20, 2) := by decide +kernel
theorem dX10_guess_323 : decode cX10_guess 323 = .ok (.bipush 30, 2) := by decide +kernel
theorem dX10_guess_325 : decode cX10_guess 325 = .ok (.lshl, 1) := by decide +kernel
theorem dX10_guess_326 : decode cX10_guess 326 = .ok (.lload 14, 2) := by decide +kernel
theorem dX10_guess_328 : decode cX10_guess 328 = .ok (.lor, 1) := by decide +kernel
theorem dX10_guess_329 : decode cX10_guess 329 = .ok (.lcmp, 1) := by decide +kernel
theorem dX10_guess_330 : decode cX10_guess 330 = .ok (.ifCond .le 22, 3) := by decide +kernel
theorem dX10_guess_333 : decode cX10_guess 333 = .ok (.lload 18, 2) := by decide +kernel
theorem dX10_guess_335 : decode cX10_guess 335 = .ok (.lconst 1, 1) := by decide +kernel
theorem dX10_guess_336 : decode cX10_guess 336 = .ok (.lsub, 1) := by decide +kernel
theorem dX10_guess_337 : decode cX10_guess 337 = .ok (.lstore 18, 2) := by decide +kernel
theorem dX10_guess_339 : decode cX10_guess 339 = .ok (.lload 20, 2) := by decide +kernel
theorem dX10_guess_341 : decode cX10_guess 341 = .ok (.lload 6, 2) := by decide +kernel
theorem dX10_guess_343 : decode cX10_guess 343 = .ok (.ladd, 1) := by decide +kernel
theorem dX10_guess_344 : decode cX10_guess 344 = .ok (.lstore 20, 2) := by decide +kernel
theorem dX10_guess_346 : decode cX10_guess 346 = .ok (.iinc 22 1, 3) := by decide +kernel
theorem dX10_guess_349 : decode cX10_guess 349 = .ok (.goto (-48), 3) := by decide +kernel
theorem dX10_guess_352 : decode cX10_guess 352 = .ok (.lload 18, 2) := by decide +kernel
theorem dX10_guess_354 : decode cX10_guess 354 = .ok (.lreturn, 1) := by decide +kernel
theorem dX10_takeTimes_0 : decode cX10_takeTimes 0 = .ok (.lconst 0, 1) := by decide +kernel
theorem dX10_takeTimes_1 : decode cX10_takeTimes 1 = .ok (.lstore 5, 2) := by decide +kernel
theorem dX10_takeTimes_3 : decode cX10_takeTimes 3 = .ok (.iload 4, 2) := by decide +kernel
theorem dX10_takeTimes_5 : decode cX10_takeTimes 5 = .ok (.aload_n 1, 1) := by decide +kernel
theorem dX10_takeTimes_6 : decode cX10_takeTimes 6 = .ok (.getfield 17, 3) := by decide +kernel
theorem dX10_takeTimes_9 : decode cX10_takeTimes 9 = .ok (.iadd, 1) := by decide +kernel
theorem dX10_takeTimes_10 : decode cX10_takeTimes 10 = .ok (.istore 7, 2) := by decide +kernel
theorem dX10_takeTimes_12 : decode cX10_takeTimes 12 = .ok (.iconst 0, 1) := by decide +kernel
theorem dX10_takeTimes_13 : decode cX10_takeTimes 13 = .ok (.istore 8, 2) := by decide +kernel
theorem dX10_takeTimes_15 : decode cX10_takeTimes 15 = .ok (.iload 8, 2) := by decide +kernel
theorem dX10_takeTimes_17 : decode cX10_takeTimes 17 = .ok (.aload_n 1, 1) := by decide +kernel
theorem dX10_takeTimes_18 : decode cX10_takeTimes 18 = .ok (.getfield 17, 3) := by decide +kernel
theorem dX10_takeTimes_21 : decode cX10_takeTimes 21 = .ok (.if_icmp .ge 73, 3) := by decide +kernel
theorem dX10_takeTimes_24 : decode cX10_takeTimes 24 = .ok (.iload 4, 2) := by decide +kernel
theorem dX10_takeTimes_26 : decode cX10_takeTimes 26 = .ok (.iload 8, 2) := by decide +kernel
theorem dX10_takeTimes_28 : decode cX10_takeTimes 28 = .ok (.iadd, 1) := by decide +kernel
theorem dX10_takeTimes_29 : decode cX10_takeTimes 29 = .ok (.aload_n 0, 1) := by decide +kernel
theorem dX10_takeTimes_30 : decode cX10_takeTimes 30 = .ok (.getfield 17, 3) := by decide +kernel
theorem dX10_takeTimes_33 : decode cX10_takeTimes 33 = .ok (.if_icmp .ge 61, 3) := by decide +kernel
theorem dX10_takeTimes_36 : decode cX10_takeTimes 36 = .ok (.aload_n 0, 1) := by decide +kernel
theorem dX10_takeTimes_37 : decode cX10_takeTimes 37 = .ok (.getfield 9, 3) := by decide +kernel
theorem dX10_takeTimes_40 : decode cX10_takeTimes 40 = .ok (.iload 4, 2) := by decide +kernel
theorem dX10_takeTimes_42 : decode cX10_takeTimes 42 = .ok (.iload 8, 2) := by decide +kernel
theorem dX10_takeTimes_44 : decode cX10_takeTimes 44 = .ok (.iadd, 1) := by decide +kernel
theorem dX10_takeTimes_45 : decode cX10_takeTimes 45 = .ok (.iaload, 1) := by decide +kernel
theorem dX10_takeTimes_46 : decode cX10_takeTimes 46 = .ok (.i2l, 1) := by decide +kernel
theorem dX10_takeTimes_47 : decode cX10_takeTimes 47 = .ok (.lload_n 2, 1) := by decide +kernel
theorem dX10_takeTimes_48 : decode cX10_takeTimes 48 = .ok (.aload_n 1, 1) := by decide +kernel
theorem dX10_takeTimes_49 : decode cX10_takeTimes 49 = .ok (.getfield 9, 3) := by decide +kernel
theorem dX10_takeTimes_52 : decode cX10_takeTimes 52 = .ok (.iload 8, 2) := by decide +kernel
theorem dX10_takeTimes_54 : decode cX10_takeTimes 54 = .ok (.iaload, 1) := by decide +kernel
theorem dX10_takeTimes_55 : decode cX10_takeTimes 55 = .ok (.i2l, 1) := by decide +kernel
theorem dX10_takeTimes_56 : decode cX10_takeTimes 56 = .ok (.lmul, 1) := by decide +kernel
theorem dX10_takeTimes_57 : decode cX10_takeTimes 57 = .ok (.lsub, 1) := by decide +kernel
theorem dX10_takeTimes_58 : decode cX10_takeTimes 58 = .ok (.lload 5, 2) := by decide +kernel
theorem dX10_takeTimes_60 : decode cX10_takeTimes 60 = .ok (.lsub, 1) := by decide +kernel
theorem dX10_takeTimes_61 : decode cX10_takeTimes 61 = .ok (.lstore 9, 2) := by decide +kernel
theorem dX10_takeTimes_63 : decode cX10_takeTimes 63 = .ok (.aload_n 0, 1) := by decide +kernel
theorem dX10_takeTimes_64 : decode cX10_takeTimes 64 = .ok (.getfield 9, 3) := by decide +kernel
theorem dX10_takeTimes_67 : decode cX10_takeTimes 67 = .ok (.iload 4, 2) := by decide +kernel
theorem dX10_takeTimes_69 : decode cX10_takeTimes 69 = .ok (.iload 8, 2) := by decide +kernel
theorem dX10_takeTimes_71 : decode cX10_takeTimes 71 = .ok (.iadd, 1) := by decide +kernel
theorem dX10_takeTimes_72 : decode cX10_takeTimes 72 = .ok (.lload 9, 2) := by decide +kernel
theorem dX10_takeTimes_74 : decode cX10_takeTimes 74 = .ok (.ldc2_w 21, 3) := by decide +kernel
theorem dX10_takeTimes_77 : decode cX10_takeTimes 77 = .ok (.land, 1) := by decide +kernel
theorem dX10_takeTimes_78 : decode cX10_takeTimes 78 = .ok (.l2i, 1) := by decide +kernel
theorem dX10_takeTimes_79 : decode cX10_takeTimes 79 = .ok (.iastore, 1) := by decide +kernel
theorem dX10_takeTimes_80 : decode cX10_takeTimes 80 = .ok (.lload 9, 2) := by decide +kernel
theorem dX10_takeTimes_82 : decode cX10_takeTimes 82 = .ok (.bipush 30, 2) := by decide +kernel
theorem dX10_takeTimes_84 : decode cX10_takeTimes 84 = .ok (.lshr, 1) := by decide +kernel
theorem dX10_takeTimes_85 : decode cX10_takeTimes 85 = .ok (.lneg, 1) := by decide +kernel
theorem dX10_takeTimes_86 : decode cX10_takeTimes 86 = .ok (.lstore 5, 2) := by decide +kernel
theorem dX10_takeTimes_88 : decode cX10_takeTimes 88 = .ok (.iinc 8 1, 3) := by decide +kernel
theorem dX10_takeTimes_91 : decode cX10_takeTimes 91 = .ok (.goto (-76), 3) := by decide +kernel
theorem dX10_takeTimes_94 : decode cX10_takeTimes 94 = .ok (.iload 7, 2) := by decide +kernel
theorem dX10_takeTimes_96 : decode cX10_takeTimes 96 = .ok (.aload_n 0, 1) := by decide +kernel
theorem dX10_takeTimes_97 : decode cX10_takeTimes 97 = .ok (.getfield 17, 3) := by decide +kernel
theorem dX10_takeTimes_100 : decode cX10_takeTimes 100 = .ok (.if_icmp .ge 13, 3) := by decide +kernel
theorem dX10_takeTimes_103 : decode cX10_takeTimes 103 = .ok (.aload_n 0, 1) := by decide +kernel
theorem dX10_takeTimes_104 : decode cX10_takeTimes 104 = .ok (.getfield 9, 3) := by decide +kernel
theorem dX10_takeTimes_107 : decode cX10_takeTimes 107 = .ok (.iload 7, 2) := by decide +kernel
theorem dX10_takeTimes_109 : decode cX10_takeTimes 109 = .ok (.iaload, 1) := by decide +kernel
theorem dX10_takeTimes_110 : decode cX10_takeTimes 110 = .ok (.goto 4, 3) := by decide +kernel
theorem dX10_takeTimes_113 : decode cX10_takeTimes 113 = .ok (.iconst 0, 1) := by decide +kernel
theorem dX10_takeTimes_114 : decode cX10_takeTimes 114 = .ok (.i2l, 1) := by decide +kernel
theorem dX10_takeTimes_115 : decode cX10_takeTimes 115 = .ok (.lload 5, 2) := by decide +kernel
theorem dX10_takeTimes_117 : decode cX10_takeTimes 117 = .ok (.lsub, 1) := by decide +kernel
theorem dX10_takeTimes_118 : decode cX10_takeTimes 118 = .ok (.lstore 8, 2) := by decide +kernel
theorem dX10_takeTimes_120 : decode cX10_takeTimes 120 = .ok (.lload 8, 2) := by decide +kernel
theorem dX10_takeTimes_122 : decode cX10_takeTimes 122 = .ok (.lconst 0, 1) := by decide +kernel
theorem dX10_takeTimes_123 : decode cX10_takeTimes 123 = .ok (.lcmp, 1) := by decide +kernel
theorem dX10_takeTimes_124 : decode cX10_takeTimes 124 = .ok (.ifCond .ge 96, 3) := by decide +kernel
theorem dX10_takeTimes_127 : decode cX10_takeTimes 127 = .ok (.lconst 0, 1) := by decide +kernel
theorem dX10_takeTimes_128 : decode cX10_takeTimes 128 = .ok (.lstore 10, 2) := by decide +kernel
theorem dX10_takeTimes_130 : decode cX10_takeTimes 130 = .ok (.iconst 0, 1) := by decide +kernel
theorem dX10_takeTimes_131 : decode cX10_takeTimes 131 = .ok (.istore 12, 2) := by decide +kernel
theorem dX10_takeTimes_133 : decode cX10_takeTimes 133 = .ok (.iload 12, 2) := by decide +kernel
theorem dX10_takeTimes_135 : decode cX10_takeTimes 135 = .ok (.aload_n 1, 1) := by decide +kernel
theorem dX10_takeTimes_136 : decode cX10_takeTimes 136 = .ok (.getfield 17, 3) := by decide +kernel
theorem dX10_takeTimes_139 : decode cX10_takeTimes 139 = .ok (.if_icmp .ge 70, 3) := by decide +kernel
theorem dX10_takeTimes_142 : decode cX10_takeTimes 142 = .ok (.iload 4, 2) := by decide +kernel
theorem dX10_takeTimes_144 : decode cX10_takeTimes 144 = .ok (.iload 12, 2) := by decide +kernel
theorem dX10_takeTimes_146 : decode cX10_takeTimes 146 = .ok (.iadd, 1) := by decide +kernel
theorem dX10_takeTimes_147 : decode cX10_takeTimes 147 = .ok (.aload_n 0, 1) := by decide +kernel
theorem dX10_takeTimes_148 : decode cX10_takeTimes 148 = .ok (.getfield 17, 3) := by decide +kernel
theorem dX10_takeTimes_151 : decode cX10_takeTimes 151 = .ok (.if_icmp .ge 58, 3) := by decide +kernel
theorem dX10_takeTimes_154 : decode cX10_takeTimes 154 = .ok (.aload_n 0, 1) := by decide +kernel
theorem dX10_takeTimes_155 : decode cX10_takeTimes 155 = .ok (.getfield 9, 3) := by decide +kernel
theorem dX10_takeTimes_158 : decode cX10_takeTimes 158 = .ok (.iload 4, 2) := by decide +kernel
theorem dX10_takeTimes_160 : decode cX10_takeTimes 160 = .ok (.iload 12, 2) := by decide +kernel
theorem dX10_takeTimes_162 : decode cX10_takeTimes 162 = .ok (.iadd, 1) := by decide +kernel
theorem dX10_takeTimes_163 : decode cX10_takeTimes 163 = .ok (.iaload, 1) := by decide +kernel
theorem dX10_takeTimes_164 : decode cX10_takeTimes 164 = .ok (.i2l, 1) := by decide +kernel
theorem dX10_takeTimes_165 : decode cX10_takeTimes 165 = .ok (.aload_n 1, 1) := by decide +kernel
theorem dX10_takeTimes_166 : decode cX10_takeTimes 166 = .ok (.getfield 9, 3) := by decide +kernel
theorem dX10_takeTimes_169 : decode cX10_takeTimes 169 = .ok (.iload 12, 2) := by decide +kernel
theorem dX10_takeTimes_171 : decode cX10_takeTimes 171 = .ok (.iaload, 1) := by decide +kernel
theorem dX10_takeTimes_172 : decode cX10_takeTimes 172 = .ok (.i2l, 1) := by decide +kernel
theorem dX10_takeTimes_173 : decode cX10_takeTimes 173 = .ok (.ladd, 1) := by decide +kernel
theorem dX10_takeTimes_174 : decode cX10_takeTimes 174 = .ok (.lload 10, 2) := by decide +kernel
theorem dX10_takeTimes_176 : decode cX10_takeTimes 176 = .ok (.ladd, 1) := by decide +kernel
theorem dX10_takeTimes_177 : decode cX10_takeTimes 177 = .ok (.lstore 13, 2) := by decide +kernel
theorem dX10_takeTimes_179 : decode cX10_takeTimes 179 = .ok (.aload_n 0, 1) := by decide +kernel
theorem dX10_takeTimes_180 : decode cX10_takeTimes 180 = .ok (.getfield 9, 3) := by decide +kernel
theorem dX10_takeTimes_183 : decode cX10_takeTimes 183 = .ok (.iload 4, 2) := by decide +kernel
theorem dX10_takeTimes_185 : decode cX10_takeTimes 185 = .ok (.iload 12, 2) := by decide +kernel
theorem dX10_takeTimes_187 : decode cX10_takeTimes 187 = .ok (.iadd, 1) := by decide +kernel
theorem dX10_takeTimes_188 : decode cX10_takeTimes 188 = .ok (.lload 13, 2) := by decide +kernel
theorem dX10_takeTimes_190 : decode cX10_takeTimes 190 = .ok (.ldc2_w 21, 3) := by decide +kernel
theorem dX10_takeTimes_193 : decode cX10_takeTimes 193 = .ok (.land, 1) := by decide +kernel
theorem dX10_takeTimes_194 : decode cX10_takeTimes 194 = .ok (.l2i, 1) := by decide +kernel
theorem dX10_takeTimes_195 : decode cX10_takeTimes 195 = .ok (.iastore, 1) := by decide +kernel
theorem dX10_takeTimes_196 : decode cX10_takeTimes 196 = .ok (.lload 13, 2) := by decide +kernel
theorem dX10_takeTimes_198 : decode cX10_takeTimes 198 = .ok (.bipush 30, 2) := by decide +kernel
theorem dX10_takeTimes_200 : decode cX10_takeTimes 200 = .ok (.lshr, 1) := by decide +kernel
theorem dX10_takeTimes_201 : decode cX10_takeTimes 201 = .ok (.lstore 10, 2) := by decide +kernel
theorem dX10_takeTimes_203 : decode cX10_takeTimes 203 = .ok (.iinc 12 1, 3) := by decide +kernel
theorem dX10_takeTimes_206 : decode cX10_takeTimes 206 = .ok (.goto (-73), 3) := by decide +kernel
theorem dX10_takeTimes_209 : decode cX10_takeTimes 209 = .ok (.lload 8, 2) := by decide +kernel
theorem dX10_takeTimes_211 : decode cX10_takeTimes 211 = .ok (.lload 10, 2) := by decide +kernel
theorem dX10_takeTimes_213 : decode cX10_takeTimes 213 = .ok (.ladd, 1) := by decide +kernel
theorem dX10_takeTimes_214 : decode cX10_takeTimes 214 = .ok (.lstore 8, 2) := by decide +kernel
theorem dX10_takeTimes_216 : decode cX10_takeTimes 216 = .ok (.lload_n 2, 1) := by decide +kernel
theorem dX10_takeTimes_217 : decode cX10_takeTimes 217 = .ok (.lconst 1, 1) := by decide +kernel
theorem dX10_takeTimes_218 : decode cX10_takeTimes 218 = .ok (.lsub, 1) := by decide +kernel
theorem dX10_takeTimes_219 : decode cX10_takeTimes 219 = .ok (.lstore_n 2, 1) := by decide +kernel
theorem dX10_takeTimes_220 : decode cX10_takeTimes 220 = .ok (.iload 7, 2) := by decide +kernel
theorem dX10_takeTimes_222 : decode cX10_takeTimes 222 = .ok (.aload_n 0, 1) := by decide +kernel
theorem dX10_takeTimes_223 : decode cX10_takeTimes 223 = .ok (.getfield 17, 3) := by decide +kernel
theorem dX10_takeTimes_226 : decode cX10_takeTimes 226 = .ok (.if_icmp .ge 17, 3) := by decide +kernel
theorem dX10_takeTimes_229 : decode cX10_takeTimes 229 = .ok (.aload_n 0, 1) := by decide +kernel
theorem dX10_takeTimes_230 : decode cX10_takeTimes 230 = .ok (.getfield 9, 3) := by decide +kernel
theorem dX10_takeTimes_233 : decode cX10_takeTimes 233 = .ok (.iload 7, 2) := by decide +kernel
theorem dX10_takeTimes_235 : decode cX10_takeTimes 235 = .ok (.lload 8, 2) := by decide +kernel
theorem dX10_takeTimes_237 : decode cX10_takeTimes 237 = .ok (.ldc2_w 21, 3) := by decide +kernel
theorem dX10_takeTimes_240 : decode cX10_takeTimes 240 = .ok (.land, 1) := by decide +kernel
theorem dX10_takeTimes_241 : decode cX10_takeTimes 241 = .ok (.l2i, 1) := by decide +kernel
theorem dX10_takeTimes_242 : decode cX10_takeTimes 242 = .ok (.iastore, 1) := by decide +kernel
theorem dX10_takeTimes_243 : decode cX10_takeTimes 243 = .ok (.lload_n 2, 1) := by decide +kernel
theorem dX10_takeTimes_244 : decode cX10_takeTimes 244 = .ok (.lreturn, 1) := by decide +kernel
theorem dX10_trim_0 : decode cX10_trim 0 = .ok (.aload_n 0, 1) := by decide +kernel
theorem dX10_trim_1 : decode cX10_trim 1 = .ok (.iload_n 1, 1) := by decide +kernel
theorem dX10_trim_2 : decode cX10_trim 2 = .ok (.putfield 17, 3) := by decide +kernel
theorem dX10_trim_5 : decode cX10_trim 5 = .ok (.iload_n 1, 1) := by decide +kernel
theorem dX10_trim_6 : decode cX10_trim 6 = .ok (.istore_n 2, 1) := by decide +kernel
theorem dX10_trim_7 : decode cX10_trim 7 = .ok (.iload_n 2, 1) := by decide +kernel
theorem dX10_trim_8 : decode cX10_trim 8 = .ok (.ifCond .le 27, 3) := by decide +kernel
theorem dX10_trim_11 : decode cX10_trim 11 = .ok (.aload_n 0, 1) := by decide +kernel
theorem dX10_trim_12 : decode cX10_trim 12 = .ok (.getfield 9, 3) := by decide +kernel
theorem dX10_trim_15 : decode cX10_trim 15 = .ok (.iload_n 2, 1) := by decide +kernel
theorem dX10_trim_16 : decode cX10_trim 16 = .ok (.iconst 1, 1) := by decide +kernel
theorem dX10_trim_17 : decode cX10_trim 17 = .ok (.isub, 1) := by decide +kernel
theorem dX10_trim_18 : decode cX10_trim 18 = .ok (.iaload, 1) := by decide +kernel
theorem dX10_trim_19 : decode cX10_trim 19 = .ok (.ifCond .ne 16, 3) := by decide +kernel
theorem dX10_trim_22 : decode cX10_trim 22 = .ok (.aload_n 0, 1) := by decide +kernel
theorem dX10_trim_23 : decode cX10_trim 23 = .ok (.iload_n 2, 1) := by decide +kernel
theorem dX10_trim_24 : decode cX10_trim 24 = .ok (.iconst 1, 1) := by decide +kernel
theorem dX10_trim_25 : decode cX10_trim 25 = .ok (.isub, 1) := by decide +kernel
theorem dX10_trim_26 : decode cX10_trim 26 = .ok (.putfield 17, 3) := by decide +kernel
theorem dX10_trim_29 : decode cX10_trim 29 = .ok (.iinc 2 (-1), 3) := by decide +kernel
theorem dX10_trim_32 : decode cX10_trim 32 = .ok (.goto (-25), 3) := by decide +kernel
theorem dX10_trim_35 : decode cX10_trim 35 = .ok (.aload_n 0, 1) := by decide +kernel
theorem dX10_trim_36 : decode cX10_trim 36 = .ok (.getfield 17, 3) := by decide +kernel
theorem dX10_trim_39 : decode cX10_trim 39 = .ok (.ifCond .ne 8, 3) := by decide +kernel
theorem dX10_trim_42 : decode cX10_trim 42 = .ok (.aload_n 0, 1) := by decide +kernel
theorem dX10_trim_43 : decode cX10_trim 43 = .ok (.iconst 0, 1) := by decide +kernel
theorem dX10_trim_44 : decode cX10_trim 44 = .ok (.putfield 13, 3) := by decide +kernel
theorem dX10_trim_47 : decode cX10_trim 47 = .ok (.return_, 1) := by decide +kernel
theorem dX10_isShort_0 : decode cX10_isShort 0 = .ok (.aload_n 0, 1) := by decide +kernel
theorem dX10_isShort_1 : decode cX10_isShort 1 = .ok (.getfield 17, 3) := by decide +kernel
theorem dX10_isShort_4 : decode cX10_isShort 4 = .ok (.iconst 2, 1) := by decide +kernel
theorem dX10_isShort_5 : decode cX10_isShort 5 = .ok (.if_icmp .gt 7, 3) := by decide +kernel
theorem dX10_isShort_8 : decode cX10_isShort 8 = .ok (.iconst 1, 1) := by decide +kernel
theorem dX10_isShort_9 : decode cX10_isShort 9 = .ok (.goto 4, 3) := by decide +kernel
theorem dX10_isShort_12 : decode cX10_isShort 12 = .ok (.iconst 0, 1) := by decide +kernel
theorem dX10_isShort_13 : decode cX10_isShort 13 = .ok (.ireturn, 1) := by decide +kernel
theorem dX10_shortSize_0 : decode cX10_shortSize 0 = .ok (.aload_n 0, 1) := by decide +kernel
theorem dX10_shortSize_1 : decode cX10_shortSize 1 = .ok (.getfield 17, 3) := by decide +kernel
theorem dX10_shortSize_4 : decode cX10_shortSize 4 = .ok (.ifCond .le 13, 3) := by decide +kernel
theorem dX10_shortSize_7 : decode cX10_shortSize 7 = .ok (.aload_n 0, 1) := by decide +kernel
theorem dX10_shortSize_8 : decode cX10_shortSize 8 = .ok (.getfield 9, 3) := by decide +kernel
theorem dX10_shortSize_11 : decode cX10_shortSize 11 = .ok (.iconst 0, 1) := by decide +kernel
theorem dX10_shortSize_12 : decode cX10_shortSize 12 = .ok (.iaload, 1) := by decide +kernel
theorem dX10_shortSize_13 : decode cX10_shortSize 13 = .ok (.i2l, 1) := by decide +kernel
theorem dX10_shortSize_14 : decode cX10_shortSize 14 = .ok (.goto 4, 3) := by decide +kernel
theorem dX10_shortSize_17 : decode cX10_shortSize 17 = .ok (.lconst 0, 1) := by decide +kernel
theorem dX10_shortSize_18 : decode cX10_shortSize 18 = .ok (.lstore_n 1, 1) := by decide +kernel
theorem dX10_shortSize_19 : decode cX10_shortSize 19 = .ok (.aload_n 0, 1) := by decide +kernel
theorem dX10_shortSize_20 : decode cX10_shortSize 20 = .ok (.getfield 17, 3) := by decide +kernel
theorem dX10_shortSize_23 : decode cX10_shortSize 23 = .ok (.iconst 1, 1) := by decide +kernel
theorem dX10_shortSize_24 : decode cX10_shortSize 24 = .ok (.if_icmp .le 18, 3) := by decide +kernel
theorem dX10_shortSize_27 : decode cX10_shortSize 27 = .ok (.aload_n 0, 1) := by decide +kernel
theorem dX10_shortSize_28 : decode cX10_shortSize 28 = .ok (.getfield 9, 3) := by decide +kernel
theorem dX10_shortSize_31 : decode cX10_shortSize 31 = .ok (.iconst 1, 1) := by decide +kernel
theorem dX10_shortSize_32 : decode cX10_shortSize 32 = .ok (.iaload, 1) := by decide +kernel
theorem dX10_shortSize_33 : decode cX10_shortSize 33 = .ok (.i2l, 1) := by decide +kernel
theorem dX10_shortSize_34 : decode cX10_shortSize 34 = .ok (.bipush 30, 2) := by decide +kernel
theorem dX10_shortSize_36 : decode cX10_shortSize 36 = .ok (.lshl, 1) := by decide +kernel
theorem dX10_shortSize_37 : decode cX10_shortSize 37 = .ok (.lload_n 1, 1) := by decide +kernel
theorem dX10_shortSize_38 : decode cX10_shortSize 38 = .ok (.lor, 1) := by decide +kernel
theorem dX10_shortSize_39 : decode cX10_shortSize 39 = .ok (.goto 4, 3) := by decide +kernel
theorem dX10_shortSize_42 : decode cX10_shortSize 42 = .ok (.lload_n 1, 1) := by decide +kernel
theorem dX10_shortSize_43 : decode cX10_shortSize 43 = .ok (.lreturn, 1) := by decide +kernel
theorem dX11_init_0 : decode cX11_init 0 = .ok (.aload_n 0, 1) := by decide +kernel
theorem dX11_init_1 : decode cX11_init 1 = .ok (.invokespecial 1, 3) := by decide +kernel
theorem dX11_init_4 : decode cX11_init 4 = .ok (.new 7, 3) := by decide +kernel
theorem dX11_init_7 : decode cX11_init 7 = .ok (.dup, 1) := by decide +kernel
theorem dX11_init_8 : decode cX11_init 8 = .ok (.invokespecial 9, 3) := by decide +kernel
theorem dX11_init_11 : decode cX11_init 11 = .ok (.astore_n 1, 1) := by decide +kernel
theorem dX11_init_12 : decode cX11_init 12 = .ok (.aload_n 0, 1) := by decide +kernel
theorem dX11_init_13 : decode cX11_init 13 = .ok (.bipush 60, 2) := by decide +kernel
theorem dX11_init_15 : decode cX11_init 15 = .ok (.newarray .char, 2) := by decide +kernel
theorem dX11_init_17 : decode cX11_init 17 = .ok (.putfield 12, 3) := by decide +kernel
theorem dX11_init_20 : decode cX11_init 20 = .ok (.aload_n 0, 1) := by decide +kernel
theorem dX11_init_21 : decode cX11_init 21 = .ok (.new 16, 3) := by decide +kernel
theorem dX11_init_24 : decode cX11_init 24 = .ok (.dup, 1) := by decide +kernel
theorem dX11_init_25 : decode cX11_init 25 = .ok (.invokespecial 18, 3) := by decide +kernel
theorem dX11_init_28 : decode cX11_init 28 = .ok (.putfield 19, 3) := by decide +kernel
theorem dX11_init_31 : decode cX11_init 31 = .ok (.aload_n 0, 1) := by decide +kernel
theorem dX11_init_32 : decode cX11_init 32 = .ok (.new 23, 3) := by decide +kernel
theorem dX11_init_35 : decode cX11_init 35 = .ok (.dup, 1) := by decide +kernel
theorem dX11_init_36 : decode cX11_init 36 = .ok (.aload_n 0, 1) := by decide +kernel
theorem dX11_init_37 : decode cX11_init 37 = .ok (.getfield 19, 3) := by decide +kernel
theorem dX11_init_40 : decode cX11_init 40 = .ok (.invokespecial 25, 3) := by decide +kernel
theorem dX11_init_43 : decode cX11_init 43 = .ok (.putfield 28, 3) := by decide +kernel
theorem dX11_init_46 : decode cX11_init 46 = .ok (.aload_n 0, 1) := by decide +kernel
theorem dX11_init_47 : decode cX11_init 47 = .ok (.new 32, 3) := by decide +kernel
theorem dX11_init_50 : decode cX11_init 50 = .ok (.dup, 1) := by decide +kernel
theorem dX11_init_51 : decode cX11_init 51 = .ok (.aload_n 0, 1) := by decide +kernel
theorem dX11_init_52 : decode cX11_init 52 = .ok (.getfield 28, 3) := by decide +kernel
theorem dX11_init_55 : decode cX11_init 55 = .ok (.invokespecial 34, 3) := by decide +kernel
theorem dX11_init_58 : decode cX11_init 58 = .ok (.putfield 37, 3) := by decide +kernel
theorem dX11_init_61 : decode cX11_init 61 = .ok (.aload_n 0, 1) := by decide +kernel
theorem dX11_init_62 : decode cX11_init 62 = .ok (.new 32, 3) := by decide +kernel
theorem dX11_init_65 : decode cX11_init 65 = .ok (.dup, 1) := by decide +kernel
theorem dX11_init_66 : decode cX11_init 66 = .ok (.aload_n 0, 1) := by decide +kernel
theorem dX11_init_67 : decode cX11_init 67 = .ok (.getfield 28, 3) := by decide +kernel
theorem dX11_init_70 : decode cX11_init 70 = .ok (.invokespecial 34, 3) := by decide +kernel
theorem dX11_init_73 : decode cX11_init 73 = .ok (.putfield 41, 3) := by decide +kernel
theorem dX11_init_76 : decode cX11_init 76 = .ok (.aload_n 0, 1) := by decide +kernel
theorem dX11_init_77 : decode cX11_init 77 = .ok (.new 44, 3) := by decide +kernel
theorem dX11_init_80 : decode cX11_init 80 = .ok (.dup, 1) := by decide +kernel
theorem dX11_init_81 : decode cX11_init 81 = .ok (.aload_n 0, 1) := by decide +kernel
theorem dX11_init_82 : decode cX11_init 82 = .ok (.getfield 19, 3) := by decide +kernel
theorem dX11_init_85 : decode cX11_init 85 = .ok (.aload_n 1, 1) := by decide +kernel
theorem dX11_init_86 : decode cX11_init 86 = .ok (.invokespecial 46, 3) := by decide +kernel
theorem dX11_init_89 : decode cX11_init 89 = .ok (.putfield 49, 3) := by decide +kernel
theorem dX11_init_92 : decode cX11_init 92 = .ok (.aload_n 0, 1) := by decide +kernel
theorem dX11_init_93 : decode cX11_init 93 = .ok (.new 53, 3) := by decide +kernel
theorem dX11_init_96 : decode cX11_init 96 = .ok (.dup, 1) := by decide +kernel
theorem dX11_init_97 : decode cX11_init 97 = .ok (.aload_n 0, 1) := by decide +kernel
theorem dX11_init_98 : decode cX11_init 98 = .ok (.getfield 49, 3) := by decide +kernel
theorem dX11_init_101 : decode cX11_init 101 = .ok (.aload_n 1, 1) := by decide +kernel
theorem dX11_init_102 : decode cX11_init 102 = .ok (.invokespecial 55, 3) := by decide +kernel
theorem dX11_init_105 : decode cX11_init 105 = .ok (.putfield 58, 3) := by decide +kernel
theorem dX11_init_108 : decode cX11_init 108 = .ok (.aload_n 0, 1) := by decide +kernel
theorem dX11_init_109 : decode cX11_init 109 = .ok (.new 62, 3) := by decide +kernel
theorem dX11_init_112 : decode cX11_init 112 = .ok (.dup, 1) := by decide +kernel
theorem dX11_init_113 : decode cX11_init 113 = .ok (.aload_n 0, 1) := by decide +kernel
theorem dX11_init_114 : decode cX11_init 114 = .ok (.getfield 19, 3) := by decide +kernel
theorem dX11_init_117 : decode cX11_init 117 = .ok (.invokespecial 64, 3) := by decide +kernel
theorem dX11_init_120 : decode cX11_init 120 = .ok (.putfield 65, 3) := by decide +kernel
theorem dX11_init_123 : decode cX11_init 123 = .ok (.aload_n 0, 1) := by decide +kernel
theorem dX11_init_124 : decode cX11_init 124 = .ok (.new 69, 3) := by decide +kernel
theorem dX11_init_127 : decode cX11_init 127 = .ok (.dup, 1) := by decide +kernel
theorem dX11_init_128 : decode cX11_init 128 = .ok (.aload_n 0, 1) := by decide +kernel
theorem dX11_init_129 : decode cX11_init 129 = .ok (.getfield 19, 3) := by decide +kernel
theorem dX11_init_132 : decode cX11_init 132 = .ok (.aload_n 1, 1) := by decide +kernel
theorem dX11_init_133 : decode cX11_init 133 = .ok (.invokespecial 71, 3) := by decide +kernel
theorem dX11_init_136 : decode cX11_init 136 = .ok (.putfield 72, 3) := by decide +kernel
theorem dX11_init_139 : decode cX11_init 139 = .ok (.aload_n 0, 1) := by decide +kernel
theorem dX11_init_140 : decode cX11_init 140 = .ok (.new 76, 3) := by decide +kernel
theorem dX11_init_143 : decode cX11_init 143 = .ok (.dup, 1) := by decide +kernel
theorem dX11_init_144 : decode cX11_init 144 = .ok (.bipush 7, 2) := by decide +kernel
theorem dX11_init_146 : decode cX11_init 146 = .ok (.invokespecial 80, 3) := by decide +kernel
theorem dX11_init_149 : decode cX11_init 149 = .ok (.putfield 83, 3) := by decide +kernel
theorem dX11_init_152 : decode cX11_init 152 = .ok (.aload_n 0, 1) := by decide +kernel
theorem dX11_init_153 : decode cX11_init 153 = .ok (.new 76, 3) := by decide +kernel
theorem dX11_init_156 : decode cX11_init 156 = .ok (.dup, 1) := by decide +kernel
theorem dX11_init_157 : decode cX11_init 157 = .ok (.bipush 7, 2) := by decide +kernel
theorem dX11_init_159 : decode cX11_init 159 = .ok (.invokespecial 80, 3) := by decide +kernel
theorem dX11_init_162 : decode cX11_init 162 = .ok (.putfield 87, 3) := by decide +kernel
theorem dX11_init_165 : decode cX11_init 165 = .ok (.aload_n 0, 1) := by decide +kernel
theorem dX11_init_166 : decode cX11_init 166 = .ok (.new 90, 3) := by decide +kernel
theorem dX11_init_169 : decode cX11_init 169 = .ok (.dup, 1) := by decide +kernel
theorem dX11_init_170 : decode cX11_init 170 = .ok (.invokespecial 92, 3) := by decide +kernel
theorem dX11_init_173 : decode cX11_init 173 = .ok (.putfield 93, 3) := by decide +kernel
theorem dX11_init_176 : decode cX11_init 176 = .ok (.aload_n 0, 1) := by decide +kernel
theorem dX11_init_177 : decode cX11_init 177 = .ok (.bipush 80, 2) := by decide +kernel
theorem dX11_init_179 : decode cX11_init 179 = .ok (.newarray .int, 2) := by decide +kernel
theorem dX11_init_181 : decode cX11_init 181 = .ok (.putfield 97, 3) := by decide +kernel
theorem dX11_init_184 : decode cX11_init 184 = .ok (.aload_n 0, 1) := by decide +kernel
theorem dX11_init_185 : decode cX11_init 185 = .ok (.bipush 80, 2) := by decide +kernel
theorem dX11_init_187 : decode cX11_init 187 = .ok (.newarray .int, 2) := by decide +kernel
theorem dX11_init_189 : decode cX11_init 189 = .ok (.putfield 101, 3) := by decide +kernel
theorem dX11_init_192 : decode cX11_init 192 = .ok (.return_, 1) := by decide +kernel
theorem dX11_type_0 : decode cX11_type 0 = .ok (.aload_n 0, 1) := by decide +kernel
theorem dX11_type_1 : decode cX11_type 1 = .ok (.getfield 104, 3) := by decide +kernel
theorem dX11_type_4 : decode cX11_type 4 = .ok (.aload_n 0, 1) := by decide +kernel
theorem dX11_type_5 : decode cX11_type 5 = .ok (.getfield 12, 3) := by decide +kernel
theorem dX11_type_8 : decode cX11_type 8 = .ok (.arraylength, 1) := by decide +kernel
theorem dX11_type_9 : decode cX11_type 9 = .ok (.if_icmp .lt 13, 3) := by decide +kernel
theorem dX11_type_12 : decode cX11_type 12 = .ok (.new 108, 3) := by decide +kernel
theorem dX11_type_15 : decode cX11_type 15 = .ok (.dup, 1) := by decide +kernel
theorem dX11_type_16 : decode cX11_type 16 = .ok (.ldc 110, 2) := by decide +kernel
theorem dX11_type_18 : decode cX11_type 18 = .ok (.invokespecial 112, 3) := by decide +kernel
theorem dX11_type_21 : decode cX11_type 21 = .ok (.athrow, 1) := by decide +kernel
theorem dX11_type_22 : decode cX11_type 22 = .ok (.aload_n 0, 1) := by decide +kernel
theorem dX11_type_23 : decode cX11_type 23 = .ok (.getfield 12, 3) := by decide +kernel
theorem dX11_type_26 : decode cX11_type 26 = .ok (.aload_n 0, 1) := by decide +kernel
theorem dX11_type_27 : decode cX11_type 27 = .ok (.getfield 104, 3) := by decide +kernel
theorem dX11_type_30 : decode cX11_type 30 = .ok (.iload_n 1, 1) := by decide +kernel
theorem dX11_type_31 : decode cX11_type 31 = .ok (.castore, 1) := by decide +kernel
theorem dX11_type_32 : decode cX11_type 32 = .ok (.aload_n 0, 1) := by decide +kernel
theorem dX11_type_33 : decode cX11_type 33 = .ok (.dup, 1) := by decide +kernel
theorem dX11_type_34 : decode cX11_type 34 = .ok (.getfield 104, 3) := by decide +kernel
theorem dX11_type_37 : decode cX11_type 37 = .ok (.iconst 1, 1) := by decide +kernel
theorem dX11_type_38 : decode cX11_type 38 = .ok (.iadd, 1) := by decide +kernel
theorem dX11_type_39 : decode cX11_type 39 = .ok (.putfield 104, 3) := by decide +kernel
theorem dX11_type_42 : decode cX11_type 42 = .ok (.aload_n 0, 1) := by decide +kernel
theorem dX11_type_43 : decode cX11_type 43 = .ok (.getfield 104, 3) := by decide +kernel
theorem dX11_type_46 : decode cX11_type 46 = .ok (.ireturn, 1) := by decide +kernel
theorem dX11_drop_0 : decode cX11_drop 0 = .ok (.aload_n 0, 1) := by decide +kernel
theorem dX11_drop_1 : decode cX11_drop 1 = .ok (.getfield 104, 3) := by decide +kernel
theorem dX11_drop_4 : decode cX11_drop 4 = .ok (.istore_n 1, 1) := by decide +kernel
theorem dX11_drop_5 : decode cX11_drop 5 = .ok (.aload_n 0, 1) := by decide +kernel
theorem dX11_drop_6 : decode cX11_drop 6 = .ok (.iconst 0, 1) := by decide +kernel
theorem dX11_drop_7 : decode cX11_drop 7 = .ok (.putfield 104, 3) := by decide +kernel
theorem dX11_drop_10 : decode cX11_drop 10 = .ok (.iload_n 1, 1) := by decide +kernel
theorem dX11_drop_11 : decode cX11_drop 11 = .ok (.ireturn, 1) := by decide +kernel
theorem dX11_fault_0 : decode cX11_fault 0 = .ok (.aload_n 0, 1) := by decide +kernel
theorem dX11_fault_1 : decode cX11_fault 1 = .ok (.getfield 28, 3) := by decide +kernel
theorem dX11_fault_4 : decode cX11_fault 4 = .ok (.aload_n 0, 1) := by decide +kernel
theorem dX11_fault_5 : decode cX11_fault 5 = .ok (.getfield 12, 3) := by decide +kernel
theorem dX11_fault_8 : decode cX11_fault 8 = .ok (.aload_n 0, 1) := by decide +kernel
theorem dX11_fault_9 : decode cX11_fault 9 = .ok (.getfield 104, 3) := by decide +kernel
theorem dX11_fault_12 : decode cX11_fault 12 = .ok (.invokevirtual 115, 3) := by decide +kernel
theorem dX11_fault_15 : decode cX11_fault 15 = .ok (.aload_n 0, 1) := by decide +kernel
theorem dX11_fault_16 : decode cX11_fault 16 = .ok (.getfield 28, 3) := by decide +kernel
theorem dX11_fault_19 : decode cX11_fault 19 = .ok (.invokevirtual 119, 3) := by decide +kernel
theorem dX11_fault_22 : decode cX11_fault 22 = .ok (.ireturn, 1) := by decide +kernel
theorem dX11_read_0 : decode cX11_read 0 = .ok (.aload_n 0, 1) := by decide +kernel
theorem dX11_read_1 : decode cX11_read 1 = .ok (.getfield 28, 3) := by decide +kernel
theorem dX11_read_4 : decode cX11_read 4 = .ok (.aload_n 0, 1) := by decide +kernel
theorem dX11_read_5 : decode cX11_read 5 = .ok (.getfield 12, 3) := by decide +kernel
theorem dX11_read_8 : decode cX11_read 8 = .ok (.aload_n 0, 1) := by decide +kernel
theorem dX11_read_9 : decode cX11_read 9 = .ok (.getfield 104, 3) := by decide +kernel
theorem dX11_read_12 : decode cX11_read 12 = .ok (.invokevirtual 115, 3) := by decide +kernel
theorem dX11_read_15 : decode cX11_read 15 = .ok (.aload_n 0, 1) := by decide +kernel
theorem dX11_read_16 : decode cX11_read 16 = .ok (.getfield 28, 3) := by decide +kernel
theorem dX11_read_19 : decode cX11_read 19 = .ok (.invokevirtual 119, 3) := by decide +kernel
theorem dX11_read_22 : decode cX11_read 22 = .ok (.iconst (-1), 1) := by decide +kernel
theorem dX11_read_23 : decode cX11_read 23 = .ok (.if_icmp .eq 13, 3) := by decide +kernel
theorem dX11_read_26 : decode cX11_read 26 = .ok (.new 108, 3) := by decide +kernel
theorem dX11_read_29 : decode cX11_read 29 = .ok (.dup, 1) := by decide +kernel
theorem dX11_read_30 : decode cX11_read 30 = .ok (.ldc 123, 2) := by decide +kernel
theorem dX11_read_32 : decode cX11_read 32 = .ok (.invokespecial 112, 3) := by decide +kernel
theorem dX11_read_35 : decode cX11_read 35 = .ok (.athrow, 1) := by decide +kernel
theorem dX11_read_36 : decode cX11_read 36 = .ok (.aload_n 0, 1) := by decide +kernel
theorem dX11_read_37 : decode cX11_read 37 = .ok (.invokevirtual 125, 3) := by decide +kernel
theorem dX11_read_40 : decode cX11_read 40 = .ok (.aload_n 0, 1) := by decide +kernel
theorem dX11_read_41 : decode cX11_read 41 = .ok (.iconst 0, 1) := by decide +kernel
theorem dX11_read_42 : decode cX11_read 42 = .ok (.putfield 104, 3) := by decide +kernel
theorem dX11_read_45 : decode cX11_read 45 = .ok (.aload_n 0, 1) := by decide +kernel
theorem dX11_read_46 : decode cX11_read 46 = .ok (.getfield 93, 3) := by decide +kernel
theorem dX11_read_49 : decode cX11_read 49 = .ok (.aload_n 0, 1) := by decide +kernel
theorem dX11_read_50 : decode cX11_read 50 = .ok (.getfield 28, 3) := by decide +kernel
theorem dX11_read_53 : decode cX11_read 53 = .ok (.getfield 128, 3) := by decide +kernel
theorem dX11_read_56 : decode cX11_read 56 = .ok (.invokevirtual 131, 3) := by decide +kernel
theorem dX11_read_59 : decode cX11_read 59 = .ok (.aload_n 0, 1) := by decide +kernel
theorem dX11_read_60 : decode cX11_read 60 = .ok (.getfield 19, 3) := by decide +kernel
theorem dX11_read_63 : decode cX11_read 63 = .ok (.aload_n 0, 1) := by decide +kernel
theorem dX11_read_64 : decode cX11_read 64 = .ok (.getfield 93, 3) := by decide +kernel
theorem dX11_read_67 : decode cX11_read 67 = .ok (.invokevirtual 135, 3) := by decide +kernel
theorem dX11_read_70 : decode cX11_read 70 = .ok (.ireturn, 1) := by decide +kernel
theorem dX11_trees_0 : decode cX11_trees 0 = .ok (.aload_n 0, 1) := by decide +kernel
theorem dX11_trees_1 : decode cX11_trees 1 = .ok (.getfield 19, 3) := by decide +kernel
theorem dX11_trees_4 : decode cX11_trees 4 = .ok (.getfield 139, 3) := by decide +kernel
theorem dX11_trees_7 : decode cX11_trees 7 = .ok (.ireturn, 1) := by decide +kernel
theorem dX11_node_0 : decode cX11_node 0 = .ok (.aload_n 0, 1) := by decide +kernel
theorem dX11_node_1 : decode cX11_node 1 = .ok (.iload_n 1, 1) := by decide +kernel
theorem dX11_node_2 : decode cX11_node 2 = .ok (.invokevirtual 142, 3) := by decide +kernel
theorem dX11_node_5 : decode cX11_node 5 = .ok (.astore 4, 2) := by decide +kernel
theorem dX11_node_7 : decode cX11_node 7 = .ok (.aload_n 0, 1) := by decide +kernel
theorem dX11_node_8 : decode cX11_node 8 = .ok (.aload 4, 2) := by decide +kernel
theorem dX11_node_10 : decode cX11_node 10 = .ok (.iload_n 2, 1) := by decide +kernel
theorem dX11_node_11 : decode cX11_node 11 = .ok (.invokevirtual 146, 3) := by decide +kernel
theorem dX11_node_14 : decode cX11_node 14 = .ok (.iload_n 3, 1) := by decide +kernel
theorem dX11_node_15 : decode cX11_node 15 = .ok (.tableswitch 84 0 5 #[37, 45, 53, 61, 69, 76], 37) := by decide +kernel
theorem dX11_node_52 : decode cX11_node 52 = .ok (.aload 4, 2) := by decide +kernel
theorem dX11_node_54 : decode cX11_node 54 = .ok (.getfield 150, 3) := by decide +kernel
theorem dX11_node_57 : decode cX11_node 57 = .ok (.iload_n 2, 1) := by decide +kernel
theorem dX11_node_58 : decode cX11_node 58 = .ok (.iaload, 1) := by decide +kernel
theorem dX11_node_59 : decode cX11_node 59 = .ok (.ireturn, 1) := by decide +kernel
theorem dX11_node_60 : decode cX11_node 60 = .ok (.aload 4, 2) := by decide +kernel
theorem dX11_node_62 : decode cX11_node 62 = .ok (.getfield 153, 3) := by decide +kernel
theorem dX11_node_65 : decode cX11_node 65 = .ok (.iload_n 2, 1) := by decide +kernel
theorem dX11_node_66 : decode cX11_node 66 = .ok (.iaload, 1) := by decide +kernel
theorem dX11_node_67 : decode cX11_node 67 = .ok (.ireturn, 1) := by decide +kernel
theorem dX11_node_68 : decode cX11_node 68 = .ok (.aload 4, 2) := by decide +kernel
theorem dX11_node_70 : decode cX11_node 70 = .ok (.getfield 156, 3) := by decide +kernel
theorem dX11_node_73 : decode cX11_node 73 = .ok (.iload_n 2, 1) := by decide +kernel
theorem dX11_node_74 : decode cX11_node 74 = .ok (.iaload, 1) := by decide +kernel
theorem dX11_node_75 : decode cX11_node 75 = .ok (.ireturn, 1) := by decide +kernel
theorem dX11_node_76 : decode cX11_node 76 = .ok (.aload 4, 2) := by decide +kernel
theorem dX11_node_78 : decode cX11_node 78 = .ok (.getfield 159, 3) := by decide +kernel
theorem dX11_node_81 : decode cX11_node 81 = .ok (.iload_n 2, 1) := by decide +kernel
theorem dX11_node_82 : decode cX11_node 82 = .ok (.iaload, 1) := by decide +kernel
theorem dX11_node_83 : decode cX11_node 83 = .ok (.ireturn, 1) := by decide +kernel
theorem dX11_node_84 : decode cX11_node 84 = .ok (.aload 4, 2) := by decide +kernel
theorem dX11_node_86 : decode cX11_node 86 = .ok (.iload_n 2, 1) := by decide +kernel
theorem dX11_node_87 : decode cX11_node 87 = .ok (.invokevirtual 162, 3) := by decide +kernel
theorem dX11_node_90 : decode cX11_node 90 = .ok (.ireturn, 1) := by decide +kernel
theorem dX11_node_91 : decode cX11_node 91 = .ok (.aload 4, 2) := by decide +kernel
theorem dX11_node_93 : decode cX11_node 93 = .ok (.getfield 166, 3) := by decide +kernel
theorem dX11_node_96 : decode cX11_node 96 = .ok (.iload_n 2, 1) := by decide +kernel
theorem dX11_node_97 : decode cX11_node 97 = .ok (.iaload, 1) := by decide +kernel
theorem dX11_node_98 : decode cX11_node 98 = .ok (.ireturn, 1) := by decide +kernel
theorem dX11_node_99 : decode cX11_node 99 = .ok (.new 169, 3) := by decide +kernel
theorem dX11_node_102 : decode cX11_node 102 = .ok (.dup, 1) := by decide +kernel
theorem dX11_node_103 : decode cX11_node 103 = .ok (.ldc 171, 2) := by decide +kernel
theorem dX11_node_105 : decode cX11_node 105 = .ok (.invokespecial 173, 3) := by decide +kernel
theorem dX11_node_108 : decode cX11_node 108 = .ok (.athrow, 1) := by decide +kernel
theorem dX11_isSame_0 : decode cX11_isSame 0 = .ok (.aload_n 0, 1) := by decide +kernel
theorem dX11_isSame_1 : decode cX11_isSame 1 = .ok (.iload_n 1, 1) := by decide +kernel
theorem dX11_isSame_2 : decode cX11_isSame 2 = .ok (.invokevirtual 142, 3) := by decide +kernel
theorem dX11_isSame_5 : decode cX11_isSame 5 = .ok (.aload_n 0, 1) := by decide +kernel
theorem dX11_isSame_6 : decode cX11_isSame 6 = .ok (.iload_n 2, 1) := by decide +kernel
theorem dX11_isSame_7 : decode cX11_isSame 7 = .ok (.invokevirtual 142, 3) := by decide +kernel
theorem dX11_isSame_10 : decode cX11_isSame 10 = .ok (.invokevirtual 174, 3) := by decide +kernel
theorem dX11_isSame_13 : decode cX11_isSame 13 = .ok (.ireturn, 1) := by decide +kernel
theorem dX11_part_0 : decode cX11_part 0 = .ok (.aload_n 0, 1) := by decide +kernel
theorem dX11_part_1 : decode cX11_part 1 = .ok (.iload_n 1, 1) := by decide +kernel
theorem dX11_part_2 : decode cX11_part 2 = .ok (.invokevirtual 142, 3) := by decide +kernel
theorem dX11_part_5 : decode cX11_part 5 = .ok (.astore_n 3, 1) := by decide +kernel
theorem dX11_part_6 : decode cX11_part 6 = .ok (.aload_n 0, 1) := by decide +kernel
theorem dX11_part_7 : decode cX11_part 7 = .ok (.aload_n 3, 1) := by decide +kernel
theorem dX11_part_8 : decode cX11_part 8 = .ok (.iload_n 2, 1) := by decide +kernel
theorem dX11_part_9 : decode cX11_part 9 = .ok (.invokevirtual 146, 3) := by decide +kernel
theorem dX11_part_12 : decode cX11_part 12 = .ok (.aload_n 0, 1) := by decide +kernel
theorem dX11_part_13 : decode cX11_part 13 = .ok (.invokevirtual 125, 3) := by decide +kernel
theorem dX11_part_16 : decode cX11_part 16 = .ok (.aload_n 0, 1) := by decide +kernel
theorem dX11_part_17 : decode cX11_part 17 = .ok (.getfield 93, 3) := by decide +kernel
theorem dX11_part_20 : decode cX11_part 20 = .ok (.invokevirtual 178, 3) := by decide +kernel
theorem dX11_part_23 : decode cX11_part 23 = .ok (.aload_n 0, 1) := by decide +kernel
theorem dX11_part_24 : decode cX11_part 24 = .ok (.getfield 93, 3) := by decide +kernel
theorem dX11_part_27 : decode cX11_part 27 = .ok (.aload_n 3, 1) := by decide +kernel
theorem dX11_part_28 : decode cX11_part 28 = .ok (.iload_n 2, 1) := by decide +kernel
theorem dX11_part_29 : decode cX11_part 29 = .ok (.invokevirtual 181, 3) := by decide +kernel
theorem dX11_part_32 : decode cX11_part 32 = .ok (.pop, 1) := by decide +kernel
theorem dX11_part_33 : decode cX11_part 33 = .ok (.aload_n 0, 1) := by decide +kernel
theorem dX11_part_34 : decode cX11_part 34 = .ok (.getfield 93, 3) := by decide +kernel
theorem dX11_part_37 : decode cX11_part 37 = .ok (.invokevirtual 185, 3) := by decide +kernel
theorem dX11_part_40 : decode cX11_part 40 = .ok (.aload_n 0, 1) := by decide +kernel
theorem dX11_part_41 : decode cX11_part 41 = .ok (.getfield 19, 3) := by decide +kernel
theorem dX11_part_44 : decode cX11_part 44 = .ok (.aload_n 0, 1) := by decide +kernel
theorem dX11_part_45 : decode cX11_part 45 = .ok (.getfield 93, 3) := by decide +kernel
theorem dX11_part_48 : decode cX11_part 48 = .ok (.invokevirtual 135, 3) := by decide +kernel
theorem dX11_part_51 : decode cX11_part 51 = .ok (.ireturn, 1) := by decide +kernel
theorem dX11_graft_0 : decode cX11_graft 0 = .ok (.aload_n 0, 1) := by decide +kernel
theorem dX11_graft_1 : decode cX11_graft 1 = .ok (.iload_n 1, 1) := by decide +kernel
theorem dX11_graft_2 : decode cX11_graft 2 = .ok (.invokevirtual 142, 3) := by decide +kernel
theorem dX11_graft_5 : decode cX11_graft 5 = .ok (.astore 4, 2) := by decide +kernel
theorem dX11_graft_7 : decode cX11_graft 7 = .ok (.aload_n 0, 1) := by decide +kernel
theorem dX11_graft_8 : decode cX11_graft 8 = .ok (.iload_n 3, 1) := by decide +kernel
theorem dX11_graft_9 : decode cX11_graft 9 = .ok (.invokevirtual 142, 3) := by decide +kernel
theorem dX11_graft_12 : decode cX11_graft 12 = .ok (.astore 5, 2) := by decide +kernel
theorem dX11_graft_14 : decode cX11_graft 14 = .ok (.aload_n 0, 1) := by decide +kernel
theorem dX11_graft_15 : decode cX11_graft 15 = .ok (.iload_n 2, 1) := by decide +kernel
theorem dX11_graft_16 : decode cX11_graft 16 = .ok (.invokevirtual 188, 3) := by decide +kernel
theorem dX11_graft_19 : decode cX11_graft 19 = .ok (.aload_n 0, 1) := by decide +kernel
theorem dX11_graft_20 : decode cX11_graft 20 = .ok (.invokevirtual 125, 3) := by decide +kernel
theorem dX11_graft_23 : decode cX11_graft 23 = .ok (.aload_n 0, 1) := by decide +kernel
theorem dX11_graft_24 : decode cX11_graft 24 = .ok (.getfield 93, 3) := by decide +kernel
theorem dX11_graft_27 : decode cX11_graft 27 = .ok (.aload 4, 2) := by decide +kernel
theorem dX11_graft_29 : decode cX11_graft 29 = .ok (.iload_n 2, 1) := by decide +kernel
theorem dX11_graft_30 : decode cX11_graft 30 = .ok (.aload 5, 2) := by decide +kernel
theorem dX11_graft_32 : decode cX11_graft 32 = .ok (.invokevirtual 192, 3) := by decide +kernel
theorem dX11_graft_35 : decode cX11_graft 35 = .ok (.ifCond .ne 13, 3) := by decide +kernel
theorem dX11_graft_38 : decode cX11_graft 38 = .ok (.new 108, 3) := by decide +kernel
theorem dX11_graft_41 : decode cX11_graft 41 = .ok (.dup, 1) := by decide +kernel
theorem dX11_graft_42 : decode cX11_graft 42 = .ok (.ldc 196, 2) := by decide +kernel
theorem dX11_graft_44 : decode cX11_graft 44 = .ok (.invokespecial 112, 3) := by decide +kernel
theorem dX11_graft_47 : decode cX11_graft 47 = .ok (.athrow, 1) := by decide +kernel
theorem dX11_graft_48 : decode cX11_graft 48 = .ok (.aload_n 0, 1) := by decide +kernel
theorem dX11_graft_49 : decode cX11_graft 49 = .ok (.getfield 19, 3) := by decide +kernel
theorem dX11_graft_52 : decode cX11_graft 52 = .ok (.aload_n 0, 1) := by decide +kernel
theorem dX11_graft_53 : decode cX11_graft 53 = .ok (.getfield 93, 3) := by decide +kernel
theorem dX11_graft_56 : decode cX11_graft 56 = .ok (.invokevirtual 135, 3) := by decide +kernel
theorem dX11_graft_59 : decode cX11_graft 59 = .ok (.ireturn, 1) := by decide +kernel
theorem dX11_tell_0 : decode cX11_tell 0 = .ok (.aload_n 0, 1) := by decide +kernel
theorem dX11_tell_1 : decode cX11_tell 1 = .ok (.getfield 19, 3) := by decide +kernel
theorem dX11_tell_4 : decode cX11_tell 4 = .ok (.iload_n 1, 1) := by decide +kernel
theorem dX11_tell_5 : decode cX11_tell 5 = .ok (.invokevirtual 198, 3) := by decide +kernel
theorem dX11_tell_8 : decode cX11_tell 8 = .ok (.ifCond .eq 22, 3) := by decide +kernel
theorem dX11_tell_11 : decode cX11_tell 11 = .ok (.iload_n 2, 1) := by decide +kernel
theorem dX11_tell_12 : decode cX11_tell 12 = .ok (.invokestatic 202, 3) := by decide +kernel
theorem dX11_tell_15 : decode cX11_tell 15 = .ok (.ifCond .eq 15, 3) := by decide +kernel
theorem dX11_tell_18 : decode cX11_tell 18 = .ok (.iload_n 2, 1) := by decide +kernel
theorem dX11_tell_19 : decode cX11_tell 19 = .ok (.iload_n 3, 1) := by decide +kernel
theorem dX11_tell_20 : decode cX11_tell 20 = .ok (.iload 4, 2) := by decide +kernel
theorem dX11_tell_22 : decode cX11_tell 22 = .ok (.iload 5, 2) := by decide +kernel
theorem dX11_tell_24 : decode cX11_tell 24 = .ok (.invokestatic 205, 3) := by decide +kernel
theorem dX11_tell_27 : decode cX11_tell 27 = .ok (.ifCond .ne 13, 3) := by decide +kernel
theorem dX11_tell_30 : decode cX11_tell 30 = .ok (.new 169, 3) := by decide +kernel
theorem dX11_tell_33 : decode cX11_tell 33 = .ok (.dup, 1) := by decide +kernel
theorem dX11_tell_34 : decode cX11_tell 34 = .ok (.ldc 209, 2) := by decide +kernel
theorem dX11_tell_36 : decode cX11_tell 36 = .ok (.invokespecial 173, 3) := by decide +kernel
theorem dX11_tell_39 : decode cX11_tell 39 = .ok (.athrow, 1) := by decide +kernel
theorem dX11_tell_40 : decode cX11_tell 40 = .ok (.aload_n 0, 1) := by decide +kernel
theorem dX11_tell_41 : decode cX11_tell 41 = .ok (.getfield 19, 3) := by decide +kernel
theorem dX11_tell_44 : decode cX11_tell 44 = .ok (.iload_n 1, 1) := by decide +kernel
theorem dX11_tell_45 : decode cX11_tell 45 = .ok (.iload_n 2, 1) := by decide +kernel
theorem dX11_tell_46 : decode cX11_tell 46 = .ok (.iload_n 3, 1) := by decide +kernel
theorem dX11_tell_47 : decode cX11_tell 47 = .ok (.iload 4, 2) := by decide +kernel
theorem dX11_tell_49 : decode cX11_tell 49 = .ok (.invokevirtual 211, 3) := by decide +kernel
theorem dX11_tell_52 : decode cX11_tell 52 = .ok (.ifCond .eq 13, 3) := by decide +kernel
theorem dX11_tell_55 : decode cX11_tell 55 = .ok (.new 108, 3) := by decide +kernel
theorem dX11_tell_58 : decode cX11_tell 58 = .ok (.dup, 1) := by decide +kernel
theorem dX11_tell_59 : decode cX11_tell 59 = .ok (.ldc 214, 2) := by decide +kernel
theorem dX11_tell_61 : decode cX11_tell 61 = .ok (.invokespecial 112, 3) := by decide +kernel
theorem dX11_tell_64 : decode cX11_tell 64 = .ok (.athrow, 1) := by decide +kernel
theorem dX11_tell_65 : decode cX11_tell 65 = .ok (.aload_n 0, 1) := by decide +kernel
theorem dX11_tell_66 : decode cX11_tell 66 = .ok (.getfield 19, 3) := by decide +kernel
theorem dX11_tell_69 : decode cX11_tell 69 = .ok (.iload_n 1, 1) := by decide +kernel
theorem dX11_tell_70 : decode cX11_tell 70 = .ok (.iload_n 2, 1) := by decide +kernel
theorem dX11_tell_71 : decode cX11_tell 71 = .ok (.invokevirtual 216, 3) := by decide +kernel
theorem dX11_tell_74 : decode cX11_tell 74 = .ok (.istore 6, 2) := by decide +kernel
theorem dX11_tell_76 : decode cX11_tell 76 = .ok (.aload_n 0, 1) := by decide +kernel
theorem dX11_tell_77 : decode cX11_tell 77 = .ok (.getfield 19, 3) := by decide +kernel
theorem dX11_tell_80 : decode cX11_tell 80 = .ok (.iload_n 1, 1) := by decide +kernel
theorem dX11_tell_81 : decode cX11_tell 81 = .ok (.iload_n 2, 1) := by decide +kernel
theorem dX11_tell_82 : decode cX11_tell 82 = .ok (.iload_n 3, 1) := by decide +kernel
theorem dX11_tell_83 : decode cX11_tell 83 = .ok (.iload 4, 2) := by decide +kernel
theorem dX11_tell_85 : decode cX11_tell 85 = .ok (.iload 5, 2) := by decide +kernel
theorem dX11_tell_87 : decode cX11_tell 87 = .ok (.invokevirtual 220, 3) := by decide +kernel
theorem dX11_tell_90 : decode cX11_tell 90 = .ok (.iload 6, 2) := by decide +kernel
theorem dX11_tell_92 : decode cX11_tell 92 = .ok (.ireturn, 1) := by decide +kernel
theorem dX11_told_0 : decode cX11_told 0 = .ok (.iload_n 2, 1) := by decide +kernel
theorem dX11_told_1 : decode cX11_told 1 = .ok (.invokestatic 202, 3) := by decide +kernel
theorem dX11_told_4 : decode cX11_told 4 = .ok (.ifCond .eq 12, 3) := by decide +kernel
theorem dX11_told_7 : decode cX11_told 7 = .ok (.iload_n 3, 1) := by decide +kernel
theorem dX11_told_8 : decode cX11_told 8 = .ok (.ifCond .lt 8, 3) := by decide +kernel
theorem dX11_told_11 : decode cX11_told 11 = .ok (.iload_n 3, 1) := by decide +kernel
theorem dX11_told_12 : decode cX11_told 12 = .ok (.iconst 2, 1) := by decide +kernel
theorem dX11_told_13 : decode cX11_told 13 = .ok (.if_icmp .le 13, 3) := by decide +kernel
theorem dX11_told_16 : decode cX11_told 16 = .ok (.new 169, 3) := by decide +kernel
theorem dX11_told_19 : decode cX11_told 19 = .ok (.dup, 1) := by decide +kernel
theorem dX11_told_20 : decode cX11_told 20 = .ok (.ldc 224, 2) := by decide +kernel
theorem dX11_told_22 : decode cX11_told 22 = .ok (.invokespecial 173, 3) := by decide +kernel
theorem dX11_told_25 : decode cX11_told 25 = .ok (.athrow, 1) := by decide +kernel
theorem dX11_told_26 : decode cX11_told 26 = .ok (.aload_n 0, 1) := by decide +kernel
theorem dX11_told_27 : decode cX11_told 27 = .ok (.getfield 19, 3) := by decide +kernel
theorem dX11_told_30 : decode cX11_told 30 = .ok (.iload_n 1, 1) := by decide +kernel
theorem dX11_told_31 : decode cX11_told 31 = .ok (.iload_n 2, 1) := by decide +kernel
theorem dX11_told_32 : decode cX11_told 32 = .ok (.invokevirtual 216, 3) := by decide +kernel
theorem dX11_told_35 : decode cX11_told 35 = .ok (.ifCond .ne 5, 3) := by decide +kernel
theorem dX11_told_38 : decode cX11_told 38 = .ok (.iconst (-1), 1) := by decide +kernel
theorem dX11_told_39 : decode cX11_told 39 = .ok (.ireturn, 1) := by decide +kernel
theorem dX11_told_40 : decode cX11_told 40 = .ok (.iload_n 3, 1) := by decide +kernel
theorem dX11_told_41 : decode cX11_told 41 = .ok (.ifCond .ne 13, 3) := by decide +kernel
theorem dX11_told_44 : decode cX11_told 44 = .ok (.aload_n 0, 1) := by decide +kernel
theorem dX11_told_45 : decode cX11_told 45 = .ok (.getfield 19, 3) := by decide +kernel
theorem dX11_told_48 : decode cX11_told 48 = .ok (.iload_n 1, 1) := by decide +kernel
theorem dX11_told_49 : decode cX11_told 49 = .ok (.iload_n 2, 1) := by decide +kernel
theorem dX11_told_50 : decode cX11_told 50 = .ok (.invokevirtual 216, 3) := by decide +kernel
theorem dX11_told_53 : decode cX11_told 53 = .ok (.ireturn, 1) := by decide +kernel
theorem dX11_told_54 : decode cX11_told 54 = .ok (.iload_n 3, 1) := by decide +kernel
theorem dX11_told_55 : decode cX11_told 55 = .ok (.iconst 1, 1) := by decide +kernel
theorem dX11_told_56 : decode cX11_told 56 = .ok (.if_icmp .ne 15, 3) := by decide +kernel
theorem dX11_told_59 : decode cX11_told 59 = .ok (.aload_n 0, 1) := by decide +kernel
theorem dX11_told_60 : decode cX11_told 60 = .ok (.getfield 19, 3) := by decide +kernel
theorem dX11_told_63 : decode cX11_told 63 = .ok (.iload_n 1, 1) := by decide +kernel
theorem dX11_told_64 : decode cX11_told 64 = .ok (.iload_n 2, 1) := by decide +kernel
theorem dX11_told_65 : decode cX11_told 65 = .ok (.invokevirtual 226, 3) := by decide +kernel
theorem dX11_told_68 : decode cX11_told 68 = .ok (.goto 12, 3) := by decide +kernel
theorem dX11_told_71 : decode cX11_told 71 = .ok (.aload_n 0, 1) := by decide +kernel
theorem dX11_told_72 : decode cX11_told 72 = .ok (.getfield 19, 3) := by decide +kernel
theorem dX11_told_75 : decode cX11_told 75 = .ok (.iload_n 1, 1) := by decide +kernel
theorem dX11_told_76 : decode cX11_told 76 = .ok (.iload_n 2, 1) := by decide +kernel
theorem dX11_told_77 : decode cX11_told 77 = .ok (.invokevirtual 229, 3) := by decide +kernel
theorem dX11_told_80 : decode cX11_told 80 = .ok (.ireturn, 1) := by decide +kernel
theorem dX11_print_0 : decode cX11_print 0 = .ok (.aload_n 0, 1) := by decide +kernel
theorem dX11_print_1 : decode cX11_print 1 = .ok (.getfield 37, 3) := by decide +kernel
theorem dX11_print_4 : decode cX11_print 4 = .ok (.aload_n 0, 1) := by decide +kernel
theorem dX11_print_5 : decode cX11_print 5 = .ok (.iload_n 1, 1) := by decide +kernel
theorem dX11_print_6 : decode cX11_print 6 = .ok (.invokevirtual 142, 3) := by decide +kernel
theorem dX11_print_9 : decode cX11_print 9 = .ok (.invokevirtual 232, 3) := by decide +kernel
theorem dX11_print_12 : decode cX11_print 12 = .ok (.aload_n 0, 1) := by decide +kernel
theorem dX11_print_13 : decode cX11_print 13 = .ok (.getfield 37, 3) := by decide +kernel
theorem dX11_print_16 : decode cX11_print 16 = .ok (.getfield 235, 3) := by decide +kernel
theorem dX11_print_19 : decode cX11_print 19 = .ok (.ireturn, 1) := by decide +kernel
theorem dX11_postfix_0 : decode cX11_postfix 0 = .ok (.aload_n 0, 1) := by decide +kernel
theorem dX11_postfix_1 : decode cX11_postfix 1 = .ok (.iload_n 1, 1) := by decide +kernel
theorem dX11_postfix_2 : decode cX11_postfix 2 = .ok (.invokevirtual 142, 3) := by decide +kernel
theorem dX11_postfix_5 : decode cX11_postfix 5 = .ok (.astore_n 2, 1) := by decide +kernel
theorem dX11_postfix_6 : decode cX11_postfix 6 = .ok (.aload_n 0, 1) := by decide +kernel
theorem dX11_postfix_7 : decode cX11_postfix 7 = .ok (.aload_n 2, 1) := by decide +kernel
theorem dX11_postfix_8 : decode cX11_postfix 8 = .ok (.invokevirtual 238, 3) := by decide +kernel
theorem dX11_postfix_11 : decode cX11_postfix 11 = .ok (.aload_n 0, 1) := by decide +kernel
theorem dX11_postfix_12 : decode cX11_postfix 12 = .ok (.getfield 37, 3) := by decide +kernel
theorem dX11_postfix_15 : decode cX11_postfix 15 = .ok (.aload_n 2, 1) := by decide +kernel
theorem dX11_postfix_16 : decode cX11_postfix 16 = .ok (.invokevirtual 241, 3) := by decide +kernel
theorem dX11_postfix_19 : decode cX11_postfix 19 = .ok (.aload_n 0, 1) := by decide +kernel
theorem dX11_postfix_20 : decode cX11_postfix 20 = .ok (.getfield 37, 3) := by decide +kernel
theorem dX11_postfix_23 : decode cX11_postfix 23 = .ok (.getfield 235, 3) := by decide +kernel
theorem dX11_postfix_26 : decode cX11_postfix 26 = .ok (.ireturn, 1) := by decide +kernel
theorem dX11_out_0 : decode cX11_out 0 = .ok (.iload_n 1, 1) := by decide +kernel
theorem dX11_out_1 : decode cX11_out 1 = .ok (.ifCond .lt 14, 3) := by decide +kernel
theorem dX11_out_4 : decode cX11_out 4 = .ok (.iload_n 1, 1) := by decide +kernel
theorem dX11_out_5 : decode cX11_out 5 = .ok (.aload_n 0, 1) := by decide +kernel
theorem dX11_out_6 : decode cX11_out 6 = .ok (.getfield 37, 3) := by decide +kernel
theorem dX11_out_9 : decode cX11_out 9 = .ok (.getfield 235, 3) := by decide +kernel
theorem dX11_out_12 : decode cX11_out 12 = .ok (.if_icmp .lt 13, 3) := by decide +kernel
theorem dX11_out_15 : decode cX11_out 15 = .ok (.new 243, 3) := by decide +kernel
theorem dX11_out_18 : decode cX11_out 18 = .ok (.dup, 1) := by decide +kernel
theorem dX11_out_19 : decode cX11_out 19 = .ok (.ldc 245, 2) := by decide +kernel
theorem dX11_out_21 : decode cX11_out 21 = .ok (.invokespecial 247, 3) := by decide +kernel
theorem dX11_out_24 : decode cX11_out 24 = .ok (.athrow, 1) := by decide +kernel
theorem dX11_out_25 : decode cX11_out 25 = .ok (.aload_n 0, 1) := by decide +kernel
theorem dX11_out_26 : decode cX11_out 26 = .ok (.getfield 37, 3) := by decide +kernel
theorem dX11_out_29 : decode cX11_out 29 = .ok (.getfield 248, 3) := by decide +kernel
theorem dX11_out_32 : decode cX11_out 32 = .ok (.iload_n 1, 1) := by decide +kernel
theorem dX11_out_33 : decode cX11_out 33 = .ok (.caload, 1) := by decide +kernel
theorem dX11_out_34 : decode cX11_out 34 = .ok (.ireturn, 1) := by decide +kernel
theorem dX11_evaluate_0 : decode cX11_evaluate 0 = .ok (.aload_n 0, 1) := by decide +kernel
theorem dX11_evaluate_1 : decode cX11_evaluate 1 = .ok (.iload_n 1, 1) := by decide +kernel
theorem dX11_evaluate_2 : decode cX11_evaluate 2 = .ok (.invokevirtual 142, 3) := by decide +kernel
theorem dX11_evaluate_5 : decode cX11_evaluate 5 = .ok (.astore_n 2, 1) := by decide +kernel
theorem dX11_evaluate_6 : decode cX11_evaluate 6 = .ok (.aload_n 0, 1) := by decide +kernel
theorem dX11_evaluate_7 : decode cX11_evaluate 7 = .ok (.getfield 49, 3) := by decide +kernel
theorem dX11_evaluate_10 : decode cX11_evaluate 10 = .ok (.aload_n 2, 1) := by decide +kernel
theorem dX11_evaluate_11 : decode cX11_evaluate 11 = .ok (.invokevirtual 251, 3) := by decide +kernel
theorem dX11_evaluate_14 : decode cX11_evaluate 14 = .ok (.aload_n 0, 1) := by decide +kernel
theorem dX11_evaluate_15 : decode cX11_evaluate 15 = .ok (.aload_n 0, 1) := by decide +kernel
theorem dX11_evaluate_16 : decode cX11_evaluate 16 = .ok (.getfield 49, 3) := by decide +kernel
theorem dX11_evaluate_19 : decode cX11_evaluate 19 = .ok (.invokevirtual 254, 3) := by decide +kernel
theorem dX11_evaluate_22 : decode cX11_evaluate 22 = .ok (.invokevirtual 256, 3) := by decide +kernel
theorem dX11_evaluate_25 : decode cX11_evaluate 25 = .ok (.ireturn, 1) := by decide +kernel
theorem dX11_reckon_0 : decode cX11_reckon 0 = .ok (.aload_n 0, 1) := by decide +kernel
theorem dX11_reckon_1 : decode cX11_reckon 1 = .ok (.iload_n 1, 1) := by decide +kernel
theorem dX11_reckon_2 : decode cX11_reckon 2 = .ok (.invokevirtual 142, 3) := by decide +kernel
theorem dX11_reckon_5 : decode cX11_reckon 5 = .ok (.astore_n 2, 1) := by decide +kernel
theorem dX11_reckon_6 : decode cX11_reckon 6 = .ok (.aload_n 0, 1) := by decide +kernel
theorem dX11_reckon_7 : decode cX11_reckon 7 = .ok (.aload_n 2, 1) := by decide +kernel
theorem dX11_reckon_8 : decode cX11_reckon 8 = .ok (.invokevirtual 238, 3) := by decide +kernel
theorem dX11_reckon_11 : decode cX11_reckon 11 = .ok (.aload_n 0, 1) := by decide +kernel
theorem dX11_reckon_12 : decode cX11_reckon 12 = .ok (.getfield 49, 3) := by decide +kernel
theorem dX11_reckon_15 : decode cX11_reckon 15 = .ok (.aload_n 2, 1) := by decide +kernel
theorem dX11_reckon_16 : decode cX11_reckon 16 = .ok (.invokevirtual 259, 3) := by decide +kernel
theorem dX11_reckon_19 : decode cX11_reckon 19 = .ok (.aload_n 0, 1) := by decide +kernel
theorem dX11_reckon_20 : decode cX11_reckon 20 = .ok (.aload_n 0, 1) := by decide +kernel
theorem dX11_reckon_21 : decode cX11_reckon 21 = .ok (.getfield 49, 3) := by decide +kernel
theorem dX11_reckon_24 : decode cX11_reckon 24 = .ok (.invokevirtual 254, 3) := by decide +kernel
theorem dX11_reckon_27 : decode cX11_reckon 27 = .ok (.invokevirtual 256, 3) := by decide +kernel
theorem dX11_reckon_30 : decode cX11_reckon 30 = .ok (.ireturn, 1) := by decide +kernel
theorem dX11_answer_0 : decode cX11_answer 0 = .ok (.iload_n 1, 1) := by decide +kernel
theorem dX11_answer_1 : decode cX11_answer 1 = .ok (.ifCond .lt 19, 3) := by decide +kernel
theorem dX11_answer_4 : decode cX11_answer 4 = .ok (.iload_n 1, 1) := by decide +kernel
theorem dX11_answer_5 : decode cX11_answer 5 = .ok (.iconst 1, 1) := by decide +kernel
theorem dX11_answer_6 : decode cX11_answer 6 = .ok (.if_icmp .gt 14, 3) := by decide +kernel
theorem dX11_answer_9 : decode cX11_answer 9 = .ok (.iload_n 2, 1) := by decide +kernel
theorem dX11_answer_10 : decode cX11_answer 10 = .ok (.iconst 2, 1) := by decide +kernel
theorem dX11_answer_11 : decode cX11_answer 11 = .ok (.if_icmp .lt 9, 3) := by decide +kernel
theorem dX11_answer_14 : decode cX11_answer 14 = .ok (.iload_n 2, 1) := by decide +kernel
theorem dX11_answer_15 : decode cX11_answer 15 = .ok (.bipush 36, 2) := by decide +kernel
theorem dX11_answer_17 : decode cX11_answer 17 = .ok (.if_icmp .le 14, 3) := by decide +kernel
theorem dX11_answer_20 : decode cX11_answer 20 = .ok (.new 169, 3) := by decide +kernel
theorem dX11_answer_23 : decode cX11_answer 23 = .ok (.dup, 1) := by decide +kernel
theorem dX11_answer_24 : decode cX11_answer 24 = .ok (.ldc_w 262, 3) := by decide +kernel
theorem dX11_answer_27 : decode cX11_answer 27 = .ok (.invokespecial 173, 3) := by decide +kernel
theorem dX11_answer_30 : decode cX11_answer 30 = .ok (.athrow, 1) := by decide +kernel
theorem dX11_answer_31 : decode cX11_answer 31 = .ok (.aload_n 0, 1) := by decide +kernel
theorem dX11_answer_32 : decode cX11_answer 32 = .ok (.getfield 37, 3) := by decide +kernel
theorem dX11_answer_35 : decode cX11_answer 35 = .ok (.iload_n 1, 1) := by decide +kernel
theorem dX11_answer_36 : decode cX11_answer 36 = .ok (.ifCond .ne 13, 3) := by decide +kernel
theorem dX11_answer_39 : decode cX11_answer 39 = .ok (.aload_n 0, 1) := by decide +kernel
theorem dX11_answer_40 : decode cX11_answer 40 = .ok (.getfield 83, 3) := by decide +kernel
theorem dX11_answer_43 : decode cX11_answer 43 = .ok (.getfield 264, 3) := by decide +kernel
theorem dX11_answer_46 : decode cX11_answer 46 = .ok (.goto 10, 3) := by decide +kernel
theorem dX11_answer_49 : decode cX11_answer 49 = .ok (.aload_n 0, 1) := by decide +kernel
theorem dX11_answer_50 : decode cX11_answer 50 = .ok (.getfield 83, 3) := by decide +kernel
theorem dX11_answer_53 : decode cX11_answer 53 = .ok (.getfield 268, 3) := by decide +kernel
theorem dX11_answer_56 : decode cX11_answer 56 = .ok (.iload_n 2, 1) := by decide +kernel
theorem dX11_answer_57 : decode cX11_answer 57 = .ok (.invokevirtual 271, 3) := by decide +kernel
theorem dX11_answer_60 : decode cX11_answer 60 = .ok (.aload_n 0, 1) := by decide +kernel
theorem dX11_answer_61 : decode cX11_answer 61 = .ok (.getfield 37, 3) := by decide +kernel
theorem dX11_answer_64 : decode cX11_answer 64 = .ok (.getfield 235, 3) := by decide +kernel
theorem dX11_answer_67 : decode cX11_answer 67 = .ok (.ireturn, 1) := by decide +kernel
theorem dX11_let_0 : decode cX11_let 0 = .ok (.aload_n 0, 1) := by decide +kernel
theorem dX11_let_1 : decode cX11_let 1 = .ok (.iload_n 1, 1) := by decide +kernel
theorem dX11_let_2 : decode cX11_let 2 = .ok (.invokevirtual 275, 3) := by decide +kernel
theorem dX11_let_5 : decode cX11_let 5 = .ok (.istore_n 3, 1) := by decide +kernel
theorem dX11_let_6 : decode cX11_let 6 = .ok (.aload_n 0, 1) := by decide +kernel
theorem dX11_let_7 : decode cX11_let 7 = .ok (.iload_n 2, 1) := by decide +kernel
theorem dX11_let_8 : decode cX11_let 8 = .ok (.invokevirtual 142, 3) := by decide +kernel
theorem dX11_let_11 : decode cX11_let 11 = .ok (.astore 4, 2) := by decide +kernel
theorem dX11_let_13 : decode cX11_let 13 = .ok (.aload_n 0, 1) := by decide +kernel
theorem dX11_let_14 : decode cX11_let 14 = .ok (.getfield 49, 3) := by decide +kernel
theorem dX11_let_17 : decode cX11_let 17 = .ok (.aload 4, 2) := by decide +kernel
theorem dX11_let_19 : decode cX11_let 19 = .ok (.invokevirtual 251, 3) := by decide +kernel
theorem dX11_let_22 : decode cX11_let 22 = .ok (.aload_n 0, 1) := by decide +kernel
theorem dX11_let_23 : decode cX11_let 23 = .ok (.getfield 49, 3) := by decide +kernel
theorem dX11_let_26 : decode cX11_let 26 = .ok (.invokevirtual 254, 3) := by decide +kernel
theorem dX11_let_29 : decode cX11_let 29 = .ok (.istore 5, 2) := by decide +kernel
theorem dX11_let_31 : decode cX11_let 31 = .ok (.iload 5, 2) := by decide +kernel
theorem dX11_let_33 : decode cX11_let 33 = .ok (.ifCond .ne 18, 3) := by decide +kernel
theorem dX11_let_36 : decode cX11_let 36 = .ok (.aload_n 0, 1) := by decide +kernel
theorem dX11_let_37 : decode cX11_let 37 = .ok (.getfield 19, 3) := by decide +kernel
theorem dX11_let_40 : decode cX11_let 40 = .ok (.iload_n 3, 1) := by decide +kernel
theorem dX11_let_41 : decode cX11_let 41 = .ok (.aload_n 0, 1) := by decide +kernel
theorem dX11_let_42 : decode cX11_let 42 = .ok (.getfield 49, 3) := by decide +kernel
theorem dX11_let_45 : decode cX11_let 45 = .ok (.invokevirtual 279, 3) := by decide +kernel
theorem dX11_let_48 : decode cX11_let 48 = .ok (.invokevirtual 283, 3) := by decide +kernel
theorem dX11_let_51 : decode cX11_let 51 = .ok (.iload 5, 2) := by decide +kernel
theorem dX11_let_53 : decode cX11_let 53 = .ok (.ireturn, 1) := by decide +kernel
theorem dX11_unlet_0 : decode cX11_unlet 0 = .ok (.aload_n 0, 1) := by decide +kernel
theorem dX11_unlet_1 : decode cX11_unlet 1 = .ok (.getfield 19, 3) := by decide +kernel
theorem dX11_unlet_4 : decode cX11_unlet 4 = .ok (.aload_n 0, 1) := by decide +kernel
theorem dX11_unlet_5 : decode cX11_unlet 5 = .ok (.iload_n 1, 1) := by decide +kernel
theorem dX11_unlet_6 : decode cX11_unlet 6 = .ok (.invokevirtual 275, 3) := by decide +kernel
theorem dX11_unlet_9 : decode cX11_unlet 9 = .ok (.invokevirtual 287, 3) := by decide +kernel
theorem dX11_unlet_12 : decode cX11_unlet 12 = .ok (.ireturn, 1) := by decide +kernel
theorem dX11_recall_0 : decode cX11_recall 0 = .ok (.aload_n 0, 1) := by decide +kernel
theorem dX11_recall_1 : decode cX11_recall 1 = .ok (.iload_n 1, 1) := by decide +kernel
theorem dX11_recall_2 : decode cX11_recall 2 = .ok (.invokevirtual 275, 3) := by decide +kernel
theorem dX11_recall_5 : decode cX11_recall 5 = .ok (.istore_n 2, 1) := by decide +kernel
theorem dX11_recall_6 : decode cX11_recall 6 = .ok (.aload_n 0, 1) := by decide +kernel
theorem dX11_recall_7 : decode cX11_recall 7 = .ok (.getfield 19, 3) := by decide +kernel
theorem dX11_recall_10 : decode cX11_recall 10 = .ok (.getfield 290, 3) := by decide +kernel
theorem dX11_recall_13 : decode cX11_recall 13 = .ok (.iload_n 2, 1) := by decide +kernel
theorem dX11_recall_14 : decode cX11_recall 14 = .ok (.baload, 1) := by decide +kernel
theorem dX11_recall_15 : decode cX11_recall 15 = .ok (.ifCond .ne 5, 3) := by decide +kernel
theorem dX11_recall_18 : decode cX11_recall 18 = .ok (.iconst 0, 1) := by decide +kernel
theorem dX11_recall_19 : decode cX11_recall 19 = .ok (.ireturn, 1) := by decide +kernel
theorem dX11_recall_20 : decode cX11_recall 20 = .ok (.aload_n 0, 1) := by decide +kernel
theorem dX11_recall_21 : decode cX11_recall 21 = .ok (.getfield 83, 3) := by decide +kernel
theorem dX11_recall_24 : decode cX11_recall 24 = .ok (.aload_n 0, 1) := by decide +kernel
theorem dX11_recall_25 : decode cX11_recall 25 = .ok (.getfield 19, 3) := by decide +kernel
theorem dX11_recall_28 : decode cX11_recall 28 = .ok (.getfield 294, 3) := by decide +kernel
theorem dX11_recall_31 : decode cX11_recall 31 = .ok (.iload_n 2, 1) := by decide +kernel
theorem dX11_recall_32 : decode cX11_recall 32 = .ok (.aaload, 1) := by decide +kernel
theorem dX11_recall_33 : decode cX11_recall 33 = .ok (.invokevirtual 298, 3) := by decide +kernel
theorem dX11_recall_36 : decode cX11_recall 36 = .ok (.iconst 1, 1) := by decide +kernel
theorem dX11_recall_37 : decode cX11_recall 37 = .ok (.ireturn, 1) := by decide +kernel
theorem dX11_define_0 : decode cX11_define 0 = .ok (.aload_n 0, 1) := by decide +kernel
theorem dX11_define_1 : decode cX11_define 1 = .ok (.iload_n 1, 1) := by decide +kernel
theorem dX11_define_2 : decode cX11_define 2 = .ok (.invokevirtual 275, 3) := by decide +kernel
theorem dX11_define_5 : decode cX11_define 5 = .ok (.istore_n 3, 1) := by decide +kernel
theorem dX11_define_6 : decode cX11_define 6 = .ok (.iload_n 1, 1) := by decide +kernel
theorem dX11_define_7 : decode cX11_define 7 = .ok (.bipush 105, 2) := by decide +kernel
theorem dX11_define_9 : decode cX11_define 9 = .ok (.if_icmp .eq 19, 3) := by decide +kernel
theorem dX11_define_12 : decode cX11_define 12 = .ok (.iload_n 1, 1) := by decide +kernel
theorem dX11_define_13 : decode cX11_define 13 = .ok (.bipush 115, 2) := by decide +kernel
theorem dX11_define_15 : decode cX11_define 15 = .ok (.if_icmp .eq 13, 3) := by decide +kernel
theorem dX11_define_18 : decode cX11_define 18 = .ok (.iload_n 2, 1) := by decide +kernel
theorem dX11_define_19 : decode cX11_define 19 = .ok (.iconst 1, 1) := by decide +kernel
theorem dX11_define_20 : decode cX11_define 20 = .ok (.if_icmp .lt 8, 3) := by decide +kernel
theorem dX11_define_23 : decode cX11_define 23 = .ok (.iload_n 2, 1) := by decide +kernel
theorem dX11_define_24 : decode cX11_define 24 = .ok (.iconst 3, 1) := by decide +kernel
theorem dX11_define_25 : decode cX11_define 25 = .ok (.if_icmp .le 14, 3) := by decide +kernel
theorem dX11_define_28 : decode cX11_define 28 = .ok (.new 169, 3) := by decide +kernel
theorem dX11_define_31 : decode cX11_define 31 = .ok (.dup, 1) := by decide +kernel
theorem dX11_define_32 : decode cX11_define 32 = .ok (.ldc_w 302, 3) := by decide +kernel
theorem dX11_define_35 : decode cX11_define 35 = .ok (.invokespecial 173, 3) := by decide +kernel
theorem dX11_define_38 : decode cX11_define 38 = .ok (.athrow, 1) := by decide +kernel
theorem dX11_define_39 : decode cX11_define 39 = .ok (.aload_n 0, 1) := by decide +kernel
theorem dX11_define_40 : decode cX11_define 40 = .ok (.getfield 19, 3) := by decide +kernel
theorem dX11_define_43 : decode cX11_define 43 = .ok (.iload_n 3, 1) := by decide +kernel
theorem dX11_define_44 : decode cX11_define 44 = .ok (.invokevirtual 304, 3) := by decide +kernel
theorem dX11_define_47 : decode cX11_define 47 = .ok (.ifCond .ne 7, 3) := by decide +kernel
theorem dX11_define_50 : decode cX11_define 50 = .ok (.iconst (-1), 1) := by decide +kernel
theorem dX11_define_51 : decode cX11_define 51 = .ok (.goto 11, 3) := by decide +kernel
theorem dX11_define_54 : decode cX11_define 54 = .ok (.aload_n 0, 1) := by decide +kernel
theorem dX11_define_55 : decode cX11_define 55 = .ok (.getfield 19, 3) := by decide +kernel
theorem dX11_define_58 : decode cX11_define 58 = .ok (.iload_n 3, 1) := by decide +kernel
theorem dX11_define_59 : decode cX11_define 59 = .ok (.invokevirtual 307, 3) := by decide +kernel
theorem dX11_define_62 : decode cX11_define 62 = .ok (.istore 4, 2) := by decide +kernel
theorem dX11_define_64 : decode cX11_define 64 = .ok (.aload_n 0, 1) := by decide +kernel
theorem dX11_define_65 : decode cX11_define 65 = .ok (.getfield 19, 3) := by decide +kernel
theorem dX11_define_68 : decode cX11_define 68 = .ok (.iload_n 3, 1) := by decide +kernel
theorem dX11_define_69 : decode cX11_define 69 = .ok (.iload_n 2, 1) := by decide +kernel
theorem dX11_define_70 : decode cX11_define 70 = .ok (.invokevirtual 310, 3) := by decide +kernel
theorem dX11_define_73 : decode cX11_define 73 = .ok (.iload 4, 2) := by decide +kernel
theorem dX11_define_75 : decode cX11_define 75 = .ok (.ireturn, 1) := by decide +kernel
theorem dX11_addCase_0 : decode cX11_addCase 0 = .ok (.aload_n 0, 1) := by decide +kernel
theorem dX11_addCase_1 : decode cX11_addCase 1 = .ok (.iload_n 1, 1) := by decide +kernel
theorem dX11_addCase_2 : decode cX11_addCase 2 = .ok (.invokevirtual 275, 3) := by decide +kernel
theorem dX11_addCase_5 : decode cX11_addCase 5 = .ok (.istore 4, 2) := by decide +kernel
theorem dX11_addCase_7 : decode cX11_addCase 7 = .ok (.aload_n 0, 1) := by decide +kernel
theorem dX11_addCase_8 : decode cX11_addCase 8 = .ok (.iload_n 3, 1) := by decide +kernel
theorem dX11_addCase_9 : decode cX11_addCase 9 = .ok (.invokevirtual 142, 3) := by decide +kernel
theorem dX11_addCase_12 : decode cX11_addCase 12 = .ok (.getfield 314, 3) := by decide +kernel
theorem dX11_addCase_15 : decode cX11_addCase 15 = .ok (.istore 5, 2) := by decide +kernel
theorem dX11_addCase_17 : decode cX11_addCase 17 = .ok (.iload_n 2, 1) := by decide +kernel
theorem dX11_addCase_18 : decode cX11_addCase 18 = .ok (.iconst (-1), 1) := by decide +kernel
theorem dX11_addCase_19 : decode cX11_addCase 19 = .ok (.if_icmp .eq 18, 3) := by decide +kernel
theorem dX11_addCase_22 : decode cX11_addCase 22 = .ok (.iload 5, 2) := by decide +kernel
theorem dX11_addCase_24 : decode cX11_addCase 24 = .ok (.aload_n 0, 1) := by decide +kernel
theorem dX11_addCase_25 : decode cX11_addCase 25 = .ok (.iload_n 2, 1) := by decide +kernel
theorem dX11_addCase_26 : decode cX11_addCase 26 = .ok (.invokevirtual 142, 3) := by decide +kernel
theorem dX11_addCase_29 : decode cX11_addCase 29 = .ok (.getfield 314, 3) := by decide +kernel
theorem dX11_addCase_32 : decode cX11_addCase 32 = .ok (.invokestatic 315, 3) := by decide +kernel
theorem dX11_addCase_35 : decode cX11_addCase 35 = .ok (.istore 5, 2) := by decide +kernel
theorem dX11_addCase_37 : decode cX11_addCase 37 = .ok (.aload_n 0, 1) := by decide +kernel
theorem dX11_addCase_38 : decode cX11_addCase 38 = .ok (.getfield 19, 3) := by decide +kernel
theorem dX11_addCase_41 : decode cX11_addCase 41 = .ok (.iload 4, 2) := by decide +kernel
theorem dX11_addCase_43 : decode cX11_addCase 43 = .ok (.invokevirtual 304, 3) := by decide +kernel
theorem dX11_addCase_46 : decode cX11_addCase 46 = .ok (.ifCond .eq 23, 3) := by decide +kernel
theorem dX11_addCase_49 : decode cX11_addCase 49 = .ok (.aload_n 0, 1) := by decide +kernel
theorem dX11_addCase_50 : decode cX11_addCase 50 = .ok (.getfield 19, 3) := by decide +kernel
theorem dX11_addCase_53 : decode cX11_addCase 53 = .ok (.iload 4, 2) := by decide +kernel
theorem dX11_addCase_55 : decode cX11_addCase 55 = .ok (.invokevirtual 307, 3) := by decide +kernel
theorem dX11_addCase_58 : decode cX11_addCase 58 = .ok (.iconst 4, 1) := by decide +kernel
theorem dX11_addCase_59 : decode cX11_addCase 59 = .ok (.if_icmp .ge 10, 3) := by decide +kernel
theorem dX11_addCase_62 : decode cX11_addCase 62 = .ok (.iload 5, 2) := by decide +kernel
theorem dX11_addCase_64 : decode cX11_addCase 64 = .ok (.bipush 30, 2) := by decide +kernel
theorem dX11_addCase_66 : decode cX11_addCase 66 = .ok (.if_icmp .le 14, 3) := by decide +kernel
theorem dX11_addCase_69 : decode cX11_addCase 69 = .ok (.new 108, 3) := by decide +kernel
theorem dX11_addCase_72 : decode cX11_addCase 72 = .ok (.dup, 1) := by decide +kernel
theorem dX11_addCase_73 : decode cX11_addCase 73 = .ok (.ldc_w 320, 3) := by decide +kernel
theorem dX11_addCase_76 : decode cX11_addCase 76 = .ok (.invokespecial 112, 3) := by decide +kernel
theorem dX11_addCase_79 : decode cX11_addCase 79 = .ok (.athrow, 1) := by decide +kernel
theorem dX11_addCase_80 : decode cX11_addCase 80 = .ok (.aload_n 0, 1) := by decide +kernel
theorem dX11_addCase_81 : decode cX11_addCase 81 = .ok (.getfield 19, 3) := by decide +kernel
theorem dX11_addCase_84 : decode cX11_addCase 84 = .ok (.iload 4, 2) := by decide +kernel
theorem dX11_addCase_86 : decode cX11_addCase 86 = .ok (.iload_n 2, 1) := by decide +kernel
theorem dX11_addCase_87 : decode cX11_addCase 87 = .ok (.iload_n 3, 1) := by decide +kernel
theorem dX11_addCase_88 : decode cX11_addCase 88 = .ok (.invokevirtual 322, 3) := by decide +kernel
theorem dX11_addCase_91 : decode cX11_addCase 91 = .ok (.aload_n 0, 1) := by decide +kernel
theorem dX11_addCase_92 : decode cX11_addCase 92 = .ok (.getfield 19, 3) := by decide +kernel
theorem dX11_addCase_95 : decode cX11_addCase 95 = .ok (.iload 4, 2) := by decide +kernel
theorem dX11_addCase_97 : decode cX11_addCase 97 = .ok (.invokevirtual 307, 3) := by decide +kernel
theorem dX11_addCase_100 : decode cX11_addCase 100 = .ok (.ireturn, 1) := by decide +kernel
theorem dX11_step_0 : decode cX11_step 0 = .ok (.aload_n 0, 1) := by decide +kernel
theorem dX11_step_1 : decode cX11_step 1 = .ok (.iload_n 1, 1) := by decide +kernel
theorem dX11_step_2 : decode cX11_step 2 = .ok (.invokevirtual 142, 3) := by decide +kernel
theorem dX11_step_5 : decode cX11_step 5 = .ok (.astore_n 2, 1) := by decide +kernel
theorem dX11_step_6 : decode cX11_step 6 = .ok (.aload_n 0, 1) := by decide +kernel
theorem dX11_step_7 : decode cX11_step 7 = .ok (.invokevirtual 125, 3) := by decide +kernel
theorem dX11_step_10 : decode cX11_step 10 = .ok (.aload_n 0, 1) := by decide +kernel
theorem dX11_step_11 : decode cX11_step 11 = .ok (.aload_n 2, 1) := by decide +kernel
theorem dX11_step_12 : decode cX11_step 12 = .ok (.iconst 1, 1) := by decide +kernel
theorem dX11_step_13 : decode cX11_step 13 = .ok (.invokevirtual 326, 3) := by decide +kernel
theorem dX11_step_16 : decode cX11_step 16 = .ok (.ifCond .ne 7, 3) := by decide +kernel
theorem dX11_step_19 : decode cX11_step 19 = .ok (.iconst (-1), 1) := by decide +kernel
theorem dX11_step_20 : decode cX11_step 20 = .ok (.goto 14, 3) := by decide +kernel
theorem dX11_step_23 : decode cX11_step 23 = .ok (.aload_n 0, 1) := by decide +kernel
theorem dX11_step_24 : decode cX11_step 24 = .ok (.getfield 19, 3) := by decide +kernel
theorem dX11_step_27 : decode cX11_step 27 = .ok (.aload_n 0, 1) := by decide +kernel
theorem dX11_step_28 : decode cX11_step 28 = .ok (.getfield 93, 3) := by decide +kernel
theorem dX11_step_31 : decode cX11_step 31 = .ok (.invokevirtual 135, 3) := by decide +kernel
theorem dX11_step_34 : decode cX11_step 34 = .ok (.ireturn, 1) := by decide +kernel
theorem dX11_simplify_0 : decode cX11_simplify 0 = .ok (.aload_n 0, 1) := by decide +kernel
theorem dX11_simplify_1 : decode cX11_simplify 1 = .ok (.iload_n 1, 1) := by decide +kernel
theorem dX11_simplify_2 : decode cX11_simplify 2 = .ok (.invokevirtual 142, 3) := by decide +kernel
theorem dX11_simplify_5 : decode cX11_simplify 5 = .ok (.astore_n 2, 1) := by decide +kernel
theorem dX11_simplify_6 : decode cX11_simplify 6 = .ok (.aload_n 0, 1) := by decide +kernel
theorem dX11_simplify_7 : decode cX11_simplify 7 = .ok (.invokevirtual 125, 3) := by decide +kernel
theorem dX11_simplify_10 : decode cX11_simplify 10 = .ok (.aload_n 0, 1) := by decide +kernel
theorem dX11_simplify_11 : decode cX11_simplify 11 = .ok (.aload_n 2, 1) := by decide +kernel
theorem dX11_simplify_12 : decode cX11_simplify 12 = .ok (.bipush 80, 2) := by decide +kernel
theorem dX11_simplify_14 : decode cX11_simplify 14 = .ok (.invokevirtual 326, 3) := by decide +kernel
theorem dX11_simplify_17 : decode cX11_simplify 17 = .ok (.ifCond .ne 7, 3) := by decide +kernel
theorem dX11_simplify_20 : decode cX11_simplify 20 = .ok (.iload_n 1, 1) := by decide +kernel
theorem dX11_simplify_21 : decode cX11_simplify 21 = .ok (.goto 14, 3) := by decide +kernel
theorem dX11_simplify_24 : decode cX11_simplify 24 = .ok (.aload_n 0, 1) := by decide +kernel
theorem dX11_simplify_25 : decode cX11_simplify 25 = .ok (.getfield 19, 3) := by decide +kernel
theorem dX11_simplify_28 : decode cX11_simplify 28 = .ok (.aload_n 0, 1) := by decide +kernel
theorem dX11_simplify_29 : decode cX11_simplify 29 = .ok (.getfield 93, 3) := by decide +kernel
theorem dX11_simplify_32 : decode cX11_simplify 32 = .ok (.invokevirtual 135, 3) := by decide +kernel
theorem dX11_simplify_35 : decode cX11_simplify 35 = .ok (.ireturn, 1) := by decide +kernel
theorem dX11_trace_0 : decode cX11_trace 0 = .ok (.iload_n 2, 1) := by decide +kernel
theorem dX11_trace_1 : decode cX11_trace 1 = .ok (.ifCond .lt 8, 3) := by decide +kernel
theorem dX11_trace_4 : decode cX11_trace 4 = .ok (.iload_n 2, 1) := by decide +kernel
theorem dX11_trace_5 : decode cX11_trace 5 = .ok (.iconst 1, 1) := by decide +kernel
theorem dX11_trace_6 : decode cX11_trace 6 = .ok (.if_icmp .le 14, 3) := by decide +kernel
theorem dX11_trace_9 : decode cX11_trace 9 = .ok (.new 169, 3) := by decide +kernel
theorem dX11_trace_12 : decode cX11_trace 12 = .ok (.dup, 1) := by decide +kernel
theorem dX11_trace_13 : decode cX11_trace 13 = .ok (.ldc_w 330, 3) := by decide +kernel
theorem dX11_trace_16 : decode cX11_trace 16 = .ok (.invokespecial 173, 3) := by decide +kernel
theorem dX11_trace_19 : decode cX11_trace 19 = .ok (.athrow, 1) := by decide +kernel
theorem dX11_trace_20 : decode cX11_trace 20 = .ok (.iload_n 1, 1) := by decide +kernel
theorem dX11_trace_21 : decode cX11_trace 21 = .ok (.ifCond .lt 11, 3) := by decide +kernel
theorem dX11_trace_24 : decode cX11_trace 24 = .ok (.iload_n 1, 1) := by decide +kernel
theorem dX11_trace_25 : decode cX11_trace 25 = .ok (.aload_n 0, 1) := by decide +kernel
theorem dX11_trace_26 : decode cX11_trace 26 = .ok (.getfield 332, 3) := by decide +kernel
theorem dX11_trace_29 : decode cX11_trace 29 = .ok (.if_icmp .lt 5, 3) := by decide +kernel
theorem dX11_trace_32 : decode cX11_trace 32 = .ok (.iconst (-1), 1) := by decide +kernel
theorem dX11_trace_33 : decode cX11_trace 33 = .ok (.ireturn, 1) := by decide +kernel
theorem dX11_trace_34 : decode cX11_trace 34 = .ok (.iload_n 2, 1) := by decide +kernel
theorem dX11_trace_35 : decode cX11_trace 35 = .ok (.ifCond .ne 12, 3) := by decide +kernel
theorem dX11_trace_38 : decode cX11_trace 38 = .ok (.aload_n 0, 1) := by decide +kernel
theorem dX11_trace_39 : decode cX11_trace 39 = .ok (.getfield 97, 3) := by decide +kernel
theorem dX11_trace_42 : decode cX11_trace 42 = .ok (.iload_n 1, 1) := by decide +kernel
theorem dX11_trace_43 : decode cX11_trace 43 = .ok (.iaload, 1) := by decide +kernel
theorem dX11_trace_44 : decode cX11_trace 44 = .ok (.goto 9, 3) := by decide +kernel
theorem dX11_trace_47 : decode cX11_trace 47 = .ok (.aload_n 0, 1) := by decide +kernel
theorem dX11_trace_48 : decode cX11_trace 48 = .ok (.getfield 101, 3) := by decide +kernel
theorem dX11_trace_51 : decode cX11_trace 51 = .ok (.iload_n 1, 1) := by decide +kernel
theorem dX11_trace_52 : decode cX11_trace 52 = .ok (.iaload, 1) := by decide +kernel
theorem dX11_trace_53 : decode cX11_trace 53 = .ok (.ireturn, 1) := by decide +kernel
theorem dX11_gather_0 : decode cX11_gather 0 = .ok (.aload_n 0, 1) := by decide +kernel
theorem dX11_gather_1 : decode cX11_gather 1 = .ok (.iload_n 1, 1) := by decide +kernel
theorem dX11_gather_2 : decode cX11_gather 2 = .ok (.invokevirtual 142, 3) := by decide +kernel
theorem dX11_gather_5 : decode cX11_gather 5 = .ok (.astore_n 3, 1) := by decide +kernel
theorem dX11_gather_6 : decode cX11_gather 6 = .ok (.aload_n 0, 1) := by decide +kernel
theorem dX11_gather_7 : decode cX11_gather 7 = .ok (.iload_n 2, 1) := by decide +kernel
theorem dX11_gather_8 : decode cX11_gather 8 = .ok (.invokevirtual 188, 3) := by decide +kernel
theorem dX11_gather_11 : decode cX11_gather 11 = .ok (.aload_n 0, 1) := by decide +kernel
theorem dX11_gather_12 : decode cX11_gather 12 = .ok (.getfield 72, 3) := by decide +kernel
theorem dX11_gather_15 : decode cX11_gather 15 = .ok (.aload_n 3, 1) := by decide +kernel
theorem dX11_gather_16 : decode cX11_gather 16 = .ok (.iconst 0, 1) := by decide +kernel
theorem dX11_gather_17 : decode cX11_gather 17 = .ok (.iload_n 2, 1) := by decide +kernel
theorem dX11_gather_18 : decode cX11_gather 18 = .ok (.invokevirtual 335, 3) := by decide +kernel
theorem dX11_gather_21 : decode cX11_gather 21 = .ok (.istore 4, 2) := by decide +kernel
theorem dX11_gather_23 : decode cX11_gather 23 = .ok (.iload 4, 2) := by decide +kernel
theorem dX11_gather_25 : decode cX11_gather 25 = .ok (.iconst (-1), 1) := by decide +kernel
theorem dX11_gather_26 : decode cX11_gather 26 = .ok (.if_icmp .eq 10, 3) := by decide +kernel
theorem dX11_gather_29 : decode cX11_gather 29 = .ok (.aload_n 0, 1) := by decide +kernel
theorem dX11_gather_30 : decode cX11_gather 30 = .ok (.getfield 72, 3) := by decide +kernel
theorem dX11_gather_33 : decode cX11_gather 33 = .ok (.invokevirtual 339, 3) := by decide +kernel
theorem dX11_gather_36 : decode cX11_gather 36 = .ok (.iload 4, 2) := by decide +kernel
theorem dX11_gather_38 : decode cX11_gather 38 = .ok (.ireturn, 1) := by decide +kernel
theorem dX11_coefficient_0 : decode cX11_coefficient 0 = .ok (.iload_n 1, 1) := by decide +kernel
theorem dX11_coefficient_1 : decode cX11_coefficient 1 = .ok (.ifCond .lt 9, 3) := by decide +kernel
theorem dX11_coefficient_4 : decode cX11_coefficient 4 = .ok (.iload_n 1, 1) := by decide +kernel
theorem dX11_coefficient_5 : decode cX11_coefficient 5 = .ok (.bipush 8, 2) := by decide +kernel
theorem dX11_coefficient_7 : decode cX11_coefficient 7 = .ok (.if_icmp .le 14, 3) := by decide +kernel
theorem dX11_coefficient_10 : decode cX11_coefficient 10 = .ok (.new 169, 3) := by decide +kernel
theorem dX11_coefficient_13 : decode cX11_coefficient 13 = .ok (.dup, 1) := by decide +kernel
theorem dX11_coefficient_14 : decode cX11_coefficient 14 = .ok (.ldc_w 342, 3) := by decide +kernel
theorem dX11_coefficient_17 : decode cX11_coefficient 17 = .ok (.invokespecial 173, 3) := by decide +kernel
theorem dX11_coefficient_20 : decode cX11_coefficient 20 = .ok (.athrow, 1) := by decide +kernel
theorem dX11_coefficient_21 : decode cX11_coefficient 21 = .ok (.aload_n 0, 1) := by decide +kernel
theorem dX11_coefficient_22 : decode cX11_coefficient 22 = .ok (.getfield 83, 3) := by decide +kernel
theorem dX11_coefficient_25 : decode cX11_coefficient 25 = .ok (.aload_n 0, 1) := by decide +kernel
theorem dX11_coefficient_26 : decode cX11_coefficient 26 = .ok (.getfield 72, 3) := by decide +kernel
theorem dX11_coefficient_29 : decode cX11_coefficient 29 = .ok (.getfield 344, 3) := by decide +kernel
theorem dX11_coefficient_32 : decode cX11_coefficient 32 = .ok (.iload_n 1, 1) := by decide +kernel
theorem dX11_coefficient_33 : decode cX11_coefficient 33 = .ok (.aaload, 1) := by decide +kernel
theorem dX11_coefficient_34 : decode cX11_coefficient 34 = .ok (.invokevirtual 298, 3) := by decide +kernel
theorem dX11_coefficient_37 : decode cX11_coefficient 37 = .ok (.aload_n 0, 1) := by decide +kernel
theorem dX11_coefficient_38 : decode cX11_coefficient 38 = .ok (.getfield 83, 3) := by decide +kernel
theorem dX11_coefficient_41 : decode cX11_coefficient 41 = .ok (.invokevirtual 347, 3) := by decide +kernel
theorem dX11_coefficient_44 : decode cX11_coefficient 44 = .ok (.ifCond .ne 7, 3) := by decide +kernel
theorem dX11_coefficient_47 : decode cX11_coefficient 47 = .ok (.iconst 1, 1) := by decide +kernel
theorem dX11_coefficient_48 : decode cX11_coefficient 48 = .ok (.goto 4, 3) := by decide +kernel
theorem dX11_coefficient_51 : decode cX11_coefficient 51 = .ok (.iconst 0, 1) := by decide +kernel
theorem dX11_coefficient_52 : decode cX11_coefficient 52 = .ok (.ireturn, 1) := by decide +kernel
theorem dX11_derive_0 : decode cX11_derive 0 = .ok (.aload_n 0, 1) := by decide +kernel
theorem dX11_derive_1 : decode cX11_derive 1 = .ok (.iload_n 1, 1) := by decide +kernel
theorem dX11_derive_2 : decode cX11_derive 2 = .ok (.invokevirtual 142, 3) := by decide +kernel
theorem dX11_derive_5 : decode cX11_derive 5 = .ok (.astore_n 3, 1) := by decide +kernel
theorem dX11_derive_6 : decode cX11_derive 6 = .ok (.aload_n 0, 1) := by decide +kernel
theorem dX11_derive_7 : decode cX11_derive 7 = .ok (.iload_n 2, 1) := by decide +kernel
theorem dX11_derive_8 : decode cX11_derive 8 = .ok (.invokevirtual 188, 3) := by decide +kernel
theorem dX11_derive_11 : decode cX11_derive 11 = .ok (.aload_n 0, 1) := by decide +kernel
theorem dX11_derive_12 : decode cX11_derive 12 = .ok (.invokevirtual 125, 3) := by decide +kernel
theorem dX11_derive_15 : decode cX11_derive 15 = .ok (.aload_n 0, 1) := by decide +kernel
theorem dX11_derive_16 : decode cX11_derive 16 = .ok (.getfield 65, 3) := by decide +kernel
theorem dX11_derive_19 : decode cX11_derive 19 = .ok (.aload_n 3, 1) := by decide +kernel
theorem dX11_derive_20 : decode cX11_derive 20 = .ok (.iload_n 2, 1) := by decide +kernel
theorem dX11_derive_21 : decode cX11_derive 21 = .ok (.invokevirtual 351, 3) := by decide +kernel
theorem dX11_derive_24 : decode cX11_derive 24 = .ok (.ifCond .ne 14, 3) := by decide +kernel
theorem dX11_derive_27 : decode cX11_derive 27 = .ok (.new 108, 3) := by decide +kernel
theorem dX11_derive_30 : decode cX11_derive 30 = .ok (.dup, 1) := by decide +kernel
theorem dX11_derive_31 : decode cX11_derive 31 = .ok (.ldc_w 354, 3) := by decide +kernel
theorem dX11_derive_34 : decode cX11_derive 34 = .ok (.invokespecial 112, 3) := by decide +kernel
theorem dX11_derive_37 : decode cX11_derive 37 = .ok (.athrow, 1) := by decide +kernel
theorem dX11_derive_38 : decode cX11_derive 38 = .ok (.aload_n 0, 1) := by decide +kernel
theorem dX11_derive_39 : decode cX11_derive 39 = .ok (.getfield 19, 3) := by decide +kernel
theorem dX11_derive_42 : decode cX11_derive 42 = .ok (.aload_n 0, 1) := by decide +kernel
theorem dX11_derive_43 : decode cX11_derive 43 = .ok (.getfield 65, 3) := by decide +kernel
theorem dX11_derive_46 : decode cX11_derive 46 = .ok (.getfield 356, 3) := by decide +kernel
theorem dX11_derive_49 : decode cX11_derive 49 = .ok (.invokevirtual 135, 3) := by decide +kernel
theorem dX11_derive_52 : decode cX11_derive 52 = .ok (.ireturn, 1) := by decide +kernel
theorem dX11_slope_0 : decode cX11_slope 0 = .ok (.aload_n 0, 1) := by decide +kernel
theorem dX11_slope_1 : decode cX11_slope 1 = .ok (.iload_n 1, 1) := by decide +kernel
theorem dX11_slope_2 : decode cX11_slope 2 = .ok (.invokevirtual 142, 3) := by decide +kernel
theorem dX11_slope_5 : decode cX11_slope 5 = .ok (.astore_n 3, 1) := by decide +kernel
theorem dX11_slope_6 : decode cX11_slope 6 = .ok (.aload_n 0, 1) := by decide +kernel
theorem dX11_slope_7 : decode cX11_slope 7 = .ok (.iload_n 2, 1) := by decide +kernel
theorem dX11_slope_8 : decode cX11_slope 8 = .ok (.invokevirtual 188, 3) := by decide +kernel
theorem dX11_slope_11 : decode cX11_slope 11 = .ok (.aload_n 0, 1) := by decide +kernel
theorem dX11_slope_12 : decode cX11_slope 12 = .ok (.getfield 65, 3) := by decide +kernel
theorem dX11_slope_15 : decode cX11_slope 15 = .ok (.aload_n 3, 1) := by decide +kernel
theorem dX11_slope_16 : decode cX11_slope 16 = .ok (.invokevirtual 359, 3) := by decide +kernel
theorem dX11_slope_19 : decode cX11_slope 19 = .ok (.ifCond .ne 14, 3) := by decide +kernel
theorem dX11_slope_22 : decode cX11_slope 22 = .ok (.new 108, 3) := by decide +kernel
theorem dX11_slope_25 : decode cX11_slope 25 = .ok (.dup, 1) := by decide +kernel
theorem dX11_slope_26 : decode cX11_slope 26 = .ok (.ldc_w 362, 3) := by decide +kernel
theorem dX11_slope_29 : decode cX11_slope 29 = .ok (.invokespecial 112, 3) := by decide +kernel
theorem dX11_slope_32 : decode cX11_slope 32 = .ok (.athrow, 1) := by decide +kernel
theorem dX11_slope_33 : decode cX11_slope 33 = .ok (.aload_n 0, 1) := by decide +kernel
theorem dX11_slope_34 : decode cX11_slope 34 = .ok (.getfield 58, 3) := by decide +kernel
theorem dX11_slope_37 : decode cX11_slope 37 = .ok (.aload_n 3, 1) := by decide +kernel
theorem dX11_slope_38 : decode cX11_slope 38 = .ok (.iload_n 2, 1) := by decide +kernel
theorem dX11_slope_39 : decode cX11_slope 39 = .ok (.invokevirtual 364, 3) := by decide +kernel
theorem dX11_slope_42 : decode cX11_slope 42 = .ok (.istore 4, 2) := by decide +kernel
theorem dX11_slope_44 : decode cX11_slope 44 = .ok (.iload 4, 2) := by decide +kernel
theorem dX11_slope_46 : decode cX11_slope 46 = .ok (.ifCond .ne 17, 3) := by decide +kernel
theorem dX11_slope_49 : decode cX11_slope 49 = .ok (.aload_n 0, 1) := by decide +kernel
theorem dX11_slope_50 : decode cX11_slope 50 = .ok (.getfield 83, 3) := by decide +kernel
theorem dX11_slope_53 : decode cX11_slope 53 = .ok (.aload_n 0, 1) := by decide +kernel
theorem dX11_slope_54 : decode cX11_slope 54 = .ok (.getfield 58, 3) := by decide +kernel
theorem dX11_slope_57 : decode cX11_slope 57 = .ok (.invokevirtual 367, 3) := by decide +kernel
theorem dX11_slope_60 : decode cX11_slope 60 = .ok (.invokevirtual 298, 3) := by decide +kernel
theorem dX11_slope_63 : decode cX11_slope 63 = .ok (.iload 4, 2) := by decide +kernel
theorem dX11_slope_65 : decode cX11_slope 65 = .ok (.ireturn, 1) := by decide +kernel
theorem dX11_solve_0 : decode cX11_solve 0 = .ok (.aload_n 0, 1) := by decide +kernel
theorem dX11_solve_1 : decode cX11_solve 1 = .ok (.iload_n 1, 1) := by decide +kernel
theorem dX11_solve_2 : decode cX11_solve 2 = .ok (.invokevirtual 142, 3) := by decide +kernel
theorem dX11_solve_5 : decode cX11_solve 5 = .ok (.astore_n 3, 1) := by decide +kernel
theorem dX11_solve_6 : decode cX11_solve 6 = .ok (.aload_n 0, 1) := by decide +kernel
theorem dX11_solve_7 : decode cX11_solve 7 = .ok (.iload_n 2, 1) := by decide +kernel
theorem dX11_solve_8 : decode cX11_solve 8 = .ok (.invokevirtual 188, 3) := by decide +kernel
theorem dX11_solve_11 : decode cX11_solve 11 = .ok (.aload_n 3, 1) := by decide +kernel
theorem dX11_solve_12 : decode cX11_solve 12 = .ok (.getfield 150, 3) := by decide +kernel
theorem dX11_solve_15 : decode cX11_solve 15 = .ok (.iconst 0, 1) := by decide +kernel
theorem dX11_solve_16 : decode cX11_solve 16 = .ok (.iaload, 1) := by decide +kernel
theorem dX11_solve_17 : decode cX11_solve 17 = .ok (.iconst 3, 1) := by decide +kernel
theorem dX11_solve_18 : decode cX11_solve 18 = .ok (.if_icmp .ne 27, 3) := by decide +kernel
theorem dX11_solve_21 : decode cX11_solve 21 = .ok (.aload_n 0, 1) := by decide +kernel
theorem dX11_solve_22 : decode cX11_solve 22 = .ok (.getfield 19, 3) := by decide +kernel
theorem dX11_solve_25 : decode cX11_solve 25 = .ok (.aload_n 3, 1) := by decide +kernel
theorem dX11_solve_26 : decode cX11_solve 26 = .ok (.getfield 153, 3) := by decide +kernel
theorem dX11_solve_29 : decode cX11_solve 29 = .ok (.iconst 0, 1) := by decide +kernel
theorem dX11_solve_30 : decode cX11_solve 30 = .ok (.iaload, 1) := by decide +kernel
theorem dX11_solve_31 : decode cX11_solve 31 = .ok (.aload_n 3, 1) := by decide +kernel
theorem dX11_solve_32 : decode cX11_solve 32 = .ok (.getfield 156, 3) := by decide +kernel
theorem dX11_solve_35 : decode cX11_solve 35 = .ok (.iconst 0, 1) := by decide +kernel
theorem dX11_solve_36 : decode cX11_solve 36 = .ok (.iaload, 1) := by decide +kernel
theorem dX11_solve_37 : decode cX11_solve 37 = .ok (.invokevirtual 229, 3) := by decide +kernel
theorem dX11_solve_40 : decode cX11_solve 40 = .ok (.bipush 7, 2) := by decide +kernel
theorem dX11_solve_42 : decode cX11_solve 42 = .ok (.if_icmp .eq 5, 3) := by decide +kernel
theorem dX11_solve_45 : decode cX11_solve 45 = .ok (.iconst (-1), 1) := by decide +kernel
theorem dX11_solve_46 : decode cX11_solve 46 = .ok (.ireturn, 1) := by decide +kernel
theorem dX11_solve_47 : decode cX11_solve 47 = .ok (.aload_n 0, 1) := by decide +kernel
theorem dX11_solve_48 : decode cX11_solve 48 = .ok (.getfield 72, 3) := by decide +kernel
theorem dX11_solve_51 : decode cX11_solve 51 = .ok (.aload_n 3, 1) := by decide +kernel
theorem dX11_solve_52 : decode cX11_solve 52 = .ok (.aload_n 3, 1) := by decide +kernel
theorem dX11_solve_53 : decode cX11_solve 53 = .ok (.iconst 0, 1) := by decide +kernel
theorem dX11_solve_54 : decode cX11_solve 54 = .ok (.iconst 0, 1) := by decide +kernel
theorem dX11_solve_55 : decode cX11_solve 55 = .ok (.invokevirtual 368, 3) := by decide +kernel
theorem dX11_solve_58 : decode cX11_solve 58 = .ok (.iload_n 2, 1) := by decide +kernel
theorem dX11_solve_59 : decode cX11_solve 59 = .ok (.invokevirtual 335, 3) := by decide +kernel
theorem dX11_solve_62 : decode cX11_solve 62 = .ok (.istore 4, 2) := by decide +kernel
theorem dX11_solve_64 : decode cX11_solve 64 = .ok (.iload 4, 2) := by decide +kernel
theorem dX11_solve_66 : decode cX11_solve 66 = .ok (.ifCond .lt 9, 3) := by decide +kernel
theorem dX11_solve_69 : decode cX11_solve 69 = .ok (.iload 4, 2) := by decide +kernel
theorem dX11_solve_71 : decode cX11_solve 71 = .ok (.iconst 1, 1) := by decide +kernel
theorem dX11_solve_72 : decode cX11_solve 72 = .ok (.if_icmp .le 5, 3) := by decide +kernel
theorem dX11_solve_75 : decode cX11_solve 75 = .ok (.iconst (-1), 1) := by decide +kernel
theorem dX11_solve_76 : decode cX11_solve 76 = .ok (.ireturn, 1) := by decide +kernel
theorem dX11_solve_77 : decode cX11_solve 77 = .ok (.aload_n 0, 1) := by decide +kernel
theorem dX11_solve_78 : decode cX11_solve 78 = .ok (.getfield 72, 3) := by decide +kernel
theorem dX11_solve_81 : decode cX11_solve 81 = .ok (.invokevirtual 371, 3) := by decide +kernel
theorem dX11_solve_84 : decode cX11_solve 84 = .ok (.aload_n 0, 1) := by decide +kernel
theorem dX11_solve_85 : decode cX11_solve 85 = .ok (.getfield 72, 3) := by decide +kernel
theorem dX11_solve_88 : decode cX11_solve 88 = .ok (.aload_n 3, 1) := by decide +kernel
theorem dX11_solve_89 : decode cX11_solve 89 = .ok (.aload_n 3, 1) := by decide +kernel
theorem dX11_solve_90 : decode cX11_solve 90 = .ok (.iconst 0, 1) := by decide +kernel
theorem dX11_solve_91 : decode cX11_solve 91 = .ok (.iconst 1, 1) := by decide +kernel
theorem dX11_solve_92 : decode cX11_solve 92 = .ok (.invokevirtual 368, 3) := by decide +kernel
theorem dX11_solve_95 : decode cX11_solve 95 = .ok (.iload_n 2, 1) := by decide +kernel
theorem dX11_solve_96 : decode cX11_solve 96 = .ok (.invokevirtual 335, 3) := by decide +kernel
theorem dX11_solve_99 : decode cX11_solve 99 = .ok (.istore 4, 2) := by decide +kernel
theorem dX11_solve_101 : decode cX11_solve 101 = .ok (.iload 4, 2) := by decide +kernel
theorem dX11_solve_103 : decode cX11_solve 103 = .ok (.ifCond .lt 9, 3) := by decide +kernel
theorem dX11_solve_106 : decode cX11_solve 106 = .ok (.iload 4, 2) := by decide +kernel
theorem dX11_solve_108 : decode cX11_solve 108 = .ok (.iconst 1, 1) := by decide +kernel
theorem dX11_solve_109 : decode cX11_solve 109 = .ok (.if_icmp .le 5, 3) := by decide +kernel
theorem dX11_solve_112 : decode cX11_solve 112 = .ok (.iconst (-1), 1) := by decide +kernel
theorem dX11_solve_113 : decode cX11_solve 113 = .ok (.ireturn, 1) := by decide +kernel
theorem dX11_solve_114 : decode cX11_solve 114 = .ok (.aload_n 0, 1) := by decide +kernel
theorem dX11_solve_115 : decode cX11_solve 115 = .ok (.getfield 72, 3) := by decide +kernel
theorem dX11_solve_118 : decode cX11_solve 118 = .ok (.invokevirtual 374, 3) := by decide +kernel
theorem dX11_solve_121 : decode cX11_solve 121 = .ok (.istore 5, 2) := by decide +kernel
theorem dX11_solve_123 : decode cX11_solve 123 = .ok (.iload 5, 2) := by decide +kernel
theorem dX11_solve_125 : decode cX11_solve 125 = .ok (.iconst 1, 1) := by decide +kernel
theorem dX11_solve_126 : decode cX11_solve 126 = .ok (.if_icmp .ne 17, 3) := by decide +kernel
theorem dX11_solve_129 : decode cX11_solve 129 = .ok (.aload_n 0, 1) := by decide +kernel
theorem dX11_solve_130 : decode cX11_solve 130 = .ok (.getfield 83, 3) := by decide +kernel
theorem dX11_solve_133 : decode cX11_solve 133 = .ok (.aload_n 0, 1) := by decide +kernel
theorem dX11_solve_134 : decode cX11_solve 134 = .ok (.getfield 72, 3) := by decide +kernel
theorem dX11_solve_137 : decode cX11_solve 137 = .ok (.getfield 377, 3) := by decide +kernel
theorem dX11_solve_140 : decode cX11_solve 140 = .ok (.invokevirtual 298, 3) := by decide +kernel
theorem dX11_solve_143 : decode cX11_solve 143 = .ok (.iload 5, 2) := by decide +kernel
theorem dX11_solve_145 : decode cX11_solve 145 = .ok (.ireturn, 1) := by decide +kernel
theorem dX11_undo_0 : decode cX11_undo 0 = .ok (.aload_n 0, 1) := by decide +kernel
theorem dX11_undo_1 : decode cX11_undo 1 = .ok (.getfield 19, 3) := by decide +kernel
theorem dX11_undo_4 : decode cX11_undo 4 = .ok (.invokevirtual 380, 3) := by decide +kernel
theorem dX11_undo_7 : decode cX11_undo 7 = .ok (.ireturn, 1) := by decide +kernel
theorem dX11_audit_0 : decode cX11_audit 0 = .ok (.iload_n 1, 1) := by decide +kernel
theorem dX11_audit_1 : decode cX11_audit 1 = .ok (.ifCond .lt 8, 3) := by decide +kernel
theorem dX11_audit_4 : decode cX11_audit 4 = .ok (.iload_n 1, 1) := by decide +kernel
theorem dX11_audit_5 : decode cX11_audit 5 = .ok (.iconst 3, 1) := by decide +kernel
theorem dX11_audit_6 : decode cX11_audit 6 = .ok (.if_icmp .le 14, 3) := by decide +kernel
theorem dX11_audit_9 : decode cX11_audit 9 = .ok (.new 169, 3) := by decide +kernel
theorem dX11_audit_12 : decode cX11_audit 12 = .ok (.dup, 1) := by decide +kernel
theorem dX11_audit_13 : decode cX11_audit 13 = .ok (.ldc_w 383, 3) := by decide +kernel
theorem dX11_audit_16 : decode cX11_audit 16 = .ok (.invokespecial 173, 3) := by decide +kernel
theorem dX11_audit_19 : decode cX11_audit 19 = .ok (.athrow, 1) := by decide +kernel
theorem dX11_audit_20 : decode cX11_audit 20 = .ok (.aload_n 0, 1) := by decide +kernel
theorem dX11_audit_21 : decode cX11_audit 21 = .ok (.iload_n 2, 1) := by decide +kernel
theorem dX11_audit_22 : decode cX11_audit 22 = .ok (.invokevirtual 142, 3) := by decide +kernel
theorem dX11_audit_25 : decode cX11_audit 25 = .ok (.astore_n 3, 1) := by decide +kernel
theorem dX11_audit_26 : decode cX11_audit 26 = .ok (.iload_n 1, 1) := by decide +kernel
theorem dX11_audit_27 : decode cX11_audit 27 = .ok (.tableswitch 105 0 2 #[25, 93, 99], 25) := by decide +kernel
theorem dX11_audit_52 : decode cX11_audit 52 = .ok (.aload_n 0, 1) := by decide +kernel
theorem dX11_audit_53 : decode cX11_audit 53 = .ok (.getfield 41, 3) := by decide +kernel
theorem dX11_audit_56 : decode cX11_audit 56 = .ok (.aload_n 3, 1) := by decide +kernel
theorem dX11_audit_57 : decode cX11_audit 57 = .ok (.invokevirtual 232, 3) := by decide +kernel
theorem dX11_audit_60 : decode cX11_audit 60 = .ok (.aload_n 0, 1) := by decide +kernel
theorem dX11_audit_61 : decode cX11_audit 61 = .ok (.getfield 28, 3) := by decide +kernel
theorem dX11_audit_64 : decode cX11_audit 64 = .ok (.aload_n 0, 1) := by decide +kernel
theorem dX11_audit_65 : decode cX11_audit 65 = .ok (.getfield 41, 3) := by decide +kernel
theorem dX11_audit_68 : decode cX11_audit 68 = .ok (.getfield 248, 3) := by decide +kernel
theorem dX11_audit_71 : decode cX11_audit 71 = .ok (.aload_n 0, 1) := by decide +kernel
theorem dX11_audit_72 : decode cX11_audit 72 = .ok (.getfield 41, 3) := by decide +kernel
theorem dX11_audit_75 : decode cX11_audit 75 = .ok (.getfield 235, 3) := by decide +kernel
theorem dX11_audit_78 : decode cX11_audit 78 = .ok (.invokevirtual 115, 3) := by decide +kernel
theorem dX11_audit_81 : decode cX11_audit 81 = .ok (.aload_n 0, 1) := by decide +kernel
theorem dX11_audit_82 : decode cX11_audit 82 = .ok (.getfield 28, 3) := by decide +kernel
theorem dX11_audit_85 : decode cX11_audit 85 = .ok (.aload_n 3, 1) := by decide +kernel
theorem dX11_audit_86 : decode cX11_audit 86 = .ok (.invokevirtual 385, 3) := by decide +kernel
theorem dX11_audit_89 : decode cX11_audit 89 = .ok (.ifCond .eq 29, 3) := by decide +kernel
theorem dX11_audit_92 : decode cX11_audit 92 = .ok (.aload_n 0, 1) := by decide +kernel
theorem dX11_audit_93 : decode cX11_audit 93 = .ok (.getfield 28, 3) := by decide +kernel
theorem dX11_audit_96 : decode cX11_audit 96 = .ok (.aload_n 3, 1) := by decide +kernel
theorem dX11_audit_97 : decode cX11_audit 97 = .ok (.invokevirtual 388, 3) := by decide +kernel
theorem dX11_audit_100 : decode cX11_audit 100 = .ok (.ifCond .eq 18, 3) := by decide +kernel
theorem dX11_audit_103 : decode cX11_audit 103 = .ok (.aload_n 0, 1) := by decide +kernel
theorem dX11_audit_104 : decode cX11_audit 104 = .ok (.getfield 28, 3) := by decide +kernel
theorem dX11_audit_107 : decode cX11_audit 107 = .ok (.aload_n 3, 1) := by decide +kernel
theorem dX11_audit_108 : decode cX11_audit 108 = .ok (.invokevirtual 391, 3) := by decide +kernel
theorem dX11_audit_111 : decode cX11_audit 111 = .ok (.ifCond .eq 7, 3) := by decide +kernel
theorem dX11_audit_114 : decode cX11_audit 114 = .ok (.iconst 1, 1) := by decide +kernel
theorem dX11_audit_115 : decode cX11_audit 115 = .ok (.goto 4, 3) := by decide +kernel
theorem dX11_audit_118 : decode cX11_audit 118 = .ok (.iconst 0, 1) := by decide +kernel
theorem dX11_audit_119 : decode cX11_audit 119 = .ok (.ireturn, 1) := by decide +kernel
theorem dX11_audit_120 : decode cX11_audit 120 = .ok (.aload_n 0, 1) := by decide +kernel
theorem dX11_audit_121 : decode cX11_audit 121 = .ok (.aload_n 3, 1) := by decide +kernel
theorem dX11_audit_122 : decode cX11_audit 122 = .ok (.invokevirtual 394, 3) := by decide +kernel
theorem dX11_audit_125 : decode cX11_audit 125 = .ok (.ireturn, 1) := by decide +kernel
theorem dX11_audit_126 : decode cX11_audit 126 = .ok (.aload_n 0, 1) := by decide +kernel
theorem dX11_audit_127 : decode cX11_audit 127 = .ok (.aload_n 3, 1) := by decide +kernel
theorem dX11_audit_128 : decode cX11_audit 128 = .ok (.invokevirtual 397, 3) := by decide +kernel
theorem dX11_audit_131 : decode cX11_audit 131 = .ok (.ireturn, 1) := by decide +kernel
theorem dX11_audit_132 : decode cX11_audit 132 = .ok (.aload_n 0, 1) := by decide +kernel
theorem dX11_audit_133 : decode cX11_audit 133 = .ok (.aload_n 3, 1) := by decide +kernel
theorem dX11_audit_134 : decode cX11_audit 134 = .ok (.bipush 120, 2) := by decide +kernel
theorem dX11_audit_136 : decode cX11_audit 136 = .ok (.invokevirtual 400, 3) := by decide +kernel
theorem dX11_audit_139 : decode cX11_audit 139 = .ok (.ifCond .eq 27, 3) := by decide +kernel
theorem dX11_audit_142 : decode cX11_audit 142 = .ok (.aload_n 0, 1) := by decide +kernel
theorem dX11_audit_143 : decode cX11_audit 143 = .ok (.aload_n 3, 1) := by decide +kernel
theorem dX11_audit_144 : decode cX11_audit 144 = .ok (.bipush 121, 2) := by decide +kernel
theorem dX11_audit_146 : decode cX11_audit 146 = .ok (.invokevirtual 400, 3) := by decide +kernel
theorem dX11_audit_149 : decode cX11_audit 149 = .ok (.ifCond .eq 17, 3) := by decide +kernel
theorem dX11_audit_152 : decode cX11_audit 152 = .ok (.aload_n 0, 1) := by decide +kernel
theorem dX11_audit_153 : decode cX11_audit 153 = .ok (.aload_n 3, 1) := by decide +kernel
theorem dX11_audit_154 : decode cX11_audit 154 = .ok (.bipush 122, 2) := by decide +kernel
theorem dX11_audit_156 : decode cX11_audit 156 = .ok (.invokevirtual 400, 3) := by decide +kernel
theorem dX11_audit_159 : decode cX11_audit 159 = .ok (.ifCond .eq 7, 3) := by decide +kernel
theorem dX11_audit_162 : decode cX11_audit 162 = .ok (.iconst 1, 1) := by decide +kernel
theorem dX11_audit_163 : decode cX11_audit 163 = .ok (.goto 4, 3) := by decide +kernel
theorem dX11_audit_166 : decode cX11_audit 166 = .ok (.iconst 0, 1) := by decide +kernel
theorem dX11_audit_167 : decode cX11_audit 167 = .ok (.ireturn, 1) := by decide +kernel
theorem dX11_postfixAgrees_0 : decode cX11_postfixAgrees 0 = .ok (.aload_n 1, 1) := by decide +kernel
theorem dX11_postfixAgrees_1 : decode cX11_postfixAgrees 1 = .ok (.invokevirtual 404, 3) := by decide +kernel
theorem dX11_postfixAgrees_4 : decode cX11_postfixAgrees 4 = .ok (.ifCond .eq 5, 3) := by decide +kernel
theorem dX11_postfixAgrees_7 : decode cX11_postfixAgrees 7 = .ok (.iconst 1, 1) := by decide +kernel
theorem dX11_postfixAgrees_8 : decode cX11_postfixAgrees 8 = .ok (.ireturn, 1) := by decide +kernel
theorem dX11_postfixAgrees_9 : decode cX11_postfixAgrees 9 = .ok (.aload_n 0, 1) := by decide +kernel
theorem dX11_postfixAgrees_10 : decode cX11_postfixAgrees 10 = .ok (.getfield 49, 3) := by decide +kernel
theorem dX11_postfixAgrees_13 : decode cX11_postfixAgrees 13 = .ok (.aload_n 1, 1) := by decide +kernel
theorem dX11_postfixAgrees_14 : decode cX11_postfixAgrees 14 = .ok (.invokevirtual 251, 3) := by decide +kernel
theorem dX11_postfixAgrees_17 : decode cX11_postfixAgrees 17 = .ok (.aload_n 0, 1) := by decide +kernel
theorem dX11_postfixAgrees_18 : decode cX11_postfixAgrees 18 = .ok (.getfield 49, 3) := by decide +kernel
theorem dX11_postfixAgrees_21 : decode cX11_postfixAgrees 21 = .ok (.invokevirtual 254, 3) := by decide +kernel
theorem dX11_postfixAgrees_24 : decode cX11_postfixAgrees 24 = .ok (.istore_n 2, 1) := by decide +kernel
theorem dX11_postfixAgrees_25 : decode cX11_postfixAgrees 25 = .ok (.iload_n 2, 1) := by decide +kernel
theorem dX11_postfixAgrees_26 : decode cX11_postfixAgrees 26 = .ok (.ifCond .ne 17, 3) := by decide +kernel
theorem dX11_postfixAgrees_29 : decode cX11_postfixAgrees 29 = .ok (.aload_n 0, 1) := by decide +kernel
theorem dX11_postfixAgrees_30 : decode cX11_postfixAgrees 30 = .ok (.getfield 87, 3) := by decide +kernel
theorem dX11_postfixAgrees_33 : decode cX11_postfixAgrees 33 = .ok (.aload_n 0, 1) := by decide +kernel
theorem dX11_postfixAgrees_34 : decode cX11_postfixAgrees 34 = .ok (.getfield 49, 3) := by decide +kernel
theorem dX11_postfixAgrees_37 : decode cX11_postfixAgrees 37 = .ok (.invokevirtual 279, 3) := by decide +kernel
theorem dX11_postfixAgrees_40 : decode cX11_postfixAgrees 40 = .ok (.invokevirtual 298, 3) := by decide +kernel
theorem dX11_postfixAgrees_43 : decode cX11_postfixAgrees 43 = .ok (.aload_n 0, 1) := by decide +kernel
theorem dX11_postfixAgrees_44 : decode cX11_postfixAgrees 44 = .ok (.getfield 49, 3) := by decide +kernel
theorem dX11_postfixAgrees_47 : decode cX11_postfixAgrees 47 = .ok (.aload_n 1, 1) := by decide +kernel
theorem dX11_postfixAgrees_48 : decode cX11_postfixAgrees 48 = .ok (.invokevirtual 259, 3) := by decide +kernel
theorem dX11_postfixAgrees_51 : decode cX11_postfixAgrees 51 = .ok (.aload_n 0, 1) := by decide +kernel
theorem dX11_postfixAgrees_52 : decode cX11_postfixAgrees 52 = .ok (.getfield 49, 3) := by decide +kernel
theorem dX11_postfixAgrees_55 : decode cX11_postfixAgrees 55 = .ok (.invokevirtual 254, 3) := by decide +kernel
theorem dX11_postfixAgrees_58 : decode cX11_postfixAgrees 58 = .ok (.iload_n 2, 1) := by decide +kernel
theorem dX11_postfixAgrees_59 : decode cX11_postfixAgrees 59 = .ok (.if_icmp .ne 28, 3) := by decide +kernel
theorem dX11_postfixAgrees_62 : decode cX11_postfixAgrees 62 = .ok (.iload_n 2, 1) := by decide +kernel
theorem dX11_postfixAgrees_63 : decode cX11_postfixAgrees 63 = .ok (.ifCond .ne 20, 3) := by decide +kernel
theorem dX11_postfixAgrees_66 : decode cX11_postfixAgrees 66 = .ok (.aload_n 0, 1) := by decide +kernel
theorem dX11_postfixAgrees_67 : decode cX11_postfixAgrees 67 = .ok (.getfield 49, 3) := by decide +kernel
theorem dX11_postfixAgrees_70 : decode cX11_postfixAgrees 70 = .ok (.invokevirtual 279, 3) := by decide +kernel
theorem dX11_postfixAgrees_73 : decode cX11_postfixAgrees 73 = .ok (.aload_n 0, 1) := by decide +kernel
theorem dX11_postfixAgrees_74 : decode cX11_postfixAgrees 74 = .ok (.getfield 87, 3) := by decide +kernel
theorem dX11_postfixAgrees_77 : decode cX11_postfixAgrees 77 = .ok (.invokevirtual 407, 3) := by decide +kernel
theorem dX11_postfixAgrees_80 : decode cX11_postfixAgrees 80 = .ok (.ifCond .eq 7, 3) := by decide +kernel
theorem dX11_postfixAgrees_83 : decode cX11_postfixAgrees 83 = .ok (.iconst 1, 1) := by decide +kernel
theorem dX11_postfixAgrees_84 : decode cX11_postfixAgrees 84 = .ok (.goto 4, 3) := by decide +kernel
theorem dX11_postfixAgrees_87 : decode cX11_postfixAgrees 87 = .ok (.iconst 0, 1) := by decide +kernel
theorem dX11_postfixAgrees_88 : decode cX11_postfixAgrees 88 = .ok (.ireturn, 1) := by decide +kernel
theorem dX11_simplifiesWell_0 : decode cX11_simplifiesWell 0 = .ok (.aload_n 0, 1) := by decide +kernel
theorem dX11_simplifiesWell_1 : decode cX11_simplifiesWell 1 = .ok (.getfield 49, 3) := by decide +kernel
theorem dX11_simplifiesWell_4 : decode cX11_simplifiesWell 4 = .ok (.aload_n 1, 1) := by decide +kernel
theorem dX11_simplifiesWell_5 : decode cX11_simplifiesWell 5 = .ok (.invokevirtual 251, 3) := by decide +kernel
theorem dX11_simplifiesWell_8 : decode cX11_simplifiesWell 8 = .ok (.aload_n 0, 1) := by decide +kernel
theorem dX11_simplifiesWell_9 : decode cX11_simplifiesWell 9 = .ok (.getfield 49, 3) := by decide +kernel
theorem dX11_simplifiesWell_12 : decode cX11_simplifiesWell 12 = .ok (.invokevirtual 254, 3) := by decide +kernel
theorem dX11_simplifiesWell_15 : decode cX11_simplifiesWell 15 = .ok (.istore_n 2, 1) := by decide +kernel
theorem dX11_simplifiesWell_16 : decode cX11_simplifiesWell 16 = .ok (.iload_n 2, 1) := by decide +kernel
theorem dX11_simplifiesWell_17 : decode cX11_simplifiesWell 17 = .ok (.ifCond .ne 17, 3) := by decide +kernel
theorem dX11_simplifiesWell_20 : decode cX11_simplifiesWell 20 = .ok (.aload_n 0, 1) := by decide +kernel
theorem dX11_simplifiesWell_21 : decode cX11_simplifiesWell 21 = .ok (.getfield 87, 3) := by decide +kernel
theorem dX11_simplifiesWell_24 : decode cX11_simplifiesWell 24 = .ok (.aload_n 0, 1) := by decide +kernel
theorem dX11_simplifiesWell_25 : decode cX11_simplifiesWell 25 = .ok (.getfield 49, 3) := by decide +kernel
theorem dX11_simplifiesWell_28 : decode cX11_simplifiesWell 28 = .ok (.invokevirtual 279, 3) := by decide +kernel
theorem dX11_simplifiesWell_31 : decode cX11_simplifiesWell 31 = .ok (.invokevirtual 298, 3) := by decide +kernel
theorem dX11_simplifiesWell_34 : decode cX11_simplifiesWell 34 = .ok (.aload_n 0, 1) := by decide +kernel
theorem dX11_simplifiesWell_35 : decode cX11_simplifiesWell 35 = .ok (.getfield 93, 3) := by decide +kernel
theorem dX11_simplifiesWell_38 : decode cX11_simplifiesWell 38 = .ok (.aload_n 1, 1) := by decide +kernel
theorem dX11_simplifiesWell_39 : decode cX11_simplifiesWell 39 = .ok (.invokevirtual 410, 3) := by decide +kernel
theorem dX11_simplifiesWell_42 : decode cX11_simplifiesWell 42 = .ok (.iconst 1, 1) := by decide +kernel
theorem dX11_simplifiesWell_43 : decode cX11_simplifiesWell 43 = .ok (.istore_n 3, 1) := by decide +kernel
theorem dX11_simplifiesWell_44 : decode cX11_simplifiesWell 44 = .ok (.iconst 0, 1) := by decide +kernel
theorem dX11_simplifiesWell_45 : decode cX11_simplifiesWell 45 = .ok (.istore 4, 2) := by decide +kernel
theorem dX11_simplifiesWell_47 : decode cX11_simplifiesWell 47 = .ok (.iload 4, 2) := by decide +kernel
theorem dX11_simplifiesWell_49 : decode cX11_simplifiesWell 49 = .ok (.bipush 80, 2) := by decide +kernel
theorem dX11_simplifiesWell_51 : decode cX11_simplifiesWell 51 = .ok (.if_icmp .ge 60, 3) := by decide +kernel
theorem dX11_simplifiesWell_54 : decode cX11_simplifiesWell 54 = .ok (.iload_n 3, 1) := by decide +kernel
theorem dX11_simplifiesWell_55 : decode cX11_simplifiesWell 55 = .ok (.ifCond .eq 56, 3) := by decide +kernel
theorem dX11_simplifiesWell_58 : decode cX11_simplifiesWell 58 = .ok (.aload_n 0, 1) := by decide +kernel
theorem dX11_simplifiesWell_59 : decode cX11_simplifiesWell 59 = .ok (.getfield 93, 3) := by decide +kernel
theorem dX11_simplifiesWell_62 : decode cX11_simplifiesWell 62 = .ok (.getfield 314, 3) := by decide +kernel
theorem dX11_simplifiesWell_65 : decode cX11_simplifiesWell 65 = .ok (.istore 5, 2) := by decide +kernel
theorem dX11_simplifiesWell_67 : decode cX11_simplifiesWell 67 = .ok (.aload_n 0, 1) := by decide +kernel
theorem dX11_simplifiesWell_68 : decode cX11_simplifiesWell 68 = .ok (.getfield 65, 3) := by decide +kernel
theorem dX11_simplifiesWell_71 : decode cX11_simplifiesWell 71 = .ok (.aload_n 0, 1) := by decide +kernel
theorem dX11_simplifiesWell_72 : decode cX11_simplifiesWell 72 = .ok (.getfield 93, 3) := by decide +kernel
theorem dX11_simplifiesWell_75 : decode cX11_simplifiesWell 75 = .ok (.invokevirtual 412, 3) := by decide +kernel
theorem dX11_simplifiesWell_78 : decode cX11_simplifiesWell 78 = .ok (.ifCond .eq 7, 3) := by decide +kernel
theorem dX11_simplifiesWell_81 : decode cX11_simplifiesWell 81 = .ok (.iconst 1, 1) := by decide +kernel
theorem dX11_simplifiesWell_82 : decode cX11_simplifiesWell 82 = .ok (.goto 4, 3) := by decide +kernel
theorem dX11_simplifiesWell_85 : decode cX11_simplifiesWell 85 = .ok (.iconst 0, 1) := by decide +kernel
theorem dX11_simplifiesWell_86 : decode cX11_simplifiesWell 86 = .ok (.istore_n 3, 1) := by decide +kernel
theorem dX11_simplifiesWell_87 : decode cX11_simplifiesWell 87 = .ok (.iload_n 3, 1) := by decide +kernel
theorem dX11_simplifiesWell_88 : decode cX11_simplifiesWell 88 = .ok (.ifCond .eq 17, 3) := by decide +kernel
theorem dX11_simplifiesWell_91 : decode cX11_simplifiesWell 91 = .ok (.aload_n 0, 1) := by decide +kernel
theorem dX11_simplifiesWell_92 : decode cX11_simplifiesWell 92 = .ok (.getfield 93, 3) := by decide +kernel
theorem dX11_simplifiesWell_95 : decode cX11_simplifiesWell 95 = .ok (.getfield 314, 3) := by decide +kernel
theorem dX11_simplifiesWell_98 : decode cX11_simplifiesWell 98 = .ok (.iload 5, 2) := by decide +kernel
theorem dX11_simplifiesWell_100 : decode cX11_simplifiesWell 100 = .ok (.if_icmp .lt 5, 3) := by decide +kernel
theorem dX11_simplifiesWell_103 : decode cX11_simplifiesWell 103 = .ok (.iconst 0, 1) := by decide +kernel
theorem dX11_simplifiesWell_104 : decode cX11_simplifiesWell 104 = .ok (.ireturn, 1) := by decide +kernel
theorem dX11_simplifiesWell_105 : decode cX11_simplifiesWell 105 = .ok (.iinc 4 1, 3) := by decide +kernel
theorem dX11_simplifiesWell_108 : decode cX11_simplifiesWell 108 = .ok (.goto (-61), 3) := by decide +kernel
theorem dX11_simplifiesWell_111 : decode cX11_simplifiesWell 111 = .ok (.iload_n 2, 1) := by decide +kernel
theorem dX11_simplifiesWell_112 : decode cX11_simplifiesWell 112 = .ok (.ifCond .eq 5, 3) := by decide +kernel
theorem dX11_simplifiesWell_115 : decode cX11_simplifiesWell 115 = .ok (.iconst 1, 1) := by decide +kernel
theorem dX11_simplifiesWell_116 : decode cX11_simplifiesWell 116 = .ok (.ireturn, 1) := by decide +kernel
theorem dX11_simplifiesWell_117 : decode cX11_simplifiesWell 117 = .ok (.aload_n 0, 1) := by decide +kernel
theorem dX11_simplifiesWell_118 : decode cX11_simplifiesWell 118 = .ok (.getfield 49, 3) := by decide +kernel
theorem dX11_simplifiesWell_121 : decode cX11_simplifiesWell 121 = .ok (.aload_n 0, 1) := by decide +kernel
theorem dX11_simplifiesWell_122 : decode cX11_simplifiesWell 122 = .ok (.getfield 93, 3) := by decide +kernel
theorem dX11_simplifiesWell_125 : decode cX11_simplifiesWell 125 = .ok (.invokevirtual 251, 3) := by decide +kernel
theorem dX11_simplifiesWell_128 : decode cX11_simplifiesWell 128 = .ok (.aload_n 0, 1) := by decide +kernel
theorem dX11_simplifiesWell_129 : decode cX11_simplifiesWell 129 = .ok (.getfield 49, 3) := by decide +kernel
theorem dX11_simplifiesWell_132 : decode cX11_simplifiesWell 132 = .ok (.invokevirtual 254, 3) := by decide +kernel
theorem dX11_simplifiesWell_135 : decode cX11_simplifiesWell 135 = .ok (.ifCond .ne 20, 3) := by decide +kernel
theorem dX11_simplifiesWell_138 : decode cX11_simplifiesWell 138 = .ok (.aload_n 0, 1) := by decide +kernel
theorem dX11_simplifiesWell_139 : decode cX11_simplifiesWell 139 = .ok (.getfield 49, 3) := by decide +kernel
theorem dX11_simplifiesWell_142 : decode cX11_simplifiesWell 142 = .ok (.invokevirtual 279, 3) := by decide +kernel
theorem dX11_simplifiesWell_145 : decode cX11_simplifiesWell 145 = .ok (.aload_n 0, 1) := by decide +kernel
theorem dX11_simplifiesWell_146 : decode cX11_simplifiesWell 146 = .ok (.getfield 87, 3) := by decide +kernel
theorem dX11_simplifiesWell_149 : decode cX11_simplifiesWell 149 = .ok (.invokevirtual 407, 3) := by decide +kernel
theorem dX11_simplifiesWell_152 : decode cX11_simplifiesWell 152 = .ok (.ifCond .eq 7, 3) := by decide +kernel
theorem dX11_simplifiesWell_155 : decode cX11_simplifiesWell 155 = .ok (.iconst 1, 1) := by decide +kernel
theorem dX11_simplifiesWell_156 : decode cX11_simplifiesWell 156 = .ok (.goto 4, 3) := by decide +kernel
theorem dX11_simplifiesWell_159 : decode cX11_simplifiesWell 159 = .ok (.iconst 0, 1) := by decide +kernel
theorem dX11_simplifiesWell_160 : decode cX11_simplifiesWell 160 = .ok (.ireturn, 1) := by decide +kernel
theorem dX11_derivesWell_0 : decode cX11_derivesWell 0 = .ok (.aload_n 0, 1) := by decide +kernel
theorem dX11_derivesWell_1 : decode cX11_derivesWell 1 = .ok (.getfield 65, 3) := by decide +kernel
theorem dX11_derivesWell_4 : decode cX11_derivesWell 4 = .ok (.aload_n 1, 1) := by decide +kernel
theorem dX11_derivesWell_5 : decode cX11_derivesWell 5 = .ok (.iload_n 2, 1) := by decide +kernel
theorem dX11_derivesWell_6 : decode cX11_derivesWell 6 = .ok (.invokevirtual 351, 3) := by decide +kernel
theorem dX11_derivesWell_9 : decode cX11_derivesWell 9 = .ok (.ifCond .ne 5, 3) := by decide +kernel
theorem dX11_derivesWell_12 : decode cX11_derivesWell 12 = .ok (.iconst 1, 1) := by decide +kernel
theorem dX11_derivesWell_13 : decode cX11_derivesWell 13 = .ok (.ireturn, 1) := by decide +kernel
theorem dX11_derivesWell_14 : decode cX11_derivesWell 14 = .ok (.aload_n 0, 1) := by decide +kernel
theorem dX11_derivesWell_15 : decode cX11_derivesWell 15 = .ok (.getfield 49, 3) := by decide +kernel
theorem dX11_derivesWell_18 : decode cX11_derivesWell 18 = .ok (.aload_n 0, 1) := by decide +kernel
theorem dX11_derivesWell_19 : decode cX11_derivesWell 19 = .ok (.getfield 65, 3) := by decide +kernel
theorem dX11_derivesWell_22 : decode cX11_derivesWell 22 = .ok (.getfield 356, 3) := by decide +kernel
theorem dX11_derivesWell_25 : decode cX11_derivesWell 25 = .ok (.invokevirtual 251, 3) := by decide +kernel
theorem dX11_derivesWell_28 : decode cX11_derivesWell 28 = .ok (.aload_n 0, 1) := by decide +kernel
theorem dX11_derivesWell_29 : decode cX11_derivesWell 29 = .ok (.getfield 49, 3) := by decide +kernel
theorem dX11_derivesWell_32 : decode cX11_derivesWell 32 = .ok (.invokevirtual 254, 3) := by decide +kernel
theorem dX11_derivesWell_35 : decode cX11_derivesWell 35 = .ok (.ifCond .eq 5, 3) := by decide +kernel
theorem dX11_derivesWell_38 : decode cX11_derivesWell 38 = .ok (.iconst 1, 1) := by decide +kernel
theorem dX11_derivesWell_39 : decode cX11_derivesWell 39 = .ok (.ireturn, 1) := by decide +kernel
theorem dX11_derivesWell_40 : decode cX11_derivesWell 40 = .ok (.aload_n 0, 1) := by decide +kernel
theorem dX11_derivesWell_41 : decode cX11_derivesWell 41 = .ok (.getfield 87, 3) := by decide +kernel
theorem dX11_derivesWell_44 : decode cX11_derivesWell 44 = .ok (.aload_n 0, 1) := by decide +kernel
theorem dX11_derivesWell_45 : decode cX11_derivesWell 45 = .ok (.getfield 49, 3) := by decide +kernel
theorem dX11_derivesWell_48 : decode cX11_derivesWell 48 = .ok (.invokevirtual 279, 3) := by decide +kernel
theorem dX11_derivesWell_51 : decode cX11_derivesWell 51 = .ok (.invokevirtual 298, 3) := by decide +kernel
theorem dX11_derivesWell_54 : decode cX11_derivesWell 54 = .ok (.aload_n 0, 1) := by decide +kernel
theorem dX11_derivesWell_55 : decode cX11_derivesWell 55 = .ok (.getfield 58, 3) := by decide +kernel
theorem dX11_derivesWell_58 : decode cX11_derivesWell 58 = .ok (.aload_n 1, 1) := by decide +kernel
theorem dX11_derivesWell_59 : decode cX11_derivesWell 59 = .ok (.iload_n 2, 1) := by decide +kernel
theorem dX11_derivesWell_60 : decode cX11_derivesWell 60 = .ok (.invokevirtual 364, 3) := by decide +kernel
theorem dX11_derivesWell_63 : decode cX11_derivesWell 63 = .ok (.ifCond .ne 20, 3) := by decide +kernel
theorem dX11_derivesWell_66 : decode cX11_derivesWell 66 = .ok (.aload_n 0, 1) := by decide +kernel
theorem dX11_derivesWell_67 : decode cX11_derivesWell 67 = .ok (.getfield 58, 3) := by decide +kernel
theorem dX11_derivesWell_70 : decode cX11_derivesWell 70 = .ok (.invokevirtual 367, 3) := by decide +kernel
theorem dX11_derivesWell_73 : decode cX11_derivesWell 73 = .ok (.aload_n 0, 1) := by decide +kernel
theorem dX11_derivesWell_74 : decode cX11_derivesWell 74 = .ok (.getfield 87, 3) := by decide +kernel
theorem dX11_derivesWell_77 : decode cX11_derivesWell 77 = .ok (.invokevirtual 407, 3) := by decide +kernel
theorem dX11_derivesWell_80 : decode cX11_derivesWell 80 = .ok (.ifCond .eq 7, 3) := by decide +kernel
theorem dX11_derivesWell_83 : decode cX11_derivesWell 83 = .ok (.iconst 1, 1) := by decide +kernel
theorem dX11_derivesWell_84 : decode cX11_derivesWell 84 = .ok (.goto 4, 3) := by decide +kernel
theorem dX11_derivesWell_87 : decode cX11_derivesWell 87 = .ok (.iconst 0, 1) := by decide +kernel
theorem dX11_derivesWell_88 : decode cX11_derivesWell 88 = .ok (.ireturn, 1) := by decide +kernel
theorem dX11_takeSteps_0 : decode cX11_takeSteps 0 = .ok (.aload_n 0, 1) := by decide +kernel
theorem dX11_takeSteps_1 : decode cX11_takeSteps 1 = .ok (.getfield 93, 3) := by decide +kernel
theorem dX11_takeSteps_4 : decode cX11_takeSteps 4 = .ok (.aload_n 1, 1) := by decide +kernel
theorem dX11_takeSteps_5 : decode cX11_takeSteps 5 = .ok (.invokevirtual 410, 3) := by decide +kernel
theorem dX11_takeSteps_8 : decode cX11_takeSteps 8 = .ok (.aload_n 0, 1) := by decide +kernel
theorem dX11_takeSteps_9 : decode cX11_takeSteps 9 = .ok (.iconst 0, 1) := by decide +kernel
theorem dX11_takeSteps_10 : decode cX11_takeSteps 10 = .ok (.putfield 332, 3) := by decide +kernel
theorem dX11_takeSteps_13 : decode cX11_takeSteps 13 = .ok (.iconst 1, 1) := by decide +kernel
theorem dX11_takeSteps_14 : decode cX11_takeSteps 14 = .ok (.istore_n 3, 1) := by decide +kernel
theorem dX11_takeSteps_15 : decode cX11_takeSteps 15 = .ok (.iconst 0, 1) := by decide +kernel
theorem dX11_takeSteps_16 : decode cX11_takeSteps 16 = .ok (.istore 4, 2) := by decide +kernel
theorem dX11_takeSteps_18 : decode cX11_takeSteps 18 = .ok (.iload 4, 2) := by decide +kernel
theorem dX11_takeSteps_20 : decode cX11_takeSteps 20 = .ok (.iload_n 2, 1) := by decide +kernel
theorem dX11_takeSteps_21 : decode cX11_takeSteps 21 = .ok (.if_icmp .ge 90, 3) := by decide +kernel
theorem dX11_takeSteps_24 : decode cX11_takeSteps 24 = .ok (.aload_n 0, 1) := by decide +kernel
theorem dX11_takeSteps_25 : decode cX11_takeSteps 25 = .ok (.getfield 332, 3) := by decide +kernel
theorem dX11_takeSteps_28 : decode cX11_takeSteps 28 = .ok (.aload_n 0, 1) := by decide +kernel
theorem dX11_takeSteps_29 : decode cX11_takeSteps 29 = .ok (.getfield 97, 3) := by decide +kernel
theorem dX11_takeSteps_32 : decode cX11_takeSteps 32 = .ok (.arraylength, 1) := by decide +kernel
theorem dX11_takeSteps_33 : decode cX11_takeSteps 33 = .ok (.if_icmp .ge 78, 3) := by decide +kernel
theorem dX11_takeSteps_36 : decode cX11_takeSteps 36 = .ok (.iload_n 3, 1) := by decide +kernel
theorem dX11_takeSteps_37 : decode cX11_takeSteps 37 = .ok (.ifCond .eq 74, 3) := by decide +kernel
theorem dX11_takeSteps_40 : decode cX11_takeSteps 40 = .ok (.aload_n 0, 1) := by decide +kernel
theorem dX11_takeSteps_41 : decode cX11_takeSteps 41 = .ok (.getfield 65, 3) := by decide +kernel
theorem dX11_takeSteps_44 : decode cX11_takeSteps 44 = .ok (.aload_n 0, 1) := by decide +kernel
theorem dX11_takeSteps_45 : decode cX11_takeSteps 45 = .ok (.getfield 93, 3) := by decide +kernel
theorem dX11_takeSteps_48 : decode cX11_takeSteps 48 = .ok (.invokevirtual 412, 3) := by decide +kernel
theorem dX11_takeSteps_51 : decode cX11_takeSteps 51 = .ok (.istore 5, 2) := by decide +kernel
theorem dX11_takeSteps_53 : decode cX11_takeSteps 53 = .ok (.iload 5, 2) := by decide +kernel
theorem dX11_takeSteps_55 : decode cX11_takeSteps 55 = .ok (.ifCond .eq 7, 3) := by decide +kernel
theorem dX11_takeSteps_58 : decode cX11_takeSteps 58 = .ok (.iconst 1, 1) := by decide +kernel
theorem dX11_takeSteps_59 : decode cX11_takeSteps 59 = .ok (.goto 4, 3) := by decide +kernel
theorem dX11_takeSteps_62 : decode cX11_takeSteps 62 = .ok (.iconst 0, 1) := by decide +kernel
theorem dX11_takeSteps_63 : decode cX11_takeSteps 63 = .ok (.istore_n 3, 1) := by decide +kernel
theorem dX11_takeSteps_64 : decode cX11_takeSteps 64 = .ok (.iload_n 3, 1) := by decide +kernel
theorem dX11_takeSteps_65 : decode cX11_takeSteps 65 = .ok (.ifCond .eq 40, 3) := by decide +kernel
theorem dX11_takeSteps_68 : decode cX11_takeSteps 68 = .ok (.aload_n 0, 1) := by decide +kernel
theorem dX11_takeSteps_69 : decode cX11_takeSteps 69 = .ok (.getfield 97, 3) := by decide +kernel
theorem dX11_takeSteps_72 : decode cX11_takeSteps 72 = .ok (.aload_n 0, 1) := by decide +kernel
theorem dX11_takeSteps_73 : decode cX11_takeSteps 73 = .ok (.getfield 332, 3) := by decide +kernel
theorem dX11_takeSteps_76 : decode cX11_takeSteps 76 = .ok (.iload 5, 2) := by decide +kernel
theorem dX11_takeSteps_78 : decode cX11_takeSteps 78 = .ok (.iastore, 1) := by decide +kernel
theorem dX11_takeSteps_79 : decode cX11_takeSteps 79 = .ok (.aload_n 0, 1) := by decide +kernel
theorem dX11_takeSteps_80 : decode cX11_takeSteps 80 = .ok (.getfield 101, 3) := by decide +kernel
theorem dX11_takeSteps_83 : decode cX11_takeSteps 83 = .ok (.aload_n 0, 1) := by decide +kernel
theorem dX11_takeSteps_84 : decode cX11_takeSteps 84 = .ok (.getfield 332, 3) := by decide +kernel
theorem dX11_takeSteps_87 : decode cX11_takeSteps 87 = .ok (.aload_n 0, 1) := by decide +kernel
theorem dX11_takeSteps_88 : decode cX11_takeSteps 88 = .ok (.getfield 65, 3) := by decide +kernel
theorem dX11_takeSteps_91 : decode cX11_takeSteps 91 = .ok (.getfield 415, 3) := by decide +kernel
theorem dX11_takeSteps_94 : decode cX11_takeSteps 94 = .ok (.iastore, 1) := by decide +kernel
theorem dX11_takeSteps_95 : decode cX11_takeSteps 95 = .ok (.aload_n 0, 1) := by decide +kernel
theorem dX11_takeSteps_96 : decode cX11_takeSteps 96 = .ok (.dup, 1) := by decide +kernel
theorem dX11_takeSteps_97 : decode cX11_takeSteps 97 = .ok (.getfield 332, 3) := by decide +kernel
theorem dX11_takeSteps_100 : decode cX11_takeSteps 100 = .ok (.iconst 1, 1) := by decide +kernel
theorem dX11_takeSteps_101 : decode cX11_takeSteps 101 = .ok (.iadd, 1) := by decide +kernel
theorem dX11_takeSteps_102 : decode cX11_takeSteps 102 = .ok (.putfield 332, 3) := by decide +kernel
theorem dX11_takeSteps_105 : decode cX11_takeSteps 105 = .ok (.iinc 4 1, 3) := by decide +kernel
theorem dX11_takeSteps_108 : decode cX11_takeSteps 108 = .ok (.goto (-90), 3) := by decide +kernel
theorem dX11_takeSteps_111 : decode cX11_takeSteps 111 = .ok (.aload_n 0, 1) := by decide +kernel
theorem dX11_takeSteps_112 : decode cX11_takeSteps 112 = .ok (.getfield 332, 3) := by decide +kernel
theorem dX11_takeSteps_115 : decode cX11_takeSteps 115 = .ok (.ireturn, 1) := by decide +kernel
theorem dX11_answerOf_0 : decode cX11_answerOf 0 = .ok (.iload_n 1, 1) := by decide +kernel
theorem dX11_answerOf_1 : decode cX11_answerOf 1 = .ok (.ifCond .ne 17, 3) := by decide +kernel
theorem dX11_answerOf_4 : decode cX11_answerOf 4 = .ok (.aload_n 0, 1) := by decide +kernel
theorem dX11_answerOf_5 : decode cX11_answerOf 5 = .ok (.getfield 83, 3) := by decide +kernel
theorem dX11_answerOf_8 : decode cX11_answerOf 8 = .ok (.aload_n 0, 1) := by decide +kernel
theorem dX11_answerOf_9 : decode cX11_answerOf 9 = .ok (.getfield 49, 3) := by decide +kernel
theorem dX11_answerOf_12 : decode cX11_answerOf 12 = .ok (.invokevirtual 279, 3) := by decide +kernel
theorem dX11_answerOf_15 : decode cX11_answerOf 15 = .ok (.invokevirtual 298, 3) := by decide +kernel
theorem dX11_answerOf_18 : decode cX11_answerOf 18 = .ok (.iload_n 1, 1) := by decide +kernel
theorem dX11_answerOf_19 : decode cX11_answerOf 19 = .ok (.ireturn, 1) := by decide +kernel
theorem dX11_treeAt_0 : decode cX11_treeAt 0 = .ok (.iload_n 1, 1) := by decide +kernel
theorem dX11_treeAt_1 : decode cX11_treeAt 1 = .ok (.ifCond .lt 26, 3) := by decide +kernel
theorem dX11_treeAt_4 : decode cX11_treeAt 4 = .ok (.iload_n 1, 1) := by decide +kernel
theorem dX11_treeAt_5 : decode cX11_treeAt 5 = .ok (.aload_n 0, 1) := by decide +kernel
theorem dX11_treeAt_6 : decode cX11_treeAt 6 = .ok (.getfield 19, 3) := by decide +kernel
theorem dX11_treeAt_9 : decode cX11_treeAt 9 = .ok (.getfield 139, 3) := by decide +kernel
theorem dX11_treeAt_12 : decode cX11_treeAt 12 = .ok (.if_icmp .ge 15, 3) := by decide +kernel
theorem dX11_treeAt_15 : decode cX11_treeAt 15 = .ok (.iload_n 1, 1) := by decide +kernel
theorem dX11_treeAt_16 : decode cX11_treeAt 16 = .ok (.aload_n 0, 1) := by decide +kernel
theorem dX11_treeAt_17 : decode cX11_treeAt 17 = .ok (.getfield 19, 3) := by decide +kernel
theorem dX11_treeAt_20 : decode cX11_treeAt 20 = .ok (.getfield 418, 3) := by decide +kernel
theorem dX11_treeAt_23 : decode cX11_treeAt 23 = .ok (.arraylength, 1) := by decide +kernel
theorem dX11_treeAt_24 : decode cX11_treeAt 24 = .ok (.if_icmp .lt 14, 3) := by decide +kernel
theorem dX11_treeAt_27 : decode cX11_treeAt 27 = .ok (.new 243, 3) := by decide +kernel
theorem dX11_treeAt_30 : decode cX11_treeAt 30 = .ok (.dup, 1) := by decide +kernel
theorem dX11_treeAt_31 : decode cX11_treeAt 31 = .ok (.ldc_w 422, 3) := by decide +kernel
theorem dX11_treeAt_34 : decode cX11_treeAt 34 = .ok (.invokespecial 247, 3) := by decide +kernel
theorem dX11_treeAt_37 : decode cX11_treeAt 37 = .ok (.athrow, 1) := by decide +kernel
theorem dX11_treeAt_38 : decode cX11_treeAt 38 = .ok (.aload_n 0, 1) := by decide +kernel
theorem dX11_treeAt_39 : decode cX11_treeAt 39 = .ok (.getfield 19, 3) := by decide +kernel
theorem dX11_treeAt_42 : decode cX11_treeAt 42 = .ok (.getfield 418, 3) := by decide +kernel
theorem dX11_treeAt_45 : decode cX11_treeAt 45 = .ok (.iload_n 1, 1) := by decide +kernel
theorem dX11_treeAt_46 : decode cX11_treeAt 46 = .ok (.aaload, 1) := by decide +kernel
theorem dX11_treeAt_47 : decode cX11_treeAt 47 = .ok (.areturn, 1) := by decide +kernel
theorem dX11_needNode_0 : decode cX11_needNode 0 = .ok (.iload_n 2, 1) := by decide +kernel
theorem dX11_needNode_1 : decode cX11_needNode 1 = .ok (.ifCond .lt 11, 3) := by decide +kernel
theorem dX11_needNode_4 : decode cX11_needNode 4 = .ok (.iload_n 2, 1) := by decide +kernel
theorem dX11_needNode_5 : decode cX11_needNode 5 = .ok (.aload_n 1, 1) := by decide +kernel
theorem dX11_needNode_6 : decode cX11_needNode 6 = .ok (.getfield 314, 3) := by decide +kernel
theorem dX11_needNode_9 : decode cX11_needNode 9 = .ok (.if_icmp .lt 14, 3) := by decide +kernel
theorem dX11_needNode_12 : decode cX11_needNode 12 = .ok (.new 243, 3) := by decide +kernel
theorem dX11_needNode_15 : decode cX11_needNode 15 = .ok (.dup, 1) := by decide +kernel
theorem dX11_needNode_16 : decode cX11_needNode 16 = .ok (.ldc_w 424, 3) := by decide +kernel
theorem dX11_needNode_19 : decode cX11_needNode 19 = .ok (.invokespecial 247, 3) := by decide +kernel
theorem dX11_needNode_22 : decode cX11_needNode 22 = .ok (.athrow, 1) := by decide +kernel
theorem dX11_needNode_23 : decode cX11_needNode 23 = .ok (.return_, 1) := by decide +kernel
theorem dX11_needRoom_0 : decode cX11_needRoom 0 = .ok (.aload_n 0, 1) := by decide +kernel
theorem dX11_needRoom_1 : decode cX11_needRoom 1 = .ok (.getfield 19, 3) := by decide +kernel
theorem dX11_needRoom_4 : decode cX11_needRoom 4 = .ok (.getfield 139, 3) := by decide +kernel
theorem dX11_needRoom_7 : decode cX11_needRoom 7 = .ok (.aload_n 0, 1) := by decide +kernel
theorem dX11_needRoom_8 : decode cX11_needRoom 8 = .ok (.getfield 19, 3) := by decide +kernel
theorem dX11_needRoom_11 : decode cX11_needRoom 11 = .ok (.getfield 418, 3) := by decide +kernel
theorem dX11_needRoom_14 : decode cX11_needRoom 14 = .ok (.arraylength, 1) := by decide +kernel
theorem dX11_needRoom_15 : decode cX11_needRoom 15 = .ok (.if_icmp .lt 14, 3) := by decide +kernel
theorem dX11_needRoom_18 : decode cX11_needRoom 18 = .ok (.new 108, 3) := by decide +kernel
theorem dX11_needRoom_21 : decode cX11_needRoom 21 = .ok (.dup, 1) := by decide +kernel
theorem dX11_needRoom_22 : decode cX11_needRoom 22 = .ok (.ldc_w 426, 3) := by decide +kernel
theorem dX11_needRoom_25 : decode cX11_needRoom 25 = .ok (.invokespecial 112, 3) := by decide +kernel
theorem dX11_needRoom_28 : decode cX11_needRoom 28 = .ok (.athrow, 1) := by decide +kernel
theorem dX11_needRoom_29 : decode cX11_needRoom 29 = .ok (.return_, 1) := by decide +kernel
theorem dX11_needNoLazyCall_0 : decode cX11_needNoLazyCall 0 = .ok (.aload_n 1, 1) := by decide +kernel
theorem dX11_needNoLazyCall_1 : decode cX11_needNoLazyCall 1 = .ok (.invokevirtual 404, 3) := by decide +kernel
theorem dX11_needNoLazyCall_4 : decode cX11_needNoLazyCall 4 = .ok (.ifCond .eq 14, 3) := by decide +kernel
theorem dX11_needNoLazyCall_7 : decode cX11_needNoLazyCall 7 = .ok (.new 108, 3) := by decide +kernel
theorem dX11_needNoLazyCall_10 : decode cX11_needNoLazyCall 10 = .ok (.dup, 1) := by decide +kernel
theorem dX11_needNoLazyCall_11 : decode cX11_needNoLazyCall 11 = .ok (.ldc_w 428, 3) := by decide +kernel
theorem dX11_needNoLazyCall_14 : decode cX11_needNoLazyCall 14 = .ok (.invokespecial 112, 3) := by decide +kernel
theorem dX11_needNoLazyCall_17 : decode cX11_needNoLazyCall 17 = .ok (.athrow, 1) := by decide +kernel
theorem dX11_needNoLazyCall_18 : decode cX11_needNoLazyCall 18 = .ok (.return_, 1) := by decide +kernel
theorem dX11_needName_0 : decode cX11_needName 0 = .ok (.iload_n 1, 1) := by decide +kernel
theorem dX11_needName_1 : decode cX11_needName 1 = .ok (.bipush 97, 2) := by decide +kernel
theorem dX11_needName_3 : decode cX11_needName 3 = .ok (.if_icmp .lt 9, 3) := by decide +kernel
theorem dX11_needName_6 : decode cX11_needName 6 = .ok (.iload_n 1, 1) := by decide +kernel
theorem dX11_needName_7 : decode cX11_needName 7 = .ok (.bipush 122, 2) := by decide +kernel
theorem dX11_needName_9 : decode cX11_needName 9 = .ok (.if_icmp .le 14, 3) := by decide +kernel
theorem dX11_needName_12 : decode cX11_needName 12 = .ok (.new 169, 3) := by decide +kernel
theorem dX11_needName_15 : decode cX11_needName 15 = .ok (.dup, 1) := by decide +kernel
theorem dX11_needName_16 : decode cX11_needName 16 = .ok (.ldc_w 430, 3) := by decide +kernel
theorem dX11_needName_19 : decode cX11_needName 19 = .ok (.invokespecial 173, 3) := by decide +kernel
theorem dX11_needName_22 : decode cX11_needName 22 = .ok (.athrow, 1) := by decide +kernel
theorem dX11_needName_23 : decode cX11_needName 23 = .ok (.return_, 1) := by decide +kernel
theorem dX11_letterOf_0 : decode cX11_letterOf 0 = .ok (.aload_n 0, 1) := by decide +kernel
theorem dX11_letterOf_1 : decode cX11_letterOf 1 = .ok (.iload_n 1, 1) := by decide +kernel
theorem dX11_letterOf_2 : decode cX11_letterOf 2 = .ok (.invokevirtual 188, 3) := by decide +kernel
theorem dX11_letterOf_5 : decode cX11_letterOf 5 = .ok (.iload_n 1, 1) := by decide +kernel
theorem dX11_letterOf_6 : decode cX11_letterOf 6 = .ok (.bipush 97, 2) := by decide +kernel
theorem dX11_letterOf_8 : decode cX11_letterOf 8 = .ok (.isub, 1) := by decide +kernel
theorem dX11_letterOf_9 : decode cX11_letterOf 9 = .ok (.ireturn, 1) := by decide +kernel
theorem dX12_thrown_0 : decode cX12_thrown 0 = .ok (.aload_n 0, 1) := by decide +kernel
theorem dX12_thrown_1 : decode cX12_thrown 1 = .ok (.getfield 1, 3) := by decide +kernel
theorem dX12_thrown_4 : decode cX12_thrown 4 = .ok (.ireturn, 1) := by decide +kernel
theorem dX12_in_0 : decode cX12_in 0 = .ok (.iload_n 0, 1) := by decide +kernel
theorem dX12_in_1 : decode cX12_in 1 = .ok (.iload_n 1, 1) := by decide +kernel
theorem dX12_in_2 : decode cX12_in 2 = .ok (.if_icmp .lt 12, 3) := by decide +kernel
theorem dX12_in_5 : decode cX12_in 5 = .ok (.iload_n 0, 1) := by decide +kernel
theorem dX12_in_6 : decode cX12_in 6 = .ok (.iload_n 2, 1) := by decide +kernel
theorem dX12_in_7 : decode cX12_in 7 = .ok (.if_icmp .gt 7, 3) := by decide +kernel
theorem dX12_in_10 : decode cX12_in 10 = .ok (.iconst 1, 1) := by decide +kernel
theorem dX12_in_11 : decode cX12_in 11 = .ok (.goto 4, 3) := by decide +kernel
theorem dX12_in_14 : decode cX12_in 14 = .ok (.iconst 0, 1) := by decide +kernel
theorem dX12_in_15 : decode cX12_in 15 = .ok (.ireturn, 1) := by decide +kernel
theorem dX12_refused_0 : decode cX12_refused 0 = .ok (.aload_n 0, 1) := by decide +kernel
theorem dX12_refused_1 : decode cX12_refused 1 = .ok (.iload_n 1, 1) := by decide +kernel
theorem dX12_refused_2 : decode cX12_refused 2 = .ok (.ifCond .eq 7, 3) := by decide +kernel
theorem dX12_refused_5 : decode cX12_refused 5 = .ok (.iconst 1, 1) := by decide +kernel
theorem dX12_refused_6 : decode cX12_refused 6 = .ok (.goto 20, 3) := by decide +kernel
theorem dX12_refused_9 : decode cX12_refused 9 = .ok (.iload_n 2, 1) := by decide +kernel
theorem dX12_refused_10 : decode cX12_refused 10 = .ok (.ifCond .eq 7, 3) := by decide +kernel
theorem dX12_refused_13 : decode cX12_refused 13 = .ok (.iconst 2, 1) := by decide +kernel
theorem dX12_refused_14 : decode cX12_refused 14 = .ok (.goto 12, 3) := by decide +kernel
theorem dX12_refused_17 : decode cX12_refused 17 = .ok (.iload_n 3, 1) := by decide +kernel
theorem dX12_refused_18 : decode cX12_refused 18 = .ok (.ifCond .eq 7, 3) := by decide +kernel
theorem dX12_refused_21 : decode cX12_refused 21 = .ok (.iconst 3, 1) := by decide +kernel
theorem dX12_refused_22 : decode cX12_refused 22 = .ok (.goto 4, 3) := by decide +kernel
theorem dX12_refused_25 : decode cX12_refused 25 = .ok (.iconst 0, 1) := by decide +kernel
theorem dX12_refused_26 : decode cX12_refused 26 = .ok (.putfield 1, 3) := by decide +kernel
theorem dX12_refused_29 : decode cX12_refused 29 = .ok (.aload_n 0, 1) := by decide +kernel
theorem dX12_refused_30 : decode cX12_refused 30 = .ok (.getfield 1, 3) := by decide +kernel
theorem dX12_refused_33 : decode cX12_refused 33 = .ok (.ifCond .eq 7, 3) := by decide +kernel
theorem dX12_refused_36 : decode cX12_refused 36 = .ok (.iconst 1, 1) := by decide +kernel
theorem dX12_refused_37 : decode cX12_refused 37 = .ok (.goto 4, 3) := by decide +kernel
theorem dX12_refused_40 : decode cX12_refused 40 = .ok (.iconst 0, 1) := by decide +kernel
theorem dX12_refused_41 : decode cX12_refused 41 = .ok (.ireturn, 1) := by decide +kernel
theorem dX12_trim_0 : decode cX12_trim 0 = .ok (.aload_n 0, 1) := by decide +kernel
theorem dX12_trim_1 : decode cX12_trim 1 = .ok (.getfield 7, 3) := by decide +kernel
theorem dX12_trim_4 : decode cX12_trim 4 = .ok (.iload_n 1, 1) := by decide +kernel
theorem dX12_trim_5 : decode cX12_trim 5 = .ok (.iaload, 1) := by decide +kernel
theorem dX12_trim_6 : decode cX12_trim 6 = .ok (.ifCond .le 38, 3) := by decide +kernel
theorem dX12_trim_9 : decode cX12_trim 9 = .ok (.aload_n 0, 1) := by decide +kernel
theorem dX12_trim_10 : decode cX12_trim 10 = .ok (.getfield 11, 3) := by decide +kernel
theorem dX12_trim_13 : decode cX12_trim 13 = .ok (.sipush 440, 3) := by decide +kernel
theorem dX12_trim_16 : decode cX12_trim 16 = .ok (.iload_n 1, 1) := by decide +kernel
theorem dX12_trim_17 : decode cX12_trim 17 = .ok (.imul, 1) := by decide +kernel
theorem dX12_trim_18 : decode cX12_trim 18 = .ok (.aload_n 0, 1) := by decide +kernel
theorem dX12_trim_19 : decode cX12_trim 19 = .ok (.getfield 7, 3) := by decide +kernel
theorem dX12_trim_22 : decode cX12_trim 22 = .ok (.iload_n 1, 1) := by decide +kernel
theorem dX12_trim_23 : decode cX12_trim 23 = .ok (.iaload, 1) := by decide +kernel
theorem dX12_trim_24 : decode cX12_trim 24 = .ok (.iadd, 1) := by decide +kernel
theorem dX12_trim_25 : decode cX12_trim 25 = .ok (.iconst 1, 1) := by decide +kernel
theorem dX12_trim_26 : decode cX12_trim 26 = .ok (.isub, 1) := by decide +kernel
theorem dX12_trim_27 : decode cX12_trim 27 = .ok (.iaload, 1) := by decide +kernel
theorem dX12_trim_28 : decode cX12_trim 28 = .ok (.ifCond .ne 16, 3) := by decide +kernel
theorem dX12_trim_31 : decode cX12_trim 31 = .ok (.aload_n 0, 1) := by decide +kernel
theorem dX12_trim_32 : decode cX12_trim 32 = .ok (.getfield 7, 3) := by decide +kernel
theorem dX12_trim_35 : decode cX12_trim 35 = .ok (.iload_n 1, 1) := by decide +kernel
theorem dX12_trim_36 : decode cX12_trim 36 = .ok (.dup2, 1) := by decide +kernel
theorem dX12_trim_37 : decode cX12_trim 37 = .ok (.iaload, 1) := by decide +kernel
theorem dX12_trim_38 : decode cX12_trim 38 = .ok (.iconst 1, 1) := by decide +kernel
theorem dX12_trim_39 : decode cX12_trim 39 = .ok (.isub, 1) := by decide +kernel
theorem dX12_trim_40 : decode cX12_trim 40 = .ok (.iastore, 1) := by decide +kernel
theorem dX12_trim_41 : decode cX12_trim 41 = .ok (.goto (-41), 3) := by decide +kernel
theorem dX12_trim_44 : decode cX12_trim 44 = .ok (.return_, 1) := by decide +kernel
theorem dX12_put_0 : decode cX12_put 0 = .ok (.aload_n 0, 1) := by decide +kernel
theorem dX12_put_1 : decode cX12_put 1 = .ok (.getfield 11, 3) := by decide +kernel
theorem dX12_put_4 : decode cX12_put 4 = .ok (.sipush 440, 3) := by decide +kernel
theorem dX12_put_7 : decode cX12_put 7 = .ok (.iload_n 1, 1) := by decide +kernel
theorem dX12_put_8 : decode cX12_put 8 = .ok (.imul, 1) := by decide +kernel
theorem dX12_put_9 : decode cX12_put 9 = .ok (.iload_n 2, 1) := by decide +kernel
theorem dX12_put_10 : decode cX12_put 10 = .ok (.ldc 14, 2) := by decide +kernel
theorem dX12_put_12 : decode cX12_put 12 = .ok (.iand, 1) := by decide +kernel
theorem dX12_put_13 : decode cX12_put 13 = .ok (.iastore, 1) := by decide +kernel
theorem dX12_put_14 : decode cX12_put 14 = .ok (.aload_n 0, 1) := by decide +kernel
theorem dX12_put_15 : decode cX12_put 15 = .ok (.getfield 11, 3) := by decide +kernel
theorem dX12_put_18 : decode cX12_put 18 = .ok (.sipush 440, 3) := by decide +kernel
theorem dX12_put_21 : decode cX12_put 21 = .ok (.iload_n 1, 1) := by decide +kernel
theorem dX12_put_22 : decode cX12_put 22 = .ok (.imul, 1) := by decide +kernel
theorem dX12_put_23 : decode cX12_put 23 = .ok (.iconst 1, 1) := by decide +kernel
theorem dX12_put_24 : decode cX12_put 24 = .ok (.iadd, 1) := by decide +kernel
theorem dX12_put_25 : decode cX12_put 25 = .ok (.iload_n 2, 1) := by decide +kernel
theorem dX12_put_26 : decode cX12_put 26 = .ok (.bipush 16, 2) := by decide +kernel
theorem dX12_put_28 : decode cX12_put 28 = .ok (.iushr, 1) := by decide +kernel
theorem dX12_put_29 : decode cX12_put 29 = .ok (.iastore, 1) := by decide +kernel
theorem dX12_put_30 : decode cX12_put 30 = .ok (.aload_n 0, 1) := by decide +kernel
theorem dX12_put_31 : decode cX12_put 31 = .ok (.getfield 7, 3) := by decide +kernel
theorem dX12_put_34 : decode cX12_put 34 = .ok (.iload_n 1, 1) := by decide +kernel
theorem dX12_put_35 : decode cX12_put 35 = .ok (.iconst 2, 1) := by decide +kernel
theorem dX12_put_36 : decode cX12_put 36 = .ok (.iastore, 1) := by decide +kernel
theorem dX12_put_37 : decode cX12_put 37 = .ok (.aload_n 0, 1) := by decide +kernel
theorem dX12_put_38 : decode cX12_put 38 = .ok (.iload_n 1, 1) := by decide +kernel
theorem dX12_put_39 : decode cX12_put 39 = .ok (.invokevirtual 15, 3) := by decide +kernel
theorem dX12_put_42 : decode cX12_put 42 = .ok (.return_, 1) := by decide +kernel
theorem dX12_copy_0 : decode cX12_copy 0 = .ok (.iconst 0, 1) := by decide +kernel
theorem dX12_copy_1 : decode cX12_copy 1 = .ok (.istore_n 3, 1) := by decide +kernel
theorem dX12_copy_2 : decode cX12_copy 2 = .ok (.iload_n 3, 1) := by decide +kernel
theorem dX12_copy_3 : decode cX12_copy 3 = .ok (.aload_n 0, 1) := by decide +kernel
theorem dX12_copy_4 : decode cX12_copy 4 = .ok (.getfield 7, 3) := by decide +kernel
theorem dX12_copy_7 : decode cX12_copy 7 = .ok (.iload_n 2, 1) := by decide +kernel
theorem dX12_copy_8 : decode cX12_copy 8 = .ok (.iaload, 1) := by decide +kernel
theorem dX12_copy_9 : decode cX12_copy 9 = .ok (.if_icmp .ge 33, 3) := by decide +kernel
theorem dX12_copy_12 : decode cX12_copy 12 = .ok (.aload_n 0, 1) := by decide +kernel
theorem dX12_copy_13 : decode cX12_copy 13 = .ok (.getfield 11, 3) := by decide +kernel
theorem dX12_copy_16 : decode cX12_copy 16 = .ok (.sipush 440, 3) := by decide +kernel
theorem dX12_copy_19 : decode cX12_copy 19 = .ok (.iload_n 1, 1) := by decide +kernel
theorem dX12_copy_20 : decode cX12_copy 20 = .ok (.imul, 1) := by decide +kernel
theorem dX12_copy_21 : decode cX12_copy 21 = .ok (.iload_n 3, 1) := by decide +kernel
theorem dX12_copy_22 : decode cX12_copy 22 = .ok (.iadd, 1) := by decide +kernel
theorem dX12_copy_23 : decode cX12_copy 23 = .ok (.aload_n 0, 1) := by decide +kernel
theorem dX12_copy_24 : decode cX12_copy 24 = .ok (.getfield 11, 3) := by decide +kernel
theorem dX12_copy_27 : decode cX12_copy 27 = .ok (.sipush 440, 3) := by decide +kernel
theorem dX12_copy_30 : decode cX12_copy 30 = .ok (.iload_n 2, 1) := by decide +kernel
theorem dX12_copy_31 : decode cX12_copy 31 = .ok (.imul, 1) := by decide +kernel
theorem dX12_copy_32 : decode cX12_copy 32 = .ok (.iload_n 3, 1) := by decide +kernel
theorem dX12_copy_33 : decode cX12_copy 33 = .ok (.iadd, 1) := by decide +kernel
theorem dX12_copy_34 : decode cX12_copy 34 = .ok (.iaload, 1) := by decide +kernel
theorem dX12_copy_35 : decode cX12_copy 35 = .ok (.iastore, 1) := by decide +kernel
theorem dX12_copy_36 : decode cX12_copy 36 = .ok (.iinc 3 1, 3) := by decide +kernel
theorem dX12_copy_39 : decode cX12_copy 39 = .ok (.goto (-37), 3) := by decide +kernel
theorem dX12_copy_42 : decode cX12_copy 42 = .ok (.aload_n 0, 1) := by decide +kernel
theorem dX12_copy_43 : decode cX12_copy 43 = .ok (.getfield 7, 3) := by decide +kernel
theorem dX12_copy_46 : decode cX12_copy 46 = .ok (.iload_n 1, 1) := by decide +kernel
theorem dX12_copy_47 : decode cX12_copy 47 = .ok (.aload_n 0, 1) := by decide +kernel
theorem dX12_copy_48 : decode cX12_copy 48 = .ok (.getfield 7, 3) := by decide +kernel
theorem dX12_copy_51 : decode cX12_copy 51 = .ok (.iload_n 2, 1) := by decide +kernel
theorem dX12_copy_52 : decode cX12_copy 52 = .ok (.iaload, 1) := by decide +kernel
theorem dX12_copy_53 : decode cX12_copy 53 = .ok (.iastore, 1) := by decide +kernel
theorem dX12_copy_54 : decode cX12_copy 54 = .ok (.return_, 1) := by decide +kernel
theorem dX12_compare_0 : decode cX12_compare 0 = .ok (.aload_n 0, 1) := by decide +kernel
theorem dX12_compare_1 : decode cX12_compare 1 = .ok (.getfield 7, 3) := by decide +kernel
theorem dX12_compare_4 : decode cX12_compare 4 = .ok (.iload_n 1, 1) := by decide +kernel
theorem dX12_compare_5 : decode cX12_compare 5 = .ok (.iaload, 1) := by decide +kernel
theorem dX12_compare_6 : decode cX12_compare 6 = .ok (.aload_n 0, 1) := by decide +kernel
theorem dX12_compare_7 : decode cX12_compare 7 = .ok (.getfield 7, 3) := by decide +kernel
theorem dX12_compare_10 : decode cX12_compare 10 = .ok (.iload_n 2, 1) := by decide +kernel
theorem dX12_compare_11 : decode cX12_compare 11 = .ok (.iaload, 1) := by decide +kernel
theorem dX12_compare_12 : decode cX12_compare 12 = .ok (.if_icmp .eq 24, 3) := by decide +kernel
theorem dX12_compare_15 : decode cX12_compare 15 = .ok (.aload_n 0, 1) := by decide +kernel
theorem dX12_compare_16 : decode cX12_compare 16 = .ok (.getfield 7, 3) := by decide +kernel
theorem dX12_compare_19 : decode cX12_compare 19 = .ok (.iload_n 1, 1) := by decide +kernel
theorem dX12_compare_20 : decode cX12_compare 20 = .ok (.iaload, 1) := by decide +kernel
theorem dX12_compare_21 : decode cX12_compare 21 = .ok (.aload_n 0, 1) := by decide +kernel
theorem dX12_compare_22 : decode cX12_compare 22 = .ok (.getfield 7, 3) := by decide +kernel
theorem dX12_compare_25 : decode cX12_compare 25 = .ok (.iload_n 2, 1) := by decide +kernel
theorem dX12_compare_26 : decode cX12_compare 26 = .ok (.iaload, 1) := by decide +kernel
theorem dX12_compare_27 : decode cX12_compare 27 = .ok (.if_icmp .ge 7, 3) := by decide +kernel
theorem dX12_compare_30 : decode cX12_compare 30 = .ok (.iconst (-1), 1) := by decide +kernel
theorem dX12_compare_31 : decode cX12_compare 31 = .ok (.goto 4, 3) := by decide +kernel
theorem dX12_compare_34 : decode cX12_compare 34 = .ok (.iconst 1, 1) := by decide +kernel
theorem dX12_compare_35 : decode cX12_compare 35 = .ok (.ireturn, 1) := by decide +kernel
theorem dX12_compare_36 : decode cX12_compare 36 = .ok (.iconst 0, 1) := by decide +kernel
theorem dX12_compare_37 : decode cX12_compare 37 = .ok (.istore_n 3, 1) := by decide +kernel
theorem dX12_compare_38 : decode cX12_compare 38 = .ok (.aload_n 0, 1) := by decide +kernel
theorem dX12_compare_39 : decode cX12_compare 39 = .ok (.getfield 7, 3) := by decide +kernel
theorem dX12_compare_42 : decode cX12_compare 42 = .ok (.iload_n 1, 1) := by decide +kernel
theorem dX12_compare_43 : decode cX12_compare 43 = .ok (.iaload, 1) := by decide +kernel
theorem dX12_compare_44 : decode cX12_compare 44 = .ok (.iconst 1, 1) := by decide +kernel
theorem dX12_compare_45 : decode cX12_compare 45 = .ok (.isub, 1) := by decide +kernel
theorem dX12_compare_46 : decode cX12_compare 46 = .ok (.istore 4, 2) := by decide +kernel
theorem dX12_compare_48 : decode cX12_compare 48 = .ok (.iload 4, 2) := by decide +kernel
theorem dX12_compare_50 : decode cX12_compare 50 = .ok (.ifCond .lt 41, 3) := by decide +kernel
theorem dX12_compare_53 : decode cX12_compare 53 = .ok (.iload_n 3, 1) := by decide +kernel
theorem dX12_compare_54 : decode cX12_compare 54 = .ok (.ifCond .ne 37, 3) := by decide +kernel
theorem dX12_compare_57 : decode cX12_compare 57 = .ok (.aload_n 0, 1) := by decide +kernel
theorem dX12_compare_58 : decode cX12_compare 58 = .ok (.getfield 11, 3) := by decide +kernel
theorem dX12_compare_61 : decode cX12_compare 61 = .ok (.sipush 440, 3) := by decide +kernel
theorem dX12_compare_64 : decode cX12_compare 64 = .ok (.iload_n 1, 1) := by decide +kernel
theorem dX12_compare_65 : decode cX12_compare 65 = .ok (.imul, 1) := by decide +kernel
theorem dX12_compare_66 : decode cX12_compare 66 = .ok (.iload 4, 2) := by decide +kernel
theorem dX12_compare_68 : decode cX12_compare 68 = .ok (.iadd, 1) := by decide +kernel
theorem dX12_compare_69 : decode cX12_compare 69 = .ok (.iaload, 1) := by decide +kernel
theorem dX12_compare_70 : decode cX12_compare 70 = .ok (.aload_n 0, 1) := by decide +kernel
theorem dX12_compare_71 : decode cX12_compare 71 = .ok (.getfield 11, 3) := by decide +kernel
theorem dX12_compare_74 : decode cX12_compare 74 = .ok (.sipush 440, 3) := by decide +kernel
theorem dX12_compare_77 : decode cX12_compare 77 = .ok (.iload_n 2, 1) := by decide +kernel
theorem dX12_compare_78 : decode cX12_compare 78 = .ok (.imul, 1) := by decide +kernel
theorem dX12_compare_79 : decode cX12_compare 79 = .ok (.iload 4, 2) := by decide +kernel
theorem dX12_compare_81 : decode cX12_compare 81 = .ok (.iadd, 1) := by decide +kernel
theorem dX12_compare_82 : decode cX12_compare 82 = .ok (.iaload, 1) := by decide +kernel
theorem dX12_compare_83 : decode cX12_compare 83 = .ok (.isub, 1) := by decide +kernel
theorem dX12_compare_84 : decode cX12_compare 84 = .ok (.istore_n 3, 1) := by decide +kernel
theorem dX12_compare_85 : decode cX12_compare 85 = .ok (.iinc 4 (-1), 3) := by decide +kernel
theorem dX12_compare_88 : decode cX12_compare 88 = .ok (.goto (-40), 3) := by decide +kernel
theorem dX12_compare_91 : decode cX12_compare 91 = .ok (.iload_n 3, 1) := by decide +kernel
theorem dX12_compare_92 : decode cX12_compare 92 = .ok (.ireturn, 1) := by decide +kernel
theorem dX12_plus_0 : decode cX12_plus 0 = .ok (.iconst 0, 1) := by decide +kernel
theorem dX12_plus_1 : decode cX12_plus 1 = .ok (.istore_n 3, 1) := by decide +kernel
theorem dX12_plus_2 : decode cX12_plus 2 = .ok (.aload_n 0, 1) := by decide +kernel
theorem dX12_plus_3 : decode cX12_plus 3 = .ok (.getfield 7, 3) := by decide +kernel
theorem dX12_plus_6 : decode cX12_plus 6 = .ok (.iload_n 1, 1) := by decide +kernel
theorem dX12_plus_7 : decode cX12_plus 7 = .ok (.iaload, 1) := by decide +kernel
theorem dX12_plus_8 : decode cX12_plus 8 = .ok (.aload_n 0, 1) := by decide +kernel
theorem dX12_plus_9 : decode cX12_plus 9 = .ok (.getfield 7, 3) := by decide +kernel
theorem dX12_plus_12 : decode cX12_plus 12 = .ok (.iload_n 2, 1) := by decide +kernel
theorem dX12_plus_13 : decode cX12_plus 13 = .ok (.iaload, 1) := by decide +kernel
theorem dX12_plus_14 : decode cX12_plus 14 = .ok (.if_icmp .le 12, 3) := by decide +kernel
theorem dX12_plus_17 : decode cX12_plus 17 = .ok (.aload_n 0, 1) := by decide +kernel
theorem dX12_plus_18 : decode cX12_plus 18 = .ok (.getfield 7, 3) := by decide +kernel
theorem dX12_plus_21 : decode cX12_plus 21 = .ok (.iload_n 1, 1) := by decide +kernel
theorem dX12_plus_22 : decode cX12_plus 22 = .ok (.iaload, 1) := by decide +kernel
theorem dX12_plus_23 : decode cX12_plus 23 = .ok (.goto 9, 3) := by decide +kernel
theorem dX12_plus_26 : decode cX12_plus 26 = .ok (.aload_n 0, 1) := by decide +kernel
theorem dX12_plus_27 : decode cX12_plus 27 = .ok (.getfield 7, 3) := by decide +kernel
theorem dX12_plus_30 : decode cX12_plus 30 = .ok (.iload_n 2, 1) := by decide +kernel
theorem dX12_plus_31 : decode cX12_plus 31 = .ok (.iaload, 1) := by decide +kernel
theorem dX12_plus_32 : decode cX12_plus 32 = .ok (.istore 4, 2) := by decide +kernel
theorem dX12_plus_34 : decode cX12_plus 34 = .ok (.iconst 0, 1) := by decide +kernel
theorem dX12_plus_35 : decode cX12_plus 35 = .ok (.istore 5, 2) := by decide +kernel
theorem dX12_plus_37 : decode cX12_plus 37 = .ok (.iload 5, 2) := by decide +kernel
theorem dX12_plus_39 : decode cX12_plus 39 = .ok (.iload 4, 2) := by decide +kernel
theorem dX12_plus_41 : decode cX12_plus 41 = .ok (.if_icmp .lt 7, 3) := by decide +kernel
theorem dX12_plus_44 : decode cX12_plus 44 = .ok (.iload_n 3, 1) := by decide +kernel
theorem dX12_plus_45 : decode cX12_plus 45 = .ok (.ifCond .le 114, 3) := by decide +kernel
theorem dX12_plus_48 : decode cX12_plus 48 = .ok (.iload_n 3, 1) := by decide +kernel
theorem dX12_plus_49 : decode cX12_plus 49 = .ok (.iload 5, 2) := by decide +kernel
theorem dX12_plus_51 : decode cX12_plus 51 = .ok (.aload_n 0, 1) := by decide +kernel
theorem dX12_plus_52 : decode cX12_plus 52 = .ok (.getfield 7, 3) := by decide +kernel
theorem dX12_plus_55 : decode cX12_plus 55 = .ok (.iload_n 1, 1) := by decide +kernel
theorem dX12_plus_56 : decode cX12_plus 56 = .ok (.iaload, 1) := by decide +kernel
theorem dX12_plus_57 : decode cX12_plus 57 = .ok (.if_icmp .ge 19, 3) := by decide +kernel
theorem dX12_plus_60 : decode cX12_plus 60 = .ok (.aload_n 0, 1) := by decide +kernel
theorem dX12_plus_61 : decode cX12_plus 61 = .ok (.getfield 11, 3) := by decide +kernel
theorem dX12_plus_64 : decode cX12_plus 64 = .ok (.sipush 440, 3) := by decide +kernel
theorem dX12_plus_67 : decode cX12_plus 67 = .ok (.iload_n 1, 1) := by decide +kernel
theorem dX12_plus_68 : decode cX12_plus 68 = .ok (.imul, 1) := by decide +kernel
theorem dX12_plus_69 : decode cX12_plus 69 = .ok (.iload 5, 2) := by decide +kernel
theorem dX12_plus_71 : decode cX12_plus 71 = .ok (.iadd, 1) := by decide +kernel
theorem dX12_plus_72 : decode cX12_plus 72 = .ok (.iaload, 1) := by decide +kernel
theorem dX12_plus_73 : decode cX12_plus 73 = .ok (.goto 4, 3) := by decide +kernel
theorem dX12_plus_76 : decode cX12_plus 76 = .ok (.iconst 0, 1) := by decide +kernel
theorem dX12_plus_77 : decode cX12_plus 77 = .ok (.iadd, 1) := by decide +kernel
theorem dX12_plus_78 : decode cX12_plus 78 = .ok (.iload 5, 2) := by decide +kernel
theorem dX12_plus_80 : decode cX12_plus 80 = .ok (.aload_n 0, 1) := by decide +kernel
theorem dX12_plus_81 : decode cX12_plus 81 = .ok (.getfield 7, 3) := by decide +kernel
theorem dX12_plus_84 : decode cX12_plus 84 = .ok (.iload_n 2, 1) := by decide +kernel
theorem dX12_plus_85 : decode cX12_plus 85 = .ok (.iaload, 1) := by decide +kernel
theorem dX12_plus_86 : decode cX12_plus 86 = .ok (.if_icmp .ge 19, 3) := by decide +kernel
theorem dX12_plus_89 : decode cX12_plus 89 = .ok (.aload_n 0, 1) := by decide +kernel
theorem dX12_plus_90 : decode cX12_plus 90 = .ok (.getfield 11, 3) := by decide +kernel
theorem dX12_plus_93 : decode cX12_plus 93 = .ok (.sipush 440, 3) := by decide +kernel
theorem dX12_plus_96 : decode cX12_plus 96 = .ok (.iload_n 2, 1) := by decide +kernel
theorem dX12_plus_97 : decode cX12_plus 97 = .ok (.imul, 1) := by decide +kernel
theorem dX12_plus_98 : decode cX12_plus 98 = .ok (.iload 5, 2) := by decide +kernel
theorem dX12_plus_100 : decode cX12_plus 100 = .ok (.iadd, 1) := by decide +kernel
theorem dX12_plus_101 : decode cX12_plus 101 = .ok (.iaload, 1) := by decide +kernel
theorem dX12_plus_102 : decode cX12_plus 102 = .ok (.goto 4, 3) := by decide +kernel
theorem dX12_plus_105 : decode cX12_plus 105 = .ok (.iconst 0, 1) := by decide +kernel
theorem dX12_plus_106 : decode cX12_plus 106 = .ok (.iadd, 1) := by decide +kernel
theorem dX12_plus_107 : decode cX12_plus 107 = .ok (.istore 6, 2) := by decide +kernel
theorem dX12_plus_109 : decode cX12_plus 109 = .ok (.aload_n 0, 1) := by decide +kernel
theorem dX12_plus_110 : decode cX12_plus 110 = .ok (.getfield 11, 3) := by decide +kernel
theorem dX12_plus_113 : decode cX12_plus 113 = .ok (.sipush 440, 3) := by decide +kernel
theorem dX12_plus_116 : decode cX12_plus 116 = .ok (.iload_n 1, 1) := by decide +kernel
theorem dX12_plus_117 : decode cX12_plus 117 = .ok (.imul, 1) := by decide +kernel
theorem dX12_plus_118 : decode cX12_plus 118 = .ok (.iload 5, 2) := by decide +kernel
theorem dX12_plus_120 : decode cX12_plus 120 = .ok (.iadd, 1) := by decide +kernel
theorem dX12_plus_121 : decode cX12_plus 121 = .ok (.iload 6, 2) := by decide +kernel
theorem dX12_plus_123 : decode cX12_plus 123 = .ok (.ldc 14, 2) := by decide +kernel
theorem dX12_plus_125 : decode cX12_plus 125 = .ok (.iand, 1) := by decide +kernel
theorem dX12_plus_126 : decode cX12_plus 126 = .ok (.iastore, 1) := by decide +kernel
theorem dX12_plus_127 : decode cX12_plus 127 = .ok (.iload 6, 2) := by decide +kernel
theorem dX12_plus_129 : decode cX12_plus 129 = .ok (.bipush 16, 2) := by decide +kernel
theorem dX12_plus_131 : decode cX12_plus 131 = .ok (.ishr, 1) := by decide +kernel
theorem dX12_plus_132 : decode cX12_plus 132 = .ok (.istore_n 3, 1) := by decide +kernel
theorem dX12_plus_133 : decode cX12_plus 133 = .ok (.iload 5, 2) := by decide +kernel
theorem dX12_plus_135 : decode cX12_plus 135 = .ok (.iconst 1, 1) := by decide +kernel
theorem dX12_plus_136 : decode cX12_plus 136 = .ok (.iadd, 1) := by decide +kernel
theorem dX12_plus_137 : decode cX12_plus 137 = .ok (.iload 4, 2) := by decide +kernel
theorem dX12_plus_139 : decode cX12_plus 139 = .ok (.if_icmp .le 10, 3) := by decide +kernel
theorem dX12_plus_142 : decode cX12_plus 142 = .ok (.iload 5, 2) := by decide +kernel
theorem dX12_plus_144 : decode cX12_plus 144 = .ok (.iconst 1, 1) := by decide +kernel
theorem dX12_plus_145 : decode cX12_plus 145 = .ok (.iadd, 1) := by decide +kernel
theorem dX12_plus_146 : decode cX12_plus 146 = .ok (.goto 5, 3) := by decide +kernel
theorem dX12_plus_149 : decode cX12_plus 149 = .ok (.iload 4, 2) := by decide +kernel
theorem dX12_plus_151 : decode cX12_plus 151 = .ok (.istore 4, 2) := by decide +kernel
theorem dX12_plus_153 : decode cX12_plus 153 = .ok (.iinc 5 1, 3) := by decide +kernel
theorem dX12_plus_156 : decode cX12_plus 156 = .ok (.goto (-119), 3) := by decide +kernel
theorem dX12_plus_159 : decode cX12_plus 159 = .ok (.aload_n 0, 1) := by decide +kernel
theorem dX12_plus_160 : decode cX12_plus 160 = .ok (.getfield 7, 3) := by decide +kernel
theorem dX12_plus_163 : decode cX12_plus 163 = .ok (.iload_n 1, 1) := by decide +kernel
theorem dX12_plus_164 : decode cX12_plus 164 = .ok (.iload 4, 2) := by decide +kernel
theorem dX12_plus_166 : decode cX12_plus 166 = .ok (.iastore, 1) := by decide +kernel
theorem dX12_plus_167 : decode cX12_plus 167 = .ok (.return_, 1) := by decide +kernel
theorem dX12_minus_0 : decode cX12_minus 0 = .ok (.iconst 0, 1) := by decide +kernel
theorem dX12_minus_1 : decode cX12_minus 1 = .ok (.istore_n 3, 1) := by decide +kernel
theorem dX12_minus_2 : decode cX12_minus 2 = .ok (.iconst 0, 1) := by decide +kernel
theorem dX12_minus_3 : decode cX12_minus 3 = .ok (.istore 4, 2) := by decide +kernel
theorem dX12_minus_5 : decode cX12_minus 5 = .ok (.iload 4, 2) := by decide +kernel
theorem dX12_minus_7 : decode cX12_minus 7 = .ok (.aload_n 0, 1) := by decide +kernel
theorem dX12_minus_8 : decode cX12_minus 8 = .ok (.getfield 7, 3) := by decide +kernel
theorem dX12_minus_11 : decode cX12_minus 11 = .ok (.iload_n 1, 1) := by decide +kernel
theorem dX12_minus_12 : decode cX12_minus 12 = .ok (.iaload, 1) := by decide +kernel
theorem dX12_minus_13 : decode cX12_minus 13 = .ok (.if_icmp .ge 84, 3) := by decide +kernel
theorem dX12_minus_16 : decode cX12_minus 16 = .ok (.aload_n 0, 1) := by decide +kernel
theorem dX12_minus_17 : decode cX12_minus 17 = .ok (.getfield 11, 3) := by decide +kernel
theorem dX12_minus_20 : decode cX12_minus 20 = .ok (.sipush 440, 3) := by decide +kernel
theorem dX12_minus_23 : decode cX12_minus 23 = .ok (.iload_n 1, 1) := by decide +kernel
theorem dX12_minus_24 : decode cX12_minus 24 = .ok (.imul, 1) := by decide +kernel
theorem dX12_minus_25 : decode cX12_minus 25 = .ok (.iload 4, 2) := by decide +kernel
theorem dX12_minus_27 : decode cX12_minus 27 = .ok (.iadd, 1) := by decide +kernel
theorem dX12_minus_28 : decode cX12_minus 28 = .ok (.iaload, 1) := by decide +kernel
theorem dX12_minus_29 : decode cX12_minus 29 = .ok (.iload_n 3, 1) := by decide +kernel
theorem dX12_minus_30 : decode cX12_minus 30 = .ok (.isub, 1) := by decide +kernel
theorem dX12_minus_31 : decode cX12_minus 31 = .ok (.iload 4, 2) := by decide +kernel
theorem dX12_minus_33 : decode cX12_minus 33 = .ok (.aload_n 0, 1) := by decide +kernel
theorem dX12_minus_34 : decode cX12_minus 34 = .ok (.getfield 7, 3) := by decide +kernel
theorem dX12_minus_37 : decode cX12_minus 37 = .ok (.iload_n 2, 1) := by decide +kernel
theorem dX12_minus_38 : decode cX12_minus 38 = .ok (.iaload, 1) := by decide +kernel
theorem dX12_minus_39 : decode cX12_minus 39 = .ok (.if_icmp .ge 19, 3) := by decide +kernel
theorem dX12_minus_42 : decode cX12_minus 42 = .ok (.aload_n 0, 1) := by decide +kernel
theorem dX12_minus_43 : decode cX12_minus 43 = .ok (.getfield 11, 3) := by decide +kernel
theorem dX12_minus_46 : decode cX12_minus 46 = .ok (.sipush 440, 3) := by decide +kernel
theorem dX12_minus_49 : decode cX12_minus 49 = .ok (.iload_n 2, 1) := by decide +kernel
theorem dX12_minus_50 : decode cX12_minus 50 = .ok (.imul, 1) := by decide +kernel
theorem dX12_minus_51 : decode cX12_minus 51 = .ok (.iload 4, 2) := by decide +kernel
theorem dX12_minus_53 : decode cX12_minus 53 = .ok (.iadd, 1) := by decide +kernel
theorem dX12_minus_54 : decode cX12_minus 54 = .ok (.iaload, 1) := by decide +kernel
theorem dX12_minus_55 : decode cX12_minus 55 = .ok (.goto 4, 3) := by decide +kernel
theorem dX12_minus_58 : decode cX12_minus 58 = .ok (.iconst 0, 1) := by decide +kernel
theorem dX12_minus_59 : decode cX12_minus 59 = .ok (.isub, 1) := by decide +kernel
theorem dX12_minus_60 : decode cX12_minus 60 = .ok (.istore 5, 2) := by decide +kernel
theorem dX12_minus_62 : decode cX12_minus 62 = .ok (.aload_n 0, 1) := by decide +kernel
theorem dX12_minus_63 : decode cX12_minus 63 = .ok (.getfield 11, 3) := by decide +kernel
theorem dX12_minus_66 : decode cX12_minus 66 = .ok (.sipush 440, 3) := by decide +kernel
theorem dX12_minus_69 : decode cX12_minus 69 = .ok (.iload_n 1, 1) := by decide +kernel
theorem dX12_minus_70 : decode cX12_minus 70 = .ok (.imul, 1) := by decide +kernel
theorem dX12_minus_71 : decode cX12_minus 71 = .ok (.iload 4, 2) := by decide +kernel
theorem dX12_minus_73 : decode cX12_minus 73 = .ok (.iadd, 1) := by decide +kernel
theorem dX12_minus_74 : decode cX12_minus 74 = .ok (.iload 5, 2) := by decide +kernel
theorem dX12_minus_76 : decode cX12_minus 76 = .ok (.ldc 14, 2) := by decide +kernel
theorem dX12_minus_78 : decode cX12_minus 78 = .ok (.iand, 1) := by decide +kernel
theorem dX12_minus_79 : decode cX12_minus 79 = .ok (.iastore, 1) := by decide +kernel
theorem dX12_minus_80 : decode cX12_minus 80 = .ok (.iload 5, 2) := by decide +kernel
theorem dX12_minus_82 : decode cX12_minus 82 = .ok (.ifCond .ge 7, 3) := by decide +kernel
theorem dX12_minus_85 : decode cX12_minus 85 = .ok (.iconst 1, 1) := by decide +kernel
theorem dX12_minus_86 : decode cX12_minus 86 = .ok (.goto 4, 3) := by decide +kernel
theorem dX12_minus_89 : decode cX12_minus 89 = .ok (.iconst 0, 1) := by decide +kernel
theorem dX12_minus_90 : decode cX12_minus 90 = .ok (.istore_n 3, 1) := by decide +kernel
theorem dX12_minus_91 : decode cX12_minus 91 = .ok (.iinc 4 1, 3) := by decide +kernel
theorem dX12_minus_94 : decode cX12_minus 94 = .ok (.goto (-89), 3) := by decide +kernel
theorem dX12_minus_97 : decode cX12_minus 97 = .ok (.aload_n 0, 1) := by decide +kernel
theorem dX12_minus_98 : decode cX12_minus 98 = .ok (.iload_n 1, 1) := by decide +kernel
theorem dX12_minus_99 : decode cX12_minus 99 = .ok (.invokevirtual 15, 3) := by decide +kernel
theorem dX12_minus_102 : decode cX12_minus 102 = .ok (.return_, 1) := by decide +kernel
theorem dX12_times_0 : decode cX12_times 0 = .ok (.aload_n 0, 1) := by decide +kernel
theorem dX12_times_1 : decode cX12_times 1 = .ok (.getfield 7, 3) := by decide +kernel
theorem dX12_times_4 : decode cX12_times 4 = .ok (.iload_n 2, 1) := by decide +kernel
theorem dX12_times_5 : decode cX12_times 5 = .ok (.iaload, 1) := by decide +kernel
theorem dX12_times_6 : decode cX12_times 6 = .ok (.aload_n 0, 1) := by decide +kernel
theorem dX12_times_7 : decode cX12_times 7 = .ok (.getfield 7, 3) := by decide +kernel
theorem dX12_times_10 : decode cX12_times 10 = .ok (.iload_n 3, 1) := by decide +kernel
theorem dX12_times_11 : decode cX12_times 11 = .ok (.iaload, 1) := by decide +kernel
theorem dX12_times_12 : decode cX12_times 12 = .ok (.iadd, 1) := by decide +kernel
theorem dX12_times_13 : decode cX12_times 13 = .ok (.istore 4, 2) := by decide +kernel
theorem dX12_times_15 : decode cX12_times 15 = .ok (.iconst 0, 1) := by decide +kernel
theorem dX12_times_16 : decode cX12_times 16 = .ok (.istore 5, 2) := by decide +kernel
theorem dX12_times_18 : decode cX12_times 18 = .ok (.iload 5, 2) := by decide +kernel
theorem dX12_times_20 : decode cX12_times 20 = .ok (.iload 4, 2) := by decide +kernel
theorem dX12_times_22 : decode cX12_times 22 = .ok (.if_icmp .ge 23, 3) := by decide +kernel
theorem dX12_times_25 : decode cX12_times 25 = .ok (.aload_n 0, 1) := by decide +kernel
theorem dX12_times_26 : decode cX12_times 26 = .ok (.getfield 11, 3) := by decide +kernel
theorem dX12_times_29 : decode cX12_times 29 = .ok (.sipush 440, 3) := by decide +kernel
theorem dX12_times_32 : decode cX12_times 32 = .ok (.iload_n 1, 1) := by decide +kernel
theorem dX12_times_33 : decode cX12_times 33 = .ok (.imul, 1) := by decide +kernel
theorem dX12_times_34 : decode cX12_times 34 = .ok (.iload 5, 2) := by decide +kernel
theorem dX12_times_36 : decode cX12_times 36 = .ok (.iadd, 1) := by decide +kernel
theorem dX12_times_37 : decode cX12_times 37 = .ok (.iconst 0, 1) := by decide +kernel
theorem dX12_times_38 : decode cX12_times 38 = .ok (.iastore, 1) := by decide +kernel
theorem dX12_times_39 : decode cX12_times 39 = .ok (.iinc 5 1, 3) := by decide +kernel
theorem dX12_times_42 : decode cX12_times 42 = .ok (.goto (-24), 3) := by decide +kernel
theorem dX12_times_45 : decode cX12_times 45 = .ok (.iconst 0, 1) := by decide +kernel
theorem dX12_times_46 : decode cX12_times 46 = .ok (.istore 5, 2) := by decide +kernel
theorem dX12_times_48 : decode cX12_times 48 = .ok (.iload 5, 2) := by decide +kernel
theorem dX12_times_50 : decode cX12_times 50 = .ok (.aload_n 0, 1) := by decide +kernel
theorem dX12_times_51 : decode cX12_times 51 = .ok (.getfield 7, 3) := by decide +kernel
theorem dX12_times_54 : decode cX12_times 54 = .ok (.iload_n 2, 1) := by decide +kernel
theorem dX12_times_55 : decode cX12_times 55 = .ok (.iaload, 1) := by decide +kernel
theorem dX12_times_56 : decode cX12_times 56 = .ok (.if_icmp .ge 141, 3) := by decide +kernel
theorem dX12_times_59 : decode cX12_times 59 = .ok (.lconst 0, 1) := by decide +kernel
theorem dX12_times_60 : decode cX12_times 60 = .ok (.lstore 6, 2) := by decide +kernel
theorem dX12_times_62 : decode cX12_times 62 = .ok (.aload_n 0, 1) := by decide +kernel
theorem dX12_times_63 : decode cX12_times 63 = .ok (.getfield 11, 3) := by decide +kernel
theorem dX12_times_66 : decode cX12_times 66 = .ok (.sipush 440, 3) := by decide +kernel
theorem dX12_times_69 : decode cX12_times 69 = .ok (.iload_n 2, 1) := by decide +kernel
theorem dX12_times_70 : decode cX12_times 70 = .ok (.imul, 1) := by decide +kernel
theorem dX12_times_71 : decode cX12_times 71 = .ok (.iload 5, 2) := by decide +kernel
theorem dX12_times_73 : decode cX12_times 73 = .ok (.iadd, 1) := by decide +kernel
theorem dX12_times_74 : decode cX12_times 74 = .ok (.iaload, 1) := by decide +kernel
theorem dX12_times_75 : decode cX12_times 75 = .ok (.i2l, 1) := by decide +kernel
theorem dX12_times_76 : decode cX12_times 76 = .ok (.lstore 8, 2) := by decide +kernel
theorem dX12_times_78 : decode cX12_times 78 = .ok (.iconst 0, 1) := by decide +kernel
theorem dX12_times_79 : decode cX12_times 79 = .ok (.istore 10, 2) := by decide +kernel
theorem dX12_times_81 : decode cX12_times 81 = .ok (.iload 10, 2) := by decide +kernel
theorem dX12_times_83 : decode cX12_times 83 = .ok (.aload_n 0, 1) := by decide +kernel
theorem dX12_times_84 : decode cX12_times 84 = .ok (.getfield 7, 3) := by decide +kernel
theorem dX12_times_87 : decode cX12_times 87 = .ok (.iload_n 3, 1) := by decide +kernel
theorem dX12_times_88 : decode cX12_times 88 = .ok (.iaload, 1) := by decide +kernel
theorem dX12_times_89 : decode cX12_times 89 = .ok (.if_icmp .ge 79, 3) := by decide +kernel
theorem dX12_times_92 : decode cX12_times 92 = .ok (.aload_n 0, 1) := by decide +kernel
theorem dX12_times_93 : decode cX12_times 93 = .ok (.getfield 11, 3) := by decide +kernel
theorem dX12_times_96 : decode cX12_times 96 = .ok (.sipush 440, 3) := by decide +kernel
theorem dX12_times_99 : decode cX12_times 99 = .ok (.iload_n 1, 1) := by decide +kernel
theorem dX12_times_100 : decode cX12_times 100 = .ok (.imul, 1) := by decide +kernel
theorem dX12_times_101 : decode cX12_times 101 = .ok (.iload 5, 2) := by decide +kernel
theorem dX12_times_103 : decode cX12_times 103 = .ok (.iadd, 1) := by decide +kernel
theorem dX12_times_104 : decode cX12_times 104 = .ok (.iload 10, 2) := by decide +kernel
theorem dX12_times_106 : decode cX12_times 106 = .ok (.iadd, 1) := by decide +kernel
theorem dX12_times_107 : decode cX12_times 107 = .ok (.iaload, 1) := by decide +kernel
theorem dX12_times_108 : decode cX12_times 108 = .ok (.i2l, 1) := by decide +kernel
theorem dX12_times_109 : decode cX12_times 109 = .ok (.lload 8, 2) := by decide +kernel
theorem dX12_times_111 : decode cX12_times 111 = .ok (.aload_n 0, 1) := by decide +kernel
theorem dX12_times_112 : decode cX12_times 112 = .ok (.getfield 11, 3) := by decide +kernel
theorem dX12_times_115 : decode cX12_times 115 = .ok (.sipush 440, 3) := by decide +kernel
theorem dX12_times_118 : decode cX12_times 118 = .ok (.iload_n 3, 1) := by decide +kernel
theorem dX12_times_119 : decode cX12_times 119 = .ok (.imul, 1) := by decide +kernel
theorem dX12_times_120 : decode cX12_times 120 = .ok (.iload 10, 2) := by decide +kernel
theorem dX12_times_122 : decode cX12_times 122 = .ok (.iadd, 1) := by decide +kernel
theorem dX12_times_123 : decode cX12_times 123 = .ok (.iaload, 1) := by decide +kernel
theorem dX12_times_124 : decode cX12_times 124 = .ok (.i2l, 1) := by decide +kernel
theorem dX12_times_125 : decode cX12_times 125 = .ok (.lmul, 1) := by decide +kernel
theorem dX12_times_126 : decode cX12_times 126 = .ok (.ladd, 1) := by decide +kernel
theorem dX12_times_127 : decode cX12_times 127 = .ok (.lload 6, 2) := by decide +kernel
theorem dX12_times_129 : decode cX12_times 129 = .ok (.ladd, 1) := by decide +kernel
theorem dX12_times_130 : decode cX12_times 130 = .ok (.lstore 11, 2) := by decide +kernel
theorem dX12_times_132 : decode cX12_times 132 = .ok (.aload_n 0, 1) := by decide +kernel
theorem dX12_times_133 : decode cX12_times 133 = .ok (.getfield 11, 3) := by decide +kernel
theorem dX12_times_136 : decode cX12_times 136 = .ok (.sipush 440, 3) := by decide +kernel
theorem dX12_times_139 : decode cX12_times 139 = .ok (.iload_n 1, 1) := by decide +kernel
theorem dX12_times_140 : decode cX12_times 140 = .ok (.imul, 1) := by decide +kernel
theorem dX12_times_141 : decode cX12_times 141 = .ok (.iload 5, 2) := by decide +kernel
theorem dX12_times_143 : decode cX12_times 143 = .ok (.iadd, 1) := by decide +kernel
theorem dX12_times_144 : decode cX12_times 144 = .ok (.iload 10, 2) := by decide +kernel
theorem dX12_times_146 : decode cX12_times 146 = .ok (.iadd, 1) := by decide +kernel
theorem dX12_times_147 : decode cX12_times 147 = .ok (.lload 11, 2) := by decide +kernel
theorem dX12_times_149 : decode cX12_times 149 = .ok (.ldc2_w 19, 3) := by decide +kernel
theorem dX12_times_152 : decode cX12_times 152 = .ok (.land, 1) := by decide +kernel
theorem dX12_times_153 : decode cX12_times 153 = .ok (.l2i, 1) := by decide +kernel
theorem dX12_times_154 : decode cX12_times 154 = .ok (.iastore, 1) := by decide +kernel
theorem dX12_times_155 : decode cX12_times 155 = .ok (.lload 11, 2) := by decide +kernel
theorem dX12_times_157 : decode cX12_times 157 = .ok (.bipush 16, 2) := by decide +kernel
theorem dX12_times_159 : decode cX12_times 159 = .ok (.lshr, 1) := by decide +kernel
theorem dX12_times_160 : decode cX12_times 160 = .ok (.lstore 6, 2) := by decide +kernel
theorem dX12_times_162 : decode cX12_times 162 = .ok (.iinc 10 1, 3) := by decide +kernel
theorem dX12_times_165 : decode cX12_times 165 = .ok (.goto (-84), 3) := by decide +kernel
theorem dX12_times_168 : decode cX12_times 168 = .ok (.aload_n 0, 1) := by decide +kernel
theorem dX12_times_169 : decode cX12_times 169 = .ok (.getfield 11, 3) := by decide +kernel
theorem dX12_times_172 : decode cX12_times 172 = .ok (.sipush 440, 3) := by decide +kernel
theorem dX12_times_175 : decode cX12_times 175 = .ok (.iload_n 1, 1) := by decide +kernel
theorem dX12_times_176 : decode cX12_times 176 = .ok (.imul, 1) := by decide +kernel
theorem dX12_times_177 : decode cX12_times 177 = .ok (.iload 5, 2) := by decide +kernel
theorem dX12_times_179 : decode cX12_times 179 = .ok (.iadd, 1) := by decide +kernel
theorem dX12_times_180 : decode cX12_times 180 = .ok (.aload_n 0, 1) := by decide +kernel
theorem dX12_times_181 : decode cX12_times 181 = .ok (.getfield 7, 3) := by decide +kernel
theorem dX12_times_184 : decode cX12_times 184 = .ok (.iload_n 3, 1) := by decide +kernel
theorem dX12_times_185 : decode cX12_times 185 = .ok (.iaload, 1) := by decide +kernel
theorem dX12_times_186 : decode cX12_times 186 = .ok (.iadd, 1) := by decide +kernel
theorem dX12_times_187 : decode cX12_times 187 = .ok (.lload 6, 2) := by decide +kernel
theorem dX12_times_189 : decode cX12_times 189 = .ok (.l2i, 1) := by decide +kernel
theorem dX12_times_190 : decode cX12_times 190 = .ok (.iastore, 1) := by decide +kernel
theorem dX12_times_191 : decode cX12_times 191 = .ok (.iinc 5 1, 3) := by decide +kernel
theorem dX12_times_194 : decode cX12_times 194 = .ok (.goto (-146), 3) := by decide +kernel
theorem dX12_times_197 : decode cX12_times 197 = .ok (.aload_n 0, 1) := by decide +kernel
theorem dX12_times_198 : decode cX12_times 198 = .ok (.getfield 7, 3) := by decide +kernel
theorem dX12_times_201 : decode cX12_times 201 = .ok (.iload_n 1, 1) := by decide +kernel
theorem dX12_times_202 : decode cX12_times 202 = .ok (.iload 4, 2) := by decide +kernel
theorem dX12_times_204 : decode cX12_times 204 = .ok (.iastore, 1) := by decide +kernel
theorem dX12_times_205 : decode cX12_times 205 = .ok (.aload_n 0, 1) := by decide +kernel
theorem dX12_times_206 : decode cX12_times 206 = .ok (.iload_n 1, 1) := by decide +kernel
theorem dX12_times_207 : decode cX12_times 207 = .ok (.invokevirtual 15, 3) := by decide +kernel
theorem dX12_times_210 : decode cX12_times 210 = .ok (.return_, 1) := by decide +kernel
theorem dX12_bits_0 : decode cX12_bits 0 = .ok (.aload_n 0, 1) := by decide +kernel
theorem dX12_bits_1 : decode cX12_bits 1 = .ok (.getfield 7, 3) := by decide +kernel
theorem dX12_bits_4 : decode cX12_bits 4 = .ok (.iload_n 1, 1) := by decide +kernel
theorem dX12_bits_5 : decode cX12_bits 5 = .ok (.iaload, 1) := by decide +kernel
theorem dX12_bits_6 : decode cX12_bits 6 = .ok (.ifCond .ne 7, 3) := by decide +kernel
theorem dX12_bits_9 : decode cX12_bits 9 = .ok (.iconst 0, 1) := by decide +kernel
theorem dX12_bits_10 : decode cX12_bits 10 = .ok (.goto 22, 3) := by decide +kernel
theorem dX12_bits_13 : decode cX12_bits 13 = .ok (.aload_n 0, 1) := by decide +kernel
theorem dX12_bits_14 : decode cX12_bits 14 = .ok (.getfield 11, 3) := by decide +kernel
theorem dX12_bits_17 : decode cX12_bits 17 = .ok (.sipush 440, 3) := by decide +kernel
theorem dX12_bits_20 : decode cX12_bits 20 = .ok (.iload_n 1, 1) := by decide +kernel
theorem dX12_bits_21 : decode cX12_bits 21 = .ok (.imul, 1) := by decide +kernel
theorem dX12_bits_22 : decode cX12_bits 22 = .ok (.aload_n 0, 1) := by decide +kernel
theorem dX12_bits_23 : decode cX12_bits 23 = .ok (.getfield 7, 3) := by decide +kernel
theorem dX12_bits_26 : decode cX12_bits 26 = .ok (.iload_n 1, 1) := by decide +kernel
theorem dX12_bits_27 : decode cX12_bits 27 = .ok (.iaload, 1) := by decide +kernel
theorem dX12_bits_28 : decode cX12_bits 28 = .ok (.iadd, 1) := by decide +kernel
theorem dX12_bits_29 : decode cX12_bits 29 = .ok (.iconst 1, 1) := by decide +kernel
theorem dX12_bits_30 : decode cX12_bits 30 = .ok (.isub, 1) := by decide +kernel
theorem dX12_bits_31 : decode cX12_bits 31 = .ok (.iaload, 1) := by decide +kernel
theorem dX12_bits_32 : decode cX12_bits 32 = .ok (.istore_n 2, 1) := by decide +kernel
theorem dX12_bits_33 : decode cX12_bits 33 = .ok (.aload_n 0, 1) := by decide +kernel
theorem dX12_bits_34 : decode cX12_bits 34 = .ok (.getfield 7, 3) := by decide +kernel
theorem dX12_bits_37 : decode cX12_bits 37 = .ok (.iload_n 1, 1) := by decide +kernel
theorem dX12_bits_38 : decode cX12_bits 38 = .ok (.iaload, 1) := by decide +kernel
theorem dX12_bits_39 : decode cX12_bits 39 = .ok (.ifCond .ne 7, 3) := by decide +kernel
theorem dX12_bits_42 : decode cX12_bits 42 = .ok (.iconst 0, 1) := by decide +kernel
theorem dX12_bits_43 : decode cX12_bits 43 = .ok (.goto 14, 3) := by decide +kernel
theorem dX12_bits_46 : decode cX12_bits 46 = .ok (.bipush 16, 2) := by decide +kernel
theorem dX12_bits_48 : decode cX12_bits 48 = .ok (.aload_n 0, 1) := by decide +kernel
theorem dX12_bits_49 : decode cX12_bits 49 = .ok (.getfield 7, 3) := by decide +kernel
theorem dX12_bits_52 : decode cX12_bits 52 = .ok (.iload_n 1, 1) := by decide +kernel
theorem dX12_bits_53 : decode cX12_bits 53 = .ok (.iaload, 1) := by decide +kernel
theorem dX12_bits_54 : decode cX12_bits 54 = .ok (.iconst 1, 1) := by decide +kernel
theorem dX12_bits_55 : decode cX12_bits 55 = .ok (.isub, 1) := by decide +kernel
theorem dX12_bits_56 : decode cX12_bits 56 = .ok (.imul, 1) := by decide +kernel
theorem dX12_bits_57 : decode cX12_bits 57 = .ok (.istore_n 3, 1) := by decide +kernel
theorem dX12_bits_58 : decode cX12_bits 58 = .ok (.iload_n 2, 1) := by decide +kernel
theorem dX12_bits_59 : decode cX12_bits 59 = .ok (.ifCond .le 13, 3) := by decide +kernel
theorem dX12_bits_62 : decode cX12_bits 62 = .ok (.iinc 3 1, 3) := by decide +kernel
theorem dX12_bits_65 : decode cX12_bits 65 = .ok (.iload_n 2, 1) := by decide +kernel
theorem dX12_bits_66 : decode cX12_bits 66 = .ok (.iconst 1, 1) := by decide +kernel
theorem dX12_bits_67 : decode cX12_bits 67 = .ok (.ishr, 1) := by decide +kernel
theorem dX12_bits_68 : decode cX12_bits 68 = .ok (.istore_n 2, 1) := by decide +kernel
theorem dX12_bits_69 : decode cX12_bits 69 = .ok (.goto (-11), 3) := by decide +kernel
theorem dX12_bits_72 : decode cX12_bits 72 = .ok (.iload_n 3, 1) := by decide +kernel
theorem dX12_bits_73 : decode cX12_bits 73 = .ok (.ireturn, 1) := by decide +kernel
theorem dX12_isBit_0 : decode cX12_isBit 0 = .ok (.iload_n 2, 1) := by decide +kernel
theorem dX12_isBit_1 : decode cX12_isBit 1 = .ok (.iconst 4, 1) := by decide +kernel
theorem dX12_isBit_2 : decode cX12_isBit 2 = .ok (.ishr, 1) := by decide +kernel
theorem dX12_isBit_3 : decode cX12_isBit 3 = .ok (.aload_n 0, 1) := by decide +kernel
theorem dX12_isBit_4 : decode cX12_isBit 4 = .ok (.getfield 7, 3) := by decide +kernel
theorem dX12_isBit_7 : decode cX12_isBit 7 = .ok (.iload_n 1, 1) := by decide +kernel
theorem dX12_isBit_8 : decode cX12_isBit 8 = .ok (.iaload, 1) := by decide +kernel
theorem dX12_isBit_9 : decode cX12_isBit 9 = .ok (.if_icmp .ge 32, 3) := by decide +kernel
theorem dX12_isBit_12 : decode cX12_isBit 12 = .ok (.aload_n 0, 1) := by decide +kernel
theorem dX12_isBit_13 : decode cX12_isBit 13 = .ok (.getfield 11, 3) := by decide +kernel
theorem dX12_isBit_16 : decode cX12_isBit 16 = .ok (.sipush 440, 3) := by decide +kernel
theorem dX12_isBit_19 : decode cX12_isBit 19 = .ok (.iload_n 1, 1) := by decide +kernel
theorem dX12_isBit_20 : decode cX12_isBit 20 = .ok (.imul, 1) := by decide +kernel
theorem dX12_isBit_21 : decode cX12_isBit 21 = .ok (.iload_n 2, 1) := by decide +kernel
theorem dX12_isBit_22 : decode cX12_isBit 22 = .ok (.iconst 4, 1) := by decide +kernel
theorem dX12_isBit_23 : decode cX12_isBit 23 = .ok (.ishr, 1) := by decide +kernel
theorem dX12_isBit_24 : decode cX12_isBit 24 = .ok (.iadd, 1) := by decide +kernel
theorem dX12_isBit_25 : decode cX12_isBit 25 = .ok (.iaload, 1) := by decide +kernel
theorem dX12_isBit_26 : decode cX12_isBit 26 = .ok (.iload_n 2, 1) := by decide +kernel
theorem dX12_isBit_27 : decode cX12_isBit 27 = .ok (.bipush 15, 2) := by decide +kernel
theorem dX12_isBit_29 : decode cX12_isBit 29 = .ok (.iand, 1) := by decide +kernel
theorem dX12_isBit_30 : decode cX12_isBit 30 = .ok (.ishr, 1) := by decide +kernel
theorem dX12_isBit_31 : decode cX12_isBit 31 = .ok (.iconst 1, 1) := by decide +kernel
theorem dX12_isBit_32 : decode cX12_isBit 32 = .ok (.iand, 1) := by decide +kernel
theorem dX12_isBit_33 : decode cX12_isBit 33 = .ok (.iconst 1, 1) := by decide +kernel
theorem dX12_isBit_34 : decode cX12_isBit 34 = .ok (.if_icmp .ne 7, 3) := by decide +kernel
theorem dX12_isBit_37 : decode cX12_isBit 37 = .ok (.iconst 1, 1) := by decide +kernel
theorem dX12_isBit_38 : decode cX12_isBit 38 = .ok (.goto 4, 3) := by decide +kernel
theorem dX12_isBit_41 : decode cX12_isBit 41 = .ok (.iconst 0, 1) := by decide +kernel
theorem dX12_isBit_42 : decode cX12_isBit 42 = .ok (.ireturn, 1) := by decide +kernel
theorem dX12_twice_0 : decode cX12_twice 0 = .ok (.iload_n 2, 1) := by decide +kernel
theorem dX12_twice_1 : decode cX12_twice 1 = .ok (.istore_n 3, 1) := by decide +kernel
theorem dX12_twice_2 : decode cX12_twice 2 = .ok (.iconst 0, 1) := by decide +kernel
theorem dX12_twice_3 : decode cX12_twice 3 = .ok (.istore 4, 2) := by decide +kernel
theorem dX12_twice_5 : decode cX12_twice 5 = .ok (.iload 4, 2) := by decide +kernel
theorem dX12_twice_7 : decode cX12_twice 7 = .ok (.aload_n 0, 1) := by decide +kernel
theorem dX12_twice_8 : decode cX12_twice 8 = .ok (.getfield 7, 3) := by decide +kernel
theorem dX12_twice_11 : decode cX12_twice 11 = .ok (.iload_n 1, 1) := by decide +kernel
theorem dX12_twice_12 : decode cX12_twice 12 = .ok (.iaload, 1) := by decide +kernel
theorem dX12_twice_13 : decode cX12_twice 13 = .ok (.if_icmp .ge 52, 3) := by decide +kernel
theorem dX12_twice_16 : decode cX12_twice 16 = .ok (.iconst 2, 1) := by decide +kernel
theorem dX12_twice_17 : decode cX12_twice 17 = .ok (.aload_n 0, 1) := by decide +kernel
theorem dX12_twice_18 : decode cX12_twice 18 = .ok (.getfield 11, 3) := by decide +kernel
theorem dX12_twice_21 : decode cX12_twice 21 = .ok (.sipush 440, 3) := by decide +kernel
theorem dX12_twice_24 : decode cX12_twice 24 = .ok (.iload_n 1, 1) := by decide +kernel
theorem dX12_twice_25 : decode cX12_twice 25 = .ok (.imul, 1) := by decide +kernel
theorem dX12_twice_26 : decode cX12_twice 26 = .ok (.iload 4, 2) := by decide +kernel
theorem dX12_twice_28 : decode cX12_twice 28 = .ok (.iadd, 1) := by decide +kernel
theorem dX12_twice_29 : decode cX12_twice 29 = .ok (.iaload, 1) := by decide +kernel
theorem dX12_twice_30 : decode cX12_twice 30 = .ok (.imul, 1) := by decide +kernel
theorem dX12_twice_31 : decode cX12_twice 31 = .ok (.iload_n 3, 1) := by decide +kernel
theorem dX12_twice_32 : decode cX12_twice 32 = .ok (.iadd, 1) := by decide +kernel
theorem dX12_twice_33 : decode cX12_twice 33 = .ok (.istore 5, 2) := by decide +kernel
theorem dX12_twice_35 : decode cX12_twice 35 = .ok (.aload_n 0, 1) := by decide +kernel
theorem dX12_twice_36 : decode cX12_twice 36 = .ok (.getfield 11, 3) := by decide +kernel
theorem dX12_twice_39 : decode cX12_twice 39 = .ok (.sipush 440, 3) := by decide +kernel
theorem dX12_twice_42 : decode cX12_twice 42 = .ok (.iload_n 1, 1) := by decide +kernel
theorem dX12_twice_43 : decode cX12_twice 43 = .ok (.imul, 1) := by decide +kernel
theorem dX12_twice_44 : decode cX12_twice 44 = .ok (.iload 4, 2) := by decide +kernel
theorem dX12_twice_46 : decode cX12_twice 46 = .ok (.iadd, 1) := by decide +kernel
theorem dX12_twice_47 : decode cX12_twice 47 = .ok (.iload 5, 2) := by decide +kernel
theorem dX12_twice_49 : decode cX12_twice 49 = .ok (.ldc 14, 2) := by decide +kernel
theorem dX12_twice_51 : decode cX12_twice 51 = .ok (.iand, 1) := by decide +kernel
theorem dX12_twice_52 : decode cX12_twice 52 = .ok (.iastore, 1) := by decide +kernel
theorem dX12_twice_53 : decode cX12_twice 53 = .ok (.iload 5, 2) := by decide +kernel
theorem dX12_twice_55 : decode cX12_twice 55 = .ok (.bipush 16, 2) := by decide +kernel
theorem dX12_twice_57 : decode cX12_twice 57 = .ok (.ishr, 1) := by decide +kernel
theorem dX12_twice_58 : decode cX12_twice 58 = .ok (.istore_n 3, 1) := by decide +kernel
theorem dX12_twice_59 : decode cX12_twice 59 = .ok (.iinc 4 1, 3) := by decide +kernel
theorem dX12_twice_62 : decode cX12_twice 62 = .ok (.goto (-57), 3) := by decide +kernel
theorem dX12_twice_65 : decode cX12_twice 65 = .ok (.iload_n 3, 1) := by decide +kernel
theorem dX12_twice_66 : decode cX12_twice 66 = .ok (.ifCond .le 31, 3) := by decide +kernel
theorem dX12_twice_69 : decode cX12_twice 69 = .ok (.aload_n 0, 1) := by decide +kernel
theorem dX12_twice_70 : decode cX12_twice 70 = .ok (.getfield 11, 3) := by decide +kernel
theorem dX12_twice_73 : decode cX12_twice 73 = .ok (.sipush 440, 3) := by decide +kernel
theorem dX12_twice_76 : decode cX12_twice 76 = .ok (.iload_n 1, 1) := by decide +kernel
theorem dX12_twice_77 : decode cX12_twice 77 = .ok (.imul, 1) := by decide +kernel
theorem dX12_twice_78 : decode cX12_twice 78 = .ok (.aload_n 0, 1) := by decide +kernel
theorem dX12_twice_79 : decode cX12_twice 79 = .ok (.getfield 7, 3) := by decide +kernel
theorem dX12_twice_82 : decode cX12_twice 82 = .ok (.iload_n 1, 1) := by decide +kernel
theorem dX12_twice_83 : decode cX12_twice 83 = .ok (.iaload, 1) := by decide +kernel
theorem dX12_twice_84 : decode cX12_twice 84 = .ok (.iadd, 1) := by decide +kernel
theorem dX12_twice_85 : decode cX12_twice 85 = .ok (.iload_n 3, 1) := by decide +kernel
theorem dX12_twice_86 : decode cX12_twice 86 = .ok (.iastore, 1) := by decide +kernel
theorem dX12_twice_87 : decode cX12_twice 87 = .ok (.aload_n 0, 1) := by decide +kernel
theorem dX12_twice_88 : decode cX12_twice 88 = .ok (.getfield 7, 3) := by decide +kernel
theorem dX12_twice_91 : decode cX12_twice 91 = .ok (.iload_n 1, 1) := by decide +kernel
theorem dX12_twice_92 : decode cX12_twice 92 = .ok (.dup2, 1) := by decide +kernel
theorem dX12_twice_93 : decode cX12_twice 93 = .ok (.iaload, 1) := by decide +kernel
theorem dX12_twice_94 : decode cX12_twice 94 = .ok (.iconst 1, 1) := by decide +kernel
theorem dX12_twice_95 : decode cX12_twice 95 = .ok (.iadd, 1) := by decide +kernel
theorem dX12_twice_96 : decode cX12_twice 96 = .ok (.iastore, 1) := by decide +kernel
theorem dX12_twice_97 : decode cX12_twice 97 = .ok (.return_, 1) := by decide +kernel
theorem dX12_divide_0 : decode cX12_divide 0 = .ok (.aload_n 0, 1) := by decide +kernel
theorem dX12_divide_1 : decode cX12_divide 1 = .ok (.getfield 7, 3) := by decide +kernel
theorem dX12_divide_4 : decode cX12_divide 4 = .ok (.iload_n 1, 1) := by decide +kernel
theorem dX12_divide_5 : decode cX12_divide 5 = .ok (.iconst 0, 1) := by decide +kernel
theorem dX12_divide_6 : decode cX12_divide 6 = .ok (.iastore, 1) := by decide +kernel
theorem dX12_divide_7 : decode cX12_divide 7 = .ok (.aload_n 0, 1) := by decide +kernel
theorem dX12_divide_8 : decode cX12_divide 8 = .ok (.getfield 7, 3) := by decide +kernel
theorem dX12_divide_11 : decode cX12_divide 11 = .ok (.iload_n 2, 1) := by decide +kernel
theorem dX12_divide_12 : decode cX12_divide 12 = .ok (.iconst 0, 1) := by decide +kernel
theorem dX12_divide_13 : decode cX12_divide 13 = .ok (.iastore, 1) := by decide +kernel
theorem dX12_divide_14 : decode cX12_divide 14 = .ok (.aload_n 0, 1) := by decide +kernel
theorem dX12_divide_15 : decode cX12_divide 15 = .ok (.iload_n 3, 1) := by decide +kernel
theorem dX12_divide_16 : decode cX12_divide 16 = .ok (.invokevirtual 21, 3) := by decide +kernel
theorem dX12_divide_19 : decode cX12_divide 19 = .ok (.iconst 1, 1) := by decide +kernel
theorem dX12_divide_20 : decode cX12_divide 20 = .ok (.isub, 1) := by decide +kernel
theorem dX12_divide_21 : decode cX12_divide 21 = .ok (.istore 5, 2) := by decide +kernel
theorem dX12_divide_23 : decode cX12_divide 23 = .ok (.iload 5, 2) := by decide +kernel
theorem dX12_divide_25 : decode cX12_divide 25 = .ok (.ifCond .lt 73, 3) := by decide +kernel
theorem dX12_divide_28 : decode cX12_divide 28 = .ok (.aload_n 0, 1) := by decide +kernel
theorem dX12_divide_29 : decode cX12_divide 29 = .ok (.iload_n 2, 1) := by decide +kernel
theorem dX12_divide_30 : decode cX12_divide 30 = .ok (.aload_n 0, 1) := by decide +kernel
theorem dX12_divide_31 : decode cX12_divide 31 = .ok (.iload_n 3, 1) := by decide +kernel
theorem dX12_divide_32 : decode cX12_divide 32 = .ok (.iload 5, 2) := by decide +kernel
theorem dX12_divide_34 : decode cX12_divide 34 = .ok (.invokevirtual 25, 3) := by decide +kernel
theorem dX12_divide_37 : decode cX12_divide 37 = .ok (.ifCond .eq 7, 3) := by decide +kernel
theorem dX12_divide_40 : decode cX12_divide 40 = .ok (.iconst 1, 1) := by decide +kernel
theorem dX12_divide_41 : decode cX12_divide 41 = .ok (.goto 4, 3) := by decide +kernel
theorem dX12_divide_44 : decode cX12_divide 44 = .ok (.iconst 0, 1) := by decide +kernel
theorem dX12_divide_45 : decode cX12_divide 45 = .ok (.invokevirtual 29, 3) := by decide +kernel
theorem dX12_divide_48 : decode cX12_divide 48 = .ok (.aload_n 0, 1) := by decide +kernel
theorem dX12_divide_49 : decode cX12_divide 49 = .ok (.iload_n 2, 1) := by decide +kernel
theorem dX12_divide_50 : decode cX12_divide 50 = .ok (.iload 4, 2) := by decide +kernel
theorem dX12_divide_52 : decode cX12_divide 52 = .ok (.invokevirtual 33, 3) := by decide +kernel
theorem dX12_divide_55 : decode cX12_divide 55 = .ok (.ifCond .lt 7, 3) := by decide +kernel
theorem dX12_divide_58 : decode cX12_divide 58 = .ok (.iconst 1, 1) := by decide +kernel
theorem dX12_divide_59 : decode cX12_divide 59 = .ok (.goto 4, 3) := by decide +kernel
theorem dX12_divide_62 : decode cX12_divide 62 = .ok (.iconst 0, 1) := by decide +kernel
theorem dX12_divide_63 : decode cX12_divide 63 = .ok (.istore 6, 2) := by decide +kernel
theorem dX12_divide_65 : decode cX12_divide 65 = .ok (.iload 6, 2) := by decide +kernel
theorem dX12_divide_67 : decode cX12_divide 67 = .ok (.ifCond .eq 10, 3) := by decide +kernel
theorem dX12_divide_70 : decode cX12_divide 70 = .ok (.aload_n 0, 1) := by decide +kernel
theorem dX12_divide_71 : decode cX12_divide 71 = .ok (.iload_n 2, 1) := by decide +kernel
theorem dX12_divide_72 : decode cX12_divide 72 = .ok (.iload 4, 2) := by decide +kernel
theorem dX12_divide_74 : decode cX12_divide 74 = .ok (.invokevirtual 37, 3) := by decide +kernel
theorem dX12_divide_77 : decode cX12_divide 77 = .ok (.aload_n 0, 1) := by decide +kernel
theorem dX12_divide_78 : decode cX12_divide 78 = .ok (.iload_n 1, 1) := by decide +kernel
theorem dX12_divide_79 : decode cX12_divide 79 = .ok (.iload 6, 2) := by decide +kernel
theorem dX12_divide_81 : decode cX12_divide 81 = .ok (.ifCond .eq 7, 3) := by decide +kernel
theorem dX12_divide_84 : decode cX12_divide 84 = .ok (.iconst 1, 1) := by decide +kernel
theorem dX12_divide_85 : decode cX12_divide 85 = .ok (.goto 4, 3) := by decide +kernel
theorem dX12_divide_88 : decode cX12_divide 88 = .ok (.iconst 0, 1) := by decide +kernel
theorem dX12_divide_89 : decode cX12_divide 89 = .ok (.invokevirtual 29, 3) := by decide +kernel
theorem dX12_divide_92 : decode cX12_divide 92 = .ok (.iinc 5 (-1), 3) := by decide +kernel
theorem dX12_divide_95 : decode cX12_divide 95 = .ok (.goto (-72), 3) := by decide +kernel
theorem dX12_divide_98 : decode cX12_divide 98 = .ok (.return_, 1) := by decide +kernel
theorem dX12_halve_0 : decode cX12_halve 0 = .ok (.iconst 0, 1) := by decide +kernel
theorem dX12_halve_1 : decode cX12_halve 1 = .ok (.istore_n 2, 1) := by decide +kernel
theorem dX12_halve_2 : decode cX12_halve 2 = .ok (.iload_n 2, 1) := by decide +kernel
theorem dX12_halve_3 : decode cX12_halve 3 = .ok (.aload_n 0, 1) := by decide +kernel
theorem dX12_halve_4 : decode cX12_halve 4 = .ok (.getfield 7, 3) := by decide +kernel
theorem dX12_halve_7 : decode cX12_halve 7 = .ok (.iload_n 1, 1) := by decide +kernel
theorem dX12_halve_8 : decode cX12_halve 8 = .ok (.iaload, 1) := by decide +kernel
theorem dX12_halve_9 : decode cX12_halve 9 = .ok (.if_icmp .ge 73, 3) := by decide +kernel
theorem dX12_halve_12 : decode cX12_halve 12 = .ok (.iload_n 2, 1) := by decide +kernel
theorem dX12_halve_13 : decode cX12_halve 13 = .ok (.iconst 1, 1) := by decide +kernel
theorem dX12_halve_14 : decode cX12_halve 14 = .ok (.iadd, 1) := by decide +kernel
theorem dX12_halve_15 : decode cX12_halve 15 = .ok (.aload_n 0, 1) := by decide +kernel
theorem dX12_halve_16 : decode cX12_halve 16 = .ok (.getfield 7, 3) := by decide +kernel
theorem dX12_halve_19 : decode cX12_halve 19 = .ok (.iload_n 1, 1) := by decide +kernel
theorem dX12_halve_20 : decode cX12_halve 20 = .ok (.iaload, 1) := by decide +kernel
theorem dX12_halve_21 : decode cX12_halve 21 = .ok (.if_icmp .ge 22, 3) := by decide +kernel
theorem dX12_halve_24 : decode cX12_halve 24 = .ok (.aload_n 0, 1) := by decide +kernel
theorem dX12_halve_25 : decode cX12_halve 25 = .ok (.getfield 11, 3) := by decide +kernel
theorem dX12_halve_28 : decode cX12_halve 28 = .ok (.sipush 440, 3) := by decide +kernel
theorem dX12_halve_31 : decode cX12_halve 31 = .ok (.iload_n 1, 1) := by decide +kernel
theorem dX12_halve_32 : decode cX12_halve 32 = .ok (.imul, 1) := by decide +kernel
theorem dX12_halve_33 : decode cX12_halve 33 = .ok (.iload_n 2, 1) := by decide +kernel
theorem dX12_halve_34 : decode cX12_halve 34 = .ok (.iadd, 1) := by decide +kernel
theorem dX12_halve_35 : decode cX12_halve 35 = .ok (.iconst 1, 1) := by decide +kernel
theorem dX12_halve_36 : decode cX12_halve 36 = .ok (.iadd, 1) := by decide +kernel
theorem dX12_halve_37 : decode cX12_halve 37 = .ok (.iaload, 1) := by decide +kernel
theorem dX12_halve_38 : decode cX12_halve 38 = .ok (.iconst 1, 1) := by decide +kernel
theorem dX12_halve_39 : decode cX12_halve 39 = .ok (.iand, 1) := by decide +kernel
theorem dX12_halve_40 : decode cX12_halve 40 = .ok (.goto 4, 3) := by decide +kernel
theorem dX12_halve_43 : decode cX12_halve 43 = .ok (.iconst 0, 1) := by decide +kernel
theorem dX12_halve_44 : decode cX12_halve 44 = .ok (.istore_n 3, 1) := by decide +kernel
theorem dX12_halve_45 : decode cX12_halve 45 = .ok (.aload_n 0, 1) := by decide +kernel
theorem dX12_halve_46 : decode cX12_halve 46 = .ok (.getfield 11, 3) := by decide +kernel
theorem dX12_halve_49 : decode cX12_halve 49 = .ok (.sipush 440, 3) := by decide +kernel
theorem dX12_halve_52 : decode cX12_halve 52 = .ok (.iload_n 1, 1) := by decide +kernel
theorem dX12_halve_53 : decode cX12_halve 53 = .ok (.imul, 1) := by decide +kernel
theorem dX12_halve_54 : decode cX12_halve 54 = .ok (.iload_n 2, 1) := by decide +kernel
theorem dX12_halve_55 : decode cX12_halve 55 = .ok (.iadd, 1) := by decide +kernel
theorem dX12_halve_56 : decode cX12_halve 56 = .ok (.aload_n 0, 1) := by decide +kernel
theorem dX12_halve_57 : decode cX12_halve 57 = .ok (.getfield 11, 3) := by decide +kernel
theorem dX12_halve_60 : decode cX12_halve 60 = .ok (.sipush 440, 3) := by decide +kernel
theorem dX12_halve_63 : decode cX12_halve 63 = .ok (.iload_n 1, 1) := by decide +kernel
theorem dX12_halve_64 : decode cX12_halve 64 = .ok (.imul, 1) := by decide +kernel
theorem dX12_halve_65 : decode cX12_halve 65 = .ok (.iload_n 2, 1) := by decide +kernel
theorem dX12_halve_66 : decode cX12_halve 66 = .ok (.iadd, 1) := by decide +kernel
theorem dX12_halve_67 : decode cX12_halve 67 = .ok (.iaload, 1) := by decide +kernel
theorem dX12_halve_68 : decode cX12_halve 68 = .ok (.iconst 1, 1) := by decide +kernel
theorem dX12_halve_69 : decode cX12_halve 69 = .ok (.ishr, 1) := by decide +kernel
theorem dX12_halve_70 : decode cX12_halve 70 = .ok (.iload_n 3, 1) := by decide +kernel
theorem dX12_halve_71 : decode cX12_halve 71 = .ok (.bipush 15, 2) := by decide +kernel
theorem dX12_halve_73 : decode cX12_halve 73 = .ok (.ishl, 1) := by decide +kernel
theorem dX12_halve_74 : decode cX12_halve 74 = .ok (.ior, 1) := by decide +kernel
theorem dX12_halve_75 : decode cX12_halve 75 = .ok (.iastore, 1) := by decide +kernel
theorem dX12_halve_76 : decode cX12_halve 76 = .ok (.iinc 2 1, 3) := by decide +kernel
theorem dX12_halve_79 : decode cX12_halve 79 = .ok (.goto (-77), 3) := by decide +kernel
theorem dX12_halve_82 : decode cX12_halve 82 = .ok (.aload_n 0, 1) := by decide +kernel
theorem dX12_halve_83 : decode cX12_halve 83 = .ok (.iload_n 1, 1) := by decide +kernel
theorem dX12_halve_84 : decode cX12_halve 84 = .ok (.invokevirtual 15, 3) := by decide +kernel
theorem dX12_halve_87 : decode cX12_halve 87 = .ok (.return_, 1) := by decide +kernel
theorem dX12_common_0 : decode cX12_common 0 = .ok (.iconst 0, 1) := by decide +kernel
theorem dX12_common_1 : decode cX12_common 1 = .ok (.istore_n 3, 1) := by decide +kernel
theorem dX12_common_2 : decode cX12_common 2 = .ok (.aload_n 0, 1) := by decide +kernel
theorem dX12_common_3 : decode cX12_common 3 = .ok (.getfield 7, 3) := by decide +kernel
theorem dX12_common_6 : decode cX12_common 6 = .ok (.iload_n 1, 1) := by decide +kernel
theorem dX12_common_7 : decode cX12_common 7 = .ok (.iaload, 1) := by decide +kernel
theorem dX12_common_8 : decode cX12_common 8 = .ok (.ifCond .le 37, 3) := by decide +kernel
theorem dX12_common_11 : decode cX12_common 11 = .ok (.aload_n 0, 1) := by decide +kernel
theorem dX12_common_12 : decode cX12_common 12 = .ok (.iload_n 1, 1) := by decide +kernel
theorem dX12_common_13 : decode cX12_common 13 = .ok (.iconst 0, 1) := by decide +kernel
theorem dX12_common_14 : decode cX12_common 14 = .ok (.invokevirtual 25, 3) := by decide +kernel
theorem dX12_common_17 : decode cX12_common 17 = .ok (.ifCond .ne 28, 3) := by decide +kernel
theorem dX12_common_20 : decode cX12_common 20 = .ok (.aload_n 0, 1) := by decide +kernel
theorem dX12_common_21 : decode cX12_common 21 = .ok (.iload_n 2, 1) := by decide +kernel
theorem dX12_common_22 : decode cX12_common 22 = .ok (.iconst 0, 1) := by decide +kernel
theorem dX12_common_23 : decode cX12_common 23 = .ok (.invokevirtual 25, 3) := by decide +kernel
theorem dX12_common_26 : decode cX12_common 26 = .ok (.ifCond .ne 19, 3) := by decide +kernel
theorem dX12_common_29 : decode cX12_common 29 = .ok (.aload_n 0, 1) := by decide +kernel
theorem dX12_common_30 : decode cX12_common 30 = .ok (.iload_n 1, 1) := by decide +kernel
theorem dX12_common_31 : decode cX12_common 31 = .ok (.invokevirtual 40, 3) := by decide +kernel
theorem dX12_common_34 : decode cX12_common 34 = .ok (.aload_n 0, 1) := by decide +kernel
theorem dX12_common_35 : decode cX12_common 35 = .ok (.iload_n 2, 1) := by decide +kernel
theorem dX12_common_36 : decode cX12_common 36 = .ok (.invokevirtual 40, 3) := by decide +kernel
theorem dX12_common_39 : decode cX12_common 39 = .ok (.iinc 3 1, 3) := by decide +kernel
theorem dX12_common_42 : decode cX12_common 42 = .ok (.goto (-40), 3) := by decide +kernel
theorem dX12_common_45 : decode cX12_common 45 = .ok (.aload_n 0, 1) := by decide +kernel
theorem dX12_common_46 : decode cX12_common 46 = .ok (.getfield 7, 3) := by decide +kernel
theorem dX12_common_49 : decode cX12_common 49 = .ok (.iload_n 1, 1) := by decide +kernel
theorem dX12_common_50 : decode cX12_common 50 = .ok (.iaload, 1) := by decide +kernel
theorem dX12_common_51 : decode cX12_common 51 = .ok (.ifCond .le 64, 3) := by decide +kernel
theorem dX12_common_54 : decode cX12_common 54 = .ok (.aload_n 0, 1) := by decide +kernel
theorem dX12_common_55 : decode cX12_common 55 = .ok (.iload_n 1, 1) := by decide +kernel
theorem dX12_common_56 : decode cX12_common 56 = .ok (.iconst 0, 1) := by decide +kernel
theorem dX12_common_57 : decode cX12_common 57 = .ok (.invokevirtual 25, 3) := by decide +kernel
theorem dX12_common_60 : decode cX12_common 60 = .ok (.ifCond .ne 11, 3) := by decide +kernel
theorem dX12_common_63 : decode cX12_common 63 = .ok (.aload_n 0, 1) := by decide +kernel
theorem dX12_common_64 : decode cX12_common 64 = .ok (.iload_n 1, 1) := by decide +kernel
theorem dX12_common_65 : decode cX12_common 65 = .ok (.invokevirtual 40, 3) := by decide +kernel
theorem dX12_common_68 : decode cX12_common 68 = .ok (.goto (-14), 3) := by decide +kernel
theorem dX12_common_71 : decode cX12_common 71 = .ok (.aload_n 0, 1) := by decide +kernel
theorem dX12_common_72 : decode cX12_common 72 = .ok (.iload_n 2, 1) := by decide +kernel
theorem dX12_common_73 : decode cX12_common 73 = .ok (.iconst 0, 1) := by decide +kernel
theorem dX12_common_74 : decode cX12_common 74 = .ok (.invokevirtual 25, 3) := by decide +kernel
theorem dX12_common_77 : decode cX12_common 77 = .ok (.ifCond .ne 11, 3) := by decide +kernel
theorem dX12_common_80 : decode cX12_common 80 = .ok (.aload_n 0, 1) := by decide +kernel
theorem dX12_common_81 : decode cX12_common 81 = .ok (.iload_n 2, 1) := by decide +kernel
theorem dX12_common_82 : decode cX12_common 82 = .ok (.invokevirtual 40, 3) := by decide +kernel
theorem dX12_common_85 : decode cX12_common 85 = .ok (.goto (-14), 3) := by decide +kernel
theorem dX12_common_88 : decode cX12_common 88 = .ok (.aload_n 0, 1) := by decide +kernel
theorem dX12_common_89 : decode cX12_common 89 = .ok (.iload_n 1, 1) := by decide +kernel
theorem dX12_common_90 : decode cX12_common 90 = .ok (.iload_n 2, 1) := by decide +kernel
theorem dX12_common_91 : decode cX12_common 91 = .ok (.invokevirtual 33, 3) := by decide +kernel
theorem dX12_common_94 : decode cX12_common 94 = .ok (.ifCond .lt 12, 3) := by decide +kernel
theorem dX12_common_97 : decode cX12_common 97 = .ok (.aload_n 0, 1) := by decide +kernel
theorem dX12_common_98 : decode cX12_common 98 = .ok (.iload_n 1, 1) := by decide +kernel
theorem dX12_common_99 : decode cX12_common 99 = .ok (.iload_n 2, 1) := by decide +kernel
theorem dX12_common_100 : decode cX12_common 100 = .ok (.invokevirtual 37, 3) := by decide +kernel
theorem dX12_common_103 : decode cX12_common 103 = .ok (.goto (-58), 3) := by decide +kernel
theorem dX12_common_106 : decode cX12_common 106 = .ok (.aload_n 0, 1) := by decide +kernel
theorem dX12_common_107 : decode cX12_common 107 = .ok (.iload_n 2, 1) := by decide +kernel
theorem dX12_common_108 : decode cX12_common 108 = .ok (.iload_n 1, 1) := by decide +kernel
theorem dX12_common_109 : decode cX12_common 109 = .ok (.invokevirtual 37, 3) := by decide +kernel
theorem dX12_common_112 : decode cX12_common 112 = .ok (.goto (-67), 3) := by decide +kernel
theorem dX12_common_115 : decode cX12_common 115 = .ok (.aload_n 0, 1) := by decide +kernel
theorem dX12_common_116 : decode cX12_common 116 = .ok (.iload_n 1, 1) := by decide +kernel
theorem dX12_common_117 : decode cX12_common 117 = .ok (.iload_n 2, 1) := by decide +kernel
theorem dX12_common_118 : decode cX12_common 118 = .ok (.invokevirtual 43, 3) := by decide +kernel
theorem dX12_common_121 : decode cX12_common 121 = .ok (.iconst 0, 1) := by decide +kernel
theorem dX12_common_122 : decode cX12_common 122 = .ok (.istore 4, 2) := by decide +kernel
theorem dX12_common_124 : decode cX12_common 124 = .ok (.iload 4, 2) := by decide +kernel
theorem dX12_common_126 : decode cX12_common 126 = .ok (.iload_n 3, 1) := by decide +kernel
theorem dX12_common_127 : decode cX12_common 127 = .ok (.if_icmp .ge 15, 3) := by decide +kernel
theorem dX12_common_130 : decode cX12_common 130 = .ok (.aload_n 0, 1) := by decide +kernel
theorem dX12_common_131 : decode cX12_common 131 = .ok (.iload_n 1, 1) := by decide +kernel
theorem dX12_common_132 : decode cX12_common 132 = .ok (.iconst 0, 1) := by decide +kernel
theorem dX12_common_133 : decode cX12_common 133 = .ok (.invokevirtual 29, 3) := by decide +kernel
theorem dX12_common_136 : decode cX12_common 136 = .ok (.iinc 4 1, 3) := by decide +kernel
theorem dX12_common_139 : decode cX12_common 139 = .ok (.goto (-15), 3) := by decide +kernel
theorem dX12_common_142 : decode cX12_common 142 = .ok (.return_, 1) := by decide +kernel
theorem dX12_sign_0 : decode cX12_sign 0 = .ok (.aload_n 0, 1) := by decide +kernel
theorem dX12_sign_1 : decode cX12_sign 1 = .ok (.getfield 46, 3) := by decide +kernel
theorem dX12_sign_4 : decode cX12_sign 4 = .ok (.bipush 28, 2) := by decide +kernel
theorem dX12_sign_6 : decode cX12_sign 6 = .ok (.iload_n 1, 1) := by decide +kernel
theorem dX12_sign_7 : decode cX12_sign 7 = .ok (.imul, 1) := by decide +kernel
theorem dX12_sign_8 : decode cX12_sign 8 = .ok (.iaload, 1) := by decide +kernel
theorem dX12_sign_9 : decode cX12_sign 9 = .ok (.ireturn, 1) := by decide +kernel
theorem dX12_load_0 : decode cX12_load 0 = .ok (.iconst 0, 1) := by decide +kernel
theorem dX12_load_1 : decode cX12_load 1 = .ok (.istore 4, 2) := by decide +kernel
theorem dX12_load_3 : decode cX12_load 3 = .ok (.iload 4, 2) := by decide +kernel
theorem dX12_load_5 : decode cX12_load 5 = .ok (.bipush 13, 2) := by decide +kernel
theorem dX12_load_7 : decode cX12_load 7 = .ok (.if_icmp .ge 36, 3) := by decide +kernel
theorem dX12_load_10 : decode cX12_load 10 = .ok (.aload_n 0, 1) := by decide +kernel
theorem dX12_load_11 : decode cX12_load 11 = .ok (.getfield 11, 3) := by decide +kernel
theorem dX12_load_14 : decode cX12_load 14 = .ok (.sipush 440, 3) := by decide +kernel
theorem dX12_load_17 : decode cX12_load 17 = .ok (.iload_n 1, 1) := by decide +kernel
theorem dX12_load_18 : decode cX12_load 18 = .ok (.imul, 1) := by decide +kernel
theorem dX12_load_19 : decode cX12_load 19 = .ok (.iload 4, 2) := by decide +kernel
theorem dX12_load_21 : decode cX12_load 21 = .ok (.iadd, 1) := by decide +kernel
theorem dX12_load_22 : decode cX12_load 22 = .ok (.aload_n 0, 1) := by decide +kernel
theorem dX12_load_23 : decode cX12_load 23 = .ok (.getfield 46, 3) := by decide +kernel
theorem dX12_load_26 : decode cX12_load 26 = .ok (.bipush 28, 2) := by decide +kernel
theorem dX12_load_28 : decode cX12_load 28 = .ok (.iload_n 2, 1) := by decide +kernel
theorem dX12_load_29 : decode cX12_load 29 = .ok (.imul, 1) := by decide +kernel
theorem dX12_load_30 : decode cX12_load 30 = .ok (.iload_n 3, 1) := by decide +kernel
theorem dX12_load_31 : decode cX12_load 31 = .ok (.iadd, 1) := by decide +kernel
theorem dX12_load_32 : decode cX12_load 32 = .ok (.iload 4, 2) := by decide +kernel
theorem dX12_load_34 : decode cX12_load 34 = .ok (.iadd, 1) := by decide +kernel
theorem dX12_load_35 : decode cX12_load 35 = .ok (.iaload, 1) := by decide +kernel
theorem dX12_load_36 : decode cX12_load 36 = .ok (.iastore, 1) := by decide +kernel
theorem dX12_load_37 : decode cX12_load 37 = .ok (.iinc 4 1, 3) := by decide +kernel
theorem dX12_load_40 : decode cX12_load 40 = .ok (.goto (-37), 3) := by decide +kernel
theorem dX12_load_43 : decode cX12_load 43 = .ok (.aload_n 0, 1) := by decide +kernel
theorem dX12_load_44 : decode cX12_load 44 = .ok (.getfield 7, 3) := by decide +kernel
theorem dX12_load_47 : decode cX12_load 47 = .ok (.iload_n 1, 1) := by decide +kernel
theorem dX12_load_48 : decode cX12_load 48 = .ok (.bipush 13, 2) := by decide +kernel
theorem dX12_load_50 : decode cX12_load 50 = .ok (.iastore, 1) := by decide +kernel
theorem dX12_load_51 : decode cX12_load 51 = .ok (.aload_n 0, 1) := by decide +kernel
theorem dX12_load_52 : decode cX12_load 52 = .ok (.iload_n 1, 1) := by decide +kernel
theorem dX12_load_53 : decode cX12_load 53 = .ok (.invokevirtual 15, 3) := by decide +kernel
theorem dX12_load_56 : decode cX12_load 56 = .ok (.return_, 1) := by decide +kernel
theorem dX12_loadNumerator_0 : decode cX12_loadNumerator 0 = .ok (.aload_n 0, 1) := by decide +kernel
theorem dX12_loadNumerator_1 : decode cX12_loadNumerator 1 = .ok (.iload_n 1, 1) := by decide +kernel
theorem dX12_loadNumerator_2 : decode cX12_loadNumerator 2 = .ok (.iload_n 2, 1) := by decide +kernel
theorem dX12_loadNumerator_3 : decode cX12_loadNumerator 3 = .ok (.iconst 1, 1) := by decide +kernel
theorem dX12_loadNumerator_4 : decode cX12_loadNumerator 4 = .ok (.invokevirtual 49, 3) := by decide +kernel
theorem dX12_loadNumerator_7 : decode cX12_loadNumerator 7 = .ok (.return_, 1) := by decide +kernel
theorem dX12_loadDenominator_0 : decode cX12_loadDenominator 0 = .ok (.aload_n 0, 1) := by decide +kernel
theorem dX12_loadDenominator_1 : decode cX12_loadDenominator 1 = .ok (.iload_n 1, 1) := by decide +kernel
theorem dX12_loadDenominator_2 : decode cX12_loadDenominator 2 = .ok (.iload_n 2, 1) := by decide +kernel
theorem dX12_loadDenominator_3 : decode cX12_loadDenominator 3 = .ok (.bipush 14, 2) := by decide +kernel
theorem dX12_loadDenominator_5 : decode cX12_loadDenominator 5 = .ok (.invokevirtual 49, 3) := by decide +kernel
theorem dX12_loadDenominator_8 : decode cX12_loadDenominator 8 = .ok (.return_, 1) := by decide +kernel
theorem dX12_hold_0 : decode cX12_hold 0 = .ok (.iconst 0, 1) := by decide +kernel
theorem dX12_hold_1 : decode cX12_hold 1 = .ok (.istore 4, 2) := by decide +kernel
theorem dX12_hold_3 : decode cX12_hold 3 = .ok (.iload 4, 2) := by decide +kernel
theorem dX12_hold_5 : decode cX12_hold 5 = .ok (.bipush 13, 2) := by decide +kernel
theorem dX12_hold_7 : decode cX12_hold 7 = .ok (.if_icmp .ge 51, 3) := by decide +kernel
theorem dX12_hold_10 : decode cX12_hold 10 = .ok (.aload_n 0, 1) := by decide +kernel
theorem dX12_hold_11 : decode cX12_hold 11 = .ok (.getfield 46, 3) := by decide +kernel
theorem dX12_hold_14 : decode cX12_hold 14 = .ok (.bipush 28, 2) := by decide +kernel
theorem dX12_hold_16 : decode cX12_hold 16 = .ok (.iload_n 1, 1) := by decide +kernel
theorem dX12_hold_17 : decode cX12_hold 17 = .ok (.imul, 1) := by decide +kernel
theorem dX12_hold_18 : decode cX12_hold 18 = .ok (.iload_n 3, 1) := by decide +kernel
theorem dX12_hold_19 : decode cX12_hold 19 = .ok (.iadd, 1) := by decide +kernel
theorem dX12_hold_20 : decode cX12_hold 20 = .ok (.iload 4, 2) := by decide +kernel
theorem dX12_hold_22 : decode cX12_hold 22 = .ok (.iadd, 1) := by decide +kernel
theorem dX12_hold_23 : decode cX12_hold 23 = .ok (.iload 4, 2) := by decide +kernel
theorem dX12_hold_25 : decode cX12_hold 25 = .ok (.aload_n 0, 1) := by decide +kernel
theorem dX12_hold_26 : decode cX12_hold 26 = .ok (.getfield 7, 3) := by decide +kernel
theorem dX12_hold_29 : decode cX12_hold 29 = .ok (.iload_n 2, 1) := by decide +kernel
theorem dX12_hold_30 : decode cX12_hold 30 = .ok (.iaload, 1) := by decide +kernel
theorem dX12_hold_31 : decode cX12_hold 31 = .ok (.if_icmp .ge 19, 3) := by decide +kernel
theorem dX12_hold_34 : decode cX12_hold 34 = .ok (.aload_n 0, 1) := by decide +kernel
theorem dX12_hold_35 : decode cX12_hold 35 = .ok (.getfield 11, 3) := by decide +kernel
theorem dX12_hold_38 : decode cX12_hold 38 = .ok (.sipush 440, 3) := by decide +kernel
theorem dX12_hold_41 : decode cX12_hold 41 = .ok (.iload_n 2, 1) := by decide +kernel
theorem dX12_hold_42 : decode cX12_hold 42 = .ok (.imul, 1) := by decide +kernel
theorem dX12_hold_43 : decode cX12_hold 43 = .ok (.iload 4, 2) := by decide +kernel
theorem dX12_hold_45 : decode cX12_hold 45 = .ok (.iadd, 1) := by decide +kernel
theorem dX12_hold_46 : decode cX12_hold 46 = .ok (.iaload, 1) := by decide +kernel
theorem dX12_hold_47 : decode cX12_hold 47 = .ok (.goto 4, 3) := by decide +kernel
theorem dX12_hold_50 : decode cX12_hold 50 = .ok (.iconst 0, 1) := by decide +kernel
theorem dX12_hold_51 : decode cX12_hold 51 = .ok (.iastore, 1) := by decide +kernel
theorem dX12_hold_52 : decode cX12_hold 52 = .ok (.iinc 4 1, 3) := by decide +kernel
theorem dX12_hold_55 : decode cX12_hold 55 = .ok (.goto (-52), 3) := by decide +kernel
theorem dX12_hold_58 : decode cX12_hold 58 = .ok (.return_, 1) := by decide +kernel
theorem dX12_copyValue_0 : decode cX12_copyValue 0 = .ok (.iconst 0, 1) := by decide +kernel
theorem dX12_copyValue_1 : decode cX12_copyValue 1 = .ok (.istore_n 3, 1) := by decide +kernel
theorem dX12_copyValue_2 : decode cX12_copyValue 2 = .ok (.iload_n 3, 1) := by decide +kernel
theorem dX12_copyValue_3 : decode cX12_copyValue 3 = .ok (.bipush 28, 2) := by decide +kernel
theorem dX12_copyValue_5 : decode cX12_copyValue 5 = .ok (.if_icmp .ge 31, 3) := by decide +kernel
theorem dX12_copyValue_8 : decode cX12_copyValue 8 = .ok (.aload_n 0, 1) := by decide +kernel
theorem dX12_copyValue_9 : decode cX12_copyValue 9 = .ok (.getfield 46, 3) := by decide +kernel
theorem dX12_copyValue_12 : decode cX12_copyValue 12 = .ok (.bipush 28, 2) := by decide +kernel
theorem dX12_copyValue_14 : decode cX12_copyValue 14 = .ok (.iload_n 1, 1) := by decide +kernel
theorem dX12_copyValue_15 : decode cX12_copyValue 15 = .ok (.imul, 1) := by decide +kernel
theorem dX12_copyValue_16 : decode cX12_copyValue 16 = .ok (.iload_n 3, 1) := by decide +kernel
theorem dX12_copyValue_17 : decode cX12_copyValue 17 = .ok (.iadd, 1) := by decide +kernel
theorem dX12_copyValue_18 : decode cX12_copyValue 18 = .ok (.aload_n 0, 1) := by decide +kernel
theorem dX12_copyValue_19 : decode cX12_copyValue 19 = .ok (.getfield 46, 3) := by decide +kernel
theorem dX12_copyValue_22 : decode cX12_copyValue 22 = .ok (.bipush 28, 2) := by decide +kernel
theorem dX12_copyValue_24 : decode cX12_copyValue 24 = .ok (.iload_n 2, 1) := by decide +kernel
theorem dX12_copyValue_25 : decode cX12_copyValue 25 = .ok (.imul, 1) := by decide +kernel
theorem dX12_copyValue_26 : decode cX12_copyValue 26 = .ok (.iload_n 3, 1) := by decide +kernel
theorem dX12_copyValue_27 : decode cX12_copyValue 27 = .ok (.iadd, 1) := by decide +kernel
theorem dX12_copyValue_28 : decode cX12_copyValue 28 = .ok (.iaload, 1) := by decide +kernel
theorem dX12_copyValue_29 : decode cX12_copyValue 29 = .ok (.iastore, 1) := by decide +kernel
theorem dX12_copyValue_30 : decode cX12_copyValue 30 = .ok (.iinc 3 1, 3) := by decide +kernel
theorem dX12_copyValue_33 : decode cX12_copyValue 33 = .ok (.goto (-31), 3) := by decide +kernel
theorem dX12_copyValue_36 : decode cX12_copyValue 36 = .ok (.return_, 1) := by decide +kernel
theorem dX12_setInt_0 : decode cX12_setInt 0 = .ok (.aload_n 0, 1) := by decide +kernel
theorem dX12_setInt_1 : decode cX12_setInt 1 = .ok (.getfield 46, 3) := by decide +kernel
theorem dX12_setInt_4 : decode cX12_setInt 4 = .ok (.bipush 28, 2) := by decide +kernel
theorem dX12_setInt_6 : decode cX12_setInt 6 = .ok (.iload_n 1, 1) := by decide +kernel
theorem dX12_setInt_7 : decode cX12_setInt 7 = .ok (.imul, 1) := by decide +kernel
theorem dX12_setInt_8 : decode cX12_setInt 8 = .ok (.iload_n 2, 1) := by decide +kernel
theorem dX12_setInt_9 : decode cX12_setInt 9 = .ok (.ifCond .le 7, 3) := by decide +kernel
theorem dX12_setInt_12 : decode cX12_setInt 12 = .ok (.iconst 1, 1) := by decide +kernel
theorem dX12_setInt_13 : decode cX12_setInt 13 = .ok (.goto 12, 3) := by decide +kernel
theorem dX12_setInt_16 : decode cX12_setInt 16 = .ok (.iload_n 2, 1) := by decide +kernel
theorem dX12_setInt_17 : decode cX12_setInt 17 = .ok (.ifCond .ge 7, 3) := by decide +kernel
theorem dX12_setInt_20 : decode cX12_setInt 20 = .ok (.iconst (-1), 1) := by decide +kernel
theorem dX12_setInt_21 : decode cX12_setInt 21 = .ok (.goto 4, 3) := by decide +kernel
theorem dX12_setInt_24 : decode cX12_setInt 24 = .ok (.iconst 0, 1) := by decide +kernel
theorem dX12_setInt_25 : decode cX12_setInt 25 = .ok (.iastore, 1) := by decide +kernel
theorem dX12_setInt_26 : decode cX12_setInt 26 = .ok (.aload_n 0, 1) := by decide +kernel
theorem dX12_setInt_27 : decode cX12_setInt 27 = .ok (.iconst 0, 1) := by decide +kernel
theorem dX12_setInt_28 : decode cX12_setInt 28 = .ok (.iload_n 2, 1) := by decide +kernel
theorem dX12_setInt_29 : decode cX12_setInt 29 = .ok (.ifCond .ge 8, 3) := by decide +kernel
theorem dX12_setInt_32 : decode cX12_setInt 32 = .ok (.iload_n 2, 1) := by decide +kernel
theorem dX12_setInt_33 : decode cX12_setInt 33 = .ok (.ineg, 1) := by decide +kernel
theorem dX12_setInt_34 : decode cX12_setInt 34 = .ok (.goto 4, 3) := by decide +kernel
theorem dX12_setInt_37 : decode cX12_setInt 37 = .ok (.iload_n 2, 1) := by decide +kernel
theorem dX12_setInt_38 : decode cX12_setInt 38 = .ok (.invokevirtual 53, 3) := by decide +kernel
theorem dX12_setInt_41 : decode cX12_setInt 41 = .ok (.aload_n 0, 1) := by decide +kernel
theorem dX12_setInt_42 : decode cX12_setInt 42 = .ok (.iload_n 1, 1) := by decide +kernel
theorem dX12_setInt_43 : decode cX12_setInt 43 = .ok (.iconst 0, 1) := by decide +kernel
theorem dX12_setInt_44 : decode cX12_setInt 44 = .ok (.iconst 1, 1) := by decide +kernel
theorem dX12_setInt_45 : decode cX12_setInt 45 = .ok (.invokevirtual 56, 3) := by decide +kernel
theorem dX12_setInt_48 : decode cX12_setInt 48 = .ok (.aload_n 0, 1) := by decide +kernel
theorem dX12_setInt_49 : decode cX12_setInt 49 = .ok (.iconst 0, 1) := by decide +kernel
theorem dX12_setInt_50 : decode cX12_setInt 50 = .ok (.iconst 1, 1) := by decide +kernel
theorem dX12_setInt_51 : decode cX12_setInt 51 = .ok (.invokevirtual 53, 3) := by decide +kernel
theorem dX12_setInt_54 : decode cX12_setInt 54 = .ok (.aload_n 0, 1) := by decide +kernel
theorem dX12_setInt_55 : decode cX12_setInt 55 = .ok (.iload_n 1, 1) := by decide +kernel
theorem dX12_setInt_56 : decode cX12_setInt 56 = .ok (.iconst 0, 1) := by decide +kernel
theorem dX12_setInt_57 : decode cX12_setInt 57 = .ok (.bipush 14, 2) := by decide +kernel
theorem dX12_setInt_59 : decode cX12_setInt 59 = .ok (.invokevirtual 56, 3) := by decide +kernel
theorem dX12_setInt_62 : decode cX12_setInt 62 = .ok (.return_, 1) := by decide +kernel
theorem dX12_lowest_0 : decode cX12_lowest 0 = .ok (.aload_n 0, 1) := by decide +kernel
theorem dX12_lowest_1 : decode cX12_lowest 1 = .ok (.getfield 7, 3) := by decide +kernel
theorem dX12_lowest_4 : decode cX12_lowest 4 = .ok (.iload_n 1, 1) := by decide +kernel
theorem dX12_lowest_5 : decode cX12_lowest 5 = .ok (.iaload, 1) := by decide +kernel
theorem dX12_lowest_6 : decode cX12_lowest 6 = .ok (.ifCond .ne 10, 3) := by decide +kernel
theorem dX12_lowest_9 : decode cX12_lowest 9 = .ok (.aload_n 0, 1) := by decide +kernel
theorem dX12_lowest_10 : decode cX12_lowest 10 = .ok (.iload_n 2, 1) := by decide +kernel
theorem dX12_lowest_11 : decode cX12_lowest 11 = .ok (.iconst 1, 1) := by decide +kernel
theorem dX12_lowest_12 : decode cX12_lowest 12 = .ok (.invokevirtual 53, 3) := by decide +kernel
theorem dX12_lowest_15 : decode cX12_lowest 15 = .ok (.return_, 1) := by decide +kernel
