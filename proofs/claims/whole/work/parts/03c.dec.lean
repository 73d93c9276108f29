theorem dX4_readOfWeek_60 : decode cX4_readOfWeek 60 = .ok (.aload_n 0, 1) := by decide +kernel
theorem dX4_readOfWeek_61 : decode cX4_readOfWeek 61 = .ok (.getfield 31, 3) := by decide +kernel
theorem dX4_readOfWeek_64 : decode cX4_readOfWeek 64 = .ok (.iastore, 1) := by decide +kernel
theorem dX4_readOfWeek_65 : decode cX4_readOfWeek 65 = .ok (.aload_n 0, 1) := by decide +kernel
theorem dX4_readOfWeek_66 : decode cX4_readOfWeek 66 = .ok (.aload_n 0, 1) := by decide +kernel
theorem dX4_readOfWeek_67 : decode cX4_readOfWeek 67 = .ok (.getfield 25, 3) := by decide +kernel
theorem dX4_readOfWeek_70 : decode cX4_readOfWeek 70 = .ok (.iconst 1, 1) := by decide +kernel
theorem dX4_readOfWeek_71 : decode cX4_readOfWeek 71 = .ok (.iadd, 1) := by decide +kernel
theorem dX4_readOfWeek_72 : decode cX4_readOfWeek 72 = .ok (.invokevirtual 59, 3) := by decide +kernel
theorem dX4_readOfWeek_75 : decode cX4_readOfWeek 75 = .ok (.aload_n 0, 1) := by decide +kernel
theorem dX4_readOfWeek_76 : decode cX4_readOfWeek 76 = .ok (.iconst 2, 1) := by decide +kernel
theorem dX4_readOfWeek_77 : decode cX4_readOfWeek 77 = .ok (.invokevirtual 103, 3) := by decide +kernel
theorem dX4_readOfWeek_80 : decode cX4_readOfWeek 80 = .ok (.ireturn, 1) := by decide +kernel
theorem dX4_takeRow_0 : decode cX4_takeRow 0 = .ok (.iload_n 2, 1) := by decide +kernel
theorem dX4_takeRow_1 : decode cX4_takeRow 1 = .ok (.istore 5, 2) := by decide +kernel
theorem dX4_takeRow_3 : decode cX4_takeRow 3 = .ok (.iload 5, 2) := by decide +kernel
theorem dX4_takeRow_5 : decode cX4_takeRow 5 = .ok (.iload_n 3, 1) := by decide +kernel
theorem dX4_takeRow_6 : decode cX4_takeRow 6 = .ok (.if_icmp .ge 51, 3) := by decide +kernel
theorem dX4_takeRow_9 : decode cX4_takeRow 9 = .ok (.iload 5, 2) := by decide +kernel
theorem dX4_takeRow_11 : decode cX4_takeRow 11 = .ok (.ifCond .lt 46, 3) := by decide +kernel
theorem dX4_takeRow_14 : decode cX4_takeRow 14 = .ok (.iload 5, 2) := by decide +kernel
theorem dX4_takeRow_16 : decode cX4_takeRow 16 = .ok (.aload_n 1, 1) := by decide +kernel
theorem dX4_takeRow_17 : decode cX4_takeRow 17 = .ok (.arraylength, 1) := by decide +kernel
theorem dX4_takeRow_18 : decode cX4_takeRow 18 = .ok (.if_icmp .ge 39, 3) := by decide +kernel
theorem dX4_takeRow_21 : decode cX4_takeRow 21 = .ok (.aload_n 0, 1) := by decide +kernel
theorem dX4_takeRow_22 : decode cX4_takeRow 22 = .ok (.iconst 0, 1) := by decide +kernel
theorem dX4_takeRow_23 : decode cX4_takeRow 23 = .ok (.iload 4, 2) := by decide +kernel
theorem dX4_takeRow_25 : decode cX4_takeRow 25 = .ok (.invokevirtual 96, 3) := by decide +kernel
theorem dX4_takeRow_28 : decode cX4_takeRow 28 = .ok (.ifCond .ne 5, 3) := by decide +kernel
theorem dX4_takeRow_31 : decode cX4_takeRow 31 = .ok (.iconst 0, 1) := by decide +kernel
theorem dX4_takeRow_32 : decode cX4_takeRow 32 = .ok (.ireturn, 1) := by decide +kernel
theorem dX4_takeRow_33 : decode cX4_takeRow 33 = .ok (.aload_n 1, 1) := by decide +kernel
theorem dX4_takeRow_34 : decode cX4_takeRow 34 = .ok (.iload 5, 2) := by decide +kernel
theorem dX4_takeRow_36 : decode cX4_takeRow 36 = .ok (.aload_n 0, 1) := by decide +kernel
theorem dX4_takeRow_37 : decode cX4_takeRow 37 = .ok (.getfield 31, 3) := by decide +kernel
theorem dX4_takeRow_40 : decode cX4_takeRow 40 = .ok (.iastore, 1) := by decide +kernel
theorem dX4_takeRow_41 : decode cX4_takeRow 41 = .ok (.aload_n 0, 1) := by decide +kernel
theorem dX4_takeRow_42 : decode cX4_takeRow 42 = .ok (.aload_n 0, 1) := by decide +kernel
theorem dX4_takeRow_43 : decode cX4_takeRow 43 = .ok (.getfield 25, 3) := by decide +kernel
theorem dX4_takeRow_46 : decode cX4_takeRow 46 = .ok (.iconst 1, 1) := by decide +kernel
theorem dX4_takeRow_47 : decode cX4_takeRow 47 = .ok (.iadd, 1) := by decide +kernel
theorem dX4_takeRow_48 : decode cX4_takeRow 48 = .ok (.invokevirtual 59, 3) := by decide +kernel
theorem dX4_takeRow_51 : decode cX4_takeRow 51 = .ok (.iinc 5 1, 3) := by decide +kernel
theorem dX4_takeRow_54 : decode cX4_takeRow 54 = .ok (.goto (-51), 3) := by decide +kernel
theorem dX4_takeRow_57 : decode cX4_takeRow 57 = .ok (.iconst 1, 1) := by decide +kernel
theorem dX4_takeRow_58 : decode cX4_takeRow 58 = .ok (.ireturn, 1) := by decide +kernel
theorem dX4_isNumber_0 : decode cX4_isNumber 0 = .ok (.aload_n 0, 1) := by decide +kernel
theorem dX4_isNumber_1 : decode cX4_isNumber 1 = .ok (.getfield 28, 3) := by decide +kernel
theorem dX4_isNumber_4 : decode cX4_isNumber 4 = .ok (.iconst 1, 1) := by decide +kernel
theorem dX4_isNumber_5 : decode cX4_isNumber 5 = .ok (.if_icmp .ne 23, 3) := by decide +kernel
theorem dX4_isNumber_8 : decode cX4_isNumber 8 = .ok (.aload_n 0, 1) := by decide +kernel
theorem dX4_isNumber_9 : decode cX4_isNumber 9 = .ok (.getfield 31, 3) := by decide +kernel
theorem dX4_isNumber_12 : decode cX4_isNumber 12 = .ok (.iload_n 1, 1) := by decide +kernel
theorem dX4_isNumber_13 : decode cX4_isNumber 13 = .ok (.if_icmp .lt 15, 3) := by decide +kernel
theorem dX4_isNumber_16 : decode cX4_isNumber 16 = .ok (.aload_n 0, 1) := by decide +kernel
theorem dX4_isNumber_17 : decode cX4_isNumber 17 = .ok (.getfield 31, 3) := by decide +kernel
theorem dX4_isNumber_20 : decode cX4_isNumber 20 = .ok (.iload_n 2, 1) := by decide +kernel
theorem dX4_isNumber_21 : decode cX4_isNumber 21 = .ok (.if_icmp .gt 7, 3) := by decide +kernel
theorem dX4_isNumber_24 : decode cX4_isNumber 24 = .ok (.iconst 1, 1) := by decide +kernel
theorem dX4_isNumber_25 : decode cX4_isNumber 25 = .ok (.goto 4, 3) := by decide +kernel
theorem dX4_isNumber_28 : decode cX4_isNumber 28 = .ok (.iconst 0, 1) := by decide +kernel
theorem dX4_isNumber_29 : decode cX4_isNumber 29 = .ok (.ireturn, 1) := by decide +kernel
theorem dX4_take_0 : decode cX4_take 0 = .ok (.aload_n 0, 1) := by decide +kernel
theorem dX4_take_1 : decode cX4_take 1 = .ok (.getfield 28, 3) := by decide +kernel
theorem dX4_take_4 : decode cX4_take 4 = .ok (.iload_n 1, 1) := by decide +kernel
theorem dX4_take_5 : decode cX4_take 5 = .ok (.if_icmp .eq 5, 3) := by decide +kernel
theorem dX4_take_8 : decode cX4_take 8 = .ok (.iconst 0, 1) := by decide +kernel
theorem dX4_take_9 : decode cX4_take 9 = .ok (.ireturn, 1) := by decide +kernel
theorem dX4_take_10 : decode cX4_take 10 = .ok (.aload_n 0, 1) := by decide +kernel
theorem dX4_take_11 : decode cX4_take 11 = .ok (.aload_n 0, 1) := by decide +kernel
theorem dX4_take_12 : decode cX4_take 12 = .ok (.getfield 25, 3) := by decide +kernel
theorem dX4_take_15 : decode cX4_take 15 = .ok (.iconst 1, 1) := by decide +kernel
theorem dX4_take_16 : decode cX4_take 16 = .ok (.iadd, 1) := by decide +kernel
theorem dX4_take_17 : decode cX4_take 17 = .ok (.invokevirtual 59, 3) := by decide +kernel
theorem dX4_take_20 : decode cX4_take 20 = .ok (.iconst 1, 1) := by decide +kernel
theorem dX4_take_21 : decode cX4_take 21 = .ok (.ireturn, 1) := by decide +kernel
theorem dX4_cutUp_0 : decode cX4_cutUp 0 = .ok (.iconst 0, 1) := by decide +kernel
theorem dX4_cutUp_1 : decode cX4_cutUp 1 = .ok (.istore_n 1, 1) := by decide +kernel
theorem dX4_cutUp_2 : decode cX4_cutUp 2 = .ok (.iconst 0, 1) := by decide +kernel
theorem dX4_cutUp_3 : decode cX4_cutUp 3 = .ok (.istore_n 2, 1) := by decide +kernel
theorem dX4_cutUp_4 : decode cX4_cutUp 4 = .ok (.iconst 0, 1) := by decide +kernel
theorem dX4_cutUp_5 : decode cX4_cutUp 5 = .ok (.istore_n 3, 1) := by decide +kernel
theorem dX4_cutUp_6 : decode cX4_cutUp 6 = .ok (.iload_n 3, 1) := by decide +kernel
theorem dX4_cutUp_7 : decode cX4_cutUp 7 = .ok (.sipush 400, 3) := by decide +kernel
theorem dX4_cutUp_10 : decode cX4_cutUp 10 = .ok (.if_icmp .ge 102, 3) := by decide +kernel
theorem dX4_cutUp_13 : decode cX4_cutUp 13 = .ok (.iload_n 2, 1) := by decide +kernel
theorem dX4_cutUp_14 : decode cX4_cutUp 14 = .ok (.aload_n 0, 1) := by decide +kernel
theorem dX4_cutUp_15 : decode cX4_cutUp 15 = .ok (.getfield 21, 3) := by decide +kernel
theorem dX4_cutUp_18 : decode cX4_cutUp 18 = .ok (.if_icmp .ge 94, 3) := by decide +kernel
theorem dX4_cutUp_21 : decode cX4_cutUp 21 = .ok (.iload_n 2, 1) := by decide +kernel
theorem dX4_cutUp_22 : decode cX4_cutUp 22 = .ok (.aload_n 0, 1) := by decide +kernel
theorem dX4_cutUp_23 : decode cX4_cutUp 23 = .ok (.getfield 34, 3) := by decide +kernel
theorem dX4_cutUp_26 : decode cX4_cutUp 26 = .ok (.arraylength, 1) := by decide +kernel
theorem dX4_cutUp_27 : decode cX4_cutUp 27 = .ok (.if_icmp .ge 85, 3) := by decide +kernel
theorem dX4_cutUp_30 : decode cX4_cutUp 30 = .ok (.iload_n 2, 1) := by decide +kernel
theorem dX4_cutUp_31 : decode cX4_cutUp 31 = .ok (.iconst 1, 1) := by decide +kernel
theorem dX4_cutUp_32 : decode cX4_cutUp 32 = .ok (.iadd, 1) := by decide +kernel
theorem dX4_cutUp_33 : decode cX4_cutUp 33 = .ok (.istore 4, 2) := by decide +kernel
theorem dX4_cutUp_35 : decode cX4_cutUp 35 = .ok (.aload_n 0, 1) := by decide +kernel
theorem dX4_cutUp_36 : decode cX4_cutUp 36 = .ok (.getfield 34, 3) := by decide +kernel
theorem dX4_cutUp_39 : decode cX4_cutUp 39 = .ok (.iload_n 2, 1) := by decide +kernel
theorem dX4_cutUp_40 : decode cX4_cutUp 40 = .ok (.baload, 1) := by decide +kernel
theorem dX4_cutUp_41 : decode cX4_cutUp 41 = .ok (.bipush 32, 2) := by decide +kernel
theorem dX4_cutUp_43 : decode cX4_cutUp 43 = .ok (.if_icmp .eq 60, 3) := by decide +kernel
theorem dX4_cutUp_46 : decode cX4_cutUp 46 = .ok (.aload_n 0, 1) := by decide +kernel
theorem dX4_cutUp_47 : decode cX4_cutUp 47 = .ok (.iload_n 2, 1) := by decide +kernel
theorem dX4_cutUp_48 : decode cX4_cutUp 48 = .ok (.invokevirtual 124, 3) := by decide +kernel
theorem dX4_cutUp_51 : decode cX4_cutUp 51 = .ok (.istore 4, 2) := by decide +kernel
theorem dX4_cutUp_53 : decode cX4_cutUp 53 = .ok (.aload_n 0, 1) := by decide +kernel
theorem dX4_cutUp_54 : decode cX4_cutUp 54 = .ok (.getfield 9, 3) := by decide +kernel
theorem dX4_cutUp_57 : decode cX4_cutUp 57 = .ok (.iload_n 1, 1) := by decide +kernel
theorem dX4_cutUp_58 : decode cX4_cutUp 58 = .ok (.aload_n 0, 1) := by decide +kernel
theorem dX4_cutUp_59 : decode cX4_cutUp 59 = .ok (.iload_n 2, 1) := by decide +kernel
theorem dX4_cutUp_60 : decode cX4_cutUp 60 = .ok (.iload 4, 2) := by decide +kernel
theorem dX4_cutUp_62 : decode cX4_cutUp 62 = .ok (.invokevirtual 128, 3) := by decide +kernel
theorem dX4_cutUp_65 : decode cX4_cutUp 65 = .ok (.iastore, 1) := by decide +kernel
theorem dX4_cutUp_66 : decode cX4_cutUp 66 = .ok (.aload_n 0, 1) := by decide +kernel
theorem dX4_cutUp_67 : decode cX4_cutUp 67 = .ok (.getfield 15, 3) := by decide +kernel
theorem dX4_cutUp_70 : decode cX4_cutUp 70 = .ok (.iload_n 1, 1) := by decide +kernel
theorem dX4_cutUp_71 : decode cX4_cutUp 71 = .ok (.aload_n 0, 1) := by decide +kernel
theorem dX4_cutUp_72 : decode cX4_cutUp 72 = .ok (.getfield 9, 3) := by decide +kernel
theorem dX4_cutUp_75 : decode cX4_cutUp 75 = .ok (.iload_n 1, 1) := by decide +kernel
theorem dX4_cutUp_76 : decode cX4_cutUp 76 = .ok (.iaload, 1) := by decide +kernel
theorem dX4_cutUp_77 : decode cX4_cutUp 77 = .ok (.iconst 1, 1) := by decide +kernel
theorem dX4_cutUp_78 : decode cX4_cutUp 78 = .ok (.if_icmp .ne 13, 3) := by decide +kernel
theorem dX4_cutUp_81 : decode cX4_cutUp 81 = .ok (.aload_n 0, 1) := by decide +kernel
theorem dX4_cutUp_82 : decode cX4_cutUp 82 = .ok (.iload_n 2, 1) := by decide +kernel
theorem dX4_cutUp_83 : decode cX4_cutUp 83 = .ok (.iload 4, 2) := by decide +kernel
theorem dX4_cutUp_85 : decode cX4_cutUp 85 = .ok (.invokevirtual 131, 3) := by decide +kernel
theorem dX4_cutUp_88 : decode cX4_cutUp 88 = .ok (.goto 4, 3) := by decide +kernel
theorem dX4_cutUp_91 : decode cX4_cutUp 91 = .ok (.iconst 0, 1) := by decide +kernel
theorem dX4_cutUp_92 : decode cX4_cutUp 92 = .ok (.iastore, 1) := by decide +kernel
theorem dX4_cutUp_93 : decode cX4_cutUp 93 = .ok (.aload_n 0, 1) := by decide +kernel
theorem dX4_cutUp_94 : decode cX4_cutUp 94 = .ok (.getfield 18, 3) := by decide +kernel
theorem dX4_cutUp_97 : decode cX4_cutUp 97 = .ok (.iload_n 1, 1) := by decide +kernel
theorem dX4_cutUp_98 : decode cX4_cutUp 98 = .ok (.iload_n 2, 1) := by decide +kernel
theorem dX4_cutUp_99 : decode cX4_cutUp 99 = .ok (.iastore, 1) := by decide +kernel
theorem dX4_cutUp_100 : decode cX4_cutUp 100 = .ok (.iinc 1 1, 3) := by decide +kernel
theorem dX4_cutUp_103 : decode cX4_cutUp 103 = .ok (.iload 4, 2) := by decide +kernel
theorem dX4_cutUp_105 : decode cX4_cutUp 105 = .ok (.istore_n 2, 1) := by decide +kernel
theorem dX4_cutUp_106 : decode cX4_cutUp 106 = .ok (.iinc 3 1, 3) := by decide +kernel
theorem dX4_cutUp_109 : decode cX4_cutUp 109 = .ok (.goto (-103), 3) := by decide +kernel
theorem dX4_cutUp_112 : decode cX4_cutUp 112 = .ok (.aload_n 0, 1) := by decide +kernel
theorem dX4_cutUp_113 : decode cX4_cutUp 113 = .ok (.getfield 9, 3) := by decide +kernel
theorem dX4_cutUp_116 : decode cX4_cutUp 116 = .ok (.iload_n 1, 1) := by decide +kernel
theorem dX4_cutUp_117 : decode cX4_cutUp 117 = .ok (.iconst 0, 1) := by decide +kernel
theorem dX4_cutUp_118 : decode cX4_cutUp 118 = .ok (.iastore, 1) := by decide +kernel
theorem dX4_cutUp_119 : decode cX4_cutUp 119 = .ok (.aload_n 0, 1) := by decide +kernel
theorem dX4_cutUp_120 : decode cX4_cutUp 120 = .ok (.getfield 18, 3) := by decide +kernel
theorem dX4_cutUp_123 : decode cX4_cutUp 123 = .ok (.iload_n 1, 1) := by decide +kernel
theorem dX4_cutUp_124 : decode cX4_cutUp 124 = .ok (.aload_n 0, 1) := by decide +kernel
theorem dX4_cutUp_125 : decode cX4_cutUp 125 = .ok (.getfield 21, 3) := by decide +kernel
theorem dX4_cutUp_128 : decode cX4_cutUp 128 = .ok (.iastore, 1) := by decide +kernel
theorem dX4_cutUp_129 : decode cX4_cutUp 129 = .ok (.return_, 1) := by decide +kernel
theorem dX4_isBetween_0 : decode cX4_isBetween 0 = .ok (.iload_n 1, 1) := by decide +kernel
theorem dX4_isBetween_1 : decode cX4_isBetween 1 = .ok (.ifCond .lt 36, 3) := by decide +kernel
theorem dX4_isBetween_4 : decode cX4_isBetween 4 = .ok (.iload_n 1, 1) := by decide +kernel
theorem dX4_isBetween_5 : decode cX4_isBetween 5 = .ok (.aload_n 0, 1) := by decide +kernel
theorem dX4_isBetween_6 : decode cX4_isBetween 6 = .ok (.getfield 34, 3) := by decide +kernel
theorem dX4_isBetween_9 : decode cX4_isBetween 9 = .ok (.arraylength, 1) := by decide +kernel
theorem dX4_isBetween_10 : decode cX4_isBetween 10 = .ok (.if_icmp .ge 27, 3) := by decide +kernel
theorem dX4_isBetween_13 : decode cX4_isBetween 13 = .ok (.aload_n 0, 1) := by decide +kernel
theorem dX4_isBetween_14 : decode cX4_isBetween 14 = .ok (.getfield 34, 3) := by decide +kernel
theorem dX4_isBetween_17 : decode cX4_isBetween 17 = .ok (.iload_n 1, 1) := by decide +kernel
theorem dX4_isBetween_18 : decode cX4_isBetween 18 = .ok (.baload, 1) := by decide +kernel
theorem dX4_isBetween_19 : decode cX4_isBetween 19 = .ok (.iload_n 2, 1) := by decide +kernel
theorem dX4_isBetween_20 : decode cX4_isBetween 20 = .ok (.if_icmp .lt 17, 3) := by decide +kernel
theorem dX4_isBetween_23 : decode cX4_isBetween 23 = .ok (.aload_n 0, 1) := by decide +kernel
theorem dX4_isBetween_24 : decode cX4_isBetween 24 = .ok (.getfield 34, 3) := by decide +kernel
theorem dX4_isBetween_27 : decode cX4_isBetween 27 = .ok (.iload_n 1, 1) := by decide +kernel
theorem dX4_isBetween_28 : decode cX4_isBetween 28 = .ok (.baload, 1) := by decide +kernel
theorem dX4_isBetween_29 : decode cX4_isBetween 29 = .ok (.iload_n 3, 1) := by decide +kernel
theorem dX4_isBetween_30 : decode cX4_isBetween 30 = .ok (.if_icmp .gt 7, 3) := by decide +kernel
theorem dX4_isBetween_33 : decode cX4_isBetween 33 = .ok (.iconst 1, 1) := by decide +kernel
theorem dX4_isBetween_34 : decode cX4_isBetween 34 = .ok (.goto 4, 3) := by decide +kernel
theorem dX4_isBetween_37 : decode cX4_isBetween 37 = .ok (.iconst 0, 1) := by decide +kernel
theorem dX4_isBetween_38 : decode cX4_isBetween 38 = .ok (.ireturn, 1) := by decide +kernel
theorem dX4_endOfToken_0 : decode cX4_endOfToken 0 = .ok (.aload_n 0, 1) := by decide +kernel
theorem dX4_endOfToken_1 : decode cX4_endOfToken 1 = .ok (.iload_n 1, 1) := by decide +kernel
theorem dX4_endOfToken_2 : decode cX4_endOfToken 2 = .ok (.bipush 97, 2) := by decide +kernel
theorem dX4_endOfToken_4 : decode cX4_endOfToken 4 = .ok (.bipush 122, 2) := by decide +kernel
theorem dX4_endOfToken_6 : decode cX4_endOfToken 6 = .ok (.invokevirtual 134, 3) := by decide +kernel
theorem dX4_endOfToken_9 : decode cX4_endOfToken 9 = .ok (.istore_n 2, 1) := by decide +kernel
theorem dX4_endOfToken_10 : decode cX4_endOfToken 10 = .ok (.aload_n 0, 1) := by decide +kernel
theorem dX4_endOfToken_11 : decode cX4_endOfToken 11 = .ok (.iload_n 1, 1) := by decide +kernel
theorem dX4_endOfToken_12 : decode cX4_endOfToken 12 = .ok (.bipush 48, 2) := by decide +kernel
theorem dX4_endOfToken_14 : decode cX4_endOfToken 14 = .ok (.bipush 57, 2) := by decide +kernel
theorem dX4_endOfToken_16 : decode cX4_endOfToken 16 = .ok (.invokevirtual 134, 3) := by decide +kernel
theorem dX4_endOfToken_19 : decode cX4_endOfToken 19 = .ok (.istore_n 3, 1) := by decide +kernel
theorem dX4_endOfToken_20 : decode cX4_endOfToken 20 = .ok (.iload_n 1, 1) := by decide +kernel
theorem dX4_endOfToken_21 : decode cX4_endOfToken 21 = .ok (.iconst 1, 1) := by decide +kernel
theorem dX4_endOfToken_22 : decode cX4_endOfToken 22 = .ok (.iadd, 1) := by decide +kernel
theorem dX4_endOfToken_23 : decode cX4_endOfToken 23 = .ok (.istore 4, 2) := by decide +kernel
theorem dX4_endOfToken_25 : decode cX4_endOfToken 25 = .ok (.iload 4, 2) := by decide +kernel
theorem dX4_endOfToken_27 : decode cX4_endOfToken 27 = .ok (.aload_n 0, 1) := by decide +kernel
theorem dX4_endOfToken_28 : decode cX4_endOfToken 28 = .ok (.getfield 21, 3) := by decide +kernel
theorem dX4_endOfToken_31 : decode cX4_endOfToken 31 = .ok (.if_icmp .ge 43, 3) := by decide +kernel
theorem dX4_endOfToken_34 : decode cX4_endOfToken 34 = .ok (.iload_n 2, 1) := by decide +kernel
theorem dX4_endOfToken_35 : decode cX4_endOfToken 35 = .ok (.ifCond .eq 16, 3) := by decide +kernel
theorem dX4_endOfToken_38 : decode cX4_endOfToken 38 = .ok (.aload_n 0, 1) := by decide +kernel
theorem dX4_endOfToken_39 : decode cX4_endOfToken 39 = .ok (.iload 4, 2) := by decide +kernel
theorem dX4_endOfToken_41 : decode cX4_endOfToken 41 = .ok (.bipush 97, 2) := by decide +kernel
theorem dX4_endOfToken_43 : decode cX4_endOfToken 43 = .ok (.bipush 122, 2) := by decide +kernel
theorem dX4_endOfToken_45 : decode cX4_endOfToken 45 = .ok (.invokevirtual 134, 3) := by decide +kernel
theorem dX4_endOfToken_48 : decode cX4_endOfToken 48 = .ok (.ifCond .ne 20, 3) := by decide +kernel
theorem dX4_endOfToken_51 : decode cX4_endOfToken 51 = .ok (.iload_n 3, 1) := by decide +kernel
theorem dX4_endOfToken_52 : decode cX4_endOfToken 52 = .ok (.ifCond .eq 22, 3) := by decide +kernel
theorem dX4_endOfToken_55 : decode cX4_endOfToken 55 = .ok (.aload_n 0, 1) := by decide +kernel
theorem dX4_endOfToken_56 : decode cX4_endOfToken 56 = .ok (.iload 4, 2) := by decide +kernel
theorem dX4_endOfToken_58 : decode cX4_endOfToken 58 = .ok (.bipush 48, 2) := by decide +kernel
theorem dX4_endOfToken_60 : decode cX4_endOfToken 60 = .ok (.bipush 57, 2) := by decide +kernel
theorem dX4_endOfToken_62 : decode cX4_endOfToken 62 = .ok (.invokevirtual 134, 3) := by decide +kernel
theorem dX4_endOfToken_65 : decode cX4_endOfToken 65 = .ok (.ifCond .eq 9, 3) := by decide +kernel
theorem dX4_endOfToken_68 : decode cX4_endOfToken 68 = .ok (.iinc 4 1, 3) := by decide +kernel
theorem dX4_endOfToken_71 : decode cX4_endOfToken 71 = .ok (.goto (-46), 3) := by decide +kernel
theorem dX4_endOfToken_74 : decode cX4_endOfToken 74 = .ok (.iload 4, 2) := by decide +kernel
theorem dX4_endOfToken_76 : decode cX4_endOfToken 76 = .ok (.ireturn, 1) := by decide +kernel
theorem dX4_tokenOf_0 : decode cX4_tokenOf 0 = .ok (.aload_n 0, 1) := by decide +kernel
theorem dX4_tokenOf_1 : decode cX4_tokenOf 1 = .ok (.iload_n 1, 1) := by decide +kernel
theorem dX4_tokenOf_2 : decode cX4_tokenOf 2 = .ok (.bipush 97, 2) := by decide +kernel
theorem dX4_tokenOf_4 : decode cX4_tokenOf 4 = .ok (.bipush 122, 2) := by decide +kernel
theorem dX4_tokenOf_6 : decode cX4_tokenOf 6 = .ok (.invokevirtual 134, 3) := by decide +kernel
theorem dX4_tokenOf_9 : decode cX4_tokenOf 9 = .ok (.ifCond .eq 10, 3) := by decide +kernel
theorem dX4_tokenOf_12 : decode cX4_tokenOf 12 = .ok (.aload_n 0, 1) := by decide +kernel
theorem dX4_tokenOf_13 : decode cX4_tokenOf 13 = .ok (.iload_n 1, 1) := by decide +kernel
theorem dX4_tokenOf_14 : decode cX4_tokenOf 14 = .ok (.iload_n 2, 1) := by decide +kernel
theorem dX4_tokenOf_15 : decode cX4_tokenOf 15 = .ok (.invokevirtual 138, 3) := by decide +kernel
theorem dX4_tokenOf_18 : decode cX4_tokenOf 18 = .ok (.ireturn, 1) := by decide +kernel
theorem dX4_tokenOf_19 : decode cX4_tokenOf 19 = .ok (.aload_n 0, 1) := by decide +kernel
theorem dX4_tokenOf_20 : decode cX4_tokenOf 20 = .ok (.iload_n 1, 1) := by decide +kernel
theorem dX4_tokenOf_21 : decode cX4_tokenOf 21 = .ok (.bipush 59, 2) := by decide +kernel
theorem dX4_tokenOf_23 : decode cX4_tokenOf 23 = .ok (.bipush 59, 2) := by decide +kernel
theorem dX4_tokenOf_25 : decode cX4_tokenOf 25 = .ok (.invokevirtual 134, 3) := by decide +kernel
theorem dX4_tokenOf_28 : decode cX4_tokenOf 28 = .ok (.ifCond .eq 5, 3) := by decide +kernel
theorem dX4_tokenOf_31 : decode cX4_tokenOf 31 = .ok (.iconst 2, 1) := by decide +kernel
theorem dX4_tokenOf_32 : decode cX4_tokenOf 32 = .ok (.ireturn, 1) := by decide +kernel
theorem dX4_tokenOf_33 : decode cX4_tokenOf 33 = .ok (.iload_n 2, 1) := by decide +kernel
theorem dX4_tokenOf_34 : decode cX4_tokenOf 34 = .ok (.iload_n 1, 1) := by decide +kernel
theorem dX4_tokenOf_35 : decode cX4_tokenOf 35 = .ok (.isub, 1) := by decide +kernel
theorem dX4_tokenOf_36 : decode cX4_tokenOf 36 = .ok (.iconst 1, 1) := by decide +kernel
theorem dX4_tokenOf_37 : decode cX4_tokenOf 37 = .ok (.if_icmp .le 19, 3) := by decide +kernel
theorem dX4_tokenOf_40 : decode cX4_tokenOf 40 = .ok (.aload_n 0, 1) := by decide +kernel
theorem dX4_tokenOf_41 : decode cX4_tokenOf 41 = .ok (.iload_n 1, 1) := by decide +kernel
theorem dX4_tokenOf_42 : decode cX4_tokenOf 42 = .ok (.bipush 48, 2) := by decide +kernel
theorem dX4_tokenOf_44 : decode cX4_tokenOf 44 = .ok (.bipush 48, 2) := by decide +kernel
theorem dX4_tokenOf_46 : decode cX4_tokenOf 46 = .ok (.invokevirtual 134, 3) := by decide +kernel
theorem dX4_tokenOf_49 : decode cX4_tokenOf 49 = .ok (.ifCond .eq 7, 3) := by decide +kernel
theorem dX4_tokenOf_52 : decode cX4_tokenOf 52 = .ok (.iconst 1, 1) := by decide +kernel
theorem dX4_tokenOf_53 : decode cX4_tokenOf 53 = .ok (.goto 4, 3) := by decide +kernel
theorem dX4_tokenOf_56 : decode cX4_tokenOf 56 = .ok (.iconst 0, 1) := by decide +kernel
theorem dX4_tokenOf_57 : decode cX4_tokenOf 57 = .ok (.istore_n 3, 1) := by decide +kernel
theorem dX4_tokenOf_58 : decode cX4_tokenOf 58 = .ok (.aload_n 0, 1) := by decide +kernel
theorem dX4_tokenOf_59 : decode cX4_tokenOf 59 = .ok (.iload_n 1, 1) := by decide +kernel
theorem dX4_tokenOf_60 : decode cX4_tokenOf 60 = .ok (.bipush 48, 2) := by decide +kernel
theorem dX4_tokenOf_62 : decode cX4_tokenOf 62 = .ok (.bipush 57, 2) := by decide +kernel
theorem dX4_tokenOf_64 : decode cX4_tokenOf 64 = .ok (.invokevirtual 134, 3) := by decide +kernel
theorem dX4_tokenOf_67 : decode cX4_tokenOf 67 = .ok (.ifCond .eq 18, 3) := by decide +kernel
theorem dX4_tokenOf_70 : decode cX4_tokenOf 70 = .ok (.iload_n 2, 1) := by decide +kernel
theorem dX4_tokenOf_71 : decode cX4_tokenOf 71 = .ok (.iload_n 1, 1) := by decide +kernel
theorem dX4_tokenOf_72 : decode cX4_tokenOf 72 = .ok (.isub, 1) := by decide +kernel
theorem dX4_tokenOf_73 : decode cX4_tokenOf 73 = .ok (.iconst 2, 1) := by decide +kernel
theorem dX4_tokenOf_74 : decode cX4_tokenOf 74 = .ok (.if_icmp .gt 11, 3) := by decide +kernel
theorem dX4_tokenOf_77 : decode cX4_tokenOf 77 = .ok (.iload_n 3, 1) := by decide +kernel
theorem dX4_tokenOf_78 : decode cX4_tokenOf 78 = .ok (.ifCond .ne 7, 3) := by decide +kernel
theorem dX4_tokenOf_81 : decode cX4_tokenOf 81 = .ok (.iconst 1, 1) := by decide +kernel
theorem dX4_tokenOf_82 : decode cX4_tokenOf 82 = .ok (.goto 4, 3) := by decide +kernel
theorem dX4_tokenOf_85 : decode cX4_tokenOf 85 = .ok (.iconst 3, 1) := by decide +kernel
theorem dX4_tokenOf_86 : decode cX4_tokenOf 86 = .ok (.ireturn, 1) := by decide +kernel
theorem dX4_numberOf_0 : decode cX4_numberOf 0 = .ok (.iconst 0, 1) := by decide +kernel
theorem dX4_numberOf_1 : decode cX4_numberOf 1 = .ok (.istore_n 3, 1) := by decide +kernel
theorem dX4_numberOf_2 : decode cX4_numberOf 2 = .ok (.iload_n 1, 1) := by decide +kernel
theorem dX4_numberOf_3 : decode cX4_numberOf 3 = .ok (.istore 4, 2) := by decide +kernel
theorem dX4_numberOf_5 : decode cX4_numberOf 5 = .ok (.iload 4, 2) := by decide +kernel
theorem dX4_numberOf_7 : decode cX4_numberOf 7 = .ok (.ifCond .lt 41, 3) := by decide +kernel
theorem dX4_numberOf_10 : decode cX4_numberOf 10 = .ok (.iload 4, 2) := by decide +kernel
theorem dX4_numberOf_12 : decode cX4_numberOf 12 = .ok (.iload_n 2, 1) := by decide +kernel
theorem dX4_numberOf_13 : decode cX4_numberOf 13 = .ok (.if_icmp .ge 35, 3) := by decide +kernel
theorem dX4_numberOf_16 : decode cX4_numberOf 16 = .ok (.iload 4, 2) := by decide +kernel
theorem dX4_numberOf_18 : decode cX4_numberOf 18 = .ok (.aload_n 0, 1) := by decide +kernel
theorem dX4_numberOf_19 : decode cX4_numberOf 19 = .ok (.getfield 34, 3) := by decide +kernel
theorem dX4_numberOf_22 : decode cX4_numberOf 22 = .ok (.arraylength, 1) := by decide +kernel
theorem dX4_numberOf_23 : decode cX4_numberOf 23 = .ok (.if_icmp .ge 25, 3) := by decide +kernel
theorem dX4_numberOf_26 : decode cX4_numberOf 26 = .ok (.bipush 10, 2) := by decide +kernel
theorem dX4_numberOf_28 : decode cX4_numberOf 28 = .ok (.iload_n 3, 1) := by decide +kernel
theorem dX4_numberOf_29 : decode cX4_numberOf 29 = .ok (.imul, 1) := by decide +kernel
theorem dX4_numberOf_30 : decode cX4_numberOf 30 = .ok (.aload_n 0, 1) := by decide +kernel
theorem dX4_numberOf_31 : decode cX4_numberOf 31 = .ok (.getfield 34, 3) := by decide +kernel
theorem dX4_numberOf_34 : decode cX4_numberOf 34 = .ok (.iload 4, 2) := by decide +kernel
theorem dX4_numberOf_36 : decode cX4_numberOf 36 = .ok (.baload, 1) := by decide +kernel
theorem dX4_numberOf_37 : decode cX4_numberOf 37 = .ok (.bipush 48, 2) := by decide +kernel
theorem dX4_numberOf_39 : decode cX4_numberOf 39 = .ok (.isub, 1) := by decide +kernel
theorem dX4_numberOf_40 : decode cX4_numberOf 40 = .ok (.iadd, 1) := by decide +kernel
theorem dX4_numberOf_41 : decode cX4_numberOf 41 = .ok (.istore_n 3, 1) := by decide +kernel
theorem dX4_numberOf_42 : decode cX4_numberOf 42 = .ok (.iinc 4 1, 3) := by decide +kernel
theorem dX4_numberOf_45 : decode cX4_numberOf 45 = .ok (.goto (-40), 3) := by decide +kernel
theorem dX4_numberOf_48 : decode cX4_numberOf 48 = .ok (.iload_n 3, 1) := by decide +kernel
theorem dX4_numberOf_49 : decode cX4_numberOf 49 = .ok (.ireturn, 1) := by decide +kernel
theorem dX4_wordOf_0 : decode cX4_wordOf 0 = .ok (.aload_n 0, 1) := by decide +kernel
theorem dX4_wordOf_1 : decode cX4_wordOf 1 = .ok (.ldc 141, 2) := by decide +kernel
theorem dX4_wordOf_3 : decode cX4_wordOf 3 = .ok (.iload_n 1, 1) := by decide +kernel
theorem dX4_wordOf_4 : decode cX4_wordOf 4 = .ok (.iload_n 2, 1) := by decide +kernel
theorem dX4_wordOf_5 : decode cX4_wordOf 5 = .ok (.invokevirtual 142, 3) := by decide +kernel
theorem dX4_wordOf_8 : decode cX4_wordOf 8 = .ok (.ifCond .eq 5, 3) := by decide +kernel
theorem dX4_wordOf_11 : decode cX4_wordOf 11 = .ok (.iconst 4, 1) := by decide +kernel
theorem dX4_wordOf_12 : decode cX4_wordOf 12 = .ok (.ireturn, 1) := by decide +kernel
theorem dX4_wordOf_13 : decode cX4_wordOf 13 = .ok (.aload_n 0, 1) := by decide +kernel
theorem dX4_wordOf_14 : decode cX4_wordOf 14 = .ok (.ldc 146, 2) := by decide +kernel
theorem dX4_wordOf_16 : decode cX4_wordOf 16 = .ok (.iload_n 1, 1) := by decide +kernel
theorem dX4_wordOf_17 : decode cX4_wordOf 17 = .ok (.iload_n 2, 1) := by decide +kernel
theorem dX4_wordOf_18 : decode cX4_wordOf 18 = .ok (.invokevirtual 142, 3) := by decide +kernel
theorem dX4_wordOf_21 : decode cX4_wordOf 21 = .ok (.ifCond .eq 5, 3) := by decide +kernel
theorem dX4_wordOf_24 : decode cX4_wordOf 24 = .ok (.iconst 5, 1) := by decide +kernel
theorem dX4_wordOf_25 : decode cX4_wordOf 25 = .ok (.ireturn, 1) := by decide +kernel
theorem dX4_wordOf_26 : decode cX4_wordOf 26 = .ok (.aload_n 0, 1) := by decide +kernel
theorem dX4_wordOf_27 : decode cX4_wordOf 27 = .ok (.ldc 148, 2) := by decide +kernel
theorem dX4_wordOf_29 : decode cX4_wordOf 29 = .ok (.iload_n 1, 1) := by decide +kernel
theorem dX4_wordOf_30 : decode cX4_wordOf 30 = .ok (.iload_n 2, 1) := by decide +kernel
theorem dX4_wordOf_31 : decode cX4_wordOf 31 = .ok (.invokevirtual 142, 3) := by decide +kernel
theorem dX4_wordOf_34 : decode cX4_wordOf 34 = .ok (.ifCond .eq 6, 3) := by decide +kernel
theorem dX4_wordOf_37 : decode cX4_wordOf 37 = .ok (.bipush 6, 2) := by decide +kernel
theorem dX4_wordOf_39 : decode cX4_wordOf 39 = .ok (.ireturn, 1) := by decide +kernel
theorem dX4_wordOf_40 : decode cX4_wordOf 40 = .ok (.aload_n 0, 1) := by decide +kernel
theorem dX4_wordOf_41 : decode cX4_wordOf 41 = .ok (.ldc 150, 2) := by decide +kernel
theorem dX4_wordOf_43 : decode cX4_wordOf 43 = .ok (.iload_n 1, 1) := by decide +kernel
theorem dX4_wordOf_44 : decode cX4_wordOf 44 = .ok (.iload_n 2, 1) := by decide +kernel
theorem dX4_wordOf_45 : decode cX4_wordOf 45 = .ok (.invokevirtual 142, 3) := by decide +kernel
theorem dX4_wordOf_48 : decode cX4_wordOf 48 = .ok (.ifCond .eq 6, 3) := by decide +kernel
theorem dX4_wordOf_51 : decode cX4_wordOf 51 = .ok (.bipush 7, 2) := by decide +kernel
theorem dX4_wordOf_53 : decode cX4_wordOf 53 = .ok (.ireturn, 1) := by decide +kernel
theorem dX4_wordOf_54 : decode cX4_wordOf 54 = .ok (.aload_n 0, 1) := by decide +kernel
theorem dX4_wordOf_55 : decode cX4_wordOf 55 = .ok (.ldc 152, 2) := by decide +kernel
theorem dX4_wordOf_57 : decode cX4_wordOf 57 = .ok (.iload_n 1, 1) := by decide +kernel
theorem dX4_wordOf_58 : decode cX4_wordOf 58 = .ok (.iload_n 2, 1) := by decide +kernel
theorem dX4_wordOf_59 : decode cX4_wordOf 59 = .ok (.invokevirtual 142, 3) := by decide +kernel
theorem dX4_wordOf_62 : decode cX4_wordOf 62 = .ok (.ifCond .eq 6, 3) := by decide +kernel
theorem dX4_wordOf_65 : decode cX4_wordOf 65 = .ok (.bipush 8, 2) := by decide +kernel
theorem dX4_wordOf_67 : decode cX4_wordOf 67 = .ok (.ireturn, 1) := by decide +kernel
theorem dX4_wordOf_68 : decode cX4_wordOf 68 = .ok (.aload_n 0, 1) := by decide +kernel
theorem dX4_wordOf_69 : decode cX4_wordOf 69 = .ok (.ldc 154, 2) := by decide +kernel
theorem dX4_wordOf_71 : decode cX4_wordOf 71 = .ok (.iload_n 1, 1) := by decide +kernel
theorem dX4_wordOf_72 : decode cX4_wordOf 72 = .ok (.iload_n 2, 1) := by decide +kernel
theorem dX4_wordOf_73 : decode cX4_wordOf 73 = .ok (.invokevirtual 142, 3) := by decide +kernel
theorem dX4_wordOf_76 : decode cX4_wordOf 76 = .ok (.ifCond .eq 6, 3) := by decide +kernel
theorem dX4_wordOf_79 : decode cX4_wordOf 79 = .ok (.bipush 9, 2) := by decide +kernel
theorem dX4_wordOf_81 : decode cX4_wordOf 81 = .ok (.ireturn, 1) := by decide +kernel
theorem dX4_wordOf_82 : decode cX4_wordOf 82 = .ok (.aload_n 0, 1) := by decide +kernel
theorem dX4_wordOf_83 : decode cX4_wordOf 83 = .ok (.ldc 156, 2) := by decide +kernel
theorem dX4_wordOf_85 : decode cX4_wordOf 85 = .ok (.iload_n 1, 1) := by decide +kernel
theorem dX4_wordOf_86 : decode cX4_wordOf 86 = .ok (.iload_n 2, 1) := by decide +kernel
theorem dX4_wordOf_87 : decode cX4_wordOf 87 = .ok (.invokevirtual 142, 3) := by decide +kernel
theorem dX4_wordOf_90 : decode cX4_wordOf 90 = .ok (.ifCond .eq 6, 3) := by decide +kernel
theorem dX4_wordOf_93 : decode cX4_wordOf 93 = .ok (.bipush 10, 2) := by decide +kernel
theorem dX4_wordOf_95 : decode cX4_wordOf 95 = .ok (.ireturn, 1) := by decide +kernel
theorem dX4_wordOf_96 : decode cX4_wordOf 96 = .ok (.aload_n 0, 1) := by decide +kernel
theorem dX4_wordOf_97 : decode cX4_wordOf 97 = .ok (.ldc 158, 2) := by decide +kernel
theorem dX4_wordOf_99 : decode cX4_wordOf 99 = .ok (.iload_n 1, 1) := by decide +kernel
theorem dX4_wordOf_100 : decode cX4_wordOf 100 = .ok (.iload_n 2, 1) := by decide +kernel
theorem dX4_wordOf_101 : decode cX4_wordOf 101 = .ok (.invokevirtual 142, 3) := by decide +kernel
theorem dX4_wordOf_104 : decode cX4_wordOf 104 = .ok (.ifCond .eq 6, 3) := by decide +kernel
theorem dX4_wordOf_107 : decode cX4_wordOf 107 = .ok (.bipush 11, 2) := by decide +kernel
theorem dX4_wordOf_109 : decode cX4_wordOf 109 = .ok (.ireturn, 1) := by decide +kernel
theorem dX4_wordOf_110 : decode cX4_wordOf 110 = .ok (.aload_n 0, 1) := by decide +kernel
theorem dX4_wordOf_111 : decode cX4_wordOf 111 = .ok (.ldc 160, 2) := by decide +kernel
theorem dX4_wordOf_113 : decode cX4_wordOf 113 = .ok (.iload_n 1, 1) := by decide +kernel
theorem dX4_wordOf_114 : decode cX4_wordOf 114 = .ok (.iload_n 2, 1) := by decide +kernel
theorem dX4_wordOf_115 : decode cX4_wordOf 115 = .ok (.invokevirtual 142, 3) := by decide +kernel
theorem dX4_wordOf_118 : decode cX4_wordOf 118 = .ok (.ifCond .eq 6, 3) := by decide +kernel
theorem dX4_wordOf_121 : decode cX4_wordOf 121 = .ok (.bipush 12, 2) := by decide +kernel
theorem dX4_wordOf_123 : decode cX4_wordOf 123 = .ok (.ireturn, 1) := by decide +kernel
theorem dX4_wordOf_124 : decode cX4_wordOf 124 = .ok (.iconst 3, 1) := by decide +kernel
theorem dX4_wordOf_125 : decode cX4_wordOf 125 = .ok (.ireturn, 1) := by decide +kernel
theorem dX4_isWord_0 : decode cX4_isWord 0 = .ok (.iload_n 3, 1) := by decide +kernel
theorem dX4_isWord_1 : decode cX4_isWord 1 = .ok (.iload_n 2, 1) := by decide +kernel
theorem dX4_isWord_2 : decode cX4_isWord 2 = .ok (.isub, 1) := by decide +kernel
theorem dX4_isWord_3 : decode cX4_isWord 3 = .ok (.aload_n 1, 1) := by decide +kernel
theorem dX4_isWord_4 : decode cX4_isWord 4 = .ok (.invokevirtual 162, 3) := by decide +kernel
theorem dX4_isWord_7 : decode cX4_isWord 7 = .ok (.if_icmp .ne 16, 3) := by decide +kernel
theorem dX4_isWord_10 : decode cX4_isWord 10 = .ok (.iload_n 2, 1) := by decide +kernel
theorem dX4_isWord_11 : decode cX4_isWord 11 = .ok (.ifCond .lt 12, 3) := by decide +kernel
theorem dX4_isWord_14 : decode cX4_isWord 14 = .ok (.iload_n 3, 1) := by decide +kernel
theorem dX4_isWord_15 : decode cX4_isWord 15 = .ok (.aload_n 0, 1) := by decide +kernel
theorem dX4_isWord_16 : decode cX4_isWord 16 = .ok (.getfield 34, 3) := by decide +kernel
theorem dX4_isWord_19 : decode cX4_isWord 19 = .ok (.arraylength, 1) := by decide +kernel
theorem dX4_isWord_20 : decode cX4_isWord 20 = .ok (.if_icmp .le 5, 3) := by decide +kernel
theorem dX4_isWord_23 : decode cX4_isWord 23 = .ok (.iconst 0, 1) := by decide +kernel
theorem dX4_isWord_24 : decode cX4_isWord 24 = .ok (.ireturn, 1) := by decide +kernel
theorem dX4_isWord_25 : decode cX4_isWord 25 = .ok (.iconst 0, 1) := by decide +kernel
theorem dX4_isWord_26 : decode cX4_isWord 26 = .ok (.istore 4, 2) := by decide +kernel
theorem dX4_isWord_28 : decode cX4_isWord 28 = .ok (.iload 4, 2) := by decide +kernel
theorem dX4_isWord_30 : decode cX4_isWord 30 = .ok (.aload_n 1, 1) := by decide +kernel
theorem dX4_isWord_31 : decode cX4_isWord 31 = .ok (.invokevirtual 162, 3) := by decide +kernel
theorem dX4_isWord_34 : decode cX4_isWord 34 = .ok (.if_icmp .ge 29, 3) := by decide +kernel
theorem dX4_isWord_37 : decode cX4_isWord 37 = .ok (.aload_n 0, 1) := by decide +kernel
theorem dX4_isWord_38 : decode cX4_isWord 38 = .ok (.getfield 34, 3) := by decide +kernel
theorem dX4_isWord_41 : decode cX4_isWord 41 = .ok (.iload_n 2, 1) := by decide +kernel
theorem dX4_isWord_42 : decode cX4_isWord 42 = .ok (.iload 4, 2) := by decide +kernel
theorem dX4_isWord_44 : decode cX4_isWord 44 = .ok (.iadd, 1) := by decide +kernel
theorem dX4_isWord_45 : decode cX4_isWord 45 = .ok (.baload, 1) := by decide +kernel
theorem dX4_isWord_46 : decode cX4_isWord 46 = .ok (.aload_n 1, 1) := by decide +kernel
theorem dX4_isWord_47 : decode cX4_isWord 47 = .ok (.iload 4, 2) := by decide +kernel
theorem dX4_isWord_49 : decode cX4_isWord 49 = .ok (.invokevirtual 167, 3) := by decide +kernel
theorem dX4_isWord_52 : decode cX4_isWord 52 = .ok (.if_icmp .eq 5, 3) := by decide +kernel
theorem dX4_isWord_55 : decode cX4_isWord 55 = .ok (.iconst 0, 1) := by decide +kernel
theorem dX4_isWord_56 : decode cX4_isWord 56 = .ok (.ireturn, 1) := by decide +kernel
theorem dX4_isWord_57 : decode cX4_isWord 57 = .ok (.iinc 4 1, 3) := by decide +kernel
theorem dX4_isWord_60 : decode cX4_isWord 60 = .ok (.goto (-32), 3) := by decide +kernel
theorem dX4_isWord_63 : decode cX4_isWord 63 = .ok (.iconst 1, 1) := by decide +kernel
theorem dX4_isWord_64 : decode cX4_isWord 64 = .ok (.ireturn, 1) := by decide +kernel
theorem dX5_init_0 : decode cX5_init 0 = .ok (.aload_n 0, 1) := by decide +kernel
theorem dX5_init_1 : decode cX5_init 1 = .ok (.invokespecial 3, 3) := by decide +kernel
theorem dX5_init_4 : decode cX5_init 4 = .ok (.aload_n 0, 1) := by decide +kernel
theorem dX5_init_5 : decode cX5_init 5 = .ok (.iconst 4, 1) := by decide +kernel
theorem dX5_init_6 : decode cX5_init 6 = .ok (.newarray .long, 2) := by decide +kernel
theorem dX5_init_8 : decode cX5_init 8 = .ok (.putfield 9, 3) := by decide +kernel
theorem dX5_init_11 : decode cX5_init 11 = .ok (.return_, 1) := by decide +kernel
theorem dX5_startAt_0 : decode cX5_startAt 0 = .ok (.iconst 0, 1) := by decide +kernel
theorem dX5_startAt_1 : decode cX5_startAt 1 = .ok (.istore_n 2, 1) := by decide +kernel
theorem dX5_startAt_2 : decode cX5_startAt 2 = .ok (.iload_n 2, 1) := by decide +kernel
theorem dX5_startAt_3 : decode cX5_startAt 3 = .ok (.iconst 4, 1) := by decide +kernel
theorem dX5_startAt_4 : decode cX5_startAt 4 = .ok (.if_icmp .ge 25, 3) := by decide +kernel
theorem dX5_startAt_7 : decode cX5_startAt 7 = .ok (.aload_n 0, 1) := by decide +kernel
theorem dX5_startAt_8 : decode cX5_startAt 8 = .ok (.getfield 9, 3) := by decide +kernel
theorem dX5_startAt_11 : decode cX5_startAt 11 = .ok (.iload_n 2, 1) := by decide +kernel
theorem dX5_startAt_12 : decode cX5_startAt 12 = .ok (.iload_n 2, 1) := by decide +kernel
theorem dX5_startAt_13 : decode cX5_startAt 13 = .ok (.iload_n 1, 1) := by decide +kernel
theorem dX5_startAt_14 : decode cX5_startAt 14 = .ok (.if_icmp .ne 7, 3) := by decide +kernel
theorem dX5_startAt_17 : decode cX5_startAt 17 = .ok (.lconst 1, 1) := by decide +kernel
theorem dX5_startAt_18 : decode cX5_startAt 18 = .ok (.goto 4, 3) := by decide +kernel
theorem dX5_startAt_21 : decode cX5_startAt 21 = .ok (.lconst 0, 1) := by decide +kernel
theorem dX5_startAt_22 : decode cX5_startAt 22 = .ok (.lastore, 1) := by decide +kernel
theorem dX5_startAt_23 : decode cX5_startAt 23 = .ok (.iinc 2 1, 3) := by decide +kernel
theorem dX5_startAt_26 : decode cX5_startAt 26 = .ok (.goto (-24), 3) := by decide +kernel
theorem dX5_startAt_29 : decode cX5_startAt 29 = .ok (.return_, 1) := by decide +kernel
theorem dX5_becomeLike_0 : decode cX5_becomeLike 0 = .ok (.aload_n 1, 1) := by decide +kernel
theorem dX5_becomeLike_1 : decode cX5_becomeLike 1 = .ok (.getfield 9, 3) := by decide +kernel
theorem dX5_becomeLike_4 : decode cX5_becomeLike 4 = .ok (.iconst 0, 1) := by decide +kernel
theorem dX5_becomeLike_5 : decode cX5_becomeLike 5 = .ok (.aload_n 0, 1) := by decide +kernel
theorem dX5_becomeLike_6 : decode cX5_becomeLike 6 = .ok (.getfield 9, 3) := by decide +kernel
theorem dX5_becomeLike_9 : decode cX5_becomeLike 9 = .ok (.iconst 0, 1) := by decide +kernel
theorem dX5_becomeLike_10 : decode cX5_becomeLike 10 = .ok (.iconst 4, 1) := by decide +kernel
theorem dX5_becomeLike_11 : decode cX5_becomeLike 11 = .ok (.invokestatic 15, 3) := by decide +kernel
theorem dX5_becomeLike_14 : decode cX5_becomeLike 14 = .ok (.return_, 1) := by decide +kernel
theorem dX5_weightOf_0 : decode cX5_weightOf 0 = .ok (.iload_n 1, 1) := by decide +kernel
theorem dX5_weightOf_1 : decode cX5_weightOf 1 = .ok (.ifCond .lt 17, 3) := by decide +kernel
theorem dX5_weightOf_4 : decode cX5_weightOf 4 = .ok (.iload_n 1, 1) := by decide +kernel
theorem dX5_weightOf_5 : decode cX5_weightOf 5 = .ok (.iconst 4, 1) := by decide +kernel
theorem dX5_weightOf_6 : decode cX5_weightOf 6 = .ok (.if_icmp .ge 12, 3) := by decide +kernel
theorem dX5_weightOf_9 : decode cX5_weightOf 9 = .ok (.aload_n 0, 1) := by decide +kernel
theorem dX5_weightOf_10 : decode cX5_weightOf 10 = .ok (.getfield 9, 3) := by decide +kernel
theorem dX5_weightOf_13 : decode cX5_weightOf 13 = .ok (.iload_n 1, 1) := by decide +kernel
theorem dX5_weightOf_14 : decode cX5_weightOf 14 = .ok (.laload, 1) := by decide +kernel
theorem dX5_weightOf_15 : decode cX5_weightOf 15 = .ok (.goto 4, 3) := by decide +kernel
theorem dX5_weightOf_18 : decode cX5_weightOf 18 = .ok (.lconst 0, 1) := by decide +kernel
theorem dX5_weightOf_19 : decode cX5_weightOf 19 = .ok (.lreturn, 1) := by decide +kernel
theorem dX5_total_0 : decode cX5_total 0 = .ok (.aload_n 0, 1) := by decide +kernel
theorem dX5_total_1 : decode cX5_total 1 = .ok (.getfield 9, 3) := by decide +kernel
theorem dX5_total_4 : decode cX5_total 4 = .ok (.iconst 0, 1) := by decide +kernel
theorem dX5_total_5 : decode cX5_total 5 = .ok (.laload, 1) := by decide +kernel
theorem dX5_total_6 : decode cX5_total 6 = .ok (.aload_n 0, 1) := by decide +kernel
theorem dX5_total_7 : decode cX5_total 7 = .ok (.getfield 9, 3) := by decide +kernel
theorem dX5_total_10 : decode cX5_total 10 = .ok (.iconst 1, 1) := by decide +kernel
theorem dX5_total_11 : decode cX5_total 11 = .ok (.laload, 1) := by decide +kernel
theorem dX5_total_12 : decode cX5_total 12 = .ok (.ladd, 1) := by decide +kernel
theorem dX5_total_13 : decode cX5_total 13 = .ok (.aload_n 0, 1) := by decide +kernel
theorem dX5_total_14 : decode cX5_total 14 = .ok (.getfield 9, 3) := by decide +kernel
theorem dX5_total_17 : decode cX5_total 17 = .ok (.iconst 2, 1) := by decide +kernel
theorem dX5_total_18 : decode cX5_total 18 = .ok (.laload, 1) := by decide +kernel
theorem dX5_total_19 : decode cX5_total 19 = .ok (.ladd, 1) := by decide +kernel
theorem dX5_total_20 : decode cX5_total 20 = .ok (.aload_n 0, 1) := by decide +kernel
theorem dX5_total_21 : decode cX5_total 21 = .ok (.getfield 9, 3) := by decide +kernel
theorem dX5_total_24 : decode cX5_total 24 = .ok (.iconst 3, 1) := by decide +kernel
theorem dX5_total_25 : decode cX5_total 25 = .ok (.laload, 1) := by decide +kernel
theorem dX5_total_26 : decode cX5_total 26 = .ok (.ladd, 1) := by decide +kernel
theorem dX5_total_27 : decode cX5_total 27 = .ok (.lreturn, 1) := by decide +kernel
theorem dX5_allGood_0 : decode cX5_allGood 0 = .ok (.lconst 0, 1) := by decide +kernel
theorem dX5_allGood_1 : decode cX5_allGood 1 = .ok (.lstore_n 3, 1) := by decide +kernel
theorem dX5_allGood_2 : decode cX5_allGood 2 = .ok (.iconst 0, 1) := by decide +kernel
theorem dX5_allGood_3 : decode cX5_allGood 3 = .ok (.istore 5, 2) := by decide +kernel
theorem dX5_allGood_5 : decode cX5_allGood 5 = .ok (.iload 5, 2) := by decide +kernel
theorem dX5_allGood_7 : decode cX5_allGood 7 = .ok (.iconst 4, 1) := by decide +kernel
theorem dX5_allGood_8 : decode cX5_allGood 8 = .ok (.if_icmp .ge 30, 3) := by decide +kernel
theorem dX5_allGood_11 : decode cX5_allGood 11 = .ok (.lload_n 3, 1) := by decide +kernel
theorem dX5_allGood_12 : decode cX5_allGood 12 = .ok (.aload_n 0, 1) := by decide +kernel
theorem dX5_allGood_13 : decode cX5_allGood 13 = .ok (.getfield 9, 3) := by decide +kernel
theorem dX5_allGood_16 : decode cX5_allGood 16 = .ok (.iload 5, 2) := by decide +kernel
theorem dX5_allGood_18 : decode cX5_allGood 18 = .ok (.laload, 1) := by decide +kernel
theorem dX5_allGood_19 : decode cX5_allGood 19 = .ok (.aload_n 1, 1) := by decide +kernel
theorem dX5_allGood_20 : decode cX5_allGood 20 = .ok (.iload_n 2, 1) := by decide +kernel
theorem dX5_allGood_21 : decode cX5_allGood 21 = .ok (.iconst 0, 1) := by decide +kernel
theorem dX5_allGood_22 : decode cX5_allGood 22 = .ok (.iload 5, 2) := by decide +kernel
theorem dX5_allGood_24 : decode cX5_allGood 24 = .ok (.iadd, 1) := by decide +kernel
theorem dX5_allGood_25 : decode cX5_allGood 25 = .ok (.invokevirtual 21, 3) := by decide +kernel
theorem dX5_allGood_28 : decode cX5_allGood 28 = .ok (.i2l, 1) := by decide +kernel
theorem dX5_allGood_29 : decode cX5_allGood 29 = .ok (.lmul, 1) := by decide +kernel
theorem dX5_allGood_30 : decode cX5_allGood 30 = .ok (.ladd, 1) := by decide +kernel
theorem dX5_allGood_31 : decode cX5_allGood 31 = .ok (.lstore_n 3, 1) := by decide +kernel
theorem dX5_allGood_32 : decode cX5_allGood 32 = .ok (.iinc 5 1, 3) := by decide +kernel
theorem dX5_allGood_35 : decode cX5_allGood 35 = .ok (.goto (-30), 3) := by decide +kernel
theorem dX5_allGood_38 : decode cX5_allGood 38 = .ok (.lload_n 3, 1) := by decide +kernel
theorem dX5_allGood_39 : decode cX5_allGood 39 = .ok (.lreturn, 1) := by decide +kernel
theorem dX5_weekGoesBy_0 : decode cX5_weekGoesBy 0 = .ok (.aload_n 0, 1) := by decide +kernel
theorem dX5_weekGoesBy_1 : decode cX5_weekGoesBy 1 = .ok (.getfield 9, 3) := by decide +kernel
theorem dX5_weekGoesBy_4 : decode cX5_weekGoesBy 4 = .ok (.iconst 3, 1) := by decide +kernel
theorem dX5_weekGoesBy_5 : decode cX5_weekGoesBy 5 = .ok (.dup2, 1) := by decide +kernel
theorem dX5_weekGoesBy_6 : decode cX5_weekGoesBy 6 = .ok (.laload, 1) := by decide +kernel
theorem dX5_weekGoesBy_7 : decode cX5_weekGoesBy 7 = .ok (.ldc2_w 27, 3) := by decide +kernel
theorem dX5_weekGoesBy_10 : decode cX5_weekGoesBy 10 = .ok (.lmul, 1) := by decide +kernel
theorem dX5_weekGoesBy_11 : decode cX5_weekGoesBy 11 = .ok (.lastore, 1) := by decide +kernel
theorem dX5_weekGoesBy_12 : decode cX5_weekGoesBy 12 = .ok (.iconst 2, 1) := by decide +kernel
theorem dX5_weekGoesBy_13 : decode cX5_weekGoesBy 13 = .ok (.istore 5, 2) := by decide +kernel
theorem dX5_weekGoesBy_15 : decode cX5_weekGoesBy 15 = .ok (.iload 5, 2) := by decide +kernel
theorem dX5_weekGoesBy_17 : decode cX5_weekGoesBy 17 = .ok (.ifCond .lt 60, 3) := by decide +kernel
theorem dX5_weekGoesBy_20 : decode cX5_weekGoesBy 20 = .ok (.aload_n 1, 1) := by decide +kernel
theorem dX5_weekGoesBy_21 : decode cX5_weekGoesBy 21 = .ok (.iload_n 2, 1) := by decide +kernel
theorem dX5_weekGoesBy_22 : decode cX5_weekGoesBy 22 = .ok (.iload 5, 2) := by decide +kernel
theorem dX5_weekGoesBy_24 : decode cX5_weekGoesBy 24 = .ok (.iload_n 3, 1) := by decide +kernel
theorem dX5_weekGoesBy_25 : decode cX5_weekGoesBy 25 = .ok (.iload 4, 2) := by decide +kernel
theorem dX5_weekGoesBy_27 : decode cX5_weekGoesBy 27 = .ok (.invokevirtual 29, 3) := by decide +kernel
theorem dX5_weekGoesBy_30 : decode cX5_weekGoesBy 30 = .ok (.istore 6, 2) := by decide +kernel
theorem dX5_weekGoesBy_32 : decode cX5_weekGoesBy 32 = .ok (.aload_n 0, 1) := by decide +kernel
theorem dX5_weekGoesBy_33 : decode cX5_weekGoesBy 33 = .ok (.getfield 9, 3) := by decide +kernel
theorem dX5_weekGoesBy_36 : decode cX5_weekGoesBy 36 = .ok (.iload 5, 2) := by decide +kernel
theorem dX5_weekGoesBy_38 : decode cX5_weekGoesBy 38 = .ok (.iconst 1, 1) := by decide +kernel
theorem dX5_weekGoesBy_39 : decode cX5_weekGoesBy 39 = .ok (.iadd, 1) := by decide +kernel
theorem dX5_weekGoesBy_40 : decode cX5_weekGoesBy 40 = .ok (.dup2, 1) := by decide +kernel
theorem dX5_weekGoesBy_41 : decode cX5_weekGoesBy 41 = .ok (.laload, 1) := by decide +kernel
theorem dX5_weekGoesBy_42 : decode cX5_weekGoesBy 42 = .ok (.aload_n 0, 1) := by decide +kernel
theorem dX5_weekGoesBy_43 : decode cX5_weekGoesBy 43 = .ok (.getfield 9, 3) := by decide +kernel
theorem dX5_weekGoesBy_46 : decode cX5_weekGoesBy 46 = .ok (.iload 5, 2) := by decide +kernel
theorem dX5_weekGoesBy_48 : decode cX5_weekGoesBy 48 = .ok (.laload, 1) := by decide +kernel
theorem dX5_weekGoesBy_49 : decode cX5_weekGoesBy 49 = .ok (.iload 6, 2) := by decide +kernel
theorem dX5_weekGoesBy_51 : decode cX5_weekGoesBy 51 = .ok (.i2l, 1) := by decide +kernel
theorem dX5_weekGoesBy_52 : decode cX5_weekGoesBy 52 = .ok (.lmul, 1) := by decide +kernel
theorem dX5_weekGoesBy_53 : decode cX5_weekGoesBy 53 = .ok (.ladd, 1) := by decide +kernel
theorem dX5_weekGoesBy_54 : decode cX5_weekGoesBy 54 = .ok (.lastore, 1) := by decide +kernel
theorem dX5_weekGoesBy_55 : decode cX5_weekGoesBy 55 = .ok (.aload_n 0, 1) := by decide +kernel
theorem dX5_weekGoesBy_56 : decode cX5_weekGoesBy 56 = .ok (.getfield 9, 3) := by decide +kernel
theorem dX5_weekGoesBy_59 : decode cX5_weekGoesBy 59 = .ok (.iload 5, 2) := by decide +kernel
theorem dX5_weekGoesBy_61 : decode cX5_weekGoesBy 61 = .ok (.dup2, 1) := by decide +kernel
theorem dX5_weekGoesBy_62 : decode cX5_weekGoesBy 62 = .ok (.laload, 1) := by decide +kernel
theorem dX5_weekGoesBy_63 : decode cX5_weekGoesBy 63 = .ok (.bipush 10, 2) := by decide +kernel
theorem dX5_weekGoesBy_65 : decode cX5_weekGoesBy 65 = .ok (.iload 6, 2) := by decide +kernel
theorem dX5_weekGoesBy_67 : decode cX5_weekGoesBy 67 = .ok (.isub, 1) := by decide +kernel
theorem dX5_weekGoesBy_68 : decode cX5_weekGoesBy 68 = .ok (.i2l, 1) := by decide +kernel
theorem dX5_weekGoesBy_69 : decode cX5_weekGoesBy 69 = .ok (.lmul, 1) := by decide +kernel
theorem dX5_weekGoesBy_70 : decode cX5_weekGoesBy 70 = .ok (.lastore, 1) := by decide +kernel
theorem dX5_weekGoesBy_71 : decode cX5_weekGoesBy 71 = .ok (.iinc 5 (-1), 3) := by decide +kernel
theorem dX5_weekGoesBy_74 : decode cX5_weekGoesBy 74 = .ok (.goto (-59), 3) := by decide +kernel
theorem dX5_weekGoesBy_77 : decode cX5_weekGoesBy 77 = .ok (.return_, 1) := by decide +kernel
theorem dX5_rindIsSeen_0 : decode cX5_rindIsSeen 0 = .ok (.iconst 0, 1) := by decide +kernel
theorem dX5_rindIsSeen_1 : decode cX5_rindIsSeen 1 = .ok (.istore 4, 2) := by decide +kernel
theorem dX5_rindIsSeen_3 : decode cX5_rindIsSeen 3 = .ok (.iload 4, 2) := by decide +kernel
theorem dX5_rindIsSeen_5 : decode cX5_rindIsSeen 5 = .ok (.iconst 4, 1) := by decide +kernel
theorem dX5_rindIsSeen_6 : decode cX5_rindIsSeen 6 = .ok (.if_icmp .ge 47, 3) := by decide +kernel
theorem dX5_rindIsSeen_9 : decode cX5_rindIsSeen 9 = .ok (.aload_n 1, 1) := by decide +kernel
theorem dX5_rindIsSeen_10 : decode cX5_rindIsSeen 10 = .ok (.iload_n 2, 1) := by decide +kernel
theorem dX5_rindIsSeen_11 : decode cX5_rindIsSeen 11 = .ok (.bipush 10, 2) := by decide +kernel
theorem dX5_rindIsSeen_13 : decode cX5_rindIsSeen 13 = .ok (.iload 4, 2) := by decide +kernel
theorem dX5_rindIsSeen_15 : decode cX5_rindIsSeen 15 = .ok (.iadd, 1) := by decide +kernel
theorem dX5_rindIsSeen_16 : decode cX5_rindIsSeen 16 = .ok (.invokevirtual 21, 3) := by decide +kernel
theorem dX5_rindIsSeen_19 : decode cX5_rindIsSeen 19 = .ok (.istore 5, 2) := by decide +kernel
theorem dX5_rindIsSeen_21 : decode cX5_rindIsSeen 21 = .ok (.aload_n 0, 1) := by decide +kernel
theorem dX5_rindIsSeen_22 : decode cX5_rindIsSeen 22 = .ok (.getfield 9, 3) := by decide +kernel
theorem dX5_rindIsSeen_25 : decode cX5_rindIsSeen 25 = .ok (.iload 4, 2) := by decide +kernel
theorem dX5_rindIsSeen_27 : decode cX5_rindIsSeen 27 = .ok (.dup2, 1) := by decide +kernel
theorem dX5_rindIsSeen_28 : decode cX5_rindIsSeen 28 = .ok (.laload, 1) := by decide +kernel
theorem dX5_rindIsSeen_29 : decode cX5_rindIsSeen 29 = .ok (.iload_n 3, 1) := by decide +kernel
theorem dX5_rindIsSeen_30 : decode cX5_rindIsSeen 30 = .ok (.ifCond .eq 9, 3) := by decide +kernel
theorem dX5_rindIsSeen_33 : decode cX5_rindIsSeen 33 = .ok (.iload 5, 2) := by decide +kernel
theorem dX5_rindIsSeen_35 : decode cX5_rindIsSeen 35 = .ok (.i2l, 1) := by decide +kernel
theorem dX5_rindIsSeen_36 : decode cX5_rindIsSeen 36 = .ok (.goto 9, 3) := by decide +kernel
theorem dX5_rindIsSeen_39 : decode cX5_rindIsSeen 39 = .ok (.bipush 10, 2) := by decide +kernel
theorem dX5_rindIsSeen_41 : decode cX5_rindIsSeen 41 = .ok (.iload 5, 2) := by decide +kernel
theorem dX5_rindIsSeen_43 : decode cX5_rindIsSeen 43 = .ok (.isub, 1) := by decide +kernel
theorem dX5_rindIsSeen_44 : decode cX5_rindIsSeen 44 = .ok (.i2l, 1) := by decide +kernel
theorem dX5_rindIsSeen_45 : decode cX5_rindIsSeen 45 = .ok (.lmul, 1) := by decide +kernel
theorem dX5_rindIsSeen_46 : decode cX5_rindIsSeen 46 = .ok (.lastore, 1) := by decide +kernel
theorem dX5_rindIsSeen_47 : decode cX5_rindIsSeen 47 = .ok (.iinc 4 1, 3) := by decide +kernel
theorem dX5_rindIsSeen_50 : decode cX5_rindIsSeen 50 = .ok (.goto (-47), 3) := by decide +kernel
theorem dX5_rindIsSeen_53 : decode cX5_rindIsSeen 53 = .ok (.return_, 1) := by decide +kernel
theorem dX5_becomeLeast_0 : decode cX5_becomeLeast 0 = .ok (.lconst 0, 1) := by decide +kernel
theorem dX5_becomeLeast_1 : decode cX5_becomeLeast 1 = .ok (.lstore_n 1, 1) := by decide +kernel
theorem dX5_becomeLeast_2 : decode cX5_becomeLeast 2 = .ok (.iconst 0, 1) := by decide +kernel
theorem dX5_becomeLeast_3 : decode cX5_becomeLeast 3 = .ok (.istore_n 3, 1) := by decide +kernel
theorem dX5_becomeLeast_4 : decode cX5_becomeLeast 4 = .ok (.iload_n 3, 1) := by decide +kernel
theorem dX5_becomeLeast_5 : decode cX5_becomeLeast 5 = .ok (.iconst 4, 1) := by decide +kernel
theorem dX5_becomeLeast_6 : decode cX5_becomeLeast 6 = .ok (.if_icmp .ge 20, 3) := by decide +kernel
theorem dX5_becomeLeast_9 : decode cX5_becomeLeast 9 = .ok (.lload_n 1, 1) := by decide +kernel
theorem dX5_becomeLeast_10 : decode cX5_becomeLeast 10 = .ok (.aload_n 0, 1) := by decide +kernel
theorem dX5_becomeLeast_11 : decode cX5_becomeLeast 11 = .ok (.getfield 9, 3) := by decide +kernel
theorem dX5_becomeLeast_14 : decode cX5_becomeLeast 14 = .ok (.iload_n 3, 1) := by decide +kernel
theorem dX5_becomeLeast_15 : decode cX5_becomeLeast 15 = .ok (.laload, 1) := by decide +kernel
theorem dX5_becomeLeast_16 : decode cX5_becomeLeast 16 = .ok (.invokestatic 33, 3) := by decide +kernel
theorem dX5_becomeLeast_19 : decode cX5_becomeLeast 19 = .ok (.lstore_n 1, 1) := by decide +kernel
theorem dX5_becomeLeast_20 : decode cX5_becomeLeast 20 = .ok (.iinc 3 1, 3) := by decide +kernel
theorem dX5_becomeLeast_23 : decode cX5_becomeLeast 23 = .ok (.goto (-19), 3) := by decide +kernel
theorem dX5_becomeLeast_26 : decode cX5_becomeLeast 26 = .ok (.iconst 0, 1) := by decide +kernel
theorem dX5_becomeLeast_27 : decode cX5_becomeLeast 27 = .ok (.istore_n 3, 1) := by decide +kernel
theorem dX5_becomeLeast_28 : decode cX5_becomeLeast 28 = .ok (.iload_n 3, 1) := by decide +kernel
theorem dX5_becomeLeast_29 : decode cX5_becomeLeast 29 = .ok (.iconst 4, 1) := by decide +kernel
theorem dX5_becomeLeast_30 : decode cX5_becomeLeast 30 = .ok (.if_icmp .ge 25, 3) := by decide +kernel
theorem dX5_becomeLeast_33 : decode cX5_becomeLeast 33 = .ok (.lload_n 1, 1) := by decide +kernel
theorem dX5_becomeLeast_34 : decode cX5_becomeLeast 34 = .ok (.lconst 1, 1) := by decide +kernel
theorem dX5_becomeLeast_35 : decode cX5_becomeLeast 35 = .ok (.lcmp, 1) := by decide +kernel
theorem dX5_becomeLeast_36 : decode cX5_becomeLeast 36 = .ok (.ifCond .le 19, 3) := by decide +kernel
theorem dX5_becomeLeast_39 : decode cX5_becomeLeast 39 = .ok (.aload_n 0, 1) := by decide +kernel
theorem dX5_becomeLeast_40 : decode cX5_becomeLeast 40 = .ok (.getfield 9, 3) := by decide +kernel
theorem dX5_becomeLeast_43 : decode cX5_becomeLeast 43 = .ok (.iload_n 3, 1) := by decide +kernel
theorem dX5_becomeLeast_44 : decode cX5_becomeLeast 44 = .ok (.dup2, 1) := by decide +kernel
theorem dX5_becomeLeast_45 : decode cX5_becomeLeast 45 = .ok (.laload, 1) := by decide +kernel
theorem dX5_becomeLeast_46 : decode cX5_becomeLeast 46 = .ok (.lload_n 1, 1) := by decide +kernel
theorem dX5_becomeLeast_47 : decode cX5_becomeLeast 47 = .ok (.ldiv, 1) := by decide +kernel
theorem dX5_becomeLeast_48 : decode cX5_becomeLeast 48 = .ok (.lastore, 1) := by decide +kernel
theorem dX5_becomeLeast_49 : decode cX5_becomeLeast 49 = .ok (.iinc 3 1, 3) := by decide +kernel
theorem dX5_becomeLeast_52 : decode cX5_becomeLeast 52 = .ok (.goto (-24), 3) := by decide +kernel
theorem dX5_becomeLeast_55 : decode cX5_becomeLeast 55 = .ok (.return_, 1) := by decide +kernel
theorem dX5_greatest_0 : decode cX5_greatest 0 = .ok (.aload_n 0, 1) := by decide +kernel
theorem dX5_greatest_1 : decode cX5_greatest 1 = .ok (.getfield 9, 3) := by decide +kernel
theorem dX5_greatest_4 : decode cX5_greatest 4 = .ok (.iconst 0, 1) := by decide +kernel
theorem dX5_greatest_5 : decode cX5_greatest 5 = .ok (.laload, 1) := by decide +kernel
theorem dX5_greatest_6 : decode cX5_greatest 6 = .ok (.aload_n 0, 1) := by decide +kernel
theorem dX5_greatest_7 : decode cX5_greatest 7 = .ok (.getfield 9, 3) := by decide +kernel
theorem dX5_greatest_10 : decode cX5_greatest 10 = .ok (.iconst 1, 1) := by decide +kernel
theorem dX5_greatest_11 : decode cX5_greatest 11 = .ok (.laload, 1) := by decide +kernel
theorem dX5_greatest_12 : decode cX5_greatest 12 = .ok (.invokestatic 37, 3) := by decide +kernel
theorem dX5_greatest_15 : decode cX5_greatest 15 = .ok (.aload_n 0, 1) := by decide +kernel
theorem dX5_greatest_16 : decode cX5_greatest 16 = .ok (.getfield 9, 3) := by decide +kernel
theorem dX5_greatest_19 : decode cX5_greatest 19 = .ok (.iconst 2, 1) := by decide +kernel
theorem dX5_greatest_20 : decode cX5_greatest 20 = .ok (.laload, 1) := by decide +kernel
theorem dX5_greatest_21 : decode cX5_greatest 21 = .ok (.aload_n 0, 1) := by decide +kernel
theorem dX5_greatest_22 : decode cX5_greatest 22 = .ok (.getfield 9, 3) := by decide +kernel
theorem dX5_greatest_25 : decode cX5_greatest 25 = .ok (.iconst 3, 1) := by decide +kernel
theorem dX5_greatest_26 : decode cX5_greatest 26 = .ok (.laload, 1) := by decide +kernel
theorem dX5_greatest_27 : decode cX5_greatest 27 = .ok (.invokestatic 37, 3) := by decide +kernel
theorem dX5_greatest_30 : decode cX5_greatest 30 = .ok (.invokestatic 37, 3) := by decide +kernel
theorem dX5_greatest_33 : decode cX5_greatest 33 = .ok (.lreturn, 1) := by decide +kernel
theorem dX6_init_0 : decode cX6_init 0 = .ok (.aload_n 0, 1) := by decide +kernel
theorem dX6_init_1 : decode cX6_init 1 = .ok (.invokespecial 3, 3) := by decide +kernel
theorem dX6_init_4 : decode cX6_init 4 = .ok (.aload_n 0, 1) := by decide +kernel
theorem dX6_init_5 : decode cX6_init 5 = .ok (.new 9, 3) := by decide +kernel
theorem dX6_init_8 : decode cX6_init 8 = .ok (.dup, 1) := by decide +kernel
theorem dX6_init_9 : decode cX6_init 9 = .ok (.invokespecial 11, 3) := by decide +kernel
theorem dX6_init_12 : decode cX6_init 12 = .ok (.putfield 12, 3) := by decide +kernel
theorem dX6_init_15 : decode cX6_init 15 = .ok (.aload_n 0, 1) := by decide +kernel
theorem dX6_init_16 : decode cX6_init 16 = .ok (.new 9, 3) := by decide +kernel
theorem dX6_init_19 : decode cX6_init 19 = .ok (.dup, 1) := by decide +kernel
theorem dX6_init_20 : decode cX6_init 20 = .ok (.invokespecial 11, 3) := by decide +kernel
theorem dX6_init_23 : decode cX6_init 23 = .ok (.putfield 18, 3) := by decide +kernel
theorem dX6_init_26 : decode cX6_init 26 = .ok (.aload_n 0, 1) := by decide +kernel
theorem dX6_init_27 : decode cX6_init 27 = .ok (.iconst 0, 1) := by decide +kernel
theorem dX6_init_28 : decode cX6_init 28 = .ok (.putfield 21, 3) := by decide +kernel
theorem dX6_init_31 : decode cX6_init 31 = .ok (.aload_n 0, 1) := by decide +kernel
theorem dX6_init_32 : decode cX6_init 32 = .ok (.aload_n 1, 1) := by decide +kernel
theorem dX6_init_33 : decode cX6_init 33 = .ok (.putfield 25, 3) := by decide +kernel
theorem dX6_init_36 : decode cX6_init 36 = .ok (.aload_n 0, 1) := by decide +kernel
theorem dX6_init_37 : decode cX6_init 37 = .ok (.getfield 12, 3) := by decide +kernel
theorem dX6_init_40 : decode cX6_init 40 = .ok (.iconst 0, 1) := by decide +kernel
theorem dX6_init_41 : decode cX6_init 41 = .ok (.invokevirtual 29, 3) := by decide +kernel
theorem dX6_init_44 : decode cX6_init 44 = .ok (.return_, 1) := by decide +kernel
theorem dX6_beginAnew_0 : decode cX6_beginAnew 0 = .ok (.aload_n 0, 1) := by decide +kernel
theorem dX6_beginAnew_1 : decode cX6_beginAnew 1 = .ok (.iload_n 1, 1) := by decide +kernel
theorem dX6_beginAnew_2 : decode cX6_beginAnew 2 = .ok (.putfield 21, 3) := by decide +kernel
theorem dX6_beginAnew_5 : decode cX6_beginAnew 5 = .ok (.aload_n 0, 1) := by decide +kernel
theorem dX6_beginAnew_6 : decode cX6_beginAnew 6 = .ok (.getfield 12, 3) := by decide +kernel
theorem dX6_beginAnew_9 : decode cX6_beginAnew 9 = .ok (.iconst 0, 1) := by decide +kernel
theorem dX6_beginAnew_10 : decode cX6_beginAnew 10 = .ok (.invokevirtual 29, 3) := by decide +kernel
theorem dX6_beginAnew_13 : decode cX6_beginAnew 13 = .ok (.return_, 1) := by decide +kernel
theorem dX6_age_0 : decode cX6_age 0 = .ok (.aload_n 0, 1) := by decide +kernel
theorem dX6_age_1 : decode cX6_age 1 = .ok (.getfield 25, 3) := by decide +kernel
theorem dX6_age_4 : decode cX6_age 4 = .ok (.aload_n 0, 1) := by decide +kernel
theorem dX6_age_5 : decode cX6_age 5 = .ok (.getfield 21, 3) := by decide +kernel
theorem dX6_age_8 : decode cX6_age 8 = .ok (.invokevirtual 33, 3) := by decide +kernel
theorem dX6_age_11 : decode cX6_age 11 = .ok (.ifCond .ne 6, 3) := by decide +kernel
theorem dX6_age_14 : decode cX6_age 14 = .ok (.bipush (-2), 2) := by decide +kernel
theorem dX6_age_16 : decode cX6_age 16 = .ok (.ireturn, 1) := by decide +kernel
theorem dX6_age_17 : decode cX6_age 17 = .ok (.aload_n 0, 1) := by decide +kernel
theorem dX6_age_18 : decode cX6_age 18 = .ok (.getfield 18, 3) := by decide +kernel
theorem dX6_age_21 : decode cX6_age 21 = .ok (.aload_n 0, 1) := by decide +kernel
theorem dX6_age_22 : decode cX6_age 22 = .ok (.getfield 12, 3) := by decide +kernel
theorem dX6_age_25 : decode cX6_age 25 = .ok (.invokevirtual 39, 3) := by decide +kernel
theorem dX6_age_28 : decode cX6_age 28 = .ok (.aload_n 0, 1) := by decide +kernel
theorem dX6_age_29 : decode cX6_age 29 = .ok (.getfield 18, 3) := by decide +kernel
theorem dX6_age_32 : decode cX6_age 32 = .ok (.aload_n 0, 1) := by decide +kernel
theorem dX6_age_33 : decode cX6_age 33 = .ok (.getfield 25, 3) := by decide +kernel
theorem dX6_age_36 : decode cX6_age 36 = .ok (.aload_n 0, 1) := by decide +kernel
theorem dX6_age_37 : decode cX6_age 37 = .ok (.getfield 21, 3) := by decide +kernel
theorem dX6_age_40 : decode cX6_age 40 = .ok (.iconst 0, 1) := by decide +kernel
theorem dX6_age_41 : decode cX6_age 41 = .ok (.bipush 8, 2) := by decide +kernel
theorem dX6_age_43 : decode cX6_age 43 = .ok (.invokevirtual 43, 3) := by decide +kernel
theorem dX6_age_46 : decode cX6_age 46 = .ok (.aload_n 0, 1) := by decide +kernel
theorem dX6_age_47 : decode cX6_age 47 = .ok (.invokevirtual 47, 3) := by decide +kernel
theorem dX6_age_50 : decode cX6_age 50 = .ok (.ireturn, 1) := by decide +kernel
theorem dX6_see_0 : decode cX6_see 0 = .ok (.aload_n 0, 1) := by decide +kernel
theorem dX6_see_1 : decode cX6_see 1 = .ok (.getfield 25, 3) := by decide +kernel
theorem dX6_see_4 : decode cX6_see 4 = .ok (.aload_n 0, 1) := by decide +kernel
theorem dX6_see_5 : decode cX6_see 5 = .ok (.getfield 21, 3) := by decide +kernel
theorem dX6_see_8 : decode cX6_see 8 = .ok (.invokevirtual 33, 3) := by decide +kernel
theorem dX6_see_11 : decode cX6_see 11 = .ok (.ifCond .ne 6, 3) := by decide +kernel
theorem dX6_see_14 : decode cX6_see 14 = .ok (.bipush (-2), 2) := by decide +kernel
theorem dX6_see_16 : decode cX6_see 16 = .ok (.ireturn, 1) := by decide +kernel
theorem dX6_see_17 : decode cX6_see 17 = .ok (.aload_n 0, 1) := by decide +kernel
theorem dX6_see_18 : decode cX6_see 18 = .ok (.getfield 18, 3) := by decide +kernel
theorem dX6_see_21 : decode cX6_see 21 = .ok (.aload_n 0, 1) := by decide +kernel
theorem dX6_see_22 : decode cX6_see 22 = .ok (.getfield 12, 3) := by decide +kernel
theorem dX6_see_25 : decode cX6_see 25 = .ok (.invokevirtual 39, 3) := by decide +kernel
theorem dX6_see_28 : decode cX6_see 28 = .ok (.aload_n 0, 1) := by decide +kernel
theorem dX6_see_29 : decode cX6_see 29 = .ok (.getfield 18, 3) := by decide +kernel
theorem dX6_see_32 : decode cX6_see 32 = .ok (.aload_n 0, 1) := by decide +kernel
theorem dX6_see_33 : decode cX6_see 33 = .ok (.getfield 25, 3) := by decide +kernel
theorem dX6_see_36 : decode cX6_see 36 = .ok (.aload_n 0, 1) := by decide +kernel
theorem dX6_see_37 : decode cX6_see 37 = .ok (.getfield 21, 3) := by decide +kernel
theorem dX6_see_40 : decode cX6_see 40 = .ok (.iload_n 1, 1) := by decide +kernel
theorem dX6_see_41 : decode cX6_see 41 = .ok (.invokevirtual 51, 3) := by decide +kernel
theorem dX6_see_44 : decode cX6_see 44 = .ok (.aload_n 0, 1) := by decide +kernel
theorem dX6_see_45 : decode cX6_see 45 = .ok (.getfield 18, 3) := by decide +kernel
theorem dX6_see_48 : decode cX6_see 48 = .ok (.invokevirtual 55, 3) := by decide +kernel
theorem dX6_see_51 : decode cX6_see 51 = .ok (.lconst 0, 1) := by decide +kernel
theorem dX6_see_52 : decode cX6_see 52 = .ok (.lcmp, 1) := by decide +kernel
theorem dX6_see_53 : decode cX6_see 53 = .ok (.ifCond .ne 8, 3) := by decide +kernel
theorem dX6_see_56 : decode cX6_see 56 = .ok (.bipush (-2), 2) := by decide +kernel
theorem dX6_see_58 : decode cX6_see 58 = .ok (.goto 7, 3) := by decide +kernel
theorem dX6_see_61 : decode cX6_see 61 = .ok (.aload_n 0, 1) := by decide +kernel
theorem dX6_see_62 : decode cX6_see 62 = .ok (.invokevirtual 47, 3) := by decide +kernel
theorem dX6_see_65 : decode cX6_see 65 = .ok (.ireturn, 1) := by decide +kernel
theorem dX6_takeTrial_0 : decode cX6_takeTrial 0 = .ok (.aload_n 0, 1) := by decide +kernel
theorem dX6_takeTrial_1 : decode cX6_takeTrial 1 = .ok (.getfield 18, 3) := by decide +kernel
theorem dX6_takeTrial_4 : decode cX6_takeTrial 4 = .ok (.invokevirtual 59, 3) := by decide +kernel
theorem dX6_takeTrial_7 : decode cX6_takeTrial 7 = .ok (.aload_n 0, 1) := by decide +kernel
theorem dX6_takeTrial_8 : decode cX6_takeTrial 8 = .ok (.getfield 18, 3) := by decide +kernel
theorem dX6_takeTrial_11 : decode cX6_takeTrial 11 = .ok (.invokevirtual 62, 3) := by decide +kernel
theorem dX6_takeTrial_14 : decode cX6_takeTrial 14 = .ok (.ldc2_w 65, 3) := by decide +kernel
theorem dX6_takeTrial_17 : decode cX6_takeTrial 17 = .ok (.lcmp, 1) := by decide +kernel
theorem dX6_takeTrial_18 : decode cX6_takeTrial 18 = .ok (.ifCond .le 6, 3) := by decide +kernel
theorem dX6_takeTrial_21 : decode cX6_takeTrial 21 = .ok (.bipush (-3), 2) := by decide +kernel
theorem dX6_takeTrial_23 : decode cX6_takeTrial 23 = .ok (.ireturn, 1) := by decide +kernel
theorem dX6_takeTrial_24 : decode cX6_takeTrial 24 = .ok (.aload_n 0, 1) := by decide +kernel
theorem dX6_takeTrial_25 : decode cX6_takeTrial 25 = .ok (.getfield 12, 3) := by decide +kernel
theorem dX6_takeTrial_28 : decode cX6_takeTrial 28 = .ok (.aload_n 0, 1) := by decide +kernel
theorem dX6_takeTrial_29 : decode cX6_takeTrial 29 = .ok (.getfield 18, 3) := by decide +kernel
theorem dX6_takeTrial_32 : decode cX6_takeTrial 32 = .ok (.invokevirtual 39, 3) := by decide +kernel
theorem dX6_takeTrial_35 : decode cX6_takeTrial 35 = .ok (.iconst 1, 1) := by decide +kernel
theorem dX6_takeTrial_36 : decode cX6_takeTrial 36 = .ok (.ireturn, 1) := by decide +kernel
theorem dX6_likely_0 : decode cX6_likely 0 = .ok (.aload_n 0, 1) := by decide +kernel
theorem dX6_likely_1 : decode cX6_likely 1 = .ok (.getfield 25, 3) := by decide +kernel
theorem dX6_likely_4 : decode cX6_likely 4 = .ok (.aload_n 0, 1) := by decide +kernel
theorem dX6_likely_5 : decode cX6_likely 5 = .ok (.getfield 21, 3) := by decide +kernel
theorem dX6_likely_8 : decode cX6_likely 8 = .ok (.invokevirtual 33, 3) := by decide +kernel
theorem dX6_likely_11 : decode cX6_likely 11 = .ok (.ifCond .ne 7, 3) := by decide +kernel
theorem dX6_likely_14 : decode cX6_likely 14 = .ok (.ldc2_w 67, 3) := by decide +kernel
theorem dX6_likely_17 : decode cX6_likely 17 = .ok (.lreturn, 1) := by decide +kernel
theorem dX6_likely_18 : decode cX6_likely 18 = .ok (.iload_n 1, 1) := by decide +kernel
theorem dX6_likely_19 : decode cX6_likely 19 = .ok (.iconst 4, 1) := by decide +kernel
theorem dX6_likely_20 : decode cX6_likely 20 = .ok (.if_icmp .ne 21, 3) := by decide +kernel
theorem dX6_likely_23 : decode cX6_likely 23 = .ok (.aload_n 0, 1) := by decide +kernel
theorem dX6_likely_24 : decode cX6_likely 24 = .ok (.getfield 12, 3) := by decide +kernel
theorem dX6_likely_27 : decode cX6_likely 27 = .ok (.aload_n 0, 1) := by decide +kernel
theorem dX6_likely_28 : decode cX6_likely 28 = .ok (.getfield 25, 3) := by decide +kernel
theorem dX6_likely_31 : decode cX6_likely 31 = .ok (.aload_n 0, 1) := by decide +kernel
theorem dX6_likely_32 : decode cX6_likely 32 = .ok (.getfield 21, 3) := by decide +kernel
theorem dX6_likely_35 : decode cX6_likely 35 = .ok (.invokevirtual 69, 3) := by decide +kernel
theorem dX6_likely_38 : decode cX6_likely 38 = .ok (.goto 11, 3) := by decide +kernel
theorem dX6_likely_41 : decode cX6_likely 41 = .ok (.aload_n 0, 1) := by decide +kernel
theorem dX6_likely_42 : decode cX6_likely 42 = .ok (.getfield 12, 3) := by decide +kernel
theorem dX6_likely_45 : decode cX6_likely 45 = .ok (.iload_n 1, 1) := by decide +kernel
theorem dX6_likely_46 : decode cX6_likely 46 = .ok (.invokevirtual 73, 3) := by decide +kernel
theorem dX6_likely_49 : decode cX6_likely 49 = .ok (.lstore_n 3, 1) := by decide +kernel
theorem dX6_likely_50 : decode cX6_likely 50 = .ok (.lload_n 3, 1) := by decide +kernel
theorem dX6_likely_51 : decode cX6_likely 51 = .ok (.aload_n 0, 1) := by decide +kernel
theorem dX6_likely_52 : decode cX6_likely 52 = .ok (.getfield 12, 3) := by decide +kernel
theorem dX6_likely_55 : decode cX6_likely 55 = .ok (.invokevirtual 55, 3) := by decide +kernel
theorem dX6_likely_58 : decode cX6_likely 58 = .ok (.iload_n 2, 1) := by decide +kernel
theorem dX6_likely_59 : decode cX6_likely 59 = .ok (.invokestatic 77, 3) := by decide +kernel
theorem dX6_likely_62 : decode cX6_likely 62 = .ok (.lreturn, 1) := by decide +kernel
theorem dX7_init_0 : decode cX7_init 0 = .ok (.aload_n 0, 1) := by decide +kernel
theorem dX7_init_1 : decode cX7_init 1 = .ok (.invokespecial 3, 3) := by decide +kernel
theorem dX7_init_4 : decode cX7_init 4 = .ok (.aload_n 0, 1) := by decide +kernel
theorem dX7_init_5 : decode cX7_init 5 = .ok (.iconst 0, 1) := by decide +kernel
theorem dX7_init_6 : decode cX7_init 6 = .ok (.putfield 9, 3) := by decide +kernel
theorem dX7_init_9 : decode cX7_init 9 = .ok (.aload_n 0, 1) := by decide +kernel
theorem dX7_init_10 : decode cX7_init 10 = .ok (.iconst 0, 1) := by decide +kernel
theorem dX7_init_11 : decode cX7_init 11 = .ok (.putfield 15, 3) := by decide +kernel
theorem dX7_init_14 : decode cX7_init 14 = .ok (.aload_n 0, 1) := by decide +kernel
theorem dX7_init_15 : decode cX7_init 15 = .ok (.iconst 0, 1) := by decide +kernel
theorem dX7_init_16 : decode cX7_init 16 = .ok (.putfield 19, 3) := by decide +kernel
theorem dX7_init_19 : decode cX7_init 19 = .ok (.aload_n 0, 1) := by decide +kernel
theorem dX7_init_20 : decode cX7_init 20 = .ok (.iconst 0, 1) := by decide +kernel
theorem dX7_init_21 : decode cX7_init 21 = .ok (.putfield 22, 3) := by decide +kernel
theorem dX7_init_24 : decode cX7_init 24 = .ok (.aload_n 0, 1) := by decide +kernel
theorem dX7_init_25 : decode cX7_init 25 = .ok (.iconst 0, 1) := by decide +kernel
theorem dX7_init_26 : decode cX7_init 26 = .ok (.putfield 25, 3) := by decide +kernel
theorem dX7_init_29 : decode cX7_init 29 = .ok (.aload_n 0, 1) := by decide +kernel
theorem dX7_init_30 : decode cX7_init 30 = .ok (.iconst 0, 1) := by decide +kernel
theorem dX7_init_31 : decode cX7_init 31 = .ok (.putfield 28, 3) := by decide +kernel
theorem dX7_init_34 : decode cX7_init 34 = .ok (.aload_n 0, 1) := by decide +kernel
theorem dX7_init_35 : decode cX7_init 35 = .ok (.iconst 0, 1) := by decide +kernel
theorem dX7_init_36 : decode cX7_init 36 = .ok (.putfield 31, 3) := by decide +kernel
theorem dX7_init_39 : decode cX7_init 39 = .ok (.aload_n 0, 1) := by decide +kernel
theorem dX7_init_40 : decode cX7_init 40 = .ok (.iconst 0, 1) := by decide +kernel
theorem dX7_init_41 : decode cX7_init 41 = .ok (.putfield 34, 3) := by decide +kernel
theorem dX7_init_44 : decode cX7_init 44 = .ok (.return_, 1) := by decide +kernel
theorem dX7_beginAnew_0 : decode cX7_beginAnew 0 = .ok (.aload_n 0, 1) := by decide +kernel
theorem dX7_beginAnew_1 : decode cX7_beginAnew 1 = .ok (.iconst 0, 1) := by decide +kernel
theorem dX7_beginAnew_2 : decode cX7_beginAnew 2 = .ok (.putfield 9, 3) := by decide +kernel
theorem dX7_beginAnew_5 : decode cX7_beginAnew 5 = .ok (.aload_n 0, 1) := by decide +kernel
theorem dX7_beginAnew_6 : decode cX7_beginAnew 6 = .ok (.iconst 0, 1) := by decide +kernel
theorem dX7_beginAnew_7 : decode cX7_beginAnew 7 = .ok (.putfield 15, 3) := by decide +kernel
theorem dX7_beginAnew_10 : decode cX7_beginAnew 10 = .ok (.aload_n 0, 1) := by decide +kernel
theorem dX7_beginAnew_11 : decode cX7_beginAnew 11 = .ok (.iload_n 1, 1) := by decide +kernel
theorem dX7_beginAnew_12 : decode cX7_beginAnew 12 = .ok (.putfield 19, 3) := by decide +kernel
theorem dX7_beginAnew_15 : decode cX7_beginAnew 15 = .ok (.aload_n 0, 1) := by decide +kernel
theorem dX7_beginAnew_16 : decode cX7_beginAnew 16 = .ok (.iconst 0, 1) := by decide +kernel
theorem dX7_beginAnew_17 : decode cX7_beginAnew 17 = .ok (.putfield 22, 3) := by decide +kernel
theorem dX7_beginAnew_20 : decode cX7_beginAnew 20 = .ok (.aload_n 0, 1) := by decide +kernel
theorem dX7_beginAnew_21 : decode cX7_beginAnew 21 = .ok (.iconst 0, 1) := by decide +kernel
theorem dX7_beginAnew_22 : decode cX7_beginAnew 22 = .ok (.putfield 25, 3) := by decide +kernel
theorem dX7_beginAnew_25 : decode cX7_beginAnew 25 = .ok (.aload_n 0, 1) := by decide +kernel
theorem dX7_beginAnew_26 : decode cX7_beginAnew 26 = .ok (.iconst 0, 1) := by decide +kernel
theorem dX7_beginAnew_27 : decode cX7_beginAnew 27 = .ok (.putfield 28, 3) := by decide +kernel
theorem dX7_beginAnew_30 : decode cX7_beginAnew 30 = .ok (.return_, 1) := by decide +kernel
theorem dX7_becomeLike_0 : decode cX7_becomeLike 0 = .ok (.aload_n 0, 1) := by decide +kernel
theorem dX7_becomeLike_1 : decode cX7_becomeLike 1 = .ok (.aload_n 1, 1) := by decide +kernel
theorem dX7_becomeLike_2 : decode cX7_becomeLike 2 = .ok (.getfield 9, 3) := by decide +kernel
theorem dX7_becomeLike_5 : decode cX7_becomeLike 5 = .ok (.putfield 9, 3) := by decide +kernel
theorem dX7_becomeLike_8 : decode cX7_becomeLike 8 = .ok (.aload_n 0, 1) := by decide +kernel
theorem dX7_becomeLike_9 : decode cX7_becomeLike 9 = .ok (.aload_n 1, 1) := by decide +kernel
theorem dX7_becomeLike_10 : decode cX7_becomeLike 10 = .ok (.getfield 15, 3) := by decide +kernel
theorem dX7_becomeLike_13 : decode cX7_becomeLike 13 = .ok (.putfield 15, 3) := by decide +kernel
theorem dX7_becomeLike_16 : decode cX7_becomeLike 16 = .ok (.aload_n 0, 1) := by decide +kernel
theorem dX7_becomeLike_17 : decode cX7_becomeLike 17 = .ok (.aload_n 1, 1) := by decide +kernel
theorem dX7_becomeLike_18 : decode cX7_becomeLike 18 = .ok (.getfield 19, 3) := by decide +kernel
theorem dX7_becomeLike_21 : decode cX7_becomeLike 21 = .ok (.putfield 19, 3) := by decide +kernel
theorem dX7_becomeLike_24 : decode cX7_becomeLike 24 = .ok (.aload_n 0, 1) := by decide +kernel
theorem dX7_becomeLike_25 : decode cX7_becomeLike 25 = .ok (.aload_n 1, 1) := by decide +kernel
theorem dX7_becomeLike_26 : decode cX7_becomeLike 26 = .ok (.getfield 22, 3) := by decide +kernel
theorem dX7_becomeLike_29 : decode cX7_becomeLike 29 = .ok (.putfield 22, 3) := by decide +kernel
theorem dX7_becomeLike_32 : decode cX7_becomeLike 32 = .ok (.aload_n 0, 1) := by decide +kernel
theorem dX7_becomeLike_33 : decode cX7_becomeLike 33 = .ok (.aload_n 1, 1) := by decide +kernel
theorem dX7_becomeLike_34 : decode cX7_becomeLike 34 = .ok (.getfield 25, 3) := by decide +kernel
theorem dX7_becomeLike_37 : decode cX7_becomeLike 37 = .ok (.putfield 25, 3) := by decide +kernel
theorem dX7_becomeLike_40 : decode cX7_becomeLike 40 = .ok (.aload_n 0, 1) := by decide +kernel
theorem dX7_becomeLike_41 : decode cX7_becomeLike 41 = .ok (.aload_n 1, 1) := by decide +kernel
theorem dX7_becomeLike_42 : decode cX7_becomeLike 42 = .ok (.getfield 28, 3) := by decide +kernel
theorem dX7_becomeLike_45 : decode cX7_becomeLike 45 = .ok (.putfield 28, 3) := by decide +kernel
theorem dX7_becomeLike_48 : decode cX7_becomeLike 48 = .ok (.aload_n 0, 1) := by decide +kernel
theorem dX7_becomeLike_49 : decode cX7_becomeLike 49 = .ok (.aload_n 1, 1) := by decide +kernel
theorem dX7_becomeLike_50 : decode cX7_becomeLike 50 = .ok (.getfield 31, 3) := by decide +kernel
theorem dX7_becomeLike_53 : decode cX7_becomeLike 53 = .ok (.putfield 31, 3) := by decide +kernel
theorem dX7_becomeLike_56 : decode cX7_becomeLike 56 = .ok (.return_, 1) := by decide +kernel
theorem dX7_act_0 : decode cX7_act 0 = .ok (.iload_n 2, 1) := by decide +kernel
theorem dX7_act_1 : decode cX7_act 1 = .ok (.bipush 6, 2) := by decide +kernel
theorem dX7_act_3 : decode cX7_act 3 = .ok (.if_icmp .ne 5, 3) := by decide +kernel
theorem dX7_act_6 : decode cX7_act 6 = .ok (.iconst 0, 1) := by decide +kernel
theorem dX7_act_7 : decode cX7_act 7 = .ok (.ireturn, 1) := by decide +kernel
theorem dX7_act_8 : decode cX7_act 8 = .ok (.aload_n 1, 1) := by decide +kernel
theorem dX7_act_9 : decode cX7_act 9 = .ok (.aload_n 0, 1) := by decide +kernel
theorem dX7_act_10 : decode cX7_act 10 = .ok (.getfield 19, 3) := by decide +kernel
theorem dX7_act_13 : decode cX7_act 13 = .ok (.iload_n 2, 1) := by decide +kernel
theorem dX7_act_14 : decode cX7_act 14 = .ok (.aload_n 0, 1) := by decide +kernel
theorem dX7_act_15 : decode cX7_act 15 = .ok (.getfield 9, 3) := by decide +kernel
theorem dX7_act_18 : decode cX7_act 18 = .ok (.invokevirtual 37, 3) := by decide +kernel
theorem dX7_act_21 : decode cX7_act 21 = .ok (.istore_n 3, 1) := by decide +kernel
theorem dX7_act_22 : decode cX7_act 22 = .ok (.aload_n 0, 1) := by decide +kernel
theorem dX7_act_23 : decode cX7_act 23 = .ok (.aload_n 1, 1) := by decide +kernel
theorem dX7_act_24 : decode cX7_act 24 = .ok (.aload_n 0, 1) := by decide +kernel
theorem dX7_act_25 : decode cX7_act 25 = .ok (.getfield 19, 3) := by decide +kernel
theorem dX7_act_28 : decode cX7_act 28 = .ok (.iload_n 2, 1) := by decide +kernel
theorem dX7_act_29 : decode cX7_act 29 = .ok (.invokevirtual 43, 3) := by decide +kernel
theorem dX7_act_32 : decode cX7_act 32 = .ok (.putfield 19, 3) := by decide +kernel
theorem dX7_act_35 : decode cX7_act 35 = .ok (.aload_n 0, 1) := by decide +kernel
theorem dX7_act_36 : decode cX7_act 36 = .ok (.iconst 1, 1) := by decide +kernel
theorem dX7_act_37 : decode cX7_act 37 = .ok (.putfield 15, 3) := by decide +kernel
theorem dX7_act_40 : decode cX7_act 40 = .ok (.iload_n 2, 1) := by decide +kernel
theorem dX7_act_41 : decode cX7_act 41 = .ok (.iconst 3, 1) := by decide +kernel
theorem dX7_act_42 : decode cX7_act 42 = .ok (.if_icmp .ge 16, 3) := by decide +kernel
theorem dX7_act_45 : decode cX7_act 45 = .ok (.aload_n 0, 1) := by decide +kernel
theorem dX7_act_46 : decode cX7_act 46 = .ok (.dup, 1) := by decide +kernel
theorem dX7_act_47 : decode cX7_act 47 = .ok (.getfield 25, 3) := by decide +kernel
theorem dX7_act_50 : decode cX7_act 50 = .ok (.iload_n 3, 1) := by decide +kernel
theorem dX7_act_51 : decode cX7_act 51 = .ok (.iadd, 1) := by decide +kernel
theorem dX7_act_52 : decode cX7_act 52 = .ok (.putfield 25, 3) := by decide +kernel
theorem dX7_act_55 : decode cX7_act 55 = .ok (.goto 13, 3) := by decide +kernel
theorem dX7_act_58 : decode cX7_act 58 = .ok (.aload_n 0, 1) := by decide +kernel
theorem dX7_act_59 : decode cX7_act 59 = .ok (.dup, 1) := by decide +kernel
theorem dX7_act_60 : decode cX7_act 60 = .ok (.getfield 28, 3) := by decide +kernel
theorem dX7_act_63 : decode cX7_act 63 = .ok (.iload_n 3, 1) := by decide +kernel
theorem dX7_act_64 : decode cX7_act 64 = .ok (.iadd, 1) := by decide +kernel
theorem dX7_act_65 : decode cX7_act 65 = .ok (.putfield 28, 3) := by decide +kernel
theorem dX7_act_68 : decode cX7_act 68 = .ok (.iload_n 3, 1) := by decide +kernel
theorem dX7_act_69 : decode cX7_act 69 = .ok (.ireturn, 1) := by decide +kernel
theorem dX7_goOn_0 : decode cX7_goOn 0 = .ok (.iconst 0, 1) := by decide +kernel
theorem dX7_goOn_1 : decode cX7_goOn 1 = .ok (.istore_n 2, 1) := by decide +kernel
theorem dX7_goOn_2 : decode cX7_goOn 2 = .ok (.iconst 0, 1) := by decide +kernel
theorem dX7_goOn_3 : decode cX7_goOn 3 = .ok (.istore_n 3, 1) := by decide +kernel
theorem dX7_goOn_4 : decode cX7_goOn 4 = .ok (.iload_n 3, 1) := by decide +kernel
theorem dX7_goOn_5 : decode cX7_goOn 5 = .ok (.iconst 3, 1) := by decide +kernel
theorem dX7_goOn_6 : decode cX7_goOn 6 = .ok (.if_icmp .ge 88, 3) := by decide +kernel
theorem dX7_goOn_9 : decode cX7_goOn 9 = .ok (.aload_n 1, 1) := by decide +kernel
theorem dX7_goOn_10 : decode cX7_goOn 10 = .ok (.aload_n 0, 1) := by decide +kernel
theorem dX7_goOn_11 : decode cX7_goOn 11 = .ok (.getfield 19, 3) := by decide +kernel
theorem dX7_goOn_14 : decode cX7_goOn 14 = .ok (.aload_n 0, 1) := by decide +kernel
theorem dX7_goOn_15 : decode cX7_goOn 15 = .ok (.getfield 22, 3) := by decide +kernel
theorem dX7_goOn_18 : decode cX7_goOn 18 = .ok (.iload_n 3, 1) := by decide +kernel
theorem dX7_goOn_19 : decode cX7_goOn 19 = .ok (.invokevirtual 47, 3) := by decide +kernel
theorem dX7_goOn_22 : decode cX7_goOn 22 = .ok (.ifCond .eq 66, 3) := by decide +kernel
theorem dX7_goOn_25 : decode cX7_goOn 25 = .ok (.aload_n 0, 1) := by decide +kernel
theorem dX7_goOn_26 : decode cX7_goOn 26 = .ok (.aload_n 0, 1) := by decide +kernel
theorem dX7_goOn_27 : decode cX7_goOn 27 = .ok (.getfield 31, 3) := by decide +kernel
theorem dX7_goOn_30 : decode cX7_goOn 30 = .ok (.ldc 51, 2) := by decide +kernel
theorem dX7_goOn_32 : decode cX7_goOn 32 = .ok (.imul, 1) := by decide +kernel
theorem dX7_goOn_33 : decode cX7_goOn 33 = .ok (.sipush 12345, 3) := by decide +kernel
theorem dX7_goOn_36 : decode cX7_goOn 36 = .ok (.iadd, 1) := by decide +kernel
theorem dX7_goOn_37 : decode cX7_goOn 37 = .ok (.putfield 31, 3) := by decide +kernel
theorem dX7_goOn_40 : decode cX7_goOn 40 = .ok (.aload_n 0, 1) := by decide +kernel
theorem dX7_goOn_41 : decode cX7_goOn 41 = .ok (.getfield 31, 3) := by decide +kernel
theorem dX7_goOn_44 : decode cX7_goOn 44 = .ok (.bipush 16, 2) := by decide +kernel
theorem dX7_goOn_46 : decode cX7_goOn 46 = .ok (.iushr, 1) := by decide +kernel
theorem dX7_goOn_47 : decode cX7_goOn 47 = .ok (.bipush 10, 2) := by decide +kernel
theorem dX7_goOn_49 : decode cX7_goOn 49 = .ok (.irem, 1) := by decide +kernel
theorem dX7_goOn_50 : decode cX7_goOn 50 = .ok (.aload_n 1, 1) := by decide +kernel
theorem dX7_goOn_51 : decode cX7_goOn 51 = .ok (.aload_n 0, 1) := by decide +kernel
theorem dX7_goOn_52 : decode cX7_goOn 52 = .ok (.getfield 19, 3) := by decide +kernel
theorem dX7_goOn_55 : decode cX7_goOn 55 = .ok (.aload_n 0, 1) := by decide +kernel
theorem dX7_goOn_56 : decode cX7_goOn 56 = .ok (.getfield 22, 3) := by decide +kernel
theorem dX7_goOn_59 : decode cX7_goOn 59 = .ok (.iload_n 3, 1) := by decide +kernel
theorem dX7_goOn_60 : decode cX7_goOn 60 = .ok (.aload_n 0, 1) := by decide +kernel
theorem dX7_goOn_61 : decode cX7_goOn 61 = .ok (.getfield 9, 3) := by decide +kernel
theorem dX7_goOn_64 : decode cX7_goOn 64 = .ok (.invokevirtual 52, 3) := by decide +kernel
theorem dX7_goOn_67 : decode cX7_goOn 67 = .ok (.if_icmp .ge 21, 3) := by decide +kernel
theorem dX7_goOn_70 : decode cX7_goOn 70 = .ok (.aload_n 0, 1) := by decide +kernel
theorem dX7_goOn_71 : decode cX7_goOn 71 = .ok (.dup, 1) := by decide +kernel
theorem dX7_goOn_72 : decode cX7_goOn 72 = .ok (.getfield 19, 3) := by decide +kernel
theorem dX7_goOn_75 : decode cX7_goOn 75 = .ok (.iload_n 3, 1) := by decide +kernel
theorem dX7_goOn_76 : decode cX7_goOn 76 = .ok (.iconst 1, 1) := by decide +kernel
theorem dX7_goOn_77 : decode cX7_goOn 77 = .ok (.iconst 0, 1) := by decide +kernel
theorem dX7_goOn_78 : decode cX7_goOn 78 = .ok (.invokestatic 56, 3) := by decide +kernel
theorem dX7_goOn_81 : decode cX7_goOn 81 = .ok (.iadd, 1) := by decide +kernel
theorem dX7_goOn_82 : decode cX7_goOn 82 = .ok (.putfield 19, 3) := by decide +kernel
theorem dX7_goOn_85 : decode cX7_goOn 85 = .ok (.iinc 2 1, 3) := by decide +kernel
theorem dX7_goOn_88 : decode cX7_goOn 88 = .ok (.iinc 3 1, 3) := by decide +kernel
theorem dX7_goOn_91 : decode cX7_goOn 91 = .ok (.goto (-87), 3) := by decide +kernel
theorem dX7_goOn_94 : decode cX7_goOn 94 = .ok (.aload_n 0, 1) := by decide +kernel
theorem dX7_goOn_95 : decode cX7_goOn 95 = .ok (.dup, 1) := by decide +kernel
theorem dX7_goOn_96 : decode cX7_goOn 96 = .ok (.getfield 9, 3) := by decide +kernel
theorem dX7_goOn_99 : decode cX7_goOn 99 = .ok (.iconst 1, 1) := by decide +kernel
theorem dX7_goOn_100 : decode cX7_goOn 100 = .ok (.iadd, 1) := by decide +kernel
theorem dX7_goOn_101 : decode cX7_goOn 101 = .ok (.putfield 9, 3) := by decide +kernel
theorem dX7_goOn_104 : decode cX7_goOn 104 = .ok (.aload_n 0, 1) := by decide +kernel
theorem dX7_goOn_105 : decode cX7_goOn 105 = .ok (.iconst 0, 1) := by decide +kernel
theorem dX7_goOn_106 : decode cX7_goOn 106 = .ok (.putfield 15, 3) := by decide +kernel
theorem dX7_goOn_109 : decode cX7_goOn 109 = .ok (.iload_n 2, 1) := by decide +kernel
theorem dX7_goOn_110 : decode cX7_goOn 110 = .ok (.ireturn, 1) := by decide +kernel
theorem dX8_init_0 : decode cX8_init 0 = .ok (.aload_n 0, 1) := by decide +kernel
theorem dX8_init_1 : decode cX8_init 1 = .ok (.invokespecial 1, 3) := by decide +kernel
theorem dX8_init_4 : decode cX8_init 4 = .ok (.aload_n 0, 1) := by decide +kernel
theorem dX8_init_5 : decode cX8_init 5 = .ok (.sipush 400, 3) := by decide +kernel
theorem dX8_init_8 : decode cX8_init 8 = .ok (.newarray .byte, 2) := by decide +kernel
theorem dX8_init_10 : decode cX8_init 10 = .ok (.putfield 9, 3) := by decide +kernel
theorem dX8_init_13 : decode cX8_init 13 = .ok (.aload_n 0, 1) := by decide +kernel
theorem dX8_init_14 : decode cX8_init 14 = .ok (.iconst 0, 1) := by decide +kernel
theorem dX8_init_15 : decode cX8_init 15 = .ok (.putfield 13, 3) := by decide +kernel
theorem dX8_init_18 : decode cX8_init 18 = .ok (.aload_n 0, 1) := by decide +kernel
theorem dX8_init_19 : decode cX8_init 19 = .ok (.new 17, 3) := by decide +kernel
theorem dX8_init_22 : decode cX8_init 22 = .ok (.dup, 1) := by decide +kernel
theorem dX8_init_23 : decode cX8_init 23 = .ok (.invokespecial 19, 3) := by decide +kernel
theorem dX8_init_26 : decode cX8_init 26 = .ok (.putfield 20, 3) := by decide +kernel
theorem dX8_init_29 : decode cX8_init 29 = .ok (.aload_n 0, 1) := by decide +kernel
theorem dX8_init_30 : decode cX8_init 30 = .ok (.new 17, 3) := by decide +kernel
theorem dX8_init_33 : decode cX8_init 33 = .ok (.dup, 1) := by decide +kernel
theorem dX8_init_34 : decode cX8_init 34 = .ok (.invokespecial 19, 3) := by decide +kernel
theorem dX8_init_37 : decode cX8_init 37 = .ok (.putfield 24, 3) := by decide +kernel
theorem dX8_init_40 : decode cX8_init 40 = .ok (.aload_n 0, 1) := by decide +kernel
theorem dX8_init_41 : decode cX8_init 41 = .ok (.new 27, 3) := by decide +kernel
theorem dX8_init_44 : decode cX8_init 44 = .ok (.dup, 1) := by decide +kernel
theorem dX8_init_45 : decode cX8_init 45 = .ok (.aload_n 0, 1) := by decide +kernel
theorem dX8_init_46 : decode cX8_init 46 = .ok (.getfield 9, 3) := by decide +kernel
theorem dX8_init_49 : decode cX8_init 49 = .ok (.aload_n 0, 1) := by decide +kernel
theorem dX8_init_50 : decode cX8_init 50 = .ok (.getfield 24, 3) := by decide +kernel
theorem dX8_init_53 : decode cX8_init 53 = .ok (.invokespecial 29, 3) := by decide +kernel
theorem dX8_init_56 : decode cX8_init 56 = .ok (.putfield 32, 3) := by decide +kernel
theorem dX8_init_59 : decode cX8_init 59 = .ok (.aload_n 0, 1) := by decide +kernel
theorem dX8_init_60 : decode cX8_init 60 = .ok (.new 36, 3) := by decide +kernel
theorem dX8_init_63 : decode cX8_init 63 = .ok (.dup, 1) := by decide +kernel
theorem dX8_init_64 : decode cX8_init 64 = .ok (.invokespecial 38, 3) := by decide +kernel
theorem dX8_init_67 : decode cX8_init 67 = .ok (.putfield 39, 3) := by decide +kernel
theorem dX8_init_70 : decode cX8_init 70 = .ok (.aload_n 0, 1) := by decide +kernel
theorem dX8_init_71 : decode cX8_init 71 = .ok (.new 36, 3) := by decide +kernel
theorem dX8_init_74 : decode cX8_init 74 = .ok (.dup, 1) := by decide +kernel
theorem dX8_init_75 : decode cX8_init 75 = .ok (.invokespecial 38, 3) := by decide +kernel
theorem dX8_init_78 : decode cX8_init 78 = .ok (.putfield 43, 3) := by decide +kernel
theorem dX8_init_81 : decode cX8_init 81 = .ok (.aload_n 0, 1) := by decide +kernel
theorem dX8_init_82 : decode cX8_init 82 = .ok (.new 36, 3) := by decide +kernel
theorem dX8_init_85 : decode cX8_init 85 = .ok (.dup, 1) := by decide +kernel
theorem dX8_init_86 : decode cX8_init 86 = .ok (.invokespecial 38, 3) := by decide +kernel
theorem dX8_init_89 : decode cX8_init 89 = .ok (.putfield 46, 3) := by decide +kernel
theorem dX8_init_92 : decode cX8_init 92 = .ok (.aload_n 0, 1) := by decide +kernel
theorem dX8_init_93 : decode cX8_init 93 = .ok (.new 49, 3) := by decide +kernel
theorem dX8_init_96 : decode cX8_init 96 = .ok (.dup, 1) := by decide +kernel
theorem dX8_init_97 : decode cX8_init 97 = .ok (.aload_n 0, 1) := by decide +kernel
theorem dX8_init_98 : decode cX8_init 98 = .ok (.getfield 20, 3) := by decide +kernel
theorem dX8_init_101 : decode cX8_init 101 = .ok (.invokespecial 51, 3) := by decide +kernel
theorem dX8_init_104 : decode cX8_init 104 = .ok (.putfield 54, 3) := by decide +kernel
theorem dX8_init_107 : decode cX8_init 107 = .ok (.aload_n 0, 1) := by decide +kernel
theorem dX8_init_108 : decode cX8_init 108 = .ok (.new 49, 3) := by decide +kernel
theorem dX8_init_111 : decode cX8_init 111 = .ok (.dup, 1) := by decide +kernel
theorem dX8_init_112 : decode cX8_init 112 = .ok (.aload_n 0, 1) := by decide +kernel
theorem dX8_init_113 : decode cX8_init 113 = .ok (.getfield 20, 3) := by decide +kernel
theorem dX8_init_116 : decode cX8_init 116 = .ok (.invokespecial 51, 3) := by decide +kernel
theorem dX8_init_119 : decode cX8_init 119 = .ok (.putfield 58, 3) := by decide +kernel
theorem dX8_init_122 : decode cX8_init 122 = .ok (.aload_n 0, 1) := by decide +kernel
theorem dX8_init_123 : decode cX8_init 123 = .ok (.new 61, 3) := by decide +kernel
theorem dX8_init_126 : decode cX8_init 126 = .ok (.dup, 1) := by decide +kernel
theorem dX8_init_127 : decode cX8_init 127 = .ok (.aload_n 0, 1) := by decide +kernel
theorem dX8_init_128 : decode cX8_init 128 = .ok (.getfield 20, 3) := by decide +kernel
theorem dX8_init_131 : decode cX8_init 131 = .ok (.invokespecial 63, 3) := by decide +kernel
theorem dX8_init_134 : decode cX8_init 134 = .ok (.putfield 64, 3) := by decide +kernel
theorem dX8_init_137 : decode cX8_init 137 = .ok (.aload_n 0, 1) := by decide +kernel
theorem dX8_init_138 : decode cX8_init 138 = .ok (.new 68, 3) := by decide +kernel
theorem dX8_init_141 : decode cX8_init 141 = .ok (.dup, 1) := by decide +kernel
theorem dX8_init_142 : decode cX8_init 142 = .ok (.invokespecial 70, 3) := by decide +kernel
theorem dX8_init_145 : decode cX8_init 145 = .ok (.putfield 71, 3) := by decide +kernel
theorem dX8_init_148 : decode cX8_init 148 = .ok (.aload_n 0, 1) := by decide +kernel
theorem dX8_init_149 : decode cX8_init 149 = .ok (.new 75, 3) := by decide +kernel
theorem dX8_init_152 : decode cX8_init 152 = .ok (.dup, 1) := by decide +kernel
theorem dX8_init_153 : decode cX8_init 153 = .ok (.aload_n 0, 1) := by decide +kernel
theorem dX8_init_154 : decode cX8_init 154 = .ok (.getfield 20, 3) := by decide +kernel
theorem dX8_init_157 : decode cX8_init 157 = .ok (.invokespecial 77, 3) := by decide +kernel
theorem dX8_init_160 : decode cX8_init 160 = .ok (.putfield 78, 3) := by decide +kernel
theorem dX8_init_163 : decode cX8_init 163 = .ok (.aload_n 0, 1) := by decide +kernel
theorem dX8_init_164 : decode cX8_init 164 = .ok (.new 82, 3) := by decide +kernel
theorem dX8_init_167 : decode cX8_init 167 = .ok (.dup, 1) := by decide +kernel
theorem dX8_init_168 : decode cX8_init 168 = .ok (.aload_n 0, 1) := by decide +kernel
theorem dX8_init_169 : decode cX8_init 169 = .ok (.getfield 20, 3) := by decide +kernel
theorem dX8_init_172 : decode cX8_init 172 = .ok (.invokespecial 84, 3) := by decide +kernel
theorem dX8_init_175 : decode cX8_init 175 = .ok (.putfield 85, 3) := by decide +kernel
theorem dX8_init_178 : decode cX8_init 178 = .ok (.aload_n 0, 1) := by decide +kernel
theorem dX8_init_179 : decode cX8_init 179 = .ok (.getfield 39, 3) := by decide +kernel
theorem dX8_init_182 : decode cX8_init 182 = .ok (.iconst 1, 1) := by decide +kernel
theorem dX8_init_183 : decode cX8_init 183 = .ok (.putfield 89, 3) := by decide +kernel
theorem dX8_init_186 : decode cX8_init 186 = .ok (.return_, 1) := by decide +kernel
theorem dX8_type_0 : decode cX8_type 0 = .ok (.iload_n 3, 1) := by decide +kernel
theorem dX8_type_1 : decode cX8_type 1 = .ok (.iconst 1, 1) := by decide +kernel
theorem dX8_type_2 : decode cX8_type 2 = .ok (.if_icmp .lt 9, 3) := by decide +kernel
theorem dX8_type_5 : decode cX8_type 5 = .ok (.iload_n 3, 1) := by decide +kernel
theorem dX8_type_6 : decode cX8_type 6 = .ok (.bipush 8, 2) := by decide +kernel
theorem dX8_type_8 : decode cX8_type 8 = .ok (.if_icmp .le 5, 3) := by decide +kernel
theorem dX8_type_11 : decode cX8_type 11 = .ok (.iconst (-1), 1) := by decide +kernel
theorem dX8_type_12 : decode cX8_type 12 = .ok (.ireturn, 1) := by decide +kernel
theorem dX8_type_13 : decode cX8_type 13 = .ok (.aload_n 0, 1) := by decide +kernel
theorem dX8_type_14 : decode cX8_type 14 = .ok (.getfield 13, 3) := by decide +kernel
theorem dX8_type_17 : decode cX8_type 17 = .ok (.iload_n 3, 1) := by decide +kernel
theorem dX8_type_18 : decode cX8_type 18 = .ok (.iadd, 1) := by decide +kernel
theorem dX8_type_19 : decode cX8_type 19 = .ok (.sipush 400, 3) := by decide +kernel
theorem dX8_type_22 : decode cX8_type 22 = .ok (.if_icmp .le 6, 3) := by decide +kernel
theorem dX8_type_25 : decode cX8_type 25 = .ok (.bipush (-3), 2) := by decide +kernel
theorem dX8_type_27 : decode cX8_type 27 = .ok (.ireturn, 1) := by decide +kernel
theorem dX8_type_28 : decode cX8_type 28 = .ok (.iload_n 3, 1) := by decide +kernel
theorem dX8_type_29 : decode cX8_type 29 = .ok (.iconst 1, 1) := by decide +kernel
theorem dX8_type_30 : decode cX8_type 30 = .ok (.isub, 1) := by decide +kernel
theorem dX8_type_31 : decode cX8_type 31 = .ok (.istore 4, 2) := by decide +kernel
theorem dX8_type_33 : decode cX8_type 33 = .ok (.iload 4, 2) := by decide +kernel
theorem dX8_type_35 : decode cX8_type 35 = .ok (.ifCond .lt 37, 3) := by decide +kernel
theorem dX8_type_38 : decode cX8_type 38 = .ok (.aload_n 0, 1) := by decide +kernel
theorem dX8_type_39 : decode cX8_type 39 = .ok (.getfield 9, 3) := by decide +kernel
theorem dX8_type_42 : decode cX8_type 42 = .ok (.aload_n 0, 1) := by decide +kernel
theorem dX8_type_43 : decode cX8_type 43 = .ok (.getfield 13, 3) := by decide +kernel
theorem dX8_type_46 : decode cX8_type 46 = .ok (.lload_n 1, 1) := by decide +kernel
theorem dX8_type_47 : decode cX8_type 47 = .ok (.bipush 8, 2) := by decide +kernel
theorem dX8_type_49 : decode cX8_type 49 = .ok (.iload 4, 2) := by decide +kernel
theorem dX8_type_51 : decode cX8_type 51 = .ok (.imul, 1) := by decide +kernel
theorem dX8_type_52 : decode cX8_type 52 = .ok (.lushr, 1) := by decide +kernel
theorem dX8_type_53 : decode cX8_type 53 = .ok (.l2i, 1) := by decide +kernel
theorem dX8_type_54 : decode cX8_type 54 = .ok (.i2b, 1) := by decide +kernel
theorem dX8_type_55 : decode cX8_type 55 = .ok (.bastore, 1) := by decide +kernel
theorem dX8_type_56 : decode cX8_type 56 = .ok (.aload_n 0, 1) := by decide +kernel
theorem dX8_type_57 : decode cX8_type 57 = .ok (.dup, 1) := by decide +kernel
theorem dX8_type_58 : decode cX8_type 58 = .ok (.getfield 13, 3) := by decide +kernel
theorem dX8_type_61 : decode cX8_type 61 = .ok (.iconst 1, 1) := by decide +kernel
theorem dX8_type_62 : decode cX8_type 62 = .ok (.iadd, 1) := by decide +kernel
theorem dX8_type_63 : decode cX8_type 63 = .ok (.putfield 13, 3) := by decide +kernel
theorem dX8_type_66 : decode cX8_type 66 = .ok (.iinc 4 (-1), 3) := by decide +kernel
theorem dX8_type_69 : decode cX8_type 69 = .ok (.goto (-36), 3) := by decide +kernel
theorem dX8_type_72 : decode cX8_type 72 = .ok (.aload_n 0, 1) := by decide +kernel
theorem dX8_type_73 : decode cX8_type 73 = .ok (.getfield 13, 3) := by decide +kernel
theorem dX8_type_76 : decode cX8_type 76 = .ok (.ireturn, 1) := by decide +kernel
theorem dX8_clear_0 : decode cX8_clear 0 = .ok (.aload_n 0, 1) := by decide +kernel
theorem dX8_clear_1 : decode cX8_clear 1 = .ok (.getfield 13, 3) := by decide +kernel
theorem dX8_clear_4 : decode cX8_clear 4 = .ok (.istore_n 1, 1) := by decide +kernel
theorem dX8_clear_5 : decode cX8_clear 5 = .ok (.aload_n 0, 1) := by decide +kernel
theorem dX8_clear_6 : decode cX8_clear 6 = .ok (.iconst 0, 1) := by decide +kernel
theorem dX8_clear_7 : decode cX8_clear 7 = .ok (.putfield 13, 3) := by decide +kernel
theorem dX8_clear_10 : decode cX8_clear 10 = .ok (.iload_n 1, 1) := by decide +kernel
theorem dX8_clear_11 : decode cX8_clear 11 = .ok (.ireturn, 1) := by decide +kernel
theorem dX8_cellar_0 : decode cX8_cellar 0 = .ok (.aload_n 0, 1) := by decide +kernel
theorem dX8_cellar_1 : decode cX8_cellar 1 = .ok (.getfield 32, 3) := by decide +kernel
theorem dX8_cellar_4 : decode cX8_cellar 4 = .ok (.aload_n 0, 1) := by decide +kernel
theorem dX8_cellar_5 : decode cX8_cellar 5 = .ok (.getfield 13, 3) := by decide +kernel
theorem dX8_cellar_8 : decode cX8_cellar 8 = .ok (.invokevirtual 92, 3) := by decide +kernel
theorem dX8_cellar_11 : decode cX8_cellar 11 = .ok (.istore_n 1, 1) := by decide +kernel
theorem dX8_cellar_12 : decode cX8_cellar 12 = .ok (.iload_n 1, 1) := by decide +kernel
theorem dX8_cellar_13 : decode cX8_cellar 13 = .ok (.ifCond .ge 5, 3) := by decide +kernel
