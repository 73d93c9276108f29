theorem dX9_stateNow_12 : decode cX9_stateNow 12 = .ok (.ifCond .lt 30, 3) := by decide +kernel
theorem dX9_stateNow_15 : decode cX9_stateNow 15 = .ok (.bipush 16, 2) := by decide +kernel
theorem dX9_stateNow_17 : decode cX9_stateNow 17 = .ok (.iload_n 1, 1) := by decide +kernel
theorem dX9_stateNow_18 : decode cX9_stateNow 18 = .ok (.imul, 1) := by decide +kernel
theorem dX9_stateNow_19 : decode cX9_stateNow 19 = .ok (.iconst 4, 1) := by decide +kernel
theorem dX9_stateNow_20 : decode cX9_stateNow 20 = .ok (.aload_n 0, 1) := by decide +kernel
theorem dX9_stateNow_21 : decode cX9_stateNow 21 = .ok (.getfield 57, 3) := by decide +kernel
theorem dX9_stateNow_24 : decode cX9_stateNow 24 = .ok (.iload_n 2, 1) := by decide +kernel
theorem dX9_stateNow_25 : decode cX9_stateNow 25 = .ok (.iaload, 1) := by decide +kernel
theorem dX9_stateNow_26 : decode cX9_stateNow 26 = .ok (.imul, 1) := by decide +kernel
theorem dX9_stateNow_27 : decode cX9_stateNow 27 = .ok (.iadd, 1) := by decide +kernel
theorem dX9_stateNow_28 : decode cX9_stateNow 28 = .ok (.aload_n 0, 1) := by decide +kernel
theorem dX9_stateNow_29 : decode cX9_stateNow 29 = .ok (.getfield 60, 3) := by decide +kernel
theorem dX9_stateNow_32 : decode cX9_stateNow 32 = .ok (.iload_n 2, 1) := by decide +kernel
theorem dX9_stateNow_33 : decode cX9_stateNow 33 = .ok (.iaload, 1) := by decide +kernel
theorem dX9_stateNow_34 : decode cX9_stateNow 34 = .ok (.iadd, 1) := by decide +kernel
theorem dX9_stateNow_35 : decode cX9_stateNow 35 = .ok (.istore_n 1, 1) := by decide +kernel
theorem dX9_stateNow_36 : decode cX9_stateNow 36 = .ok (.iinc 2 (-1), 3) := by decide +kernel
theorem dX9_stateNow_39 : decode cX9_stateNow 39 = .ok (.goto (-28), 3) := by decide +kernel
theorem dX9_stateNow_42 : decode cX9_stateNow 42 = .ok (.iload_n 1, 1) := by decide +kernel
theorem dX9_stateNow_43 : decode cX9_stateNow 43 = .ok (.ireturn, 1) := by decide +kernel
theorem dX9_codeOf_0 : decode cX9_codeOf 0 = .ok (.iload_n 0, 1) := by decide +kernel
theorem dX9_codeOf_1 : decode cX9_codeOf 1 = .ok (.iconst 4, 1) := by decide +kernel
theorem dX9_codeOf_2 : decode cX9_codeOf 2 = .ok (.iload_n 1, 1) := by decide +kernel
theorem dX9_codeOf_3 : decode cX9_codeOf 3 = .ok (.imul, 1) := by decide +kernel
theorem dX9_codeOf_4 : decode cX9_codeOf 4 = .ok (.ishr, 1) := by decide +kernel
theorem dX9_codeOf_5 : decode cX9_codeOf 5 = .ok (.bipush 15, 2) := by decide +kernel
theorem dX9_codeOf_7 : decode cX9_codeOf 7 = .ok (.iand, 1) := by decide +kernel
theorem dX9_codeOf_8 : decode cX9_codeOf 8 = .ok (.ireturn, 1) := by decide +kernel
theorem dX9_isOpenIn_0 : decode cX9_isOpenIn 0 = .ok (.iload_n 1, 1) := by decide +kernel
theorem dX9_isOpenIn_1 : decode cX9_isOpenIn 1 = .ok (.iload_n 2, 1) := by decide +kernel
theorem dX9_isOpenIn_2 : decode cX9_isOpenIn 2 = .ok (.invokestatic 175, 3) := by decide +kernel
theorem dX9_isOpenIn_5 : decode cX9_isOpenIn 5 = .ok (.iconst 3, 1) := by decide +kernel
theorem dX9_isOpenIn_6 : decode cX9_isOpenIn 6 = .ok (.iand, 1) := by decide +kernel
theorem dX9_isOpenIn_7 : decode cX9_isOpenIn 7 = .ok (.istore_n 3, 1) := by decide +kernel
theorem dX9_isOpenIn_8 : decode cX9_isOpenIn 8 = .ok (.iload_n 3, 1) := by decide +kernel
theorem dX9_isOpenIn_9 : decode cX9_isOpenIn 9 = .ok (.ifCond .le 17, 3) := by decide +kernel
theorem dX9_isOpenIn_12 : decode cX9_isOpenIn 12 = .ok (.iload_n 3, 1) := by decide +kernel
theorem dX9_isOpenIn_13 : decode cX9_isOpenIn 13 = .ok (.aload_n 0, 1) := by decide +kernel
theorem dX9_isOpenIn_14 : decode cX9_isOpenIn 14 = .ok (.getfield 32, 3) := by decide +kernel
theorem dX9_isOpenIn_17 : decode cX9_isOpenIn 17 = .ok (.iload_n 2, 1) := by decide +kernel
theorem dX9_isOpenIn_18 : decode cX9_isOpenIn 18 = .ok (.iaload, 1) := by decide +kernel
theorem dX9_isOpenIn_19 : decode cX9_isOpenIn 19 = .ok (.if_icmp .ge 7, 3) := by decide +kernel
theorem dX9_isOpenIn_22 : decode cX9_isOpenIn 22 = .ok (.iconst 1, 1) := by decide +kernel
theorem dX9_isOpenIn_23 : decode cX9_isOpenIn 23 = .ok (.goto 4, 3) := by decide +kernel
theorem dX9_isOpenIn_26 : decode cX9_isOpenIn 26 = .ok (.iconst 0, 1) := by decide +kernel
theorem dX9_isOpenIn_27 : decode cX9_isOpenIn 27 = .ok (.ireturn, 1) := by decide +kernel
theorem dX9_mayEat_0 : decode cX9_mayEat 0 = .ok (.aload_n 0, 1) := by decide +kernel
theorem dX9_mayEat_1 : decode cX9_mayEat 1 = .ok (.iload_n 2, 1) := by decide +kernel
theorem dX9_mayEat_2 : decode cX9_mayEat 2 = .ok (.invokevirtual 164, 3) := by decide +kernel
theorem dX9_mayEat_5 : decode cX9_mayEat 5 = .ok (.ifCond .ne 5, 3) := by decide +kernel
theorem dX9_mayEat_8 : decode cX9_mayEat 8 = .ok (.iconst 0, 1) := by decide +kernel
theorem dX9_mayEat_9 : decode cX9_mayEat 9 = .ok (.ireturn, 1) := by decide +kernel
theorem dX9_mayEat_10 : decode cX9_mayEat 10 = .ok (.iload_n 1, 1) := by decide +kernel
theorem dX9_mayEat_11 : decode cX9_mayEat 11 = .ok (.iload_n 2, 1) := by decide +kernel
theorem dX9_mayEat_12 : decode cX9_mayEat 12 = .ok (.invokestatic 175, 3) := by decide +kernel
theorem dX9_mayEat_15 : decode cX9_mayEat 15 = .ok (.iconst 3, 1) := by decide +kernel
theorem dX9_mayEat_16 : decode cX9_mayEat 16 = .ok (.iand, 1) := by decide +kernel
theorem dX9_mayEat_17 : decode cX9_mayEat 17 = .ok (.istore_n 3, 1) := by decide +kernel
theorem dX9_mayEat_18 : decode cX9_mayEat 18 = .ok (.iconst 0, 1) := by decide +kernel
theorem dX9_mayEat_19 : decode cX9_mayEat 19 = .ok (.istore 4, 2) := by decide +kernel
theorem dX9_mayEat_21 : decode cX9_mayEat 21 = .ok (.iconst 0, 1) := by decide +kernel
theorem dX9_mayEat_22 : decode cX9_mayEat 22 = .ok (.istore 5, 2) := by decide +kernel
theorem dX9_mayEat_24 : decode cX9_mayEat 24 = .ok (.iload 5, 2) := by decide +kernel
theorem dX9_mayEat_26 : decode cX9_mayEat 26 = .ok (.aload_n 0, 1) := by decide +kernel
theorem dX9_mayEat_27 : decode cX9_mayEat 27 = .ok (.getfield 17, 3) := by decide +kernel
theorem dX9_mayEat_30 : decode cX9_mayEat 30 = .ok (.iconst 0, 1) := by decide +kernel
theorem dX9_mayEat_31 : decode cX9_mayEat 31 = .ok (.iaload, 1) := by decide +kernel
theorem dX9_mayEat_32 : decode cX9_mayEat 32 = .ok (.if_icmp .ge 35, 3) := by decide +kernel
theorem dX9_mayEat_35 : decode cX9_mayEat 35 = .ok (.iload 4, 2) := by decide +kernel
theorem dX9_mayEat_37 : decode cX9_mayEat 37 = .ok (.iload 5, 2) := by decide +kernel
theorem dX9_mayEat_39 : decode cX9_mayEat 39 = .ok (.iload_n 2, 1) := by decide +kernel
theorem dX9_mayEat_40 : decode cX9_mayEat 40 = .ok (.if_icmp .eq 17, 3) := by decide +kernel
theorem dX9_mayEat_43 : decode cX9_mayEat 43 = .ok (.aload_n 0, 1) := by decide +kernel
theorem dX9_mayEat_44 : decode cX9_mayEat 44 = .ok (.iload_n 1, 1) := by decide +kernel
theorem dX9_mayEat_45 : decode cX9_mayEat 45 = .ok (.iload 5, 2) := by decide +kernel
theorem dX9_mayEat_47 : decode cX9_mayEat 47 = .ok (.invokevirtual 178, 3) := by decide +kernel
theorem dX9_mayEat_50 : decode cX9_mayEat 50 = .ok (.ifCond .eq 7, 3) := by decide +kernel
theorem dX9_mayEat_53 : decode cX9_mayEat 53 = .ok (.iconst 1, 1) := by decide +kernel
theorem dX9_mayEat_54 : decode cX9_mayEat 54 = .ok (.goto 4, 3) := by decide +kernel
theorem dX9_mayEat_57 : decode cX9_mayEat 57 = .ok (.iconst 0, 1) := by decide +kernel
theorem dX9_mayEat_58 : decode cX9_mayEat 58 = .ok (.iadd, 1) := by decide +kernel
theorem dX9_mayEat_59 : decode cX9_mayEat 59 = .ok (.istore 4, 2) := by decide +kernel
theorem dX9_mayEat_61 : decode cX9_mayEat 61 = .ok (.iinc 5 1, 3) := by decide +kernel
theorem dX9_mayEat_64 : decode cX9_mayEat 64 = .ok (.goto (-40), 3) := by decide +kernel
theorem dX9_mayEat_67 : decode cX9_mayEat 67 = .ok (.iload_n 3, 1) := by decide +kernel
theorem dX9_mayEat_68 : decode cX9_mayEat 68 = .ok (.ifCond .le 28, 3) := by decide +kernel
theorem dX9_mayEat_71 : decode cX9_mayEat 71 = .ok (.iload_n 3, 1) := by decide +kernel
theorem dX9_mayEat_72 : decode cX9_mayEat 72 = .ok (.aload_n 0, 1) := by decide +kernel
theorem dX9_mayEat_73 : decode cX9_mayEat 73 = .ok (.getfield 32, 3) := by decide +kernel
theorem dX9_mayEat_76 : decode cX9_mayEat 76 = .ok (.iload_n 2, 1) := by decide +kernel
theorem dX9_mayEat_77 : decode cX9_mayEat 77 = .ok (.iaload, 1) := by decide +kernel
theorem dX9_mayEat_78 : decode cX9_mayEat 78 = .ok (.if_icmp .lt 14, 3) := by decide +kernel
theorem dX9_mayEat_81 : decode cX9_mayEat 81 = .ok (.iload 4, 2) := by decide +kernel
theorem dX9_mayEat_83 : decode cX9_mayEat 83 = .ok (.aload_n 0, 1) := by decide +kernel
theorem dX9_mayEat_84 : decode cX9_mayEat 84 = .ok (.getfield 23, 3) := by decide +kernel
theorem dX9_mayEat_87 : decode cX9_mayEat 87 = .ok (.iconst 0, 1) := by decide +kernel
theorem dX9_mayEat_88 : decode cX9_mayEat 88 = .ok (.iaload, 1) := by decide +kernel
theorem dX9_mayEat_89 : decode cX9_mayEat 89 = .ok (.if_icmp .ge 7, 3) := by decide +kernel
theorem dX9_mayEat_92 : decode cX9_mayEat 92 = .ok (.iconst 1, 1) := by decide +kernel
theorem dX9_mayEat_93 : decode cX9_mayEat 93 = .ok (.goto 4, 3) := by decide +kernel
theorem dX9_mayEat_96 : decode cX9_mayEat 96 = .ok (.iconst 0, 1) := by decide +kernel
theorem dX9_mayEat_97 : decode cX9_mayEat 97 = .ok (.ireturn, 1) := by decide +kernel
theorem dX9_maySell_0 : decode cX9_maySell 0 = .ok (.aload_n 0, 1) := by decide +kernel
theorem dX9_maySell_1 : decode cX9_maySell 1 = .ok (.iload_n 2, 1) := by decide +kernel
theorem dX9_maySell_2 : decode cX9_maySell 2 = .ok (.invokevirtual 164, 3) := by decide +kernel
theorem dX9_maySell_5 : decode cX9_maySell 5 = .ok (.ifCond .eq 11, 3) := by decide +kernel
theorem dX9_maySell_8 : decode cX9_maySell 8 = .ok (.iload_n 1, 1) := by decide +kernel
theorem dX9_maySell_9 : decode cX9_maySell 9 = .ok (.iload_n 2, 1) := by decide +kernel
theorem dX9_maySell_10 : decode cX9_maySell 10 = .ok (.invokestatic 175, 3) := by decide +kernel
theorem dX9_maySell_13 : decode cX9_maySell 13 = .ok (.goto 4, 3) := by decide +kernel
theorem dX9_maySell_16 : decode cX9_maySell 16 = .ok (.iconst 0, 1) := by decide +kernel
theorem dX9_maySell_17 : decode cX9_maySell 17 = .ok (.istore_n 3, 1) := by decide +kernel
theorem dX9_maySell_18 : decode cX9_maySell 18 = .ok (.aload_n 0, 1) := by decide +kernel
theorem dX9_maySell_19 : decode cX9_maySell 19 = .ok (.iload_n 2, 1) := by decide +kernel
theorem dX9_maySell_20 : decode cX9_maySell 20 = .ok (.invokevirtual 164, 3) := by decide +kernel
theorem dX9_maySell_23 : decode cX9_maySell 23 = .ok (.ifCond .eq 26, 3) := by decide +kernel
theorem dX9_maySell_26 : decode cX9_maySell 26 = .ok (.iload_n 3, 1) := by decide +kernel
theorem dX9_maySell_27 : decode cX9_maySell 27 = .ok (.iconst 3, 1) := by decide +kernel
theorem dX9_maySell_28 : decode cX9_maySell 28 = .ok (.iand, 1) := by decide +kernel
theorem dX9_maySell_29 : decode cX9_maySell 29 = .ok (.aload_n 0, 1) := by decide +kernel
theorem dX9_maySell_30 : decode cX9_maySell 30 = .ok (.getfield 32, 3) := by decide +kernel
theorem dX9_maySell_33 : decode cX9_maySell 33 = .ok (.iload_n 2, 1) := by decide +kernel
theorem dX9_maySell_34 : decode cX9_maySell 34 = .ok (.iaload, 1) := by decide +kernel
theorem dX9_maySell_35 : decode cX9_maySell 35 = .ok (.if_icmp .ne 14, 3) := by decide +kernel
theorem dX9_maySell_38 : decode cX9_maySell 38 = .ok (.iload_n 3, 1) := by decide +kernel
theorem dX9_maySell_39 : decode cX9_maySell 39 = .ok (.iconst 2, 1) := by decide +kernel
theorem dX9_maySell_40 : decode cX9_maySell 40 = .ok (.ishr, 1) := by decide +kernel
theorem dX9_maySell_41 : decode cX9_maySell 41 = .ok (.iconst 2, 1) := by decide +kernel
theorem dX9_maySell_42 : decode cX9_maySell 42 = .ok (.if_icmp .ge 7, 3) := by decide +kernel
theorem dX9_maySell_45 : decode cX9_maySell 45 = .ok (.iconst 1, 1) := by decide +kernel
theorem dX9_maySell_46 : decode cX9_maySell 46 = .ok (.goto 4, 3) := by decide +kernel
theorem dX9_maySell_49 : decode cX9_maySell 49 = .ok (.iconst 0, 1) := by decide +kernel
theorem dX9_maySell_50 : decode cX9_maySell 50 = .ok (.ireturn, 1) := by decide +kernel
theorem dX9_mayDo_0 : decode cX9_mayDo 0 = .ok (.iload_n 2, 1) := by decide +kernel
theorem dX9_mayDo_1 : decode cX9_mayDo 1 = .ok (.bipush 6, 2) := by decide +kernel
theorem dX9_mayDo_3 : decode cX9_mayDo 3 = .ok (.if_icmp .eq 31, 3) := by decide +kernel
theorem dX9_mayDo_6 : decode cX9_mayDo 6 = .ok (.iload_n 2, 1) := by decide +kernel
theorem dX9_mayDo_7 : decode cX9_mayDo 7 = .ok (.iconst 3, 1) := by decide +kernel
theorem dX9_mayDo_8 : decode cX9_mayDo 8 = .ok (.if_icmp .ge 15, 3) := by decide +kernel
theorem dX9_mayDo_11 : decode cX9_mayDo 11 = .ok (.aload_n 0, 1) := by decide +kernel
theorem dX9_mayDo_12 : decode cX9_mayDo 12 = .ok (.iload_n 1, 1) := by decide +kernel
theorem dX9_mayDo_13 : decode cX9_mayDo 13 = .ok (.iload_n 2, 1) := by decide +kernel
theorem dX9_mayDo_14 : decode cX9_mayDo 14 = .ok (.invokevirtual 182, 3) := by decide +kernel
theorem dX9_mayDo_17 : decode cX9_mayDo 17 = .ok (.ifCond .eq 21, 3) := by decide +kernel
theorem dX9_mayDo_20 : decode cX9_mayDo 20 = .ok (.goto 14, 3) := by decide +kernel
theorem dX9_mayDo_23 : decode cX9_mayDo 23 = .ok (.aload_n 0, 1) := by decide +kernel
theorem dX9_mayDo_24 : decode cX9_mayDo 24 = .ok (.iload_n 1, 1) := by decide +kernel
theorem dX9_mayDo_25 : decode cX9_mayDo 25 = .ok (.iload_n 2, 1) := by decide +kernel
theorem dX9_mayDo_26 : decode cX9_mayDo 26 = .ok (.iconst 3, 1) := by decide +kernel
theorem dX9_mayDo_27 : decode cX9_mayDo 27 = .ok (.isub, 1) := by decide +kernel
theorem dX9_mayDo_28 : decode cX9_mayDo 28 = .ok (.invokevirtual 185, 3) := by decide +kernel
theorem dX9_mayDo_31 : decode cX9_mayDo 31 = .ok (.ifCond .eq 7, 3) := by decide +kernel
theorem dX9_mayDo_34 : decode cX9_mayDo 34 = .ok (.iconst 1, 1) := by decide +kernel
theorem dX9_mayDo_35 : decode cX9_mayDo 35 = .ok (.goto 4, 3) := by decide +kernel
theorem dX9_mayDo_38 : decode cX9_mayDo 38 = .ok (.iconst 0, 1) := by decide +kernel
theorem dX9_mayDo_39 : decode cX9_mayDo 39 = .ok (.ireturn, 1) := by decide +kernel
theorem dX9_hadBy_0 : decode cX9_hadBy 0 = .ok (.iload_n 2, 1) := by decide +kernel
theorem dX9_hadBy_1 : decode cX9_hadBy 1 = .ok (.iconst 3, 1) := by decide +kernel
theorem dX9_hadBy_2 : decode cX9_hadBy 2 = .ok (.irem, 1) := by decide +kernel
theorem dX9_hadBy_3 : decode cX9_hadBy 3 = .ok (.istore 4, 2) := by decide +kernel
theorem dX9_hadBy_5 : decode cX9_hadBy 5 = .ok (.iload_n 2, 1) := by decide +kernel
theorem dX9_hadBy_6 : decode cX9_hadBy 6 = .ok (.bipush 6, 2) := by decide +kernel
theorem dX9_hadBy_8 : decode cX9_hadBy 8 = .ok (.if_icmp .ne 7, 3) := by decide +kernel
theorem dX9_hadBy_11 : decode cX9_hadBy 11 = .ok (.iconst 0, 1) := by decide +kernel
theorem dX9_hadBy_12 : decode cX9_hadBy 12 = .ok (.goto 39, 3) := by decide +kernel
theorem dX9_hadBy_15 : decode cX9_hadBy 15 = .ok (.iload_n 2, 1) := by decide +kernel
theorem dX9_hadBy_16 : decode cX9_hadBy 16 = .ok (.iconst 3, 1) := by decide +kernel
theorem dX9_hadBy_17 : decode cX9_hadBy 17 = .ok (.if_icmp .ge 20, 3) := by decide +kernel
theorem dX9_hadBy_20 : decode cX9_hadBy 20 = .ok (.aload_n 0, 1) := by decide +kernel
theorem dX9_hadBy_21 : decode cX9_hadBy 21 = .ok (.iload 4, 2) := by decide +kernel
theorem dX9_hadBy_23 : decode cX9_hadBy 23 = .ok (.iload_n 1, 1) := by decide +kernel
theorem dX9_hadBy_24 : decode cX9_hadBy 24 = .ok (.iload 4, 2) := by decide +kernel
theorem dX9_hadBy_26 : decode cX9_hadBy 26 = .ok (.invokestatic 175, 3) := by decide +kernel
theorem dX9_hadBy_29 : decode cX9_hadBy 29 = .ok (.iconst 2, 1) := by decide +kernel
theorem dX9_hadBy_30 : decode cX9_hadBy 30 = .ok (.ishr, 1) := by decide +kernel
theorem dX9_hadBy_31 : decode cX9_hadBy 31 = .ok (.invokevirtual 168, 3) := by decide +kernel
theorem dX9_hadBy_34 : decode cX9_hadBy 34 = .ok (.goto 17, 3) := by decide +kernel
theorem dX9_hadBy_37 : decode cX9_hadBy 37 = .ok (.aload_n 0, 1) := by decide +kernel
theorem dX9_hadBy_38 : decode cX9_hadBy 38 = .ok (.getfield 32, 3) := by decide +kernel
theorem dX9_hadBy_41 : decode cX9_hadBy 41 = .ok (.iload 4, 2) := by decide +kernel
theorem dX9_hadBy_43 : decode cX9_hadBy 43 = .ok (.iaload, 1) := by decide +kernel
theorem dX9_hadBy_44 : decode cX9_hadBy 44 = .ok (.aload_n 0, 1) := by decide +kernel
theorem dX9_hadBy_45 : decode cX9_hadBy 45 = .ok (.getfield 38, 3) := by decide +kernel
theorem dX9_hadBy_48 : decode cX9_hadBy 48 = .ok (.iload_n 3, 1) := by decide +kernel
theorem dX9_hadBy_49 : decode cX9_hadBy 49 = .ok (.iaload, 1) := by decide +kernel
theorem dX9_hadBy_50 : decode cX9_hadBy 50 = .ok (.imul, 1) := by decide +kernel
theorem dX9_hadBy_51 : decode cX9_hadBy 51 = .ok (.ireturn, 1) := by decide +kernel
theorem dX9_behind_0 : decode cX9_behind 0 = .ok (.iload_n 2, 1) := by decide +kernel
theorem dX9_behind_1 : decode cX9_behind 1 = .ok (.iconst 3, 1) := by decide +kernel
theorem dX9_behind_2 : decode cX9_behind 2 = .ok (.irem, 1) := by decide +kernel
theorem dX9_behind_3 : decode cX9_behind 3 = .ok (.istore_n 3, 1) := by decide +kernel
theorem dX9_behind_4 : decode cX9_behind 4 = .ok (.iload_n 2, 1) := by decide +kernel
theorem dX9_behind_5 : decode cX9_behind 5 = .ok (.bipush 6, 2) := by decide +kernel
theorem dX9_behind_7 : decode cX9_behind 7 = .ok (.if_icmp .ne 7, 3) := by decide +kernel
theorem dX9_behind_10 : decode cX9_behind 10 = .ok (.iload_n 1, 1) := by decide +kernel
theorem dX9_behind_11 : decode cX9_behind 11 = .ok (.goto 24, 3) := by decide +kernel
theorem dX9_behind_14 : decode cX9_behind 14 = .ok (.iload_n 1, 1) := by decide +kernel
theorem dX9_behind_15 : decode cX9_behind 15 = .ok (.iload_n 2, 1) := by decide +kernel
theorem dX9_behind_16 : decode cX9_behind 16 = .ok (.iconst 3, 1) := by decide +kernel
theorem dX9_behind_17 : decode cX9_behind 17 = .ok (.if_icmp .ge 7, 3) := by decide +kernel
theorem dX9_behind_20 : decode cX9_behind 20 = .ok (.iconst 1, 1) := by decide +kernel
theorem dX9_behind_21 : decode cX9_behind 21 = .ok (.goto 9, 3) := by decide +kernel
theorem dX9_behind_24 : decode cX9_behind 24 = .ok (.aload_n 0, 1) := by decide +kernel
theorem dX9_behind_25 : decode cX9_behind 25 = .ok (.getfield 32, 3) := by decide +kernel
theorem dX9_behind_28 : decode cX9_behind 28 = .ok (.iload_n 3, 1) := by decide +kernel
theorem dX9_behind_29 : decode cX9_behind 29 = .ok (.iaload, 1) := by decide +kernel
theorem dX9_behind_30 : decode cX9_behind 30 = .ok (.iconst 4, 1) := by decide +kernel
theorem dX9_behind_31 : decode cX9_behind 31 = .ok (.iload_n 3, 1) := by decide +kernel
theorem dX9_behind_32 : decode cX9_behind 32 = .ok (.imul, 1) := by decide +kernel
theorem dX9_behind_33 : decode cX9_behind 33 = .ok (.ishl, 1) := by decide +kernel
theorem dX9_behind_34 : decode cX9_behind 34 = .ok (.isub, 1) := by decide +kernel
theorem dX9_behind_35 : decode cX9_behind 35 = .ok (.ireturn, 1) := by decide +kernel
theorem dX9_eat_0 : decode cX9_eat 0 = .ok (.aload_n 0, 1) := by decide +kernel
theorem dX9_eat_1 : decode cX9_eat 1 = .ok (.iload_n 1, 1) := by decide +kernel
theorem dX9_eat_2 : decode cX9_eat 2 = .ok (.invokevirtual 164, 3) := by decide +kernel
theorem dX9_eat_5 : decode cX9_eat 5 = .ok (.ifCond .ne 5, 3) := by decide +kernel
theorem dX9_eat_8 : decode cX9_eat 8 = .ok (.iconst (-1), 1) := by decide +kernel
theorem dX9_eat_9 : decode cX9_eat 9 = .ok (.ireturn, 1) := by decide +kernel
theorem dX9_eat_10 : decode cX9_eat 10 = .ok (.aload_n 0, 1) := by decide +kernel
theorem dX9_eat_11 : decode cX9_eat 11 = .ok (.invokevirtual 188, 3) := by decide +kernel
theorem dX9_eat_14 : decode cX9_eat 14 = .ok (.ifCond .ne 24, 3) := by decide +kernel
theorem dX9_eat_17 : decode cX9_eat 17 = .ok (.aload_n 0, 1) := by decide +kernel
theorem dX9_eat_18 : decode cX9_eat 18 = .ok (.getfield 44, 3) := by decide +kernel
theorem dX9_eat_21 : decode cX9_eat 21 = .ok (.iconst 0, 1) := by decide +kernel
theorem dX9_eat_22 : decode cX9_eat 22 = .ok (.baload, 1) := by decide +kernel
theorem dX9_eat_23 : decode cX9_eat 23 = .ok (.ifCond .ne 15, 3) := by decide +kernel
theorem dX9_eat_26 : decode cX9_eat 26 = .ok (.aload_n 0, 1) := by decide +kernel
theorem dX9_eat_27 : decode cX9_eat 27 = .ok (.aload_n 0, 1) := by decide +kernel
theorem dX9_eat_28 : decode cX9_eat 28 = .ok (.invokevirtual 192, 3) := by decide +kernel
theorem dX9_eat_31 : decode cX9_eat 31 = .ok (.iload_n 1, 1) := by decide +kernel
theorem dX9_eat_32 : decode cX9_eat 32 = .ok (.invokevirtual 182, 3) := by decide +kernel
theorem dX9_eat_35 : decode cX9_eat 35 = .ok (.ifCond .ne 6, 3) := by decide +kernel
theorem dX9_eat_38 : decode cX9_eat 38 = .ok (.bipush (-2), 2) := by decide +kernel
theorem dX9_eat_40 : decode cX9_eat 40 = .ok (.ireturn, 1) := by decide +kernel
theorem dX9_eat_41 : decode cX9_eat 41 = .ok (.aload_n 0, 1) := by decide +kernel
theorem dX9_eat_42 : decode cX9_eat 42 = .ok (.getfield 44, 3) := by decide +kernel
theorem dX9_eat_45 : decode cX9_eat 45 = .ok (.iconst 0, 1) := by decide +kernel
theorem dX9_eat_46 : decode cX9_eat 46 = .ok (.iconst 1, 1) := by decide +kernel
theorem dX9_eat_47 : decode cX9_eat 47 = .ok (.bastore, 1) := by decide +kernel
theorem dX9_eat_48 : decode cX9_eat 48 = .ok (.aload_n 0, 1) := by decide +kernel
theorem dX9_eat_49 : decode cX9_eat 49 = .ok (.getfield 60, 3) := by decide +kernel
theorem dX9_eat_52 : decode cX9_eat 52 = .ok (.iload_n 1, 1) := by decide +kernel
theorem dX9_eat_53 : decode cX9_eat 53 = .ok (.dup2, 1) := by decide +kernel
theorem dX9_eat_54 : decode cX9_eat 54 = .ok (.iaload, 1) := by decide +kernel
theorem dX9_eat_55 : decode cX9_eat 55 = .ok (.iconst 1, 1) := by decide +kernel
theorem dX9_eat_56 : decode cX9_eat 56 = .ok (.isub, 1) := by decide +kernel
theorem dX9_eat_57 : decode cX9_eat 57 = .ok (.iastore, 1) := by decide +kernel
theorem dX9_eat_58 : decode cX9_eat 58 = .ok (.aload_n 0, 1) := by decide +kernel
theorem dX9_eat_59 : decode cX9_eat 59 = .ok (.getfield 48, 3) := by decide +kernel
theorem dX9_eat_62 : decode cX9_eat 62 = .ok (.iconst 0, 1) := by decide +kernel
theorem dX9_eat_63 : decode cX9_eat 63 = .ok (.dup2, 1) := by decide +kernel
theorem dX9_eat_64 : decode cX9_eat 64 = .ok (.iaload, 1) := by decide +kernel
theorem dX9_eat_65 : decode cX9_eat 65 = .ok (.aload_n 0, 1) := by decide +kernel
theorem dX9_eat_66 : decode cX9_eat 66 = .ok (.iload_n 1, 1) := by decide +kernel
theorem dX9_eat_67 : decode cX9_eat 67 = .ok (.aload_n 0, 1) := by decide +kernel
theorem dX9_eat_68 : decode cX9_eat 68 = .ok (.getfield 57, 3) := by decide +kernel
theorem dX9_eat_71 : decode cX9_eat 71 = .ok (.iload_n 1, 1) := by decide +kernel
theorem dX9_eat_72 : decode cX9_eat 72 = .ok (.iaload, 1) := by decide +kernel
theorem dX9_eat_73 : decode cX9_eat 73 = .ok (.invokevirtual 168, 3) := by decide +kernel
theorem dX9_eat_76 : decode cX9_eat 76 = .ok (.iadd, 1) := by decide +kernel
theorem dX9_eat_77 : decode cX9_eat 77 = .ok (.iastore, 1) := by decide +kernel
theorem dX9_eat_78 : decode cX9_eat 78 = .ok (.aload_n 0, 1) := by decide +kernel
theorem dX9_eat_79 : decode cX9_eat 79 = .ok (.iload_n 1, 1) := by decide +kernel
theorem dX9_eat_80 : decode cX9_eat 80 = .ok (.aload_n 0, 1) := by decide +kernel
theorem dX9_eat_81 : decode cX9_eat 81 = .ok (.getfield 57, 3) := by decide +kernel
theorem dX9_eat_84 : decode cX9_eat 84 = .ok (.iload_n 1, 1) := by decide +kernel
theorem dX9_eat_85 : decode cX9_eat 85 = .ok (.iaload, 1) := by decide +kernel
theorem dX9_eat_86 : decode cX9_eat 86 = .ok (.invokevirtual 168, 3) := by decide +kernel
theorem dX9_eat_89 : decode cX9_eat 89 = .ok (.ireturn, 1) := by decide +kernel
theorem dX9_sell_0 : decode cX9_sell 0 = .ok (.aload_n 0, 1) := by decide +kernel
theorem dX9_sell_1 : decode cX9_sell 1 = .ok (.iload_n 1, 1) := by decide +kernel
theorem dX9_sell_2 : decode cX9_sell 2 = .ok (.invokevirtual 164, 3) := by decide +kernel
theorem dX9_sell_5 : decode cX9_sell 5 = .ok (.ifCond .ne 5, 3) := by decide +kernel
theorem dX9_sell_8 : decode cX9_sell 8 = .ok (.iconst (-1), 1) := by decide +kernel
theorem dX9_sell_9 : decode cX9_sell 9 = .ok (.ireturn, 1) := by decide +kernel
theorem dX9_sell_10 : decode cX9_sell 10 = .ok (.aload_n 0, 1) := by decide +kernel
theorem dX9_sell_11 : decode cX9_sell 11 = .ok (.invokevirtual 188, 3) := by decide +kernel
theorem dX9_sell_14 : decode cX9_sell 14 = .ok (.ifCond .ne 24, 3) := by decide +kernel
theorem dX9_sell_17 : decode cX9_sell 17 = .ok (.aload_n 0, 1) := by decide +kernel
theorem dX9_sell_18 : decode cX9_sell 18 = .ok (.getfield 44, 3) := by decide +kernel
theorem dX9_sell_21 : decode cX9_sell 21 = .ok (.iconst 0, 1) := by decide +kernel
theorem dX9_sell_22 : decode cX9_sell 22 = .ok (.baload, 1) := by decide +kernel
theorem dX9_sell_23 : decode cX9_sell 23 = .ok (.ifCond .ne 15, 3) := by decide +kernel
theorem dX9_sell_26 : decode cX9_sell 26 = .ok (.aload_n 0, 1) := by decide +kernel
theorem dX9_sell_27 : decode cX9_sell 27 = .ok (.aload_n 0, 1) := by decide +kernel
theorem dX9_sell_28 : decode cX9_sell 28 = .ok (.invokevirtual 192, 3) := by decide +kernel
theorem dX9_sell_31 : decode cX9_sell 31 = .ok (.iload_n 1, 1) := by decide +kernel
theorem dX9_sell_32 : decode cX9_sell 32 = .ok (.invokevirtual 185, 3) := by decide +kernel
theorem dX9_sell_35 : decode cX9_sell 35 = .ok (.ifCond .ne 6, 3) := by decide +kernel
theorem dX9_sell_38 : decode cX9_sell 38 = .ok (.bipush (-2), 2) := by decide +kernel
theorem dX9_sell_40 : decode cX9_sell 40 = .ok (.ireturn, 1) := by decide +kernel
theorem dX9_sell_41 : decode cX9_sell 41 = .ok (.aload_n 0, 1) := by decide +kernel
theorem dX9_sell_42 : decode cX9_sell 42 = .ok (.getfield 44, 3) := by decide +kernel
theorem dX9_sell_45 : decode cX9_sell 45 = .ok (.iconst 0, 1) := by decide +kernel
theorem dX9_sell_46 : decode cX9_sell 46 = .ok (.iconst 1, 1) := by decide +kernel
theorem dX9_sell_47 : decode cX9_sell 47 = .ok (.bastore, 1) := by decide +kernel
theorem dX9_sell_48 : decode cX9_sell 48 = .ok (.aload_n 0, 1) := by decide +kernel
theorem dX9_sell_49 : decode cX9_sell 49 = .ok (.getfield 60, 3) := by decide +kernel
theorem dX9_sell_52 : decode cX9_sell 52 = .ok (.iload_n 1, 1) := by decide +kernel
theorem dX9_sell_53 : decode cX9_sell 53 = .ok (.iaload, 1) := by decide +kernel
theorem dX9_sell_54 : decode cX9_sell 54 = .ok (.aload_n 0, 1) := by decide +kernel
theorem dX9_sell_55 : decode cX9_sell 55 = .ok (.getfield 38, 3) := by decide +kernel
theorem dX9_sell_58 : decode cX9_sell 58 = .ok (.aload_n 0, 1) := by decide +kernel
theorem dX9_sell_59 : decode cX9_sell 59 = .ok (.getfield 41, 3) := by decide +kernel
theorem dX9_sell_62 : decode cX9_sell 62 = .ok (.iconst 0, 1) := by decide +kernel
theorem dX9_sell_63 : decode cX9_sell 63 = .ok (.iaload, 1) := by decide +kernel
theorem dX9_sell_64 : decode cX9_sell 64 = .ok (.iaload, 1) := by decide +kernel
theorem dX9_sell_65 : decode cX9_sell 65 = .ok (.imul, 1) := by decide +kernel
theorem dX9_sell_66 : decode cX9_sell 66 = .ok (.istore_n 2, 1) := by decide +kernel
theorem dX9_sell_67 : decode cX9_sell 67 = .ok (.aload_n 0, 1) := by decide +kernel
theorem dX9_sell_68 : decode cX9_sell 68 = .ok (.getfield 60, 3) := by decide +kernel
theorem dX9_sell_71 : decode cX9_sell 71 = .ok (.iload_n 1, 1) := by decide +kernel
theorem dX9_sell_72 : decode cX9_sell 72 = .ok (.iconst 0, 1) := by decide +kernel
theorem dX9_sell_73 : decode cX9_sell 73 = .ok (.iastore, 1) := by decide +kernel
theorem dX9_sell_74 : decode cX9_sell 74 = .ok (.aload_n 0, 1) := by decide +kernel
theorem dX9_sell_75 : decode cX9_sell 75 = .ok (.getfield 51, 3) := by decide +kernel
theorem dX9_sell_78 : decode cX9_sell 78 = .ok (.iconst 0, 1) := by decide +kernel
theorem dX9_sell_79 : decode cX9_sell 79 = .ok (.dup2, 1) := by decide +kernel
theorem dX9_sell_80 : decode cX9_sell 80 = .ok (.iaload, 1) := by decide +kernel
theorem dX9_sell_81 : decode cX9_sell 81 = .ok (.iload_n 2, 1) := by decide +kernel
theorem dX9_sell_82 : decode cX9_sell 82 = .ok (.iadd, 1) := by decide +kernel
theorem dX9_sell_83 : decode cX9_sell 83 = .ok (.iastore, 1) := by decide +kernel
theorem dX9_sell_84 : decode cX9_sell 84 = .ok (.iload_n 2, 1) := by decide +kernel
theorem dX9_sell_85 : decode cX9_sell 85 = .ok (.ireturn, 1) := by decide +kernel
theorem dX9_stop_0 : decode cX9_stop 0 = .ok (.aload_n 0, 1) := by decide +kernel
theorem dX9_stop_1 : decode cX9_stop 1 = .ok (.iload_n 1, 1) := by decide +kernel
theorem dX9_stop_2 : decode cX9_stop 2 = .ok (.invokevirtual 164, 3) := by decide +kernel
theorem dX9_stop_5 : decode cX9_stop 5 = .ok (.ifCond .ne 5, 3) := by decide +kernel
theorem dX9_stop_8 : decode cX9_stop 8 = .ok (.iconst (-1), 1) := by decide +kernel
theorem dX9_stop_9 : decode cX9_stop 9 = .ok (.ireturn, 1) := by decide +kernel
theorem dX9_stop_10 : decode cX9_stop 10 = .ok (.aload_n 0, 1) := by decide +kernel
theorem dX9_stop_11 : decode cX9_stop 11 = .ok (.getfield 63, 3) := by decide +kernel
theorem dX9_stop_14 : decode cX9_stop 14 = .ok (.iload_n 1, 1) := by decide +kernel
theorem dX9_stop_15 : decode cX9_stop 15 = .ok (.baload, 1) := by decide +kernel
theorem dX9_stop_16 : decode cX9_stop 16 = .ok (.ifCond .eq 7, 3) := by decide +kernel
theorem dX9_stop_19 : decode cX9_stop 19 = .ok (.iconst 0, 1) := by decide +kernel
theorem dX9_stop_20 : decode cX9_stop 20 = .ok (.goto 4, 3) := by decide +kernel
theorem dX9_stop_23 : decode cX9_stop 23 = .ok (.iconst 1, 1) := by decide +kernel
theorem dX9_stop_24 : decode cX9_stop 24 = .ok (.istore_n 2, 1) := by decide +kernel
theorem dX9_stop_25 : decode cX9_stop 25 = .ok (.aload_n 0, 1) := by decide +kernel
theorem dX9_stop_26 : decode cX9_stop 26 = .ok (.getfield 63, 3) := by decide +kernel
theorem dX9_stop_29 : decode cX9_stop 29 = .ok (.iload_n 1, 1) := by decide +kernel
theorem dX9_stop_30 : decode cX9_stop 30 = .ok (.iconst 1, 1) := by decide +kernel
theorem dX9_stop_31 : decode cX9_stop 31 = .ok (.bastore, 1) := by decide +kernel
theorem dX9_stop_32 : decode cX9_stop 32 = .ok (.iload_n 2, 1) := by decide +kernel
theorem dX9_stop_33 : decode cX9_stop 33 = .ok (.ireturn, 1) := by decide +kernel
theorem dX9_goNext_0 : decode cX9_goNext 0 = .ok (.iconst 0, 1) := by decide +kernel
theorem dX9_goNext_1 : decode cX9_goNext 1 = .ok (.istore_n 1, 1) := by decide +kernel
theorem dX9_goNext_2 : decode cX9_goNext 2 = .ok (.iconst 0, 1) := by decide +kernel
theorem dX9_goNext_3 : decode cX9_goNext 3 = .ok (.istore_n 2, 1) := by decide +kernel
theorem dX9_goNext_4 : decode cX9_goNext 4 = .ok (.iload_n 2, 1) := by decide +kernel
theorem dX9_goNext_5 : decode cX9_goNext 5 = .ok (.aload_n 0, 1) := by decide +kernel
theorem dX9_goNext_6 : decode cX9_goNext 6 = .ok (.getfield 17, 3) := by decide +kernel
theorem dX9_goNext_9 : decode cX9_goNext 9 = .ok (.iconst 0, 1) := by decide +kernel
theorem dX9_goNext_10 : decode cX9_goNext 10 = .ok (.iaload, 1) := by decide +kernel
theorem dX9_goNext_11 : decode cX9_goNext 11 = .ok (.if_icmp .ge 107, 3) := by decide +kernel
theorem dX9_goNext_14 : decode cX9_goNext 14 = .ok (.aload_n 0, 1) := by decide +kernel
theorem dX9_goNext_15 : decode cX9_goNext 15 = .ok (.getfield 60, 3) := by decide +kernel
theorem dX9_goNext_18 : decode cX9_goNext 18 = .ok (.iload_n 2, 1) := by decide +kernel
theorem dX9_goNext_19 : decode cX9_goNext 19 = .ok (.iaload, 1) := by decide +kernel
theorem dX9_goNext_20 : decode cX9_goNext 20 = .ok (.ifCond .le 92, 3) := by decide +kernel
theorem dX9_goNext_23 : decode cX9_goNext 23 = .ok (.aload_n 0, 1) := by decide +kernel
theorem dX9_goNext_24 : decode cX9_goNext 24 = .ok (.getfield 63, 3) := by decide +kernel
theorem dX9_goNext_27 : decode cX9_goNext 27 = .ok (.iload_n 2, 1) := by decide +kernel
theorem dX9_goNext_28 : decode cX9_goNext 28 = .ok (.baload, 1) := by decide +kernel
theorem dX9_goNext_29 : decode cX9_goNext 29 = .ok (.ifCond .ne 83, 3) := by decide +kernel
theorem dX9_goNext_32 : decode cX9_goNext 32 = .ok (.aload_n 0, 1) := by decide +kernel
theorem dX9_goNext_33 : decode cX9_goNext 33 = .ok (.getfield 57, 3) := by decide +kernel
theorem dX9_goNext_36 : decode cX9_goNext 36 = .ok (.iload_n 2, 1) := by decide +kernel
theorem dX9_goNext_37 : decode cX9_goNext 37 = .ok (.iaload, 1) := by decide +kernel
theorem dX9_goNext_38 : decode cX9_goNext 38 = .ok (.iconst 3, 1) := by decide +kernel
theorem dX9_goNext_39 : decode cX9_goNext 39 = .ok (.if_icmp .ge 73, 3) := by decide +kernel
theorem dX9_goNext_42 : decode cX9_goNext 42 = .ok (.aload_n 0, 1) := by decide +kernel
theorem dX9_goNext_43 : decode cX9_goNext 43 = .ok (.getfield 54, 3) := by decide +kernel
theorem dX9_goNext_46 : decode cX9_goNext 46 = .ok (.iconst 0, 1) := by decide +kernel
theorem dX9_goNext_47 : decode cX9_goNext 47 = .ok (.aload_n 0, 1) := by decide +kernel
theorem dX9_goNext_48 : decode cX9_goNext 48 = .ok (.getfield 54, 3) := by decide +kernel
theorem dX9_goNext_51 : decode cX9_goNext 51 = .ok (.iconst 0, 1) := by decide +kernel
theorem dX9_goNext_52 : decode cX9_goNext 52 = .ok (.iaload, 1) := by decide +kernel
theorem dX9_goNext_53 : decode cX9_goNext 53 = .ok (.ldc 195, 2) := by decide +kernel
theorem dX9_goNext_55 : decode cX9_goNext 55 = .ok (.imul, 1) := by decide +kernel
theorem dX9_goNext_56 : decode cX9_goNext 56 = .ok (.sipush 12345, 3) := by decide +kernel
theorem dX9_goNext_59 : decode cX9_goNext 59 = .ok (.iadd, 1) := by decide +kernel
theorem dX9_goNext_60 : decode cX9_goNext 60 = .ok (.iastore, 1) := by decide +kernel
theorem dX9_goNext_61 : decode cX9_goNext 61 = .ok (.aload_n 0, 1) := by decide +kernel
theorem dX9_goNext_62 : decode cX9_goNext 62 = .ok (.getfield 54, 3) := by decide +kernel
theorem dX9_goNext_65 : decode cX9_goNext 65 = .ok (.iconst 0, 1) := by decide +kernel
theorem dX9_goNext_66 : decode cX9_goNext 66 = .ok (.iaload, 1) := by decide +kernel
theorem dX9_goNext_67 : decode cX9_goNext 67 = .ok (.bipush 16, 2) := by decide +kernel
theorem dX9_goNext_69 : decode cX9_goNext 69 = .ok (.iushr, 1) := by decide +kernel
theorem dX9_goNext_70 : decode cX9_goNext 70 = .ok (.bipush 10, 2) := by decide +kernel
theorem dX9_goNext_72 : decode cX9_goNext 72 = .ok (.irem, 1) := by decide +kernel
theorem dX9_goNext_73 : decode cX9_goNext 73 = .ok (.aload_n 0, 1) := by decide +kernel
theorem dX9_goNext_74 : decode cX9_goNext 74 = .ok (.iload_n 2, 1) := by decide +kernel
theorem dX9_goNext_75 : decode cX9_goNext 75 = .ok (.aload_n 0, 1) := by decide +kernel
theorem dX9_goNext_76 : decode cX9_goNext 76 = .ok (.getfield 57, 3) := by decide +kernel
theorem dX9_goNext_79 : decode cX9_goNext 79 = .ok (.iload_n 2, 1) := by decide +kernel
theorem dX9_goNext_80 : decode cX9_goNext 80 = .ok (.iaload, 1) := by decide +kernel
theorem dX9_goNext_81 : decode cX9_goNext 81 = .ok (.aload_n 0, 1) := by decide +kernel
theorem dX9_goNext_82 : decode cX9_goNext 82 = .ok (.getfield 60, 3) := by decide +kernel
theorem dX9_goNext_85 : decode cX9_goNext 85 = .ok (.iload_n 2, 1) := by decide +kernel
theorem dX9_goNext_86 : decode cX9_goNext 86 = .ok (.iaload, 1) := by decide +kernel
theorem dX9_goNext_87 : decode cX9_goNext 87 = .ok (.aload_n 0, 1) := by decide +kernel
theorem dX9_goNext_88 : decode cX9_goNext 88 = .ok (.getfield 41, 3) := by decide +kernel
theorem dX9_goNext_91 : decode cX9_goNext 91 = .ok (.iconst 0, 1) := by decide +kernel
theorem dX9_goNext_92 : decode cX9_goNext 92 = .ok (.iaload, 1) := by decide +kernel
theorem dX9_goNext_93 : decode cX9_goNext 93 = .ok (.invokevirtual 171, 3) := by decide +kernel
theorem dX9_goNext_96 : decode cX9_goNext 96 = .ok (.if_icmp .ge 16, 3) := by decide +kernel
theorem dX9_goNext_99 : decode cX9_goNext 99 = .ok (.aload_n 0, 1) := by decide +kernel
theorem dX9_goNext_100 : decode cX9_goNext 100 = .ok (.getfield 57, 3) := by decide +kernel
theorem dX9_goNext_103 : decode cX9_goNext 103 = .ok (.iload_n 2, 1) := by decide +kernel
theorem dX9_goNext_104 : decode cX9_goNext 104 = .ok (.dup2, 1) := by decide +kernel
theorem dX9_goNext_105 : decode cX9_goNext 105 = .ok (.iaload, 1) := by decide +kernel
theorem dX9_goNext_106 : decode cX9_goNext 106 = .ok (.iconst 1, 1) := by decide +kernel
theorem dX9_goNext_107 : decode cX9_goNext 107 = .ok (.iadd, 1) := by decide +kernel
theorem dX9_goNext_108 : decode cX9_goNext 108 = .ok (.iastore, 1) := by decide +kernel
theorem dX9_goNext_109 : decode cX9_goNext 109 = .ok (.iinc 1 1, 3) := by decide +kernel
theorem dX9_goNext_112 : decode cX9_goNext 112 = .ok (.iinc 2 1, 3) := by decide +kernel
theorem dX9_goNext_115 : decode cX9_goNext 115 = .ok (.goto (-111), 3) := by decide +kernel
theorem dX9_goNext_118 : decode cX9_goNext 118 = .ok (.aload_n 0, 1) := by decide +kernel
theorem dX9_goNext_119 : decode cX9_goNext 119 = .ok (.getfield 41, 3) := by decide +kernel
theorem dX9_goNext_122 : decode cX9_goNext 122 = .ok (.iconst 0, 1) := by decide +kernel
theorem dX9_goNext_123 : decode cX9_goNext 123 = .ok (.dup2, 1) := by decide +kernel
theorem dX9_goNext_124 : decode cX9_goNext 124 = .ok (.iaload, 1) := by decide +kernel
theorem dX9_goNext_125 : decode cX9_goNext 125 = .ok (.iconst 1, 1) := by decide +kernel
theorem dX9_goNext_126 : decode cX9_goNext 126 = .ok (.iadd, 1) := by decide +kernel
theorem dX9_goNext_127 : decode cX9_goNext 127 = .ok (.iastore, 1) := by decide +kernel
theorem dX9_goNext_128 : decode cX9_goNext 128 = .ok (.aload_n 0, 1) := by decide +kernel
theorem dX9_goNext_129 : decode cX9_goNext 129 = .ok (.getfield 44, 3) := by decide +kernel
theorem dX9_goNext_132 : decode cX9_goNext 132 = .ok (.iconst 0, 1) := by decide +kernel
theorem dX9_goNext_133 : decode cX9_goNext 133 = .ok (.iconst 0, 1) := by decide +kernel
theorem dX9_goNext_134 : decode cX9_goNext 134 = .ok (.bastore, 1) := by decide +kernel
theorem dX9_goNext_135 : decode cX9_goNext 135 = .ok (.iload_n 1, 1) := by decide +kernel
theorem dX9_goNext_136 : decode cX9_goNext 136 = .ok (.ireturn, 1) := by decide +kernel
theorem dX9_next_0 : decode cX9_next 0 = .ok (.aload_n 0, 1) := by decide +kernel
theorem dX9_next_1 : decode cX9_next 1 = .ok (.invokevirtual 188, 3) := by decide +kernel
theorem dX9_next_4 : decode cX9_next 4 = .ok (.ifCond .eq 8, 3) := by decide +kernel
theorem dX9_next_7 : decode cX9_next 7 = .ok (.bipush (-2), 2) := by decide +kernel
theorem dX9_next_9 : decode cX9_next 9 = .ok (.goto 7, 3) := by decide +kernel
theorem dX9_next_12 : decode cX9_next 12 = .ok (.aload_n 0, 1) := by decide +kernel
theorem dX9_next_13 : decode cX9_next 13 = .ok (.invokevirtual 196, 3) := by decide +kernel
theorem dX9_next_16 : decode cX9_next 16 = .ok (.ireturn, 1) := by decide +kernel
theorem dX9_now_0 : decode cX9_now 0 = .ok (.iconst 0, 1) := by decide +kernel
theorem dX9_now_1 : decode cX9_now 1 = .ok (.istore_n 2, 1) := by decide +kernel
theorem dX9_now_2 : decode cX9_now 2 = .ok (.iconst 0, 1) := by decide +kernel
theorem dX9_now_3 : decode cX9_now 3 = .ok (.istore_n 3, 1) := by decide +kernel
theorem dX9_now_4 : decode cX9_now 4 = .ok (.iconst 0, 1) := by decide +kernel
theorem dX9_now_5 : decode cX9_now 5 = .ok (.istore 4, 2) := by decide +kernel
theorem dX9_now_7 : decode cX9_now 7 = .ok (.iload 4, 2) := by decide +kernel
theorem dX9_now_9 : decode cX9_now 9 = .ok (.aload_n 0, 1) := by decide +kernel
theorem dX9_now_10 : decode cX9_now 10 = .ok (.getfield 17, 3) := by decide +kernel
theorem dX9_now_13 : decode cX9_now 13 = .ok (.iconst 0, 1) := by decide +kernel
theorem dX9_now_14 : decode cX9_now 14 = .ok (.iaload, 1) := by decide +kernel
theorem dX9_now_15 : decode cX9_now 15 = .ok (.if_icmp .ge 54, 3) := by decide +kernel
theorem dX9_now_18 : decode cX9_now 18 = .ok (.iload_n 2, 1) := by decide +kernel
theorem dX9_now_19 : decode cX9_now 19 = .ok (.aload_n 0, 1) := by decide +kernel
theorem dX9_now_20 : decode cX9_now 20 = .ok (.getfield 60, 3) := by decide +kernel
theorem dX9_now_23 : decode cX9_now 23 = .ok (.iload 4, 2) := by decide +kernel
theorem dX9_now_25 : decode cX9_now 25 = .ok (.iaload, 1) := by decide +kernel
theorem dX9_now_26 : decode cX9_now 26 = .ok (.iadd, 1) := by decide +kernel
theorem dX9_now_27 : decode cX9_now 27 = .ok (.istore_n 2, 1) := by decide +kernel
theorem dX9_now_28 : decode cX9_now 28 = .ok (.iload_n 3, 1) := by decide +kernel
theorem dX9_now_29 : decode cX9_now 29 = .ok (.aload_n 0, 1) := by decide +kernel
theorem dX9_now_30 : decode cX9_now 30 = .ok (.getfield 60, 3) := by decide +kernel
theorem dX9_now_33 : decode cX9_now 33 = .ok (.iload 4, 2) := by decide +kernel
theorem dX9_now_35 : decode cX9_now 35 = .ok (.iaload, 1) := by decide +kernel
theorem dX9_now_36 : decode cX9_now 36 = .ok (.ifCond .le 24, 3) := by decide +kernel
theorem dX9_now_39 : decode cX9_now 39 = .ok (.aload_n 0, 1) := by decide +kernel
theorem dX9_now_40 : decode cX9_now 40 = .ok (.getfield 60, 3) := by decide +kernel
theorem dX9_now_43 : decode cX9_now 43 = .ok (.iload 4, 2) := by decide +kernel
theorem dX9_now_45 : decode cX9_now 45 = .ok (.iaload, 1) := by decide +kernel
theorem dX9_now_46 : decode cX9_now 46 = .ok (.aload_n 0, 1) := by decide +kernel
theorem dX9_now_47 : decode cX9_now 47 = .ok (.getfield 32, 3) := by decide +kernel
theorem dX9_now_50 : decode cX9_now 50 = .ok (.iload 4, 2) := by decide +kernel
theorem dX9_now_52 : decode cX9_now 52 = .ok (.iaload, 1) := by decide +kernel
theorem dX9_now_53 : decode cX9_now 53 = .ok (.if_icmp .ge 7, 3) := by decide +kernel
theorem dX9_now_56 : decode cX9_now 56 = .ok (.iconst 1, 1) := by decide +kernel
theorem dX9_now_57 : decode cX9_now 57 = .ok (.goto 4, 3) := by decide +kernel
theorem dX9_now_60 : decode cX9_now 60 = .ok (.iconst 0, 1) := by decide +kernel
theorem dX9_now_61 : decode cX9_now 61 = .ok (.iadd, 1) := by decide +kernel
theorem dX9_now_62 : decode cX9_now 62 = .ok (.istore_n 3, 1) := by decide +kernel
theorem dX9_now_63 : decode cX9_now 63 = .ok (.iinc 4 1, 3) := by decide +kernel
theorem dX9_now_66 : decode cX9_now 66 = .ok (.goto (-59), 3) := by decide +kernel
theorem dX9_now_69 : decode cX9_now 69 = .ok (.iload_n 1, 1) := by decide +kernel
theorem dX9_now_70 : decode cX9_now 70 = .ok (.tableswitch 95 0 6 #[42, 49, 64, 71, 78, 80, 93], 42) := by decide +kernel
theorem dX9_now_112 : decode cX9_now 112 = .ok (.aload_n 0, 1) := by decide +kernel
theorem dX9_now_113 : decode cX9_now 113 = .ok (.getfield 41, 3) := by decide +kernel
theorem dX9_now_116 : decode cX9_now 116 = .ok (.iconst 0, 1) := by decide +kernel
theorem dX9_now_117 : decode cX9_now 117 = .ok (.iaload, 1) := by decide +kernel
theorem dX9_now_118 : decode cX9_now 118 = .ok (.ireturn, 1) := by decide +kernel
theorem dX9_now_119 : decode cX9_now 119 = .ok (.aload_n 0, 1) := by decide +kernel
theorem dX9_now_120 : decode cX9_now 120 = .ok (.getfield 44, 3) := by decide +kernel
theorem dX9_now_123 : decode cX9_now 123 = .ok (.iconst 0, 1) := by decide +kernel
theorem dX9_now_124 : decode cX9_now 124 = .ok (.baload, 1) := by decide +kernel
theorem dX9_now_125 : decode cX9_now 125 = .ok (.ifCond .eq 7, 3) := by decide +kernel
theorem dX9_now_128 : decode cX9_now 128 = .ok (.iconst 1, 1) := by decide +kernel
theorem dX9_now_129 : decode cX9_now 129 = .ok (.goto 4, 3) := by decide +kernel
theorem dX9_now_132 : decode cX9_now 132 = .ok (.iconst 0, 1) := by decide +kernel
theorem dX9_now_133 : decode cX9_now 133 = .ok (.ireturn, 1) := by decide +kernel
theorem dX9_now_134 : decode cX9_now 134 = .ok (.aload_n 0, 1) := by decide +kernel
theorem dX9_now_135 : decode cX9_now 135 = .ok (.getfield 48, 3) := by decide +kernel
theorem dX9_now_138 : decode cX9_now 138 = .ok (.iconst 0, 1) := by decide +kernel
theorem dX9_now_139 : decode cX9_now 139 = .ok (.iaload, 1) := by decide +kernel
theorem dX9_now_140 : decode cX9_now 140 = .ok (.ireturn, 1) := by decide +kernel
theorem dX9_now_141 : decode cX9_now 141 = .ok (.aload_n 0, 1) := by decide +kernel
theorem dX9_now_142 : decode cX9_now 142 = .ok (.getfield 51, 3) := by decide +kernel
theorem dX9_now_145 : decode cX9_now 145 = .ok (.iconst 0, 1) := by decide +kernel
theorem dX9_now_146 : decode cX9_now 146 = .ok (.iaload, 1) := by decide +kernel
theorem dX9_now_147 : decode cX9_now 147 = .ok (.ireturn, 1) := by decide +kernel
theorem dX9_now_148 : decode cX9_now 148 = .ok (.iload_n 2, 1) := by decide +kernel
theorem dX9_now_149 : decode cX9_now 149 = .ok (.ireturn, 1) := by decide +kernel
theorem dX9_now_150 : decode cX9_now 150 = .ok (.aload_n 0, 1) := by decide +kernel
theorem dX9_now_151 : decode cX9_now 151 = .ok (.invokevirtual 188, 3) := by decide +kernel
theorem dX9_now_154 : decode cX9_now 154 = .ok (.ifCond .eq 7, 3) := by decide +kernel
theorem dX9_now_157 : decode cX9_now 157 = .ok (.iconst 1, 1) := by decide +kernel
theorem dX9_now_158 : decode cX9_now 158 = .ok (.goto 4, 3) := by decide +kernel
theorem dX9_now_161 : decode cX9_now 161 = .ok (.iconst 0, 1) := by decide +kernel
theorem dX9_now_162 : decode cX9_now 162 = .ok (.ireturn, 1) := by decide +kernel
theorem dX9_now_163 : decode cX9_now 163 = .ok (.iload_n 3, 1) := by decide +kernel
theorem dX9_now_164 : decode cX9_now 164 = .ok (.ireturn, 1) := by decide +kernel
theorem dX9_now_165 : decode cX9_now 165 = .ok (.iconst (-1), 1) := by decide +kernel
theorem dX9_now_166 : decode cX9_now 166 = .ok (.ireturn, 1) := by decide +kernel
theorem dX9_lot_0 : decode cX9_lot 0 = .ok (.aload_n 0, 1) := by decide +kernel
theorem dX9_lot_1 : decode cX9_lot 1 = .ok (.getfield 54, 3) := by decide +kernel
theorem dX9_lot_4 : decode cX9_lot 4 = .ok (.iconst 0, 1) := by decide +kernel
theorem dX9_lot_5 : decode cX9_lot 5 = .ok (.iaload, 1) := by decide +kernel
theorem dX9_lot_6 : decode cX9_lot 6 = .ok (.istore_n 2, 1) := by decide +kernel
theorem dX9_lot_7 : decode cX9_lot 7 = .ok (.aload_n 0, 1) := by decide +kernel
theorem dX9_lot_8 : decode cX9_lot 8 = .ok (.getfield 54, 3) := by decide +kernel
theorem dX9_lot_11 : decode cX9_lot 11 = .ok (.iconst 0, 1) := by decide +kernel
theorem dX9_lot_12 : decode cX9_lot 12 = .ok (.iload_n 1, 1) := by decide +kernel
theorem dX9_lot_13 : decode cX9_lot 13 = .ok (.iastore, 1) := by decide +kernel
theorem dX9_lot_14 : decode cX9_lot 14 = .ok (.iload_n 2, 1) := by decide +kernel
theorem dX9_lot_15 : decode cX9_lot 15 = .ok (.ireturn, 1) := by decide +kernel
theorem dX9_meanOf_0 : decode cX9_meanOf 0 = .ok (.aload_n 0, 1) := by decide +kernel
theorem dX9_meanOf_1 : decode cX9_meanOf 1 = .ok (.iload_n 1, 1) := by decide +kernel
theorem dX9_meanOf_2 : decode cX9_meanOf 2 = .ok (.iconst 0, 1) := by decide +kernel
theorem dX9_meanOf_3 : decode cX9_meanOf 3 = .ok (.iload_n 2, 1) := by decide +kernel
theorem dX9_meanOf_4 : decode cX9_meanOf 4 = .ok (.invokevirtual 199, 3) := by decide +kernel
theorem dX9_meanOf_7 : decode cX9_meanOf 7 = .ok (.istore 4, 2) := by decide +kernel
theorem dX9_meanOf_9 : decode cX9_meanOf 9 = .ok (.aload_n 0, 1) := by decide +kernel
theorem dX9_meanOf_10 : decode cX9_meanOf 10 = .ok (.iload_n 1, 1) := by decide +kernel
theorem dX9_meanOf_11 : decode cX9_meanOf 11 = .ok (.iconst 1, 1) := by decide +kernel
theorem dX9_meanOf_12 : decode cX9_meanOf 12 = .ok (.iload_n 2, 1) := by decide +kernel
theorem dX9_meanOf_13 : decode cX9_meanOf 13 = .ok (.invokevirtual 199, 3) := by decide +kernel
theorem dX9_meanOf_16 : decode cX9_meanOf 16 = .ok (.istore 5, 2) := by decide +kernel
theorem dX9_meanOf_18 : decode cX9_meanOf 18 = .ok (.aload_n 0, 1) := by decide +kernel
theorem dX9_meanOf_19 : decode cX9_meanOf 19 = .ok (.iload_n 1, 1) := by decide +kernel
theorem dX9_meanOf_20 : decode cX9_meanOf 20 = .ok (.iconst 2, 1) := by decide +kernel
theorem dX9_meanOf_21 : decode cX9_meanOf 21 = .ok (.iload_n 2, 1) := by decide +kernel
theorem dX9_meanOf_22 : decode cX9_meanOf 22 = .ok (.invokevirtual 199, 3) := by decide +kernel
theorem dX9_meanOf_25 : decode cX9_meanOf 25 = .ok (.istore 6, 2) := by decide +kernel
theorem dX9_meanOf_27 : decode cX9_meanOf 27 = .ok (.lconst 0, 1) := by decide +kernel
theorem dX9_meanOf_28 : decode cX9_meanOf 28 = .ok (.lstore 7, 2) := by decide +kernel
theorem dX9_meanOf_30 : decode cX9_meanOf 30 = .ok (.iconst 0, 1) := by decide +kernel
theorem dX9_meanOf_31 : decode cX9_meanOf 31 = .ok (.istore 9, 2) := by decide +kernel
theorem dX9_meanOf_33 : decode cX9_meanOf 33 = .ok (.iload 9, 2) := by decide +kernel
theorem dX9_meanOf_35 : decode cX9_meanOf 35 = .ok (.bipush 8, 2) := by decide +kernel
theorem dX9_meanOf_37 : decode cX9_meanOf 37 = .ok (.if_icmp .ge 130, 3) := by decide +kernel
theorem dX9_meanOf_40 : decode cX9_meanOf 40 = .ok (.iload 9, 2) := by decide +kernel
theorem dX9_meanOf_42 : decode cX9_meanOf 42 = .ok (.iconst 1, 1) := by decide +kernel
theorem dX9_meanOf_43 : decode cX9_meanOf 43 = .ok (.iand, 1) := by decide +kernel
theorem dX9_meanOf_44 : decode cX9_meanOf 44 = .ok (.iconst 1, 1) := by decide +kernel
theorem dX9_meanOf_45 : decode cX9_meanOf 45 = .ok (.if_icmp .ne 8, 3) := by decide +kernel
theorem dX9_meanOf_48 : decode cX9_meanOf 48 = .ok (.iload 4, 2) := by decide +kernel
theorem dX9_meanOf_50 : decode cX9_meanOf 50 = .ok (.goto 8, 3) := by decide +kernel
theorem dX9_meanOf_53 : decode cX9_meanOf 53 = .ok (.bipush 10, 2) := by decide +kernel
theorem dX9_meanOf_55 : decode cX9_meanOf 55 = .ok (.iload 4, 2) := by decide +kernel
theorem dX9_meanOf_57 : decode cX9_meanOf 57 = .ok (.isub, 1) := by decide +kernel
theorem dX9_meanOf_58 : decode cX9_meanOf 58 = .ok (.iload 9, 2) := by decide +kernel
theorem dX9_meanOf_60 : decode cX9_meanOf 60 = .ok (.iconst 2, 1) := by decide +kernel
theorem dX9_meanOf_61 : decode cX9_meanOf 61 = .ok (.iand, 1) := by decide +kernel
theorem dX9_meanOf_62 : decode cX9_meanOf 62 = .ok (.iconst 2, 1) := by decide +kernel
theorem dX9_meanOf_63 : decode cX9_meanOf 63 = .ok (.if_icmp .ne 8, 3) := by decide +kernel
theorem dX9_meanOf_66 : decode cX9_meanOf 66 = .ok (.iload 5, 2) := by decide +kernel
theorem dX9_meanOf_68 : decode cX9_meanOf 68 = .ok (.goto 8, 3) := by decide +kernel
theorem dX9_meanOf_71 : decode cX9_meanOf 71 = .ok (.bipush 10, 2) := by decide +kernel
theorem dX9_meanOf_73 : decode cX9_meanOf 73 = .ok (.iload 5, 2) := by decide +kernel
theorem dX9_meanOf_75 : decode cX9_meanOf 75 = .ok (.isub, 1) := by decide +kernel
theorem dX9_meanOf_76 : decode cX9_meanOf 76 = .ok (.imul, 1) := by decide +kernel
theorem dX9_meanOf_77 : decode cX9_meanOf 77 = .ok (.iload 9, 2) := by decide +kernel
theorem dX9_meanOf_79 : decode cX9_meanOf 79 = .ok (.iconst 4, 1) := by decide +kernel
theorem dX9_meanOf_80 : decode cX9_meanOf 80 = .ok (.iand, 1) := by decide +kernel
theorem dX9_meanOf_81 : decode cX9_meanOf 81 = .ok (.iconst 4, 1) := by decide +kernel
theorem dX9_meanOf_82 : decode cX9_meanOf 82 = .ok (.if_icmp .ne 8, 3) := by decide +kernel
theorem dX9_meanOf_85 : decode cX9_meanOf 85 = .ok (.iload 6, 2) := by decide +kernel
theorem dX9_meanOf_87 : decode cX9_meanOf 87 = .ok (.goto 8, 3) := by decide +kernel
theorem dX9_meanOf_90 : decode cX9_meanOf 90 = .ok (.bipush 10, 2) := by decide +kernel
theorem dX9_meanOf_92 : decode cX9_meanOf 92 = .ok (.iload 6, 2) := by decide +kernel
theorem dX9_meanOf_94 : decode cX9_meanOf 94 = .ok (.isub, 1) := by decide +kernel
theorem dX9_meanOf_95 : decode cX9_meanOf 95 = .ok (.imul, 1) := by decide +kernel
theorem dX9_meanOf_96 : decode cX9_meanOf 96 = .ok (.istore 10, 2) := by decide +kernel
theorem dX9_meanOf_98 : decode cX9_meanOf 98 = .ok (.iload 10, 2) := by decide +kernel
theorem dX9_meanOf_100 : decode cX9_meanOf 100 = .ok (.ifCond .le 61, 3) := by decide +kernel
theorem dX9_meanOf_103 : decode cX9_meanOf 103 = .ok (.iload_n 1, 1) := by decide +kernel
theorem dX9_meanOf_104 : decode cX9_meanOf 104 = .ok (.iconst 4, 1) := by decide +kernel
theorem dX9_meanOf_105 : decode cX9_meanOf 105 = .ok (.iload 9, 2) := by decide +kernel
theorem dX9_meanOf_107 : decode cX9_meanOf 107 = .ok (.iconst 1, 1) := by decide +kernel
theorem dX9_meanOf_108 : decode cX9_meanOf 108 = .ok (.iand, 1) := by decide +kernel
theorem dX9_meanOf_109 : decode cX9_meanOf 109 = .ok (.imul, 1) := by decide +kernel
theorem dX9_meanOf_110 : decode cX9_meanOf 110 = .ok (.iadd, 1) := by decide +kernel
theorem dX9_meanOf_111 : decode cX9_meanOf 111 = .ok (.bipush 32, 2) := by decide +kernel
theorem dX9_meanOf_113 : decode cX9_meanOf 113 = .ok (.iload 9, 2) := by decide +kernel
theorem dX9_meanOf_115 : decode cX9_meanOf 115 = .ok (.iconst 2, 1) := by decide +kernel
theorem dX9_meanOf_116 : decode cX9_meanOf 116 = .ok (.iand, 1) := by decide +kernel
theorem dX9_meanOf_117 : decode cX9_meanOf 117 = .ok (.imul, 1) := by decide +kernel
theorem dX9_meanOf_118 : decode cX9_meanOf 118 = .ok (.iadd, 1) := by decide +kernel
theorem dX9_meanOf_119 : decode cX9_meanOf 119 = .ok (.sipush 256, 3) := by decide +kernel
theorem dX9_meanOf_122 : decode cX9_meanOf 122 = .ok (.iload 9, 2) := by decide +kernel
theorem dX9_meanOf_124 : decode cX9_meanOf 124 = .ok (.iconst 4, 1) := by decide +kernel
theorem dX9_meanOf_125 : decode cX9_meanOf 125 = .ok (.iand, 1) := by decide +kernel
theorem dX9_meanOf_126 : decode cX9_meanOf 126 = .ok (.imul, 1) := by decide +kernel
theorem dX9_meanOf_127 : decode cX9_meanOf 127 = .ok (.iadd, 1) := by decide +kernel
theorem dX9_meanOf_128 : decode cX9_meanOf 128 = .ok (.istore 11, 2) := by decide +kernel
theorem dX9_meanOf_130 : decode cX9_meanOf 130 = .ok (.lload 7, 2) := by decide +kernel
theorem dX9_meanOf_132 : decode cX9_meanOf 132 = .ok (.iload 10, 2) := by decide +kernel
theorem dX9_meanOf_134 : decode cX9_meanOf 134 = .ok (.i2l, 1) := by decide +kernel
theorem dX9_meanOf_135 : decode cX9_meanOf 135 = .ok (.iload_n 3, 1) := by decide +kernel
theorem dX9_meanOf_136 : decode cX9_meanOf 136 = .ok (.ifCond .eq 13, 3) := by decide +kernel
theorem dX9_meanOf_139 : decode cX9_meanOf 139 = .ok (.aload_n 0, 1) := by decide +kernel
theorem dX9_meanOf_140 : decode cX9_meanOf 140 = .ok (.getfield 69, 3) := by decide +kernel
theorem dX9_meanOf_143 : decode cX9_meanOf 143 = .ok (.iload 11, 2) := by decide +kernel
theorem dX9_meanOf_145 : decode cX9_meanOf 145 = .ok (.iaload, 1) := by decide +kernel
theorem dX9_meanOf_146 : decode cX9_meanOf 146 = .ok (.goto 10, 3) := by decide +kernel
theorem dX9_meanOf_149 : decode cX9_meanOf 149 = .ok (.aload_n 0, 1) := by decide +kernel
theorem dX9_meanOf_150 : decode cX9_meanOf 150 = .ok (.getfield 72, 3) := by decide +kernel
theorem dX9_meanOf_153 : decode cX9_meanOf 153 = .ok (.iload 11, 2) := by decide +kernel
theorem dX9_meanOf_155 : decode cX9_meanOf 155 = .ok (.iaload, 1) := by decide +kernel
theorem dX9_meanOf_156 : decode cX9_meanOf 156 = .ok (.i2l, 1) := by decide +kernel
theorem dX9_meanOf_157 : decode cX9_meanOf 157 = .ok (.lmul, 1) := by decide +kernel
theorem dX9_meanOf_158 : decode cX9_meanOf 158 = .ok (.ladd, 1) := by decide +kernel
theorem dX9_meanOf_159 : decode cX9_meanOf 159 = .ok (.lstore 7, 2) := by decide +kernel
theorem dX9_meanOf_161 : decode cX9_meanOf 161 = .ok (.iinc 9 1, 3) := by decide +kernel
theorem dX9_meanOf_164 : decode cX9_meanOf 164 = .ok (.goto (-131), 3) := by decide +kernel
theorem dX9_meanOf_167 : decode cX9_meanOf 167 = .ok (.lload 7, 2) := by decide +kernel
theorem dX9_meanOf_169 : decode cX9_meanOf 169 = .ok (.ldc2_w 203, 3) := by decide +kernel
theorem dX9_meanOf_172 : decode cX9_meanOf 172 = .ok (.ldiv, 1) := by decide +kernel
theorem dX9_meanOf_173 : decode cX9_meanOf 173 = .ok (.l2i, 1) := by decide +kernel
theorem dX9_meanOf_174 : decode cX9_meanOf 174 = .ok (.ireturn, 1) := by decide +kernel
theorem dX9_tenths_0 : decode cX9_tenths 0 = .ok (.iload_n 1, 1) := by decide +kernel
theorem dX9_tenths_1 : decode cX9_tenths 1 = .ok (.iload_n 2, 1) := by decide +kernel
theorem dX9_tenths_2 : decode cX9_tenths 2 = .ok (.invokestatic 175, 3) := by decide +kernel
theorem dX9_tenths_5 : decode cX9_tenths 5 = .ok (.istore 4, 2) := by decide +kernel
theorem dX9_tenths_7 : decode cX9_tenths 7 = .ok (.aload_n 0, 1) := by decide +kernel
theorem dX9_tenths_8 : decode cX9_tenths 8 = .ok (.iload_n 2, 1) := by decide +kernel
theorem dX9_tenths_9 : decode cX9_tenths 9 = .ok (.invokevirtual 164, 3) := by decide +kernel
theorem dX9_tenths_12 : decode cX9_tenths 12 = .ok (.ifCond .eq 20, 3) := by decide +kernel
theorem dX9_tenths_15 : decode cX9_tenths 15 = .ok (.aload_n 0, 1) := by decide +kernel
theorem dX9_tenths_16 : decode cX9_tenths 16 = .ok (.iload_n 2, 1) := by decide +kernel
theorem dX9_tenths_17 : decode cX9_tenths 17 = .ok (.iload 4, 2) := by decide +kernel
theorem dX9_tenths_19 : decode cX9_tenths 19 = .ok (.iconst 2, 1) := by decide +kernel
theorem dX9_tenths_20 : decode cX9_tenths 20 = .ok (.ishr, 1) := by decide +kernel
theorem dX9_tenths_21 : decode cX9_tenths 21 = .ok (.iload 4, 2) := by decide +kernel
theorem dX9_tenths_23 : decode cX9_tenths 23 = .ok (.iconst 3, 1) := by decide +kernel
theorem dX9_tenths_24 : decode cX9_tenths 24 = .ok (.iand, 1) := by decide +kernel
theorem dX9_tenths_25 : decode cX9_tenths 25 = .ok (.iload_n 3, 1) := by decide +kernel
theorem dX9_tenths_26 : decode cX9_tenths 26 = .ok (.invokevirtual 171, 3) := by decide +kernel
theorem dX9_tenths_29 : decode cX9_tenths 29 = .ok (.goto 4, 3) := by decide +kernel
theorem dX9_tenths_32 : decode cX9_tenths 32 = .ok (.iconst 0, 1) := by decide +kernel
theorem dX9_tenths_33 : decode cX9_tenths 33 = .ok (.ireturn, 1) := by decide +kernel
theorem dX9_bringsBy_0 : decode cX9_bringsBy 0 = .ok (.sipush 1000, 3) := by decide +kernel
theorem dX9_bringsBy_3 : decode cX9_bringsBy 3 = .ok (.aload_n 0, 1) := by decide +kernel
theorem dX9_bringsBy_4 : decode cX9_bringsBy 4 = .ok (.iload_n 1, 1) := by decide +kernel
theorem dX9_bringsBy_5 : decode cX9_bringsBy 5 = .ok (.iload_n 2, 1) := by decide +kernel
theorem dX9_bringsBy_6 : decode cX9_bringsBy 6 = .ok (.iload_n 3, 1) := by decide +kernel
theorem dX9_bringsBy_7 : decode cX9_bringsBy 7 = .ok (.invokevirtual 205, 3) := by decide +kernel
theorem dX9_bringsBy_10 : decode cX9_bringsBy 10 = .ok (.imul, 1) := by decide +kernel
theorem dX9_bringsBy_11 : decode cX9_bringsBy 11 = .ok (.aload_n 0, 1) := by decide +kernel
theorem dX9_bringsBy_12 : decode cX9_bringsBy 12 = .ok (.aload_n 0, 1) := by decide +kernel
theorem dX9_bringsBy_13 : decode cX9_bringsBy 13 = .ok (.iload_n 1, 1) := by decide +kernel
theorem dX9_bringsBy_14 : decode cX9_bringsBy 14 = .ok (.iload_n 2, 1) := by decide +kernel
theorem dX9_bringsBy_15 : decode cX9_bringsBy 15 = .ok (.invokevirtual 208, 3) := by decide +kernel
theorem dX9_bringsBy_18 : decode cX9_bringsBy 18 = .ok (.iload_n 3, 1) := by decide +kernel
theorem dX9_bringsBy_19 : decode cX9_bringsBy 19 = .ok (.iconst 1, 1) := by decide +kernel
theorem dX9_bringsBy_20 : decode cX9_bringsBy 20 = .ok (.invokevirtual 211, 3) := by decide +kernel
theorem dX9_bringsBy_23 : decode cX9_bringsBy 23 = .ok (.iadd, 1) := by decide +kernel
theorem dX9_bringsBy_24 : decode cX9_bringsBy 24 = .ok (.ireturn, 1) := by decide +kernel
theorem dX9_choose_0 : decode cX9_choose 0 = .ok (.bipush 6, 2) := by decide +kernel
theorem dX9_choose_2 : decode cX9_choose 2 = .ok (.istore 4, 2) := by decide +kernel
theorem dX9_choose_4 : decode cX9_choose 4 = .ok (.iload_n 1, 1) := by decide +kernel
theorem dX9_choose_5 : decode cX9_choose 5 = .ok (.iconst 4, 1) := by decide +kernel
theorem dX9_choose_6 : decode cX9_choose 6 = .ok (.if_icmp .ne 81, 3) := by decide +kernel
theorem dX9_choose_9 : decode cX9_choose 9 = .ok (.iconst (-1), 1) := by decide +kernel
theorem dX9_choose_10 : decode cX9_choose 10 = .ok (.istore 5, 2) := by decide +kernel
theorem dX9_choose_12 : decode cX9_choose 12 = .ok (.iconst 0, 1) := by decide +kernel
theorem dX9_choose_13 : decode cX9_choose 13 = .ok (.istore 6, 2) := by decide +kernel
theorem dX9_choose_15 : decode cX9_choose 15 = .ok (.iload 6, 2) := by decide +kernel
theorem dX9_choose_17 : decode cX9_choose 17 = .ok (.bipush 6, 2) := by decide +kernel
theorem dX9_choose_19 : decode cX9_choose 19 = .ok (.if_icmp .gt 65, 3) := by decide +kernel
theorem dX9_choose_22 : decode cX9_choose 22 = .ok (.aload_n 0, 1) := by decide +kernel
theorem dX9_choose_23 : decode cX9_choose 23 = .ok (.iload_n 2, 1) := by decide +kernel
theorem dX9_choose_24 : decode cX9_choose 24 = .ok (.iload 6, 2) := by decide +kernel
theorem dX9_choose_26 : decode cX9_choose 26 = .ok (.invokevirtual 215, 3) := by decide +kernel
theorem dX9_choose_29 : decode cX9_choose 29 = .ok (.ifCond .eq 14, 3) := by decide +kernel
theorem dX9_choose_32 : decode cX9_choose 32 = .ok (.aload_n 0, 1) := by decide +kernel
theorem dX9_choose_33 : decode cX9_choose 33 = .ok (.iload_n 2, 1) := by decide +kernel
theorem dX9_choose_34 : decode cX9_choose 34 = .ok (.iload 6, 2) := by decide +kernel
theorem dX9_choose_36 : decode cX9_choose 36 = .ok (.iload_n 3, 1) := by decide +kernel
theorem dX9_choose_37 : decode cX9_choose 37 = .ok (.invokevirtual 218, 3) := by decide +kernel
theorem dX9_choose_40 : decode cX9_choose 40 = .ok (.goto 4, 3) := by decide +kernel
theorem dX9_choose_43 : decode cX9_choose 43 = .ok (.iconst (-1), 1) := by decide +kernel
theorem dX9_choose_44 : decode cX9_choose 44 = .ok (.istore 7, 2) := by decide +kernel
theorem dX9_choose_46 : decode cX9_choose 46 = .ok (.iload 7, 2) := by decide +kernel
theorem dX9_choose_48 : decode cX9_choose 48 = .ok (.iload 5, 2) := by decide +kernel
theorem dX9_choose_50 : decode cX9_choose 50 = .ok (.if_icmp .le 8, 3) := by decide +kernel
theorem dX9_choose_53 : decode cX9_choose 53 = .ok (.iload 6, 2) := by decide +kernel
theorem dX9_choose_55 : decode cX9_choose 55 = .ok (.goto 5, 3) := by decide +kernel
theorem dX9_choose_58 : decode cX9_choose 58 = .ok (.iload 4, 2) := by decide +kernel
theorem dX9_choose_60 : decode cX9_choose 60 = .ok (.istore 4, 2) := by decide +kernel
theorem dX9_choose_62 : decode cX9_choose 62 = .ok (.iload 7, 2) := by decide +kernel
theorem dX9_choose_64 : decode cX9_choose 64 = .ok (.iload 5, 2) := by decide +kernel
theorem dX9_choose_66 : decode cX9_choose 66 = .ok (.if_icmp .le 8, 3) := by decide +kernel
theorem dX9_choose_69 : decode cX9_choose 69 = .ok (.iload 7, 2) := by decide +kernel
theorem dX9_choose_71 : decode cX9_choose 71 = .ok (.goto 5, 3) := by decide +kernel
theorem dX9_choose_74 : decode cX9_choose 74 = .ok (.iload 5, 2) := by decide +kernel
theorem dX9_choose_76 : decode cX9_choose 76 = .ok (.istore 5, 2) := by decide +kernel
theorem dX9_choose_78 : decode cX9_choose 78 = .ok (.iinc 6 1, 3) := by decide +kernel
theorem dX9_choose_81 : decode cX9_choose 81 = .ok (.goto (-66), 3) := by decide +kernel
theorem dX9_choose_84 : decode cX9_choose 84 = .ok (.iload 4, 2) := by decide +kernel
theorem dX9_choose_86 : decode cX9_choose 86 = .ok (.ireturn, 1) := by decide +kernel
theorem dX9_choose_87 : decode cX9_choose 87 = .ok (.iconst 0, 1) := by decide +kernel
theorem dX9_choose_88 : decode cX9_choose 88 = .ok (.istore 5, 2) := by decide +kernel
theorem dX9_choose_90 : decode cX9_choose 90 = .ok (.iload 5, 2) := by decide +kernel
theorem dX9_choose_92 : decode cX9_choose 92 = .ok (.aload_n 0, 1) := by decide +kernel
theorem dX9_choose_93 : decode cX9_choose 93 = .ok (.getfield 17, 3) := by decide +kernel
theorem dX9_choose_96 : decode cX9_choose 96 = .ok (.iconst 0, 1) := by decide +kernel
theorem dX9_choose_97 : decode cX9_choose 97 = .ok (.iaload, 1) := by decide +kernel
theorem dX9_choose_98 : decode cX9_choose 98 = .ok (.if_icmp .ge 158, 3) := by decide +kernel
theorem dX9_choose_101 : decode cX9_choose 101 = .ok (.aload_n 0, 1) := by decide +kernel
theorem dX9_choose_102 : decode cX9_choose 102 = .ok (.iload_n 2, 1) := by decide +kernel
theorem dX9_choose_103 : decode cX9_choose 103 = .ok (.iload 5, 2) := by decide +kernel
theorem dX9_choose_105 : decode cX9_choose 105 = .ok (.invokevirtual 182, 3) := by decide +kernel
theorem dX9_choose_108 : decode cX9_choose 108 = .ok (.ifCond .eq 142, 3) := by decide +kernel
theorem dX9_choose_111 : decode cX9_choose 111 = .ok (.iload_n 2, 1) := by decide +kernel
theorem dX9_choose_112 : decode cX9_choose 112 = .ok (.iload 5, 2) := by decide +kernel
theorem dX9_choose_114 : decode cX9_choose 114 = .ok (.invokestatic 175, 3) := by decide +kernel
theorem dX9_choose_117 : decode cX9_choose 117 = .ok (.iconst 2, 1) := by decide +kernel
theorem dX9_choose_118 : decode cX9_choose 118 = .ok (.ishr, 1) := by decide +kernel
theorem dX9_choose_119 : decode cX9_choose 119 = .ok (.istore 6, 2) := by decide +kernel
theorem dX9_choose_121 : decode cX9_choose 121 = .ok (.iload 4, 2) := by decide +kernel
theorem dX9_choose_123 : decode cX9_choose 123 = .ok (.bipush 6, 2) := by decide +kernel
theorem dX9_choose_125 : decode cX9_choose 125 = .ok (.if_icmp .ne 7, 3) := by decide +kernel
theorem dX9_choose_128 : decode cX9_choose 128 = .ok (.iconst 0, 1) := by decide +kernel
theorem dX9_choose_129 : decode cX9_choose 129 = .ok (.goto 11, 3) := by decide +kernel
theorem dX9_choose_132 : decode cX9_choose 132 = .ok (.iload_n 2, 1) := by decide +kernel
theorem dX9_choose_133 : decode cX9_choose 133 = .ok (.iload 4, 2) := by decide +kernel
theorem dX9_choose_135 : decode cX9_choose 135 = .ok (.invokestatic 175, 3) := by decide +kernel
theorem dX9_choose_138 : decode cX9_choose 138 = .ok (.iconst 2, 1) := by decide +kernel
theorem dX9_choose_139 : decode cX9_choose 139 = .ok (.ishr, 1) := by decide +kernel
theorem dX9_choose_140 : decode cX9_choose 140 = .ok (.istore 7, 2) := by decide +kernel
theorem dX9_choose_142 : decode cX9_choose 142 = .ok (.iload_n 1, 1) := by decide +kernel
theorem dX9_choose_143 : decode cX9_choose 143 = .ok (.iconst 1, 1) := by decide +kernel
theorem dX9_choose_144 : decode cX9_choose 144 = .ok (.if_icmp .ne 18, 3) := by decide +kernel
theorem dX9_choose_147 : decode cX9_choose 147 = .ok (.iload 6, 2) := by decide +kernel
theorem dX9_choose_149 : decode cX9_choose 149 = .ok (.iload 7, 2) := by decide +kernel
theorem dX9_choose_151 : decode cX9_choose 151 = .ok (.if_icmp .le 7, 3) := by decide +kernel
theorem dX9_choose_154 : decode cX9_choose 154 = .ok (.iconst 1, 1) := by decide +kernel
theorem dX9_choose_155 : decode cX9_choose 155 = .ok (.goto 72, 3) := by decide +kernel
theorem dX9_choose_158 : decode cX9_choose 158 = .ok (.iconst 0, 1) := by decide +kernel
theorem dX9_choose_159 : decode cX9_choose 159 = .ok (.goto 68, 3) := by decide +kernel
theorem dX9_choose_162 : decode cX9_choose 162 = .ok (.iload_n 1, 1) := by decide +kernel
theorem dX9_choose_163 : decode cX9_choose 163 = .ok (.iconst 2, 1) := by decide +kernel
theorem dX9_choose_164 : decode cX9_choose 164 = .ok (.if_icmp .ne 32, 3) := by decide +kernel
theorem dX9_choose_167 : decode cX9_choose 167 = .ok (.aload_n 0, 1) := by decide +kernel
theorem dX9_choose_168 : decode cX9_choose 168 = .ok (.iload 5, 2) := by decide +kernel
theorem dX9_choose_170 : decode cX9_choose 170 = .ok (.iload 6, 2) := by decide +kernel
theorem dX9_choose_172 : decode cX9_choose 172 = .ok (.invokevirtual 168, 3) := by decide +kernel
theorem dX9_choose_175 : decode cX9_choose 175 = .ok (.aload_n 0, 1) := by decide +kernel
theorem dX9_choose_176 : decode cX9_choose 176 = .ok (.iload 4, 2) := by decide +kernel
theorem dX9_choose_178 : decode cX9_choose 178 = .ok (.iconst 3, 1) := by decide +kernel
theorem dX9_choose_179 : decode cX9_choose 179 = .ok (.irem, 1) := by decide +kernel
theorem dX9_choose_180 : decode cX9_choose 180 = .ok (.iload 7, 2) := by decide +kernel
theorem dX9_choose_182 : decode cX9_choose 182 = .ok (.invokevirtual 168, 3) := by decide +kernel
theorem dX9_choose_185 : decode cX9_choose 185 = .ok (.if_icmp .ge 7, 3) := by decide +kernel
theorem dX9_choose_188 : decode cX9_choose 188 = .ok (.iconst 1, 1) := by decide +kernel
theorem dX9_choose_189 : decode cX9_choose 189 = .ok (.goto 38, 3) := by decide +kernel
theorem dX9_choose_192 : decode cX9_choose 192 = .ok (.iconst 0, 1) := by decide +kernel
theorem dX9_choose_193 : decode cX9_choose 193 = .ok (.goto 34, 3) := by decide +kernel
theorem dX9_choose_196 : decode cX9_choose 196 = .ok (.iload_n 1, 1) := by decide +kernel
theorem dX9_choose_197 : decode cX9_choose 197 = .ok (.iconst 3, 1) := by decide +kernel
theorem dX9_choose_198 : decode cX9_choose 198 = .ok (.if_icmp .ne 28, 3) := by decide +kernel
theorem dX9_choose_201 : decode cX9_choose 201 = .ok (.aload_n 0, 1) := by decide +kernel
theorem dX9_choose_202 : decode cX9_choose 202 = .ok (.iload 5, 2) := by decide +kernel
theorem dX9_choose_204 : decode cX9_choose 204 = .ok (.iload 6, 2) := by decide +kernel
theorem dX9_choose_206 : decode cX9_choose 206 = .ok (.invokevirtual 168, 3) := by decide +kernel
theorem dX9_choose_209 : decode cX9_choose 209 = .ok (.aload_n 0, 1) := by decide +kernel
theorem dX9_choose_210 : decode cX9_choose 210 = .ok (.iload 4, 2) := by decide +kernel
theorem dX9_choose_212 : decode cX9_choose 212 = .ok (.iconst 3, 1) := by decide +kernel
theorem dX9_choose_213 : decode cX9_choose 213 = .ok (.irem, 1) := by decide +kernel
theorem dX9_choose_214 : decode cX9_choose 214 = .ok (.iload 7, 2) := by decide +kernel
theorem dX9_choose_216 : decode cX9_choose 216 = .ok (.invokevirtual 168, 3) := by decide +kernel
theorem dX9_choose_219 : decode cX9_choose 219 = .ok (.if_icmp .le 7, 3) := by decide +kernel
theorem dX9_choose_222 : decode cX9_choose 222 = .ok (.iconst 1, 1) := by decide +kernel
theorem dX9_choose_223 : decode cX9_choose 223 = .ok (.goto 4, 3) := by decide +kernel
theorem dX9_choose_226 : decode cX9_choose 226 = .ok (.iconst 0, 1) := by decide +kernel
theorem dX9_choose_227 : decode cX9_choose 227 = .ok (.istore 8, 2) := by decide +kernel
theorem dX9_choose_229 : decode cX9_choose 229 = .ok (.iload 4, 2) := by decide +kernel
theorem dX9_choose_231 : decode cX9_choose 231 = .ok (.bipush 6, 2) := by decide +kernel
theorem dX9_choose_233 : decode cX9_choose 233 = .ok (.if_icmp .eq 8, 3) := by decide +kernel
theorem dX9_choose_236 : decode cX9_choose 236 = .ok (.iload 8, 2) := by decide +kernel
theorem dX9_choose_238 : decode cX9_choose 238 = .ok (.ifCond .eq 8, 3) := by decide +kernel
theorem dX9_choose_241 : decode cX9_choose 241 = .ok (.iload 5, 2) := by decide +kernel
theorem dX9_choose_243 : decode cX9_choose 243 = .ok (.goto 5, 3) := by decide +kernel
theorem dX9_choose_246 : decode cX9_choose 246 = .ok (.iload 4, 2) := by decide +kernel
theorem dX9_choose_248 : decode cX9_choose 248 = .ok (.istore 4, 2) := by decide +kernel
theorem dX9_choose_250 : decode cX9_choose 250 = .ok (.iinc 5 1, 3) := by decide +kernel
theorem dX9_choose_253 : decode cX9_choose 253 = .ok (.goto (-163), 3) := by decide +kernel
theorem dX9_choose_256 : decode cX9_choose 256 = .ok (.iload 4, 2) := by decide +kernel
theorem dX9_choose_258 : decode cX9_choose 258 = .ok (.ireturn, 1) := by decide +kernel
theorem dX9_isState_0 : decode cX9_isState 0 = .ok (.iconst 1, 1) := by decide +kernel
theorem dX9_isState_1 : decode cX9_isState 1 = .ok (.istore_n 2, 1) := by decide +kernel
theorem dX9_isState_2 : decode cX9_isState 2 = .ok (.iconst 0, 1) := by decide +kernel
theorem dX9_isState_3 : decode cX9_isState 3 = .ok (.istore_n 3, 1) := by decide +kernel
theorem dX9_isState_4 : decode cX9_isState 4 = .ok (.iload_n 3, 1) := by decide +kernel
theorem dX9_isState_5 : decode cX9_isState 5 = .ok (.iconst 3, 1) := by decide +kernel
theorem dX9_isState_6 : decode cX9_isState 6 = .ok (.if_icmp .ge 55, 3) := by decide +kernel
theorem dX9_isState_9 : decode cX9_isState 9 = .ok (.iload_n 1, 1) := by decide +kernel
theorem dX9_isState_10 : decode cX9_isState 10 = .ok (.iload_n 3, 1) := by decide +kernel
theorem dX9_isState_11 : decode cX9_isState 11 = .ok (.invokestatic 175, 3) := by decide +kernel
theorem dX9_isState_14 : decode cX9_isState 14 = .ok (.istore 4, 2) := by decide +kernel
theorem dX9_isState_16 : decode cX9_isState 16 = .ok (.iload_n 2, 1) := by decide +kernel
theorem dX9_isState_17 : decode cX9_isState 17 = .ok (.ifCond .eq 36, 3) := by decide +kernel
theorem dX9_isState_20 : decode cX9_isState 20 = .ok (.aload_n 0, 1) := by decide +kernel
theorem dX9_isState_21 : decode cX9_isState 21 = .ok (.iload_n 3, 1) := by decide +kernel
theorem dX9_isState_22 : decode cX9_isState 22 = .ok (.invokevirtual 164, 3) := by decide +kernel
theorem dX9_isState_25 : decode cX9_isState 25 = .ok (.ifCond .eq 19, 3) := by decide +kernel
theorem dX9_isState_28 : decode cX9_isState 28 = .ok (.iload 4, 2) := by decide +kernel
theorem dX9_isState_30 : decode cX9_isState 30 = .ok (.iconst 3, 1) := by decide +kernel
theorem dX9_isState_31 : decode cX9_isState 31 = .ok (.iand, 1) := by decide +kernel
theorem dX9_isState_32 : decode cX9_isState 32 = .ok (.aload_n 0, 1) := by decide +kernel
theorem dX9_isState_33 : decode cX9_isState 33 = .ok (.getfield 32, 3) := by decide +kernel
theorem dX9_isState_36 : decode cX9_isState 36 = .ok (.iload_n 3, 1) := by decide +kernel
theorem dX9_isState_37 : decode cX9_isState 37 = .ok (.iaload, 1) := by decide +kernel
theorem dX9_isState_38 : decode cX9_isState 38 = .ok (.if_icmp .gt 15, 3) := by decide +kernel
theorem dX9_isState_41 : decode cX9_isState 41 = .ok (.goto 8, 3) := by decide +kernel
theorem dX9_isState_44 : decode cX9_isState 44 = .ok (.iload 4, 2) := by decide +kernel
theorem dX9_isState_46 : decode cX9_isState 46 = .ok (.ifCond .ne 7, 3) := by decide +kernel
theorem dX9_isState_49 : decode cX9_isState 49 = .ok (.iconst 1, 1) := by decide +kernel
theorem dX9_isState_50 : decode cX9_isState 50 = .ok (.goto 4, 3) := by decide +kernel
theorem dX9_isState_53 : decode cX9_isState 53 = .ok (.iconst 0, 1) := by decide +kernel
theorem dX9_isState_54 : decode cX9_isState 54 = .ok (.istore_n 2, 1) := by decide +kernel
theorem dX9_isState_55 : decode cX9_isState 55 = .ok (.iinc 3 1, 3) := by decide +kernel
theorem dX9_isState_58 : decode cX9_isState 58 = .ok (.goto (-54), 3) := by decide +kernel
theorem dX9_isState_61 : decode cX9_isState 61 = .ok (.iload_n 2, 1) := by decide +kernel
theorem dX9_isState_62 : decode cX9_isState 62 = .ok (.ireturn, 1) := by decide +kernel
theorem dX9_work_0 : decode cX9_work 0 = .ok (.iconst 0, 1) := by decide +kernel
theorem dX9_work_1 : decode cX9_work 1 = .ok (.istore_n 3, 1) := by decide +kernel
theorem dX9_work_2 : decode cX9_work 2 = .ok (.iload_n 3, 1) := by decide +kernel
theorem dX9_work_3 : decode cX9_work 3 = .ok (.sipush 4096, 3) := by decide +kernel
theorem dX9_work_6 : decode cX9_work 6 = .ok (.if_icmp .ge 64, 3) := by decide +kernel
theorem dX9_work_9 : decode cX9_work 9 = .ok (.aload_n 0, 1) := by decide +kernel
theorem dX9_work_10 : decode cX9_work 10 = .ok (.getfield 69, 3) := by decide +kernel
theorem dX9_work_13 : decode cX9_work 13 = .ok (.iload_n 3, 1) := by decide +kernel
theorem dX9_work_14 : decode cX9_work 14 = .ok (.iconst 0, 1) := by decide +kernel
theorem dX9_work_15 : decode cX9_work 15 = .ok (.iastore, 1) := by decide +kernel
theorem dX9_work_16 : decode cX9_work 16 = .ok (.aload_n 0, 1) := by decide +kernel
theorem dX9_work_17 : decode cX9_work 17 = .ok (.getfield 72, 3) := by decide +kernel
theorem dX9_work_20 : decode cX9_work 20 = .ok (.iload_n 3, 1) := by decide +kernel
theorem dX9_work_21 : decode cX9_work 21 = .ok (.iconst 0, 1) := by decide +kernel
theorem dX9_work_22 : decode cX9_work 22 = .ok (.iastore, 1) := by decide +kernel
theorem dX9_work_23 : decode cX9_work 23 = .ok (.iconst 0, 1) := by decide +kernel
theorem dX9_work_24 : decode cX9_work 24 = .ok (.istore 4, 2) := by decide +kernel
theorem dX9_work_26 : decode cX9_work 26 = .ok (.iload 4, 2) := by decide +kernel
theorem dX9_work_28 : decode cX9_work 28 = .ok (.aload_n 0, 1) := by decide +kernel
theorem dX9_work_29 : decode cX9_work 29 = .ok (.getfield 17, 3) := by decide +kernel
theorem dX9_work_32 : decode cX9_work 32 = .ok (.iconst 0, 1) := by decide +kernel
theorem dX9_work_33 : decode cX9_work 33 = .ok (.iaload, 1) := by decide +kernel
theorem dX9_work_34 : decode cX9_work 34 = .ok (.if_icmp .ge 30, 3) := by decide +kernel
theorem dX9_work_37 : decode cX9_work 37 = .ok (.aload_n 0, 1) := by decide +kernel
theorem dX9_work_38 : decode cX9_work 38 = .ok (.getfield 72, 3) := by decide +kernel
theorem dX9_work_41 : decode cX9_work 41 = .ok (.iload_n 3, 1) := by decide +kernel
theorem dX9_work_42 : decode cX9_work 42 = .ok (.dup2, 1) := by decide +kernel
theorem dX9_work_43 : decode cX9_work 43 = .ok (.iaload, 1) := by decide +kernel
theorem dX9_work_44 : decode cX9_work 44 = .ok (.sipush 1000, 3) := by decide +kernel
theorem dX9_work_47 : decode cX9_work 47 = .ok (.iload_n 3, 1) := by decide +kernel
theorem dX9_work_48 : decode cX9_work 48 = .ok (.iload 4, 2) := by decide +kernel
theorem dX9_work_50 : decode cX9_work 50 = .ok (.invokestatic 175, 3) := by decide +kernel
theorem dX9_work_53 : decode cX9_work 53 = .ok (.iconst 3, 1) := by decide +kernel
theorem dX9_work_54 : decode cX9_work 54 = .ok (.iand, 1) := by decide +kernel
theorem dX9_work_55 : decode cX9_work 55 = .ok (.imul, 1) := by decide +kernel
theorem dX9_work_56 : decode cX9_work 56 = .ok (.iadd, 1) := by decide +kernel
theorem dX9_work_57 : decode cX9_work 57 = .ok (.iastore, 1) := by decide +kernel
theorem dX9_work_58 : decode cX9_work 58 = .ok (.iinc 4 1, 3) := by decide +kernel
theorem dX9_work_61 : decode cX9_work 61 = .ok (.goto (-35), 3) := by decide +kernel
theorem dX9_work_64 : decode cX9_work 64 = .ok (.iinc 3 1, 3) := by decide +kernel
theorem dX9_work_67 : decode cX9_work 67 = .ok (.goto (-65), 3) := by decide +kernel
theorem dX9_work_70 : decode cX9_work 70 = .ok (.aload_n 0, 1) := by decide +kernel
theorem dX9_work_71 : decode cX9_work 71 = .ok (.getfield 20, 3) := by decide +kernel
theorem dX9_work_74 : decode cX9_work 74 = .ok (.iconst 0, 1) := by decide +kernel
theorem dX9_work_75 : decode cX9_work 75 = .ok (.iaload, 1) := by decide +kernel
theorem dX9_work_76 : decode cX9_work 76 = .ok (.iconst 1, 1) := by decide +kernel
theorem dX9_work_77 : decode cX9_work 77 = .ok (.isub, 1) := by decide +kernel
theorem dX9_work_78 : decode cX9_work 78 = .ok (.istore_n 3, 1) := by decide +kernel
theorem dX9_work_79 : decode cX9_work 79 = .ok (.iload_n 3, 1) := by decide +kernel
theorem dX9_work_80 : decode cX9_work 80 = .ok (.iload_n 2, 1) := by decide +kernel
theorem dX9_work_81 : decode cX9_work 81 = .ok (.if_icmp .lt 141, 3) := by decide +kernel
theorem dX9_work_84 : decode cX9_work 84 = .ok (.iconst 0, 1) := by decide +kernel
theorem dX9_work_85 : decode cX9_work 85 = .ok (.istore 4, 2) := by decide +kernel
theorem dX9_work_87 : decode cX9_work 87 = .ok (.iload 4, 2) := by decide +kernel
theorem dX9_work_89 : decode cX9_work 89 = .ok (.iconst 1, 1) := by decide +kernel
theorem dX9_work_90 : decode cX9_work 90 = .ok (.iconst 4, 1) := by decide +kernel
theorem dX9_work_91 : decode cX9_work 91 = .ok (.aload_n 0, 1) := by decide +kernel
theorem dX9_work_92 : decode cX9_work 92 = .ok (.getfield 17, 3) := by decide +kernel
theorem dX9_work_95 : decode cX9_work 95 = .ok (.iconst 0, 1) := by decide +kernel
theorem dX9_work_96 : decode cX9_work 96 = .ok (.iaload, 1) := by decide +kernel
theorem dX9_work_97 : decode cX9_work 97 = .ok (.imul, 1) := by decide +kernel
theorem dX9_work_98 : decode cX9_work 98 = .ok (.ishl, 1) := by decide +kernel
theorem dX9_work_99 : decode cX9_work 99 = .ok (.if_icmp .ge 65, 3) := by decide +kernel
theorem dX9_work_102 : decode cX9_work 102 = .ok (.aload_n 0, 1) := by decide +kernel
theorem dX9_work_103 : decode cX9_work 103 = .ok (.iload 4, 2) := by decide +kernel
theorem dX9_work_105 : decode cX9_work 105 = .ok (.invokevirtual 221, 3) := by decide +kernel
theorem dX9_work_108 : decode cX9_work 108 = .ok (.ifCond .eq 50, 3) := by decide +kernel
theorem dX9_work_111 : decode cX9_work 111 = .ok (.aload_n 0, 1) := by decide +kernel
theorem dX9_work_112 : decode cX9_work 112 = .ok (.iload_n 1, 1) := by decide +kernel
theorem dX9_work_113 : decode cX9_work 113 = .ok (.iload 4, 2) := by decide +kernel
theorem dX9_work_115 : decode cX9_work 115 = .ok (.iload_n 3, 1) := by decide +kernel
theorem dX9_work_116 : decode cX9_work 116 = .ok (.invokevirtual 224, 3) := by decide +kernel
theorem dX9_work_119 : decode cX9_work 119 = .ok (.istore 5, 2) := by decide +kernel
theorem dX9_work_121 : decode cX9_work 121 = .ok (.aload_n 0, 1) := by decide +kernel
theorem dX9_work_122 : decode cX9_work 122 = .ok (.getfield 75, 3) := by decide +kernel
theorem dX9_work_125 : decode cX9_work 125 = .ok (.iload 4, 2) := by decide +kernel
theorem dX9_work_127 : decode cX9_work 127 = .ok (.aload_n 0, 1) := by decide +kernel
theorem dX9_work_128 : decode cX9_work 128 = .ok (.iload 4, 2) := by decide +kernel
theorem dX9_work_130 : decode cX9_work 130 = .ok (.iload 5, 2) := by decide +kernel
theorem dX9_work_132 : decode cX9_work 132 = .ok (.iload_n 3, 1) := by decide +kernel
theorem dX9_work_133 : decode cX9_work 133 = .ok (.invokevirtual 218, 3) := by decide +kernel
theorem dX9_work_136 : decode cX9_work 136 = .ok (.iastore, 1) := by decide +kernel
theorem dX9_work_137 : decode cX9_work 137 = .ok (.aload_n 0, 1) := by decide +kernel
theorem dX9_work_138 : decode cX9_work 138 = .ok (.getfield 78, 3) := by decide +kernel
theorem dX9_work_141 : decode cX9_work 141 = .ok (.iload 4, 2) := by decide +kernel
theorem dX9_work_143 : decode cX9_work 143 = .ok (.aload_n 0, 1) := by decide +kernel
theorem dX9_work_144 : decode cX9_work 144 = .ok (.aload_n 0, 1) := by decide +kernel
theorem dX9_work_145 : decode cX9_work 145 = .ok (.iload 4, 2) := by decide +kernel
theorem dX9_work_147 : decode cX9_work 147 = .ok (.iload 5, 2) := by decide +kernel
theorem dX9_work_149 : decode cX9_work 149 = .ok (.invokevirtual 208, 3) := by decide +kernel
theorem dX9_work_152 : decode cX9_work 152 = .ok (.iload_n 3, 1) := by decide +kernel
theorem dX9_work_153 : decode cX9_work 153 = .ok (.iconst 0, 1) := by decide +kernel
theorem dX9_work_154 : decode cX9_work 154 = .ok (.invokevirtual 211, 3) := by decide +kernel
theorem dX9_work_157 : decode cX9_work 157 = .ok (.iastore, 1) := by decide +kernel
theorem dX9_work_158 : decode cX9_work 158 = .ok (.iinc 4 1, 3) := by decide +kernel
theorem dX9_work_161 : decode cX9_work 161 = .ok (.goto (-74), 3) := by decide +kernel
theorem dX9_work_164 : decode cX9_work 164 = .ok (.iconst 0, 1) := by decide +kernel
theorem dX9_work_165 : decode cX9_work 165 = .ok (.istore 4, 2) := by decide +kernel
theorem dX9_work_167 : decode cX9_work 167 = .ok (.iload 4, 2) := by decide +kernel
theorem dX9_work_169 : decode cX9_work 169 = .ok (.iconst 1, 1) := by decide +kernel
theorem dX9_work_170 : decode cX9_work 170 = .ok (.iconst 4, 1) := by decide +kernel
theorem dX9_work_171 : decode cX9_work 171 = .ok (.aload_n 0, 1) := by decide +kernel
theorem dX9_work_172 : decode cX9_work 172 = .ok (.getfield 17, 3) := by decide +kernel
theorem dX9_work_175 : decode cX9_work 175 = .ok (.iconst 0, 1) := by decide +kernel
theorem dX9_work_176 : decode cX9_work 176 = .ok (.iaload, 1) := by decide +kernel
theorem dX9_work_177 : decode cX9_work 177 = .ok (.imul, 1) := by decide +kernel
theorem dX9_work_178 : decode cX9_work 178 = .ok (.ishl, 1) := by decide +kernel
theorem dX9_work_179 : decode cX9_work 179 = .ok (.if_icmp .ge 37, 3) := by decide +kernel
theorem dX9_work_182 : decode cX9_work 182 = .ok (.aload_n 0, 1) := by decide +kernel
theorem dX9_work_183 : decode cX9_work 183 = .ok (.getfield 69, 3) := by decide +kernel
theorem dX9_work_186 : decode cX9_work 186 = .ok (.iload 4, 2) := by decide +kernel
theorem dX9_work_188 : decode cX9_work 188 = .ok (.aload_n 0, 1) := by decide +kernel
theorem dX9_work_189 : decode cX9_work 189 = .ok (.getfield 75, 3) := by decide +kernel
theorem dX9_work_192 : decode cX9_work 192 = .ok (.iload 4, 2) := by decide +kernel
theorem dX9_work_194 : decode cX9_work 194 = .ok (.iaload, 1) := by decide +kernel
theorem dX9_work_195 : decode cX9_work 195 = .ok (.iastore, 1) := by decide +kernel
theorem dX9_work_196 : decode cX9_work 196 = .ok (.aload_n 0, 1) := by decide +kernel
theorem dX9_work_197 : decode cX9_work 197 = .ok (.getfield 72, 3) := by decide +kernel
theorem dX9_work_200 : decode cX9_work 200 = .ok (.iload 4, 2) := by decide +kernel
theorem dX9_work_202 : decode cX9_work 202 = .ok (.aload_n 0, 1) := by decide +kernel
theorem dX9_work_203 : decode cX9_work 203 = .ok (.getfield 78, 3) := by decide +kernel
theorem dX9_work_206 : decode cX9_work 206 = .ok (.iload 4, 2) := by decide +kernel
theorem dX9_work_208 : decode cX9_work 208 = .ok (.iaload, 1) := by decide +kernel
theorem dX9_work_209 : decode cX9_work 209 = .ok (.iastore, 1) := by decide +kernel
theorem dX9_work_210 : decode cX9_work 210 = .ok (.iinc 4 1, 3) := by decide +kernel
theorem dX9_work_213 : decode cX9_work 213 = .ok (.goto (-46), 3) := by decide +kernel
theorem dX9_work_216 : decode cX9_work 216 = .ok (.iinc 3 (-1), 3) := by decide +kernel
theorem dX9_work_219 : decode cX9_work 219 = .ok (.goto (-140), 3) := by decide +kernel
theorem dX9_work_222 : decode cX9_work 222 = .ok (.return_, 1) := by decide +kernel
theorem dX9_isRule_0 : decode cX9_isRule 0 = .ok (.iload_n 0, 1) := by decide +kernel
theorem dX9_isRule_1 : decode cX9_isRule 1 = .ok (.iconst 0, 1) := by decide +kernel
theorem dX9_isRule_2 : decode cX9_isRule 2 = .ok (.iconst 4, 1) := by decide +kernel
theorem dX9_isRule_3 : decode cX9_isRule 3 = .ok (.invokestatic 103, 3) := by decide +kernel
theorem dX9_isRule_6 : decode cX9_isRule 6 = .ok (.ireturn, 1) := by decide +kernel
theorem dX9_chooseNow_0 : decode cX9_chooseNow 0 = .ok (.aload_n 0, 1) := by decide +kernel
theorem dX9_chooseNow_1 : decode cX9_chooseNow 1 = .ok (.iload_n 1, 1) := by decide +kernel
theorem dX9_chooseNow_2 : decode cX9_chooseNow 2 = .ok (.aload_n 0, 1) := by decide +kernel
theorem dX9_chooseNow_3 : decode cX9_chooseNow 3 = .ok (.getfield 41, 3) := by decide +kernel
theorem dX9_chooseNow_6 : decode cX9_chooseNow 6 = .ok (.iconst 0, 1) := by decide +kernel
theorem dX9_chooseNow_7 : decode cX9_chooseNow 7 = .ok (.iaload, 1) := by decide +kernel
theorem dX9_chooseNow_8 : decode cX9_chooseNow 8 = .ok (.iconst 1, 1) := by decide +kernel
theorem dX9_chooseNow_9 : decode cX9_chooseNow 9 = .ok (.iadd, 1) := by decide +kernel
theorem dX9_chooseNow_10 : decode cX9_chooseNow 10 = .ok (.invokevirtual 227, 3) := by decide +kernel
theorem dX9_chooseNow_13 : decode cX9_chooseNow 13 = .ok (.aload_n 0, 1) := by decide +kernel
theorem dX9_chooseNow_14 : decode cX9_chooseNow 14 = .ok (.getfield 44, 3) := by decide +kernel
theorem dX9_chooseNow_17 : decode cX9_chooseNow 17 = .ok (.iconst 0, 1) := by decide +kernel
theorem dX9_chooseNow_18 : decode cX9_chooseNow 18 = .ok (.baload, 1) := by decide +kernel
theorem dX9_chooseNow_19 : decode cX9_chooseNow 19 = .ok (.ifCond .eq 8, 3) := by decide +kernel
theorem dX9_chooseNow_22 : decode cX9_chooseNow 22 = .ok (.bipush 6, 2) := by decide +kernel
theorem dX9_chooseNow_24 : decode cX9_chooseNow 24 = .ok (.goto 18, 3) := by decide +kernel
theorem dX9_chooseNow_27 : decode cX9_chooseNow 27 = .ok (.aload_n 0, 1) := by decide +kernel
theorem dX9_chooseNow_28 : decode cX9_chooseNow 28 = .ok (.iload_n 1, 1) := by decide +kernel
theorem dX9_chooseNow_29 : decode cX9_chooseNow 29 = .ok (.aload_n 0, 1) := by decide +kernel
theorem dX9_chooseNow_30 : decode cX9_chooseNow 30 = .ok (.invokevirtual 192, 3) := by decide +kernel
theorem dX9_chooseNow_33 : decode cX9_chooseNow 33 = .ok (.aload_n 0, 1) := by decide +kernel
theorem dX9_chooseNow_34 : decode cX9_chooseNow 34 = .ok (.getfield 41, 3) := by decide +kernel
theorem dX9_chooseNow_37 : decode cX9_chooseNow 37 = .ok (.iconst 0, 1) := by decide +kernel
theorem dX9_chooseNow_38 : decode cX9_chooseNow 38 = .ok (.iaload, 1) := by decide +kernel
theorem dX9_chooseNow_39 : decode cX9_chooseNow 39 = .ok (.invokevirtual 224, 3) := by decide +kernel
theorem dX9_chooseNow_42 : decode cX9_chooseNow 42 = .ok (.ireturn, 1) := by decide +kernel
theorem dX9_valueNow_0 : decode cX9_valueNow 0 = .ok (.aload_n 0, 1) := by decide +kernel
theorem dX9_valueNow_1 : decode cX9_valueNow 1 = .ok (.invokevirtual 188, 3) := by decide +kernel
theorem dX9_valueNow_4 : decode cX9_valueNow 4 = .ok (.ifCond .eq 5, 3) := by decide +kernel
theorem dX9_valueNow_7 : decode cX9_valueNow 7 = .ok (.iconst 0, 1) := by decide +kernel
theorem dX9_valueNow_8 : decode cX9_valueNow 8 = .ok (.ireturn, 1) := by decide +kernel
theorem dX9_valueNow_9 : decode cX9_valueNow 9 = .ok (.aload_n 0, 1) := by decide +kernel
theorem dX9_valueNow_10 : decode cX9_valueNow 10 = .ok (.iload_n 1, 1) := by decide +kernel
theorem dX9_valueNow_11 : decode cX9_valueNow 11 = .ok (.invokevirtual 230, 3) := by decide +kernel
theorem dX9_valueNow_14 : decode cX9_valueNow 14 = .ok (.istore_n 2, 1) := by decide +kernel
theorem dX9_valueNow_15 : decode cX9_valueNow 15 = .ok (.aload_n 0, 1) := by decide +kernel
theorem dX9_valueNow_16 : decode cX9_valueNow 16 = .ok (.aload_n 0, 1) := by decide +kernel
theorem dX9_valueNow_17 : decode cX9_valueNow 17 = .ok (.invokevirtual 192, 3) := by decide +kernel
theorem dX9_valueNow_20 : decode cX9_valueNow 20 = .ok (.iload_n 2, 1) := by decide +kernel
theorem dX9_valueNow_21 : decode cX9_valueNow 21 = .ok (.aload_n 0, 1) := by decide +kernel
theorem dX9_valueNow_22 : decode cX9_valueNow 22 = .ok (.getfield 41, 3) := by decide +kernel
theorem dX9_valueNow_25 : decode cX9_valueNow 25 = .ok (.iconst 0, 1) := by decide +kernel
theorem dX9_valueNow_26 : decode cX9_valueNow 26 = .ok (.iaload, 1) := by decide +kernel
theorem dX9_valueNow_27 : decode cX9_valueNow 27 = .ok (.invokevirtual 218, 3) := by decide +kernel
theorem dX9_valueNow_30 : decode cX9_valueNow 30 = .ok (.ireturn, 1) := by decide +kernel
theorem dX9_value_0 : decode cX9_value 0 = .ok (.iload_n 1, 1) := by decide +kernel
theorem dX9_value_1 : decode cX9_value 1 = .ok (.invokestatic 233, 3) := by decide +kernel
theorem dX9_value_4 : decode cX9_value 4 = .ok (.ifCond .eq 11, 3) := by decide +kernel
theorem dX9_value_7 : decode cX9_value 7 = .ok (.aload_n 0, 1) := by decide +kernel
theorem dX9_value_8 : decode cX9_value 8 = .ok (.iload_n 1, 1) := by decide +kernel
theorem dX9_value_9 : decode cX9_value 9 = .ok (.invokevirtual 236, 3) := by decide +kernel
theorem dX9_value_12 : decode cX9_value 12 = .ok (.goto 4, 3) := by decide +kernel
theorem dX9_value_15 : decode cX9_value 15 = .ok (.iconst (-1), 1) := by decide +kernel
theorem dX9_value_16 : decode cX9_value 16 = .ok (.ireturn, 1) := by decide +kernel
theorem dX9_left_0 : decode cX9_left 0 = .ok (.iload_n 1, 1) := by decide +kernel
theorem dX9_left_1 : decode cX9_left 1 = .ok (.invokestatic 233, 3) := by decide +kernel
theorem dX9_left_4 : decode cX9_left 4 = .ok (.ifCond .ne 5, 3) := by decide +kernel
theorem dX9_left_7 : decode cX9_left 7 = .ok (.iconst (-1), 1) := by decide +kernel
theorem dX9_left_8 : decode cX9_left 8 = .ok (.ireturn, 1) := by decide +kernel
theorem dX9_left_9 : decode cX9_left 9 = .ok (.aload_n 0, 1) := by decide +kernel
theorem dX9_left_10 : decode cX9_left 10 = .ok (.invokevirtual 188, 3) := by decide +kernel
theorem dX9_left_13 : decode cX9_left 13 = .ok (.ifCond .eq 13, 3) := by decide +kernel
theorem dX9_left_16 : decode cX9_left 16 = .ok (.sipush 1000, 3) := by decide +kernel
theorem dX9_left_19 : decode cX9_left 19 = .ok (.aload_n 0, 1) := by decide +kernel
theorem dX9_left_20 : decode cX9_left 20 = .ok (.iconst 4, 1) := by decide +kernel
theorem dX9_left_21 : decode cX9_left 21 = .ok (.invokevirtual 239, 3) := by decide +kernel
theorem dX9_left_24 : decode cX9_left 24 = .ok (.imul, 1) := by decide +kernel
theorem dX9_left_25 : decode cX9_left 25 = .ok (.ireturn, 1) := by decide +kernel
theorem dX9_left_26 : decode cX9_left 26 = .ok (.aload_n 0, 1) := by decide +kernel
theorem dX9_left_27 : decode cX9_left 27 = .ok (.iload_n 1, 1) := by decide +kernel
theorem dX9_left_28 : decode cX9_left 28 = .ok (.invokevirtual 230, 3) := by decide +kernel
theorem dX9_left_31 : decode cX9_left 31 = .ok (.istore_n 2, 1) := by decide +kernel
theorem dX9_left_32 : decode cX9_left 32 = .ok (.aload_n 0, 1) := by decide +kernel
theorem dX9_left_33 : decode cX9_left 33 = .ok (.aload_n 0, 1) := by decide +kernel
theorem dX9_left_34 : decode cX9_left 34 = .ok (.aload_n 0, 1) := by decide +kernel
theorem dX9_left_35 : decode cX9_left 35 = .ok (.invokevirtual 192, 3) := by decide +kernel
theorem dX9_left_38 : decode cX9_left 38 = .ok (.iload_n 2, 1) := by decide +kernel
theorem dX9_left_39 : decode cX9_left 39 = .ok (.invokevirtual 208, 3) := by decide +kernel
theorem dX9_left_42 : decode cX9_left 42 = .ok (.aload_n 0, 1) := by decide +kernel
theorem dX9_left_43 : decode cX9_left 43 = .ok (.getfield 41, 3) := by decide +kernel
theorem dX9_left_46 : decode cX9_left 46 = .ok (.iconst 0, 1) := by decide +kernel
theorem dX9_left_47 : decode cX9_left 47 = .ok (.iaload, 1) := by decide +kernel
theorem dX9_left_48 : decode cX9_left 48 = .ok (.iconst 0, 1) := by decide +kernel
theorem dX9_left_49 : decode cX9_left 49 = .ok (.invokevirtual 211, 3) := by decide +kernel
theorem dX9_left_52 : decode cX9_left 52 = .ok (.ireturn, 1) := by decide +kernel
theorem dX9_choice_0 : decode cX9_choice 0 = .ok (.iload_n 1, 1) := by decide +kernel
theorem dX9_choice_1 : decode cX9_choice 1 = .ok (.invokestatic 233, 3) := by decide +kernel
theorem dX9_choice_4 : decode cX9_choice 4 = .ok (.ifCond .ne 7, 3) := by decide +kernel
theorem dX9_choice_7 : decode cX9_choice 7 = .ok (.iconst (-1), 1) := by decide +kernel
theorem dX9_choice_8 : decode cX9_choice 8 = .ok (.goto 20, 3) := by decide +kernel
theorem dX9_choice_11 : decode cX9_choice 11 = .ok (.aload_n 0, 1) := by decide +kernel
theorem dX9_choice_12 : decode cX9_choice 12 = .ok (.invokevirtual 188, 3) := by decide +kernel
theorem dX9_choice_15 : decode cX9_choice 15 = .ok (.ifCond .eq 8, 3) := by decide +kernel
theorem dX9_choice_18 : decode cX9_choice 18 = .ok (.bipush 6, 2) := by decide +kernel
theorem dX9_choice_20 : decode cX9_choice 20 = .ok (.goto 8, 3) := by decide +kernel
theorem dX9_choice_23 : decode cX9_choice 23 = .ok (.aload_n 0, 1) := by decide +kernel
theorem dX9_choice_24 : decode cX9_choice 24 = .ok (.iload_n 1, 1) := by decide +kernel
theorem dX9_choice_25 : decode cX9_choice 25 = .ok (.invokevirtual 230, 3) := by decide +kernel
theorem dX9_choice_28 : decode cX9_choice 28 = .ok (.ireturn, 1) := by decide +kernel
theorem dX9_brings_0 : decode cX9_brings 0 = .ok (.iload_n 1, 1) := by decide +kernel
theorem dX9_brings_1 : decode cX9_brings 1 = .ok (.iconst 0, 1) := by decide +kernel
theorem dX9_brings_2 : decode cX9_brings 2 = .ok (.bipush 6, 2) := by decide +kernel
theorem dX9_brings_4 : decode cX9_brings 4 = .ok (.invokestatic 103, 3) := by decide +kernel
theorem dX9_brings_7 : decode cX9_brings 7 = .ok (.ifCond .ne 6, 3) := by decide +kernel
theorem dX9_brings_10 : decode cX9_brings 10 = .ok (.ldc 242, 2) := by decide +kernel
theorem dX9_brings_12 : decode cX9_brings 12 = .ok (.ireturn, 1) := by decide +kernel
theorem dX9_brings_13 : decode cX9_brings 13 = .ok (.aload_n 0, 1) := by decide +kernel
theorem dX9_brings_14 : decode cX9_brings 14 = .ok (.invokevirtual 188, 3) := by decide +kernel
theorem dX9_brings_17 : decode cX9_brings 17 = .ok (.ifCond .eq 16, 3) := by decide +kernel
theorem dX9_brings_20 : decode cX9_brings 20 = .ok (.iload_n 1, 1) := by decide +kernel
theorem dX9_brings_21 : decode cX9_brings 21 = .ok (.bipush 6, 2) := by decide +kernel
theorem dX9_brings_23 : decode cX9_brings 23 = .ok (.if_icmp .ne 7, 3) := by decide +kernel
theorem dX9_brings_26 : decode cX9_brings 26 = .ok (.iconst 0, 1) := by decide +kernel
theorem dX9_brings_27 : decode cX9_brings 27 = .ok (.goto 5, 3) := by decide +kernel
theorem dX9_brings_30 : decode cX9_brings 30 = .ok (.ldc 242, 2) := by decide +kernel
theorem dX9_brings_32 : decode cX9_brings 32 = .ok (.ireturn, 1) := by decide +kernel
theorem dX9_brings_33 : decode cX9_brings 33 = .ok (.iload_n 1, 1) := by decide +kernel
theorem dX9_brings_34 : decode cX9_brings 34 = .ok (.bipush 6, 2) := by decide +kernel
theorem dX9_brings_36 : decode cX9_brings 36 = .ok (.if_icmp .ge 27, 3) := by decide +kernel
theorem dX9_brings_39 : decode cX9_brings 39 = .ok (.aload_n 0, 1) := by decide +kernel
