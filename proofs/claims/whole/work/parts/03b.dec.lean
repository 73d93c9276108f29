theorem dX2_asLook_0 : decode cX2_asLook 0 = .ok (.aload_n 0, 1) := by decide +kernel
theorem dX2_asLook_1 : decode cX2_asLook 1 = .ok (.dup, 1) := by decide +kernel
theorem dX2_asLook_2 : decode cX2_asLook 2 = .ok (.getfield 9, 3) := by decide +kernel
theorem dX2_asLook_5 : decode cX2_asLook 5 = .ok (.ldc2_w 54, 3) := by decide +kernel
theorem dX2_asLook_8 : decode cX2_asLook 8 = .ok (.ladd, 1) := by decide +kernel
theorem dX2_asLook_9 : decode cX2_asLook 9 = .ok (.putfield 9, 3) := by decide +kernel
theorem dX2_asLook_12 : decode cX2_asLook 12 = .ok (.aload_n 0, 1) := by decide +kernel
theorem dX2_asLook_13 : decode cX2_asLook 13 = .ok (.iload_n 1, 1) := by decide +kernel
theorem dX2_asLook_14 : decode cX2_asLook 14 = .ok (.iload_n 2, 1) := by decide +kernel
theorem dX2_asLook_15 : decode cX2_asLook 15 = .ok (.invokevirtual 26, 3) := by decide +kernel
theorem dX2_asLook_18 : decode cX2_asLook 18 = .ok (.aload_n 0, 1) := by decide +kernel
theorem dX2_asLook_19 : decode cX2_asLook 19 = .ok (.getfield 15, 3) := by decide +kernel
theorem dX2_asLook_22 : decode cX2_asLook 22 = .ok (.aload_n 0, 1) := by decide +kernel
theorem dX2_asLook_23 : decode cX2_asLook 23 = .ok (.getfield 15, 3) := by decide +kernel
theorem dX2_asLook_26 : decode cX2_asLook 26 = .ok (.iload_n 2, 1) := by decide +kernel
theorem dX2_asLook_27 : decode cX2_asLook 27 = .ok (.invokevirtual 56, 3) := by decide +kernel
theorem dX2_asLook_30 : decode cX2_asLook 30 = .ok (.bipush 10, 2) := by decide +kernel
theorem dX2_asLook_32 : decode cX2_asLook 32 = .ok (.iload_n 1, 1) := by decide +kernel
theorem dX2_asLook_33 : decode cX2_asLook 33 = .ok (.iload_n 2, 1) := by decide +kernel
theorem dX2_asLook_34 : decode cX2_asLook 34 = .ok (.invokestatic 44, 3) := by decide +kernel
theorem dX2_asLook_37 : decode cX2_asLook 37 = .ok (.iadd, 1) := by decide +kernel
theorem dX2_asLook_38 : decode cX2_asLook 38 = .ok (.invokevirtual 60, 3) := by decide +kernel
theorem dX2_asLook_41 : decode cX2_asLook 41 = .ok (.iadd, 1) := by decide +kernel
theorem dX2_asLook_42 : decode cX2_asLook 42 = .ok (.ireturn, 1) := by decide +kernel
theorem dX2_asSave_0 : decode cX2_asSave 0 = .ok (.aload_n 0, 1) := by decide +kernel
theorem dX2_asSave_1 : decode cX2_asSave 1 = .ok (.dup, 1) := by decide +kernel
theorem dX2_asSave_2 : decode cX2_asSave 2 = .ok (.getfield 9, 3) := by decide +kernel
theorem dX2_asSave_5 : decode cX2_asSave 5 = .ok (.ldc2_w 63, 3) := by decide +kernel
theorem dX2_asSave_8 : decode cX2_asSave 8 = .ok (.ladd, 1) := by decide +kernel
theorem dX2_asSave_9 : decode cX2_asSave 9 = .ok (.putfield 9, 3) := by decide +kernel
theorem dX2_asSave_12 : decode cX2_asSave 12 = .ok (.aload_n 0, 1) := by decide +kernel
theorem dX2_asSave_13 : decode cX2_asSave 13 = .ok (.iload_n 1, 1) := by decide +kernel
theorem dX2_asSave_14 : decode cX2_asSave 14 = .ok (.iload_n 2, 1) := by decide +kernel
theorem dX2_asSave_15 : decode cX2_asSave 15 = .ok (.invokevirtual 19, 3) := by decide +kernel
theorem dX2_asSave_18 : decode cX2_asSave 18 = .ok (.iload_n 2, 1) := by decide +kernel
theorem dX2_asSave_19 : decode cX2_asSave 19 = .ok (.isub, 1) := by decide +kernel
theorem dX2_asSave_20 : decode cX2_asSave 20 = .ok (.ireturn, 1) := by decide +kernel
theorem dX2_asWorst_0 : decode cX2_asWorst 0 = .ok (.aload_n 0, 1) := by decide +kernel
theorem dX2_asWorst_1 : decode cX2_asWorst 1 = .ok (.dup, 1) := by decide +kernel
theorem dX2_asWorst_2 : decode cX2_asWorst 2 = .ok (.getfield 9, 3) := by decide +kernel
theorem dX2_asWorst_5 : decode cX2_asWorst 5 = .ok (.ldc2_w 65, 3) := by decide +kernel
theorem dX2_asWorst_8 : decode cX2_asWorst 8 = .ok (.ladd, 1) := by decide +kernel
theorem dX2_asWorst_9 : decode cX2_asWorst 9 = .ok (.putfield 9, 3) := by decide +kernel
theorem dX2_asWorst_12 : decode cX2_asWorst 12 = .ok (.iconst 3, 1) := by decide +kernel
theorem dX2_asWorst_13 : decode cX2_asWorst 13 = .ok (.aload_n 0, 1) := by decide +kernel
theorem dX2_asWorst_14 : decode cX2_asWorst 14 = .ok (.iload_n 1, 1) := by decide +kernel
theorem dX2_asWorst_15 : decode cX2_asWorst 15 = .ok (.iload_n 2, 1) := by decide +kernel
theorem dX2_asWorst_16 : decode cX2_asWorst 16 = .ok (.invokevirtual 23, 3) := by decide +kernel
theorem dX2_asWorst_19 : decode cX2_asWorst 19 = .ok (.imul, 1) := by decide +kernel
theorem dX2_asWorst_20 : decode cX2_asWorst 20 = .ok (.ireturn, 1) := by decide +kernel
theorem dX3_init_0 : decode cX3_init 0 = .ok (.aload_n 0, 1) := by decide +kernel
theorem dX3_init_1 : decode cX3_init 1 = .ok (.invokespecial 3, 3) := by decide +kernel
theorem dX3_init_4 : decode cX3_init 4 = .ok (.aload_n 0, 1) := by decide +kernel
theorem dX3_init_5 : decode cX3_init 5 = .ok (.iconst 0, 1) := by decide +kernel
theorem dX3_init_6 : decode cX3_init 6 = .ok (.putfield 9, 3) := by decide +kernel
theorem dX3_init_9 : decode cX3_init 9 = .ok (.aload_n 0, 1) := by decide +kernel
theorem dX3_init_10 : decode cX3_init 10 = .ok (.iconst 0, 1) := by decide +kernel
theorem dX3_init_11 : decode cX3_init 11 = .ok (.putfield 15, 3) := by decide +kernel
theorem dX3_init_14 : decode cX3_init 14 = .ok (.aload_n 0, 1) := by decide +kernel
theorem dX3_init_15 : decode cX3_init 15 = .ok (.bipush 48, 2) := by decide +kernel
theorem dX3_init_17 : decode cX3_init 17 = .ok (.newarray .int, 2) := by decide +kernel
theorem dX3_init_19 : decode cX3_init 19 = .ok (.putfield 18, 3) := by decide +kernel
theorem dX3_init_22 : decode cX3_init 22 = .ok (.aload_n 0, 1) := by decide +kernel
theorem dX3_init_23 : decode cX3_init 23 = .ok (.iconst 1, 1) := by decide +kernel
theorem dX3_init_24 : decode cX3_init 24 = .ok (.putfield 22, 3) := by decide +kernel
theorem dX3_init_27 : decode cX3_init 27 = .ok (.aload_n 0, 1) := by decide +kernel
theorem dX3_init_28 : decode cX3_init 28 = .ok (.lconst 1, 1) := by decide +kernel
theorem dX3_init_29 : decode cX3_init 29 = .ok (.putfield 25, 3) := by decide +kernel
theorem dX3_init_32 : decode cX3_init 32 = .ok (.aload_n 0, 1) := by decide +kernel
theorem dX3_init_33 : decode cX3_init 33 = .ok (.iconst 0, 1) := by decide +kernel
theorem dX3_init_34 : decode cX3_init 34 = .ok (.newarray .long, 2) := by decide +kernel
theorem dX3_init_36 : decode cX3_init 36 = .ok (.putfield 29, 3) := by decide +kernel
theorem dX3_init_39 : decode cX3_init 39 = .ok (.aload_n 0, 1) := by decide +kernel
theorem dX3_init_40 : decode cX3_init 40 = .ok (.iconst 0, 1) := by decide +kernel
theorem dX3_init_41 : decode cX3_init 41 = .ok (.newarray .long, 2) := by decide +kernel
theorem dX3_init_43 : decode cX3_init 43 = .ok (.putfield 33, 3) := by decide +kernel
theorem dX3_init_46 : decode cX3_init 46 = .ok (.aload_n 0, 1) := by decide +kernel
theorem dX3_init_47 : decode cX3_init 47 = .ok (.iconst 0, 1) := by decide +kernel
theorem dX3_init_48 : decode cX3_init 48 = .ok (.newarray .long, 2) := by decide +kernel
theorem dX3_init_50 : decode cX3_init 50 = .ok (.putfield 36, 3) := by decide +kernel
theorem dX3_init_53 : decode cX3_init 53 = .ok (.aload_n 0, 1) := by decide +kernel
theorem dX3_init_54 : decode cX3_init 54 = .ok (.aload_n 1, 1) := by decide +kernel
theorem dX3_init_55 : decode cX3_init 55 = .ok (.putfield 39, 3) := by decide +kernel
theorem dX3_init_58 : decode cX3_init 58 = .ok (.return_, 1) := by decide +kernel
theorem dX3_forgetAll_0 : decode cX3_forgetAll 0 = .ok (.aload_n 0, 1) := by decide +kernel
theorem dX3_forgetAll_1 : decode cX3_forgetAll 1 = .ok (.dup, 1) := by decide +kernel
theorem dX3_forgetAll_2 : decode cX3_forgetAll 2 = .ok (.getfield 25, 3) := by decide +kernel
theorem dX3_forgetAll_5 : decode cX3_forgetAll 5 = .ok (.lconst 1, 1) := by decide +kernel
theorem dX3_forgetAll_6 : decode cX3_forgetAll 6 = .ok (.ladd, 1) := by decide +kernel
theorem dX3_forgetAll_7 : decode cX3_forgetAll 7 = .ok (.putfield 25, 3) := by decide +kernel
theorem dX3_forgetAll_10 : decode cX3_forgetAll 10 = .ok (.aload_n 0, 1) := by decide +kernel
theorem dX3_forgetAll_11 : decode cX3_forgetAll 11 = .ok (.iconst 1, 1) := by decide +kernel
theorem dX3_forgetAll_12 : decode cX3_forgetAll 12 = .ok (.putfield 22, 3) := by decide +kernel
theorem dX3_forgetAll_15 : decode cX3_forgetAll 15 = .ok (.iconst 0, 1) := by decide +kernel
theorem dX3_forgetAll_16 : decode cX3_forgetAll 16 = .ok (.istore_n 1, 1) := by decide +kernel
theorem dX3_forgetAll_17 : decode cX3_forgetAll 17 = .ok (.iload_n 1, 1) := by decide +kernel
theorem dX3_forgetAll_18 : decode cX3_forgetAll 18 = .ok (.iconst 3, 1) := by decide +kernel
theorem dX3_forgetAll_19 : decode cX3_forgetAll 19 = .ok (.if_icmp .ge 39, 3) := by decide +kernel
theorem dX3_forgetAll_22 : decode cX3_forgetAll 22 = .ok (.aload_n 0, 1) := by decide +kernel
theorem dX3_forgetAll_23 : decode cX3_forgetAll 23 = .ok (.iload_n 1, 1) := by decide +kernel
theorem dX3_forgetAll_24 : decode cX3_forgetAll 24 = .ok (.aload_n 0, 1) := by decide +kernel
theorem dX3_forgetAll_25 : decode cX3_forgetAll 25 = .ok (.getfield 22, 3) := by decide +kernel
theorem dX3_forgetAll_28 : decode cX3_forgetAll 28 = .ok (.invokevirtual 43, 3) := by decide +kernel
theorem dX3_forgetAll_31 : decode cX3_forgetAll 31 = .ok (.aload_n 0, 1) := by decide +kernel
theorem dX3_forgetAll_32 : decode cX3_forgetAll 32 = .ok (.dup, 1) := by decide +kernel
theorem dX3_forgetAll_33 : decode cX3_forgetAll 33 = .ok (.getfield 22, 3) := by decide +kernel
theorem dX3_forgetAll_36 : decode cX3_forgetAll 36 = .ok (.iconst 4, 1) := by decide +kernel
theorem dX3_forgetAll_37 : decode cX3_forgetAll 37 = .ok (.aload_n 0, 1) := by decide +kernel
theorem dX3_forgetAll_38 : decode cX3_forgetAll 38 = .ok (.getfield 39, 3) := by decide +kernel
theorem dX3_forgetAll_41 : decode cX3_forgetAll 41 = .ok (.iload_n 1, 1) := by decide +kernel
theorem dX3_forgetAll_42 : decode cX3_forgetAll 42 = .ok (.invokevirtual 47, 3) := by decide +kernel
theorem dX3_forgetAll_45 : decode cX3_forgetAll 45 = .ok (.imul, 1) := by decide +kernel
theorem dX3_forgetAll_46 : decode cX3_forgetAll 46 = .ok (.iconst 1, 1) := by decide +kernel
theorem dX3_forgetAll_47 : decode cX3_forgetAll 47 = .ok (.iadd, 1) := by decide +kernel
theorem dX3_forgetAll_48 : decode cX3_forgetAll 48 = .ok (.imul, 1) := by decide +kernel
theorem dX3_forgetAll_49 : decode cX3_forgetAll 49 = .ok (.putfield 22, 3) := by decide +kernel
theorem dX3_forgetAll_52 : decode cX3_forgetAll 52 = .ok (.iinc 1 1, 3) := by decide +kernel
theorem dX3_forgetAll_55 : decode cX3_forgetAll 55 = .ok (.goto (-38), 3) := by decide +kernel
theorem dX3_forgetAll_58 : decode cX3_forgetAll 58 = .ok (.return_, 1) := by decide +kernel
theorem dX3_tellShares_0 : decode cX3_tellShares 0 = .ok (.aload_n 0, 1) := by decide +kernel
theorem dX3_tellShares_1 : decode cX3_tellShares 1 = .ok (.getfield 39, 3) := by decide +kernel
theorem dX3_tellShares_4 : decode cX3_tellShares 4 = .ok (.iload_n 1, 1) := by decide +kernel
theorem dX3_tellShares_5 : decode cX3_tellShares 5 = .ok (.invokevirtual 47, 3) := by decide +kernel
theorem dX3_tellShares_8 : decode cX3_tellShares 8 = .ok (.istore_n 3, 1) := by decide +kernel
theorem dX3_tellShares_9 : decode cX3_tellShares 9 = .ok (.iconst 0, 1) := by decide +kernel
theorem dX3_tellShares_10 : decode cX3_tellShares 10 = .ok (.istore 4, 2) := by decide +kernel
theorem dX3_tellShares_12 : decode cX3_tellShares 12 = .ok (.iload 4, 2) := by decide +kernel
theorem dX3_tellShares_14 : decode cX3_tellShares 14 = .ok (.bipush 16, 2) := by decide +kernel
theorem dX3_tellShares_16 : decode cX3_tellShares 16 = .ok (.if_icmp .ge 70, 3) := by decide +kernel
theorem dX3_tellShares_19 : decode cX3_tellShares 19 = .ok (.iload_n 1, 1) := by decide +kernel
theorem dX3_tellShares_20 : decode cX3_tellShares 20 = .ok (.ifCond .lt 66, 3) := by decide +kernel
theorem dX3_tellShares_23 : decode cX3_tellShares 23 = .ok (.iload_n 1, 1) := by decide +kernel
theorem dX3_tellShares_24 : decode cX3_tellShares 24 = .ok (.iconst 3, 1) := by decide +kernel
theorem dX3_tellShares_25 : decode cX3_tellShares 25 = .ok (.if_icmp .ge 61, 3) := by decide +kernel
theorem dX3_tellShares_28 : decode cX3_tellShares 28 = .ok (.iload 4, 2) := by decide +kernel
theorem dX3_tellShares_30 : decode cX3_tellShares 30 = .ok (.iconst 0, 1) := by decide +kernel
theorem dX3_tellShares_31 : decode cX3_tellShares 31 = .ok (.invokestatic 53, 3) := by decide +kernel
theorem dX3_tellShares_34 : decode cX3_tellShares 34 = .ok (.istore 5, 2) := by decide +kernel
theorem dX3_tellShares_36 : decode cX3_tellShares 36 = .ok (.iload 5, 2) := by decide +kernel
theorem dX3_tellShares_38 : decode cX3_tellShares 38 = .ok (.ifCond .eq 9, 3) := by decide +kernel
theorem dX3_tellShares_41 : decode cX3_tellShares 41 = .ok (.iload 5, 2) := by decide +kernel
theorem dX3_tellShares_43 : decode cX3_tellShares 43 = .ok (.iload_n 3, 1) := by decide +kernel
theorem dX3_tellShares_44 : decode cX3_tellShares 44 = .ok (.if_icmp .le 7, 3) := by decide +kernel
theorem dX3_tellShares_47 : decode cX3_tellShares 47 = .ok (.iconst 0, 1) := by decide +kernel
theorem dX3_tellShares_48 : decode cX3_tellShares 48 = .ok (.goto 14, 3) := by decide +kernel
theorem dX3_tellShares_51 : decode cX3_tellShares 51 = .ok (.iload_n 3, 1) := by decide +kernel
theorem dX3_tellShares_52 : decode cX3_tellShares 52 = .ok (.iload 4, 2) := by decide +kernel
theorem dX3_tellShares_54 : decode cX3_tellShares 54 = .ok (.iconst 0, 1) := by decide +kernel
theorem dX3_tellShares_55 : decode cX3_tellShares 55 = .ok (.invokestatic 57, 3) := by decide +kernel
theorem dX3_tellShares_58 : decode cX3_tellShares 58 = .ok (.imul, 1) := by decide +kernel
theorem dX3_tellShares_59 : decode cX3_tellShares 59 = .ok (.iload 5, 2) := by decide +kernel
theorem dX3_tellShares_61 : decode cX3_tellShares 61 = .ok (.iadd, 1) := by decide +kernel
theorem dX3_tellShares_62 : decode cX3_tellShares 62 = .ok (.istore 6, 2) := by decide +kernel
theorem dX3_tellShares_64 : decode cX3_tellShares 64 = .ok (.aload_n 0, 1) := by decide +kernel
theorem dX3_tellShares_65 : decode cX3_tellShares 65 = .ok (.getfield 18, 3) := by decide +kernel
theorem dX3_tellShares_68 : decode cX3_tellShares 68 = .ok (.iload_n 1, 1) := by decide +kernel
theorem dX3_tellShares_69 : decode cX3_tellShares 69 = .ok (.bipush 16, 2) := by decide +kernel
theorem dX3_tellShares_71 : decode cX3_tellShares 71 = .ok (.imul, 1) := by decide +kernel
theorem dX3_tellShares_72 : decode cX3_tellShares 72 = .ok (.iload 4, 2) := by decide +kernel
theorem dX3_tellShares_74 : decode cX3_tellShares 74 = .ok (.iadd, 1) := by decide +kernel
theorem dX3_tellShares_75 : decode cX3_tellShares 75 = .ok (.iload_n 2, 1) := by decide +kernel
theorem dX3_tellShares_76 : decode cX3_tellShares 76 = .ok (.iload 6, 2) := by decide +kernel
theorem dX3_tellShares_78 : decode cX3_tellShares 78 = .ok (.imul, 1) := by decide +kernel
theorem dX3_tellShares_79 : decode cX3_tellShares 79 = .ok (.iastore, 1) := by decide +kernel
theorem dX3_tellShares_80 : decode cX3_tellShares 80 = .ok (.iinc 4 1, 3) := by decide +kernel
theorem dX3_tellShares_83 : decode cX3_tellShares 83 = .ok (.goto (-71), 3) := by decide +kernel
theorem dX3_tellShares_86 : decode cX3_tellShares 86 = .ok (.return_, 1) := by decide +kernel
theorem dX3_shareOf_0 : decode cX3_shareOf 0 = .ok (.iload_n 2, 1) := by decide +kernel
theorem dX3_shareOf_1 : decode cX3_shareOf 1 = .ok (.bipush 16, 2) := by decide +kernel
theorem dX3_shareOf_3 : decode cX3_shareOf 3 = .ok (.imul, 1) := by decide +kernel
theorem dX3_shareOf_4 : decode cX3_shareOf 4 = .ok (.iload_n 1, 1) := by decide +kernel
theorem dX3_shareOf_5 : decode cX3_shareOf 5 = .ok (.iconst 4, 1) := by decide +kernel
theorem dX3_shareOf_6 : decode cX3_shareOf 6 = .ok (.iload_n 2, 1) := by decide +kernel
theorem dX3_shareOf_7 : decode cX3_shareOf 7 = .ok (.imul, 1) := by decide +kernel
theorem dX3_shareOf_8 : decode cX3_shareOf 8 = .ok (.ishr, 1) := by decide +kernel
theorem dX3_shareOf_9 : decode cX3_shareOf 9 = .ok (.bipush 15, 2) := by decide +kernel
theorem dX3_shareOf_11 : decode cX3_shareOf 11 = .ok (.iand, 1) := by decide +kernel
theorem dX3_shareOf_12 : decode cX3_shareOf 12 = .ok (.iadd, 1) := by decide +kernel
theorem dX3_shareOf_13 : decode cX3_shareOf 13 = .ok (.istore_n 3, 1) := by decide +kernel
theorem dX3_shareOf_14 : decode cX3_shareOf 14 = .ok (.iload_n 3, 1) := by decide +kernel
theorem dX3_shareOf_15 : decode cX3_shareOf 15 = .ok (.ifCond .lt 21, 3) := by decide +kernel
theorem dX3_shareOf_18 : decode cX3_shareOf 18 = .ok (.iload_n 3, 1) := by decide +kernel
theorem dX3_shareOf_19 : decode cX3_shareOf 19 = .ok (.aload_n 0, 1) := by decide +kernel
theorem dX3_shareOf_20 : decode cX3_shareOf 20 = .ok (.getfield 18, 3) := by decide +kernel
theorem dX3_shareOf_23 : decode cX3_shareOf 23 = .ok (.arraylength, 1) := by decide +kernel
theorem dX3_shareOf_24 : decode cX3_shareOf 24 = .ok (.if_icmp .ge 12, 3) := by decide +kernel
theorem dX3_shareOf_27 : decode cX3_shareOf 27 = .ok (.aload_n 0, 1) := by decide +kernel
theorem dX3_shareOf_28 : decode cX3_shareOf 28 = .ok (.getfield 18, 3) := by decide +kernel
theorem dX3_shareOf_31 : decode cX3_shareOf 31 = .ok (.iload_n 3, 1) := by decide +kernel
theorem dX3_shareOf_32 : decode cX3_shareOf 32 = .ok (.iaload, 1) := by decide +kernel
theorem dX3_shareOf_33 : decode cX3_shareOf 33 = .ok (.goto 4, 3) := by decide +kernel
theorem dX3_shareOf_36 : decode cX3_shareOf 36 = .ok (.iconst 0, 1) := by decide +kernel
theorem dX3_shareOf_37 : decode cX3_shareOf 37 = .ok (.ireturn, 1) := by decide +kernel
theorem dX3_lookBy_0 : decode cX3_lookBy 0 = .ok (.iload_n 1, 1) := by decide +kernel
theorem dX3_lookBy_1 : decode cX3_lookBy 1 = .ok (.aload_n 0, 1) := by decide +kernel
theorem dX3_lookBy_2 : decode cX3_lookBy 2 = .ok (.getfield 9, 3) := by decide +kernel
theorem dX3_lookBy_5 : decode cX3_lookBy 5 = .ok (.if_icmp .ne 11, 3) := by decide +kernel
theorem dX3_lookBy_8 : decode cX3_lookBy 8 = .ok (.iload_n 2, 1) := by decide +kernel
theorem dX3_lookBy_9 : decode cX3_lookBy 9 = .ok (.aload_n 0, 1) := by decide +kernel
theorem dX3_lookBy_10 : decode cX3_lookBy 10 = .ok (.getfield 15, 3) := by decide +kernel
theorem dX3_lookBy_13 : decode cX3_lookBy 13 = .ok (.if_icmp .eq 13, 3) := by decide +kernel
theorem dX3_lookBy_16 : decode cX3_lookBy 16 = .ok (.aload_n 0, 1) := by decide +kernel
theorem dX3_lookBy_17 : decode cX3_lookBy 17 = .ok (.dup, 1) := by decide +kernel
theorem dX3_lookBy_18 : decode cX3_lookBy 18 = .ok (.getfield 25, 3) := by decide +kernel
theorem dX3_lookBy_21 : decode cX3_lookBy 21 = .ok (.lconst 1, 1) := by decide +kernel
theorem dX3_lookBy_22 : decode cX3_lookBy 22 = .ok (.ladd, 1) := by decide +kernel
theorem dX3_lookBy_23 : decode cX3_lookBy 23 = .ok (.putfield 25, 3) := by decide +kernel
theorem dX3_lookBy_26 : decode cX3_lookBy 26 = .ok (.aload_n 0, 1) := by decide +kernel
theorem dX3_lookBy_27 : decode cX3_lookBy 27 = .ok (.iload_n 1, 1) := by decide +kernel
theorem dX3_lookBy_28 : decode cX3_lookBy 28 = .ok (.putfield 9, 3) := by decide +kernel
theorem dX3_lookBy_31 : decode cX3_lookBy 31 = .ok (.aload_n 0, 1) := by decide +kernel
theorem dX3_lookBy_32 : decode cX3_lookBy 32 = .ok (.iload_n 2, 1) := by decide +kernel
theorem dX3_lookBy_33 : decode cX3_lookBy 33 = .ok (.putfield 15, 3) := by decide +kernel
theorem dX3_lookBy_36 : decode cX3_lookBy 36 = .ok (.bipush 8, 2) := by decide +kernel
theorem dX3_lookBy_38 : decode cX3_lookBy 38 = .ok (.aload_n 0, 1) := by decide +kernel
theorem dX3_lookBy_39 : decode cX3_lookBy 39 = .ok (.getfield 22, 3) := by decide +kernel
theorem dX3_lookBy_42 : decode cX3_lookBy 42 = .ok (.imul, 1) := by decide +kernel
theorem dX3_lookBy_43 : decode cX3_lookBy 43 = .ok (.istore_n 3, 1) := by decide +kernel
theorem dX3_lookBy_44 : decode cX3_lookBy 44 = .ok (.iload_n 3, 1) := by decide +kernel
theorem dX3_lookBy_45 : decode cX3_lookBy 45 = .ok (.aload_n 0, 1) := by decide +kernel
theorem dX3_lookBy_46 : decode cX3_lookBy 46 = .ok (.getfield 29, 3) := by decide +kernel
theorem dX3_lookBy_49 : decode cX3_lookBy 49 = .ok (.arraylength, 1) := by decide +kernel
theorem dX3_lookBy_50 : decode cX3_lookBy 50 = .ok (.if_icmp .le 24, 3) := by decide +kernel
theorem dX3_lookBy_53 : decode cX3_lookBy 53 = .ok (.aload_n 0, 1) := by decide +kernel
theorem dX3_lookBy_54 : decode cX3_lookBy 54 = .ok (.iload_n 3, 1) := by decide +kernel
theorem dX3_lookBy_55 : decode cX3_lookBy 55 = .ok (.newarray .long, 2) := by decide +kernel
theorem dX3_lookBy_57 : decode cX3_lookBy 57 = .ok (.putfield 29, 3) := by decide +kernel
theorem dX3_lookBy_60 : decode cX3_lookBy 60 = .ok (.aload_n 0, 1) := by decide +kernel
theorem dX3_lookBy_61 : decode cX3_lookBy 61 = .ok (.iload_n 3, 1) := by decide +kernel
theorem dX3_lookBy_62 : decode cX3_lookBy 62 = .ok (.newarray .long, 2) := by decide +kernel
theorem dX3_lookBy_64 : decode cX3_lookBy 64 = .ok (.putfield 33, 3) := by decide +kernel
theorem dX3_lookBy_67 : decode cX3_lookBy 67 = .ok (.aload_n 0, 1) := by decide +kernel
theorem dX3_lookBy_68 : decode cX3_lookBy 68 = .ok (.iload_n 3, 1) := by decide +kernel
theorem dX3_lookBy_69 : decode cX3_lookBy 69 = .ok (.newarray .long, 2) := by decide +kernel
theorem dX3_lookBy_71 : decode cX3_lookBy 71 = .ok (.putfield 36, 3) := by decide +kernel
theorem dX3_lookBy_74 : decode cX3_lookBy 74 = .ok (.return_, 1) := by decide +kernel
theorem dX3_stamped_0 : decode cX3_stamped 0 = .ok (.aload_n 0, 1) := by decide +kernel
theorem dX3_stamped_1 : decode cX3_stamped 1 = .ok (.getfield 25, 3) := by decide +kernel
theorem dX3_stamped_4 : decode cX3_stamped 4 = .ok (.bipush 32, 2) := by decide +kernel
theorem dX3_stamped_6 : decode cX3_stamped 6 = .ok (.lshl, 1) := by decide +kernel
theorem dX3_stamped_7 : decode cX3_stamped 7 = .ok (.iload_n 1, 1) := by decide +kernel
theorem dX3_stamped_8 : decode cX3_stamped 8 = .ok (.i2l, 1) := by decide +kernel
theorem dX3_stamped_9 : decode cX3_stamped 9 = .ok (.lor, 1) := by decide +kernel
theorem dX3_stamped_10 : decode cX3_stamped 10 = .ok (.lreturn, 1) := by decide +kernel
theorem dX3_isVoid_0 : decode cX3_isVoid 0 = .ok (.lload_n 1, 1) := by decide +kernel
theorem dX3_isVoid_1 : decode cX3_isVoid 1 = .ok (.bipush 32, 2) := by decide +kernel
theorem dX3_isVoid_3 : decode cX3_isVoid 3 = .ok (.lshr, 1) := by decide +kernel
theorem dX3_isVoid_4 : decode cX3_isVoid 4 = .ok (.aload_n 0, 1) := by decide +kernel
theorem dX3_isVoid_5 : decode cX3_isVoid 5 = .ok (.getfield 25, 3) := by decide +kernel
theorem dX3_isVoid_8 : decode cX3_isVoid 8 = .ok (.lcmp, 1) := by decide +kernel
theorem dX3_isVoid_9 : decode cX3_isVoid 9 = .ok (.ifCond .eq 7, 3) := by decide +kernel
theorem dX3_isVoid_12 : decode cX3_isVoid 12 = .ok (.iconst 1, 1) := by decide +kernel
theorem dX3_isVoid_13 : decode cX3_isVoid 13 = .ok (.goto 4, 3) := by decide +kernel
theorem dX3_isVoid_16 : decode cX3_isVoid 16 = .ok (.iconst 0, 1) := by decide +kernel
theorem dX3_isVoid_17 : decode cX3_isVoid 17 = .ok (.ireturn, 1) := by decide +kernel
theorem dX3_valueAhead_0 : decode cX3_valueAhead 0 = .ok (.aload_n 0, 1) := by decide +kernel
theorem dX3_valueAhead_1 : decode cX3_valueAhead 1 = .ok (.iload_n 1, 1) := by decide +kernel
theorem dX3_valueAhead_2 : decode cX3_valueAhead 2 = .ok (.iload_n 2, 1) := by decide +kernel
theorem dX3_valueAhead_3 : decode cX3_valueAhead 3 = .ok (.invokevirtual 60, 3) := by decide +kernel
theorem dX3_valueAhead_6 : decode cX3_valueAhead 6 = .ok (.iconst 3, 1) := by decide +kernel
theorem dX3_valueAhead_7 : decode cX3_valueAhead 7 = .ok (.ishr, 1) := by decide +kernel
theorem dX3_valueAhead_8 : decode cX3_valueAhead 8 = .ok (.ireturn, 1) := by decide +kernel
theorem dX3_leftAhead_0 : decode cX3_leftAhead 0 = .ok (.iload_n 1, 1) := by decide +kernel
theorem dX3_leftAhead_1 : decode cX3_leftAhead 1 = .ok (.aload_n 0, 1) := by decide +kernel
theorem dX3_leftAhead_2 : decode cX3_leftAhead 2 = .ok (.getfield 39, 3) := by decide +kernel
theorem dX3_leftAhead_5 : decode cX3_leftAhead 5 = .ok (.getfield 63, 3) := by decide +kernel
theorem dX3_leftAhead_8 : decode cX3_leftAhead 8 = .ok (.if_icmp .lt 12, 3) := by decide +kernel
theorem dX3_leftAhead_11 : decode cX3_leftAhead 11 = .ok (.sipush 1000, 3) := by decide +kernel
theorem dX3_leftAhead_14 : decode cX3_leftAhead 14 = .ok (.iload_n 2, 1) := by decide +kernel
theorem dX3_leftAhead_15 : decode cX3_leftAhead 15 = .ok (.invokestatic 66, 3) := by decide +kernel
theorem dX3_leftAhead_18 : decode cX3_leftAhead 18 = .ok (.imul, 1) := by decide +kernel
theorem dX3_leftAhead_19 : decode cX3_leftAhead 19 = .ok (.ireturn, 1) := by decide +kernel
theorem dX3_leftAhead_20 : decode cX3_leftAhead 20 = .ok (.aload_n 0, 1) := by decide +kernel
theorem dX3_leftAhead_21 : decode cX3_leftAhead 21 = .ok (.iload_n 1, 1) := by decide +kernel
theorem dX3_leftAhead_22 : decode cX3_leftAhead 22 = .ok (.aload_n 0, 1) := by decide +kernel
theorem dX3_leftAhead_23 : decode cX3_leftAhead 23 = .ok (.getfield 39, 3) := by decide +kernel
theorem dX3_leftAhead_26 : decode cX3_leftAhead 26 = .ok (.iload_n 2, 1) := by decide +kernel
theorem dX3_leftAhead_27 : decode cX3_leftAhead 27 = .ok (.aload_n 0, 1) := by decide +kernel
theorem dX3_leftAhead_28 : decode cX3_leftAhead 28 = .ok (.iload_n 1, 1) := by decide +kernel
theorem dX3_leftAhead_29 : decode cX3_leftAhead 29 = .ok (.iload_n 2, 1) := by decide +kernel
theorem dX3_leftAhead_30 : decode cX3_leftAhead 30 = .ok (.invokevirtual 69, 3) := by decide +kernel
theorem dX3_leftAhead_33 : decode cX3_leftAhead 33 = .ok (.invokevirtual 72, 3) := by decide +kernel
theorem dX3_leftAhead_36 : decode cX3_leftAhead 36 = .ok (.invokevirtual 75, 3) := by decide +kernel
theorem dX3_leftAhead_39 : decode cX3_leftAhead 39 = .ok (.ireturn, 1) := by decide +kernel
theorem dX3_choiceAt_0 : decode cX3_choiceAt 0 = .ok (.aload_n 0, 1) := by decide +kernel
theorem dX3_choiceAt_1 : decode cX3_choiceAt 1 = .ok (.iload_n 1, 1) := by decide +kernel
theorem dX3_choiceAt_2 : decode cX3_choiceAt 2 = .ok (.iload_n 2, 1) := by decide +kernel
theorem dX3_choiceAt_3 : decode cX3_choiceAt 3 = .ok (.invokevirtual 60, 3) := by decide +kernel
theorem dX3_choiceAt_6 : decode cX3_choiceAt 6 = .ok (.bipush 7, 2) := by decide +kernel
theorem dX3_choiceAt_8 : decode cX3_choiceAt 8 = .ok (.iand, 1) := by decide +kernel
theorem dX3_choiceAt_9 : decode cX3_choiceAt 9 = .ok (.ireturn, 1) := by decide +kernel
theorem dX3_valueBehind_0 : decode cX3_valueBehind 0 = .ok (.aload_n 0, 1) := by decide +kernel
theorem dX3_valueBehind_1 : decode cX3_valueBehind 1 = .ok (.iload_n 1, 1) := by decide +kernel
theorem dX3_valueBehind_2 : decode cX3_valueBehind 2 = .ok (.iload_n 2, 1) := by decide +kernel
theorem dX3_valueBehind_3 : decode cX3_valueBehind 3 = .ok (.invokevirtual 78, 3) := by decide +kernel
theorem dX3_valueBehind_6 : decode cX3_valueBehind 6 = .ok (.istore_n 3, 1) := by decide +kernel
theorem dX3_valueBehind_7 : decode cX3_valueBehind 7 = .ok (.iload_n 3, 1) := by decide +kernel
theorem dX3_valueBehind_8 : decode cX3_valueBehind 8 = .ok (.ifCond .ge 5, 3) := by decide +kernel
theorem dX3_valueBehind_11 : decode cX3_valueBehind 11 = .ok (.iconst 0, 1) := by decide +kernel
theorem dX3_valueBehind_12 : decode cX3_valueBehind 12 = .ok (.ireturn, 1) := by decide +kernel
theorem dX3_valueBehind_13 : decode cX3_valueBehind 13 = .ok (.aload_n 0, 1) := by decide +kernel
theorem dX3_valueBehind_14 : decode cX3_valueBehind 14 = .ok (.aload_n 0, 1) := by decide +kernel
theorem dX3_valueBehind_15 : decode cX3_valueBehind 15 = .ok (.getfield 33, 3) := by decide +kernel
theorem dX3_valueBehind_18 : decode cX3_valueBehind 18 = .ok (.iload_n 3, 1) := by decide +kernel
theorem dX3_valueBehind_19 : decode cX3_valueBehind 19 = .ok (.laload, 1) := by decide +kernel
theorem dX3_valueBehind_20 : decode cX3_valueBehind 20 = .ok (.invokevirtual 81, 3) := by decide +kernel
theorem dX3_valueBehind_23 : decode cX3_valueBehind 23 = .ok (.ifCond .eq 20, 3) := by decide +kernel
theorem dX3_valueBehind_26 : decode cX3_valueBehind 26 = .ok (.aload_n 0, 1) := by decide +kernel
theorem dX3_valueBehind_27 : decode cX3_valueBehind 27 = .ok (.getfield 33, 3) := by decide +kernel
theorem dX3_valueBehind_30 : decode cX3_valueBehind 30 = .ok (.iload_n 3, 1) := by decide +kernel
theorem dX3_valueBehind_31 : decode cX3_valueBehind 31 = .ok (.aload_n 0, 1) := by decide +kernel
theorem dX3_valueBehind_32 : decode cX3_valueBehind 32 = .ok (.aload_n 0, 1) := by decide +kernel
theorem dX3_valueBehind_33 : decode cX3_valueBehind 33 = .ok (.iload_n 1, 1) := by decide +kernel
theorem dX3_valueBehind_34 : decode cX3_valueBehind 34 = .ok (.iload_n 2, 1) := by decide +kernel
theorem dX3_valueBehind_35 : decode cX3_valueBehind 35 = .ok (.iconst 0, 1) := by decide +kernel
theorem dX3_valueBehind_36 : decode cX3_valueBehind 36 = .ok (.invokevirtual 85, 3) := by decide +kernel
theorem dX3_valueBehind_39 : decode cX3_valueBehind 39 = .ok (.invokevirtual 89, 3) := by decide +kernel
theorem dX3_valueBehind_42 : decode cX3_valueBehind 42 = .ok (.lastore, 1) := by decide +kernel
theorem dX3_valueBehind_43 : decode cX3_valueBehind 43 = .ok (.aload_n 0, 1) := by decide +kernel
theorem dX3_valueBehind_44 : decode cX3_valueBehind 44 = .ok (.getfield 33, 3) := by decide +kernel
theorem dX3_valueBehind_47 : decode cX3_valueBehind 47 = .ok (.iload_n 3, 1) := by decide +kernel
theorem dX3_valueBehind_48 : decode cX3_valueBehind 48 = .ok (.laload, 1) := by decide +kernel
theorem dX3_valueBehind_49 : decode cX3_valueBehind 49 = .ok (.l2i, 1) := by decide +kernel
theorem dX3_valueBehind_50 : decode cX3_valueBehind 50 = .ok (.ireturn, 1) := by decide +kernel
theorem dX3_leftBehind_0 : decode cX3_leftBehind 0 = .ok (.aload_n 0, 1) := by decide +kernel
theorem dX3_leftBehind_1 : decode cX3_leftBehind 1 = .ok (.iload_n 1, 1) := by decide +kernel
theorem dX3_leftBehind_2 : decode cX3_leftBehind 2 = .ok (.iload_n 2, 1) := by decide +kernel
theorem dX3_leftBehind_3 : decode cX3_leftBehind 3 = .ok (.invokevirtual 78, 3) := by decide +kernel
theorem dX3_leftBehind_6 : decode cX3_leftBehind 6 = .ok (.istore_n 3, 1) := by decide +kernel
theorem dX3_leftBehind_7 : decode cX3_leftBehind 7 = .ok (.iload_n 3, 1) := by decide +kernel
theorem dX3_leftBehind_8 : decode cX3_leftBehind 8 = .ok (.ifCond .ge 5, 3) := by decide +kernel
theorem dX3_leftBehind_11 : decode cX3_leftBehind 11 = .ok (.iconst 0, 1) := by decide +kernel
theorem dX3_leftBehind_12 : decode cX3_leftBehind 12 = .ok (.ireturn, 1) := by decide +kernel
theorem dX3_leftBehind_13 : decode cX3_leftBehind 13 = .ok (.aload_n 0, 1) := by decide +kernel
theorem dX3_leftBehind_14 : decode cX3_leftBehind 14 = .ok (.aload_n 0, 1) := by decide +kernel
theorem dX3_leftBehind_15 : decode cX3_leftBehind 15 = .ok (.getfield 36, 3) := by decide +kernel
theorem dX3_leftBehind_18 : decode cX3_leftBehind 18 = .ok (.iload_n 3, 1) := by decide +kernel
theorem dX3_leftBehind_19 : decode cX3_leftBehind 19 = .ok (.laload, 1) := by decide +kernel
theorem dX3_leftBehind_20 : decode cX3_leftBehind 20 = .ok (.invokevirtual 81, 3) := by decide +kernel
theorem dX3_leftBehind_23 : decode cX3_leftBehind 23 = .ok (.ifCond .eq 20, 3) := by decide +kernel
theorem dX3_leftBehind_26 : decode cX3_leftBehind 26 = .ok (.aload_n 0, 1) := by decide +kernel
theorem dX3_leftBehind_27 : decode cX3_leftBehind 27 = .ok (.getfield 36, 3) := by decide +kernel
theorem dX3_leftBehind_30 : decode cX3_leftBehind 30 = .ok (.iload_n 3, 1) := by decide +kernel
theorem dX3_leftBehind_31 : decode cX3_leftBehind 31 = .ok (.aload_n 0, 1) := by decide +kernel
theorem dX3_leftBehind_32 : decode cX3_leftBehind 32 = .ok (.aload_n 0, 1) := by decide +kernel
theorem dX3_leftBehind_33 : decode cX3_leftBehind 33 = .ok (.iload_n 1, 1) := by decide +kernel
theorem dX3_leftBehind_34 : decode cX3_leftBehind 34 = .ok (.iload_n 2, 1) := by decide +kernel
theorem dX3_leftBehind_35 : decode cX3_leftBehind 35 = .ok (.iconst 1, 1) := by decide +kernel
theorem dX3_leftBehind_36 : decode cX3_leftBehind 36 = .ok (.invokevirtual 85, 3) := by decide +kernel
theorem dX3_leftBehind_39 : decode cX3_leftBehind 39 = .ok (.invokevirtual 89, 3) := by decide +kernel
theorem dX3_leftBehind_42 : decode cX3_leftBehind 42 = .ok (.lastore, 1) := by decide +kernel
theorem dX3_leftBehind_43 : decode cX3_leftBehind 43 = .ok (.aload_n 0, 1) := by decide +kernel
theorem dX3_leftBehind_44 : decode cX3_leftBehind 44 = .ok (.getfield 36, 3) := by decide +kernel
theorem dX3_leftBehind_47 : decode cX3_leftBehind 47 = .ok (.iload_n 3, 1) := by decide +kernel
theorem dX3_leftBehind_48 : decode cX3_leftBehind 48 = .ok (.laload, 1) := by decide +kernel
theorem dX3_leftBehind_49 : decode cX3_leftBehind 49 = .ok (.l2i, 1) := by decide +kernel
theorem dX3_leftBehind_50 : decode cX3_leftBehind 50 = .ok (.ireturn, 1) := by decide +kernel
theorem dX3_broughtBy_0 : decode cX3_broughtBy 0 = .ok (.aload_n 0, 1) := by decide +kernel
theorem dX3_broughtBy_1 : decode cX3_broughtBy 1 = .ok (.getfield 39, 3) := by decide +kernel
theorem dX3_broughtBy_4 : decode cX3_broughtBy 4 = .ok (.iload_n 2, 1) := by decide +kernel
theorem dX3_broughtBy_5 : decode cX3_broughtBy 5 = .ok (.iload_n 3, 1) := by decide +kernel
theorem dX3_broughtBy_6 : decode cX3_broughtBy 6 = .ok (.iload_n 1, 1) := by decide +kernel
theorem dX3_broughtBy_7 : decode cX3_broughtBy 7 = .ok (.invokevirtual 93, 3) := by decide +kernel
theorem dX3_broughtBy_10 : decode cX3_broughtBy 10 = .ok (.istore 4, 2) := by decide +kernel
theorem dX3_broughtBy_12 : decode cX3_broughtBy 12 = .ok (.sipush 1000, 3) := by decide +kernel
theorem dX3_broughtBy_15 : decode cX3_broughtBy 15 = .ok (.iload 4, 2) := by decide +kernel
theorem dX3_broughtBy_17 : decode cX3_broughtBy 17 = .ok (.imul, 1) := by decide +kernel
theorem dX3_broughtBy_18 : decode cX3_broughtBy 18 = .ok (.aload_n 0, 1) := by decide +kernel
theorem dX3_broughtBy_19 : decode cX3_broughtBy 19 = .ok (.iload_n 1, 1) := by decide +kernel
theorem dX3_broughtBy_20 : decode cX3_broughtBy 20 = .ok (.aload_n 0, 1) := by decide +kernel
theorem dX3_broughtBy_21 : decode cX3_broughtBy 21 = .ok (.getfield 39, 3) := by decide +kernel
theorem dX3_broughtBy_24 : decode cX3_broughtBy 24 = .ok (.iload_n 2, 1) := by decide +kernel
theorem dX3_broughtBy_25 : decode cX3_broughtBy 25 = .ok (.iload_n 3, 1) := by decide +kernel
theorem dX3_broughtBy_26 : decode cX3_broughtBy 26 = .ok (.invokevirtual 72, 3) := by decide +kernel
theorem dX3_broughtBy_29 : decode cX3_broughtBy 29 = .ok (.invokevirtual 97, 3) := by decide +kernel
theorem dX3_broughtBy_32 : decode cX3_broughtBy 32 = .ok (.iadd, 1) := by decide +kernel
theorem dX3_broughtBy_33 : decode cX3_broughtBy 33 = .ok (.ireturn, 1) := by decide +kernel
theorem dX3_placeOf_0 : decode cX3_placeOf 0 = .ok (.aload_n 0, 1) := by decide +kernel
theorem dX3_placeOf_1 : decode cX3_placeOf 1 = .ok (.iload_n 2, 1) := by decide +kernel
theorem dX3_placeOf_2 : decode cX3_placeOf 2 = .ok (.iconst 0, 1) := by decide +kernel
theorem dX3_placeOf_3 : decode cX3_placeOf 3 = .ok (.invokevirtual 100, 3) := by decide +kernel
theorem dX3_placeOf_6 : decode cX3_placeOf 6 = .ok (.aload_n 0, 1) := by decide +kernel
theorem dX3_placeOf_7 : decode cX3_placeOf 7 = .ok (.iload_n 2, 1) := by decide +kernel
theorem dX3_placeOf_8 : decode cX3_placeOf 8 = .ok (.iconst 1, 1) := by decide +kernel
theorem dX3_placeOf_9 : decode cX3_placeOf 9 = .ok (.invokevirtual 100, 3) := by decide +kernel
theorem dX3_placeOf_12 : decode cX3_placeOf 12 = .ok (.iadd, 1) := by decide +kernel
theorem dX3_placeOf_13 : decode cX3_placeOf 13 = .ok (.aload_n 0, 1) := by decide +kernel
theorem dX3_placeOf_14 : decode cX3_placeOf 14 = .ok (.iload_n 2, 1) := by decide +kernel
theorem dX3_placeOf_15 : decode cX3_placeOf 15 = .ok (.iconst 2, 1) := by decide +kernel
theorem dX3_placeOf_16 : decode cX3_placeOf 16 = .ok (.invokevirtual 100, 3) := by decide +kernel
theorem dX3_placeOf_19 : decode cX3_placeOf 19 = .ok (.iadd, 1) := by decide +kernel
theorem dX3_placeOf_20 : decode cX3_placeOf 20 = .ok (.istore_n 3, 1) := by decide +kernel
theorem dX3_placeOf_21 : decode cX3_placeOf 21 = .ok (.iload_n 1, 1) := by decide +kernel
theorem dX3_placeOf_22 : decode cX3_placeOf 22 = .ok (.ifCond .lt 18, 3) := by decide +kernel
theorem dX3_placeOf_25 : decode cX3_placeOf 25 = .ok (.iload_n 1, 1) := by decide +kernel
theorem dX3_placeOf_26 : decode cX3_placeOf 26 = .ok (.aload_n 0, 1) := by decide +kernel
theorem dX3_placeOf_27 : decode cX3_placeOf 27 = .ok (.getfield 39, 3) := by decide +kernel
theorem dX3_placeOf_30 : decode cX3_placeOf 30 = .ok (.getfield 63, 3) := by decide +kernel
theorem dX3_placeOf_33 : decode cX3_placeOf 33 = .ok (.if_icmp .ge 7, 3) := by decide +kernel
theorem dX3_placeOf_36 : decode cX3_placeOf 36 = .ok (.iload_n 3, 1) := by decide +kernel
theorem dX3_placeOf_37 : decode cX3_placeOf 37 = .ok (.ifCond .ne 5, 3) := by decide +kernel
theorem dX3_placeOf_40 : decode cX3_placeOf 40 = .ok (.iconst (-1), 1) := by decide +kernel
theorem dX3_placeOf_41 : decode cX3_placeOf 41 = .ok (.ireturn, 1) := by decide +kernel
theorem dX3_placeOf_42 : decode cX3_placeOf 42 = .ok (.iload_n 1, 1) := by decide +kernel
theorem dX3_placeOf_43 : decode cX3_placeOf 43 = .ok (.aload_n 0, 1) := by decide +kernel
theorem dX3_placeOf_44 : decode cX3_placeOf 44 = .ok (.getfield 22, 3) := by decide +kernel
theorem dX3_placeOf_47 : decode cX3_placeOf 47 = .ok (.imul, 1) := by decide +kernel
theorem dX3_placeOf_48 : decode cX3_placeOf 48 = .ok (.iload_n 3, 1) := by decide +kernel
theorem dX3_placeOf_49 : decode cX3_placeOf 49 = .ok (.iadd, 1) := by decide +kernel
theorem dX3_placeOf_50 : decode cX3_placeOf 50 = .ok (.istore 4, 2) := by decide +kernel
theorem dX3_placeOf_52 : decode cX3_placeOf 52 = .ok (.iload 4, 2) := by decide +kernel
theorem dX3_placeOf_54 : decode cX3_placeOf 54 = .ok (.ifCond .lt 18, 3) := by decide +kernel
theorem dX3_placeOf_57 : decode cX3_placeOf 57 = .ok (.iload 4, 2) := by decide +kernel
theorem dX3_placeOf_59 : decode cX3_placeOf 59 = .ok (.aload_n 0, 1) := by decide +kernel
theorem dX3_placeOf_60 : decode cX3_placeOf 60 = .ok (.getfield 29, 3) := by decide +kernel
theorem dX3_placeOf_63 : decode cX3_placeOf 63 = .ok (.arraylength, 1) := by decide +kernel
theorem dX3_placeOf_64 : decode cX3_placeOf 64 = .ok (.if_icmp .ge 8, 3) := by decide +kernel
theorem dX3_placeOf_67 : decode cX3_placeOf 67 = .ok (.iload 4, 2) := by decide +kernel
theorem dX3_placeOf_69 : decode cX3_placeOf 69 = .ok (.goto 4, 3) := by decide +kernel
theorem dX3_placeOf_72 : decode cX3_placeOf 72 = .ok (.iconst (-1), 1) := by decide +kernel
theorem dX3_placeOf_73 : decode cX3_placeOf 73 = .ok (.ireturn, 1) := by decide +kernel
theorem dX3_planAt_0 : decode cX3_planAt 0 = .ok (.aload_n 0, 1) := by decide +kernel
theorem dX3_planAt_1 : decode cX3_planAt 1 = .ok (.iload_n 1, 1) := by decide +kernel
theorem dX3_planAt_2 : decode cX3_planAt 2 = .ok (.iload_n 2, 1) := by decide +kernel
theorem dX3_planAt_3 : decode cX3_planAt 3 = .ok (.invokevirtual 78, 3) := by decide +kernel
theorem dX3_planAt_6 : decode cX3_planAt 6 = .ok (.istore_n 3, 1) := by decide +kernel
theorem dX3_planAt_7 : decode cX3_planAt 7 = .ok (.iload_n 3, 1) := by decide +kernel
theorem dX3_planAt_8 : decode cX3_planAt 8 = .ok (.ifCond .ge 6, 3) := by decide +kernel
theorem dX3_planAt_11 : decode cX3_planAt 11 = .ok (.bipush 6, 2) := by decide +kernel
theorem dX3_planAt_13 : decode cX3_planAt 13 = .ok (.ireturn, 1) := by decide +kernel
theorem dX3_planAt_14 : decode cX3_planAt 14 = .ok (.aload_n 0, 1) := by decide +kernel
theorem dX3_planAt_15 : decode cX3_planAt 15 = .ok (.aload_n 0, 1) := by decide +kernel
theorem dX3_planAt_16 : decode cX3_planAt 16 = .ok (.getfield 29, 3) := by decide +kernel
theorem dX3_planAt_19 : decode cX3_planAt 19 = .ok (.iload_n 3, 1) := by decide +kernel
theorem dX3_planAt_20 : decode cX3_planAt 20 = .ok (.laload, 1) := by decide +kernel
theorem dX3_planAt_21 : decode cX3_planAt 21 = .ok (.invokevirtual 81, 3) := by decide +kernel
theorem dX3_planAt_24 : decode cX3_planAt 24 = .ok (.ifCond .eq 36, 3) := by decide +kernel
theorem dX3_planAt_27 : decode cX3_planAt 27 = .ok (.aload_n 0, 1) := by decide +kernel
theorem dX3_planAt_28 : decode cX3_planAt 28 = .ok (.getfield 29, 3) := by decide +kernel
theorem dX3_planAt_31 : decode cX3_planAt 31 = .ok (.iload_n 3, 1) := by decide +kernel
theorem dX3_planAt_32 : decode cX3_planAt 32 = .ok (.aload_n 0, 1) := by decide +kernel
theorem dX3_planAt_33 : decode cX3_planAt 33 = .ok (.aload_n 0, 1) := by decide +kernel
theorem dX3_planAt_34 : decode cX3_planAt 34 = .ok (.getfield 9, 3) := by decide +kernel
theorem dX3_planAt_37 : decode cX3_planAt 37 = .ok (.iconst 4, 1) := by decide +kernel
theorem dX3_planAt_38 : decode cX3_planAt 38 = .ok (.if_icmp .ne 12, 3) := by decide +kernel
theorem dX3_planAt_41 : decode cX3_planAt 41 = .ok (.aload_n 0, 1) := by decide +kernel
theorem dX3_planAt_42 : decode cX3_planAt 42 = .ok (.iload_n 1, 1) := by decide +kernel
theorem dX3_planAt_43 : decode cX3_planAt 43 = .ok (.iload_n 2, 1) := by decide +kernel
theorem dX3_planAt_44 : decode cX3_planAt 44 = .ok (.invokevirtual 103, 3) := by decide +kernel
theorem dX3_planAt_47 : decode cX3_planAt 47 = .ok (.goto 9, 3) := by decide +kernel
theorem dX3_planAt_50 : decode cX3_planAt 50 = .ok (.aload_n 0, 1) := by decide +kernel
theorem dX3_planAt_51 : decode cX3_planAt 51 = .ok (.iload_n 1, 1) := by decide +kernel
theorem dX3_planAt_52 : decode cX3_planAt 52 = .ok (.iload_n 2, 1) := by decide +kernel
theorem dX3_planAt_53 : decode cX3_planAt 53 = .ok (.invokevirtual 106, 3) := by decide +kernel
theorem dX3_planAt_56 : decode cX3_planAt 56 = .ok (.invokevirtual 89, 3) := by decide +kernel
theorem dX3_planAt_59 : decode cX3_planAt 59 = .ok (.lastore, 1) := by decide +kernel
theorem dX3_planAt_60 : decode cX3_planAt 60 = .ok (.aload_n 0, 1) := by decide +kernel
theorem dX3_planAt_61 : decode cX3_planAt 61 = .ok (.getfield 29, 3) := by decide +kernel
theorem dX3_planAt_64 : decode cX3_planAt 64 = .ok (.iload_n 3, 1) := by decide +kernel
theorem dX3_planAt_65 : decode cX3_planAt 65 = .ok (.laload, 1) := by decide +kernel
theorem dX3_planAt_66 : decode cX3_planAt 66 = .ok (.l2i, 1) := by decide +kernel
theorem dX3_planAt_67 : decode cX3_planAt 67 = .ok (.ireturn, 1) := by decide +kernel
theorem dX3_bestPlan_0 : decode cX3_bestPlan 0 = .ok (.bipush 6, 2) := by decide +kernel
theorem dX3_bestPlan_2 : decode cX3_bestPlan 2 = .ok (.istore_n 3, 1) := by decide +kernel
theorem dX3_bestPlan_3 : decode cX3_bestPlan 3 = .ok (.iconst (-1), 1) := by decide +kernel
theorem dX3_bestPlan_4 : decode cX3_bestPlan 4 = .ok (.istore 4, 2) := by decide +kernel
theorem dX3_bestPlan_6 : decode cX3_bestPlan 6 = .ok (.iconst 0, 1) := by decide +kernel
theorem dX3_bestPlan_7 : decode cX3_bestPlan 7 = .ok (.istore 5, 2) := by decide +kernel
theorem dX3_bestPlan_9 : decode cX3_bestPlan 9 = .ok (.iload 5, 2) := by decide +kernel
theorem dX3_bestPlan_11 : decode cX3_bestPlan 11 = .ok (.bipush 6, 2) := by decide +kernel
theorem dX3_bestPlan_13 : decode cX3_bestPlan 13 = .ok (.if_icmp .gt 46, 3) := by decide +kernel
theorem dX3_bestPlan_16 : decode cX3_bestPlan 16 = .ok (.aload_n 0, 1) := by decide +kernel
theorem dX3_bestPlan_17 : decode cX3_bestPlan 17 = .ok (.getfield 39, 3) := by decide +kernel
theorem dX3_bestPlan_20 : decode cX3_bestPlan 20 = .ok (.iload_n 2, 1) := by decide +kernel
theorem dX3_bestPlan_21 : decode cX3_bestPlan 21 = .ok (.iload 5, 2) := by decide +kernel
theorem dX3_bestPlan_23 : decode cX3_bestPlan 23 = .ok (.invokevirtual 109, 3) := by decide +kernel
theorem dX3_bestPlan_26 : decode cX3_bestPlan 26 = .ok (.ifCond .eq 27, 3) := by decide +kernel
theorem dX3_bestPlan_29 : decode cX3_bestPlan 29 = .ok (.aload_n 0, 1) := by decide +kernel
theorem dX3_bestPlan_30 : decode cX3_bestPlan 30 = .ok (.iload_n 1, 1) := by decide +kernel
theorem dX3_bestPlan_31 : decode cX3_bestPlan 31 = .ok (.iload_n 2, 1) := by decide +kernel
theorem dX3_bestPlan_32 : decode cX3_bestPlan 32 = .ok (.iload 5, 2) := by decide +kernel
theorem dX3_bestPlan_34 : decode cX3_bestPlan 34 = .ok (.invokevirtual 113, 3) := by decide +kernel
theorem dX3_bestPlan_37 : decode cX3_bestPlan 37 = .ok (.istore 6, 2) := by decide +kernel
theorem dX3_bestPlan_39 : decode cX3_bestPlan 39 = .ok (.iload 6, 2) := by decide +kernel
theorem dX3_bestPlan_41 : decode cX3_bestPlan 41 = .ok (.iload 4, 2) := by decide +kernel
theorem dX3_bestPlan_43 : decode cX3_bestPlan 43 = .ok (.if_icmp .le 10, 3) := by decide +kernel
theorem dX3_bestPlan_46 : decode cX3_bestPlan 46 = .ok (.iload 6, 2) := by decide +kernel
theorem dX3_bestPlan_48 : decode cX3_bestPlan 48 = .ok (.istore 4, 2) := by decide +kernel
theorem dX3_bestPlan_50 : decode cX3_bestPlan 50 = .ok (.iload 5, 2) := by decide +kernel
theorem dX3_bestPlan_52 : decode cX3_bestPlan 52 = .ok (.istore_n 3, 1) := by decide +kernel
theorem dX3_bestPlan_53 : decode cX3_bestPlan 53 = .ok (.iinc 5 1, 3) := by decide +kernel
theorem dX3_bestPlan_56 : decode cX3_bestPlan 56 = .ok (.goto (-47), 3) := by decide +kernel
theorem dX3_bestPlan_59 : decode cX3_bestPlan 59 = .ok (.iload 4, 2) := by decide +kernel
theorem dX3_bestPlan_61 : decode cX3_bestPlan 61 = .ok (.iconst 3, 1) := by decide +kernel
theorem dX3_bestPlan_62 : decode cX3_bestPlan 62 = .ok (.ishl, 1) := by decide +kernel
theorem dX3_bestPlan_63 : decode cX3_bestPlan 63 = .ok (.iload_n 3, 1) := by decide +kernel
theorem dX3_bestPlan_64 : decode cX3_bestPlan 64 = .ok (.ior, 1) := by decide +kernel
theorem dX3_bestPlan_65 : decode cX3_bestPlan 65 = .ok (.ireturn, 1) := by decide +kernel
theorem dX3_rulePlan_0 : decode cX3_rulePlan 0 = .ok (.bipush 6, 2) := by decide +kernel
theorem dX3_rulePlan_2 : decode cX3_rulePlan 2 = .ok (.istore_n 3, 1) := by decide +kernel
theorem dX3_rulePlan_3 : decode cX3_rulePlan 3 = .ok (.iconst 0, 1) := by decide +kernel
theorem dX3_rulePlan_4 : decode cX3_rulePlan 4 = .ok (.istore 4, 2) := by decide +kernel
theorem dX3_rulePlan_6 : decode cX3_rulePlan 6 = .ok (.iconst 0, 1) := by decide +kernel
theorem dX3_rulePlan_7 : decode cX3_rulePlan 7 = .ok (.istore 5, 2) := by decide +kernel
theorem dX3_rulePlan_9 : decode cX3_rulePlan 9 = .ok (.iload 5, 2) := by decide +kernel
theorem dX3_rulePlan_11 : decode cX3_rulePlan 11 = .ok (.aload_n 0, 1) := by decide +kernel
theorem dX3_rulePlan_12 : decode cX3_rulePlan 12 = .ok (.getfield 39, 3) := by decide +kernel
theorem dX3_rulePlan_15 : decode cX3_rulePlan 15 = .ok (.getfield 116, 3) := by decide +kernel
theorem dX3_rulePlan_18 : decode cX3_rulePlan 18 = .ok (.if_icmp .ge 51, 3) := by decide +kernel
theorem dX3_rulePlan_21 : decode cX3_rulePlan 21 = .ok (.aload_n 0, 1) := by decide +kernel
theorem dX3_rulePlan_22 : decode cX3_rulePlan 22 = .ok (.getfield 39, 3) := by decide +kernel
theorem dX3_rulePlan_25 : decode cX3_rulePlan 25 = .ok (.iload_n 2, 1) := by decide +kernel
theorem dX3_rulePlan_26 : decode cX3_rulePlan 26 = .ok (.iload 5, 2) := by decide +kernel
theorem dX3_rulePlan_28 : decode cX3_rulePlan 28 = .ok (.invokevirtual 119, 3) := by decide +kernel
theorem dX3_rulePlan_31 : decode cX3_rulePlan 31 = .ok (.ifCond .eq 32, 3) := by decide +kernel
theorem dX3_rulePlan_34 : decode cX3_rulePlan 34 = .ok (.aload_n 0, 1) := by decide +kernel
theorem dX3_rulePlan_35 : decode cX3_rulePlan 35 = .ok (.iload_n 2, 1) := by decide +kernel
theorem dX3_rulePlan_36 : decode cX3_rulePlan 36 = .ok (.iload 5, 2) := by decide +kernel
theorem dX3_rulePlan_38 : decode cX3_rulePlan 38 = .ok (.invokevirtual 122, 3) := by decide +kernel
theorem dX3_rulePlan_41 : decode cX3_rulePlan 41 = .ok (.istore 6, 2) := by decide +kernel
theorem dX3_rulePlan_43 : decode cX3_rulePlan 43 = .ok (.iload_n 3, 1) := by decide +kernel
theorem dX3_rulePlan_44 : decode cX3_rulePlan 44 = .ok (.bipush 6, 2) := by decide +kernel
theorem dX3_rulePlan_46 : decode cX3_rulePlan 46 = .ok (.if_icmp .eq 10, 3) := by decide +kernel
theorem dX3_rulePlan_49 : decode cX3_rulePlan 49 = .ok (.iload 6, 2) := by decide +kernel
theorem dX3_rulePlan_51 : decode cX3_rulePlan 51 = .ok (.iload 4, 2) := by decide +kernel
theorem dX3_rulePlan_53 : decode cX3_rulePlan 53 = .ok (.if_icmp .le 10, 3) := by decide +kernel
theorem dX3_rulePlan_56 : decode cX3_rulePlan 56 = .ok (.iload 6, 2) := by decide +kernel
theorem dX3_rulePlan_58 : decode cX3_rulePlan 58 = .ok (.istore 4, 2) := by decide +kernel
theorem dX3_rulePlan_60 : decode cX3_rulePlan 60 = .ok (.iload 5, 2) := by decide +kernel
theorem dX3_rulePlan_62 : decode cX3_rulePlan 62 = .ok (.istore_n 3, 1) := by decide +kernel
theorem dX3_rulePlan_63 : decode cX3_rulePlan 63 = .ok (.iinc 5 1, 3) := by decide +kernel
theorem dX3_rulePlan_66 : decode cX3_rulePlan 66 = .ok (.goto (-57), 3) := by decide +kernel
theorem dX3_rulePlan_69 : decode cX3_rulePlan 69 = .ok (.aload_n 0, 1) := by decide +kernel
theorem dX3_rulePlan_70 : decode cX3_rulePlan 70 = .ok (.iload_n 1, 1) := by decide +kernel
theorem dX3_rulePlan_71 : decode cX3_rulePlan 71 = .ok (.iload_n 2, 1) := by decide +kernel
theorem dX3_rulePlan_72 : decode cX3_rulePlan 72 = .ok (.iload_n 3, 1) := by decide +kernel
theorem dX3_rulePlan_73 : decode cX3_rulePlan 73 = .ok (.invokevirtual 113, 3) := by decide +kernel
theorem dX3_rulePlan_76 : decode cX3_rulePlan 76 = .ok (.iconst 3, 1) := by decide +kernel
theorem dX3_rulePlan_77 : decode cX3_rulePlan 77 = .ok (.ishl, 1) := by decide +kernel
theorem dX3_rulePlan_78 : decode cX3_rulePlan 78 = .ok (.iload_n 3, 1) := by decide +kernel
theorem dX3_rulePlan_79 : decode cX3_rulePlan 79 = .ok (.ior, 1) := by decide +kernel
theorem dX3_rulePlan_80 : decode cX3_rulePlan 80 = .ok (.ireturn, 1) := by decide +kernel
theorem dX3_rankOf_0 : decode cX3_rankOf 0 = .ok (.aload_n 0, 1) := by decide +kernel
theorem dX3_rankOf_1 : decode cX3_rankOf 1 = .ok (.getfield 9, 3) := by decide +kernel
theorem dX3_rankOf_4 : decode cX3_rankOf 4 = .ok (.tableswitch 55 1 3 #[28, 34, 45], 28) := by decide +kernel
theorem dX3_rankOf_32 : decode cX3_rankOf 32 = .ok (.iload_n 1, 1) := by decide +kernel
theorem dX3_rankOf_33 : decode cX3_rankOf 33 = .ok (.iload_n 2, 1) := by decide +kernel
theorem dX3_rankOf_34 : decode cX3_rankOf 34 = .ok (.invokestatic 57, 3) := by decide +kernel
theorem dX3_rankOf_37 : decode cX3_rankOf 37 = .ok (.ireturn, 1) := by decide +kernel
theorem dX3_rankOf_38 : decode cX3_rankOf 38 = .ok (.aload_n 0, 1) := by decide +kernel
theorem dX3_rankOf_39 : decode cX3_rankOf 39 = .ok (.getfield 39, 3) := by decide +kernel
theorem dX3_rankOf_42 : decode cX3_rankOf 42 = .ok (.iload_n 1, 1) := by decide +kernel
theorem dX3_rankOf_43 : decode cX3_rankOf 43 = .ok (.iload_n 2, 1) := by decide +kernel
theorem dX3_rankOf_44 : decode cX3_rankOf 44 = .ok (.invokevirtual 125, 3) := by decide +kernel
theorem dX3_rankOf_47 : decode cX3_rankOf 47 = .ok (.ineg, 1) := by decide +kernel
theorem dX3_rankOf_48 : decode cX3_rankOf 48 = .ok (.ireturn, 1) := by decide +kernel
theorem dX3_rankOf_49 : decode cX3_rankOf 49 = .ok (.aload_n 0, 1) := by decide +kernel
theorem dX3_rankOf_50 : decode cX3_rankOf 50 = .ok (.getfield 39, 3) := by decide +kernel
theorem dX3_rankOf_53 : decode cX3_rankOf 53 = .ok (.iload_n 1, 1) := by decide +kernel
theorem dX3_rankOf_54 : decode cX3_rankOf 54 = .ok (.iload_n 2, 1) := by decide +kernel
theorem dX3_rankOf_55 : decode cX3_rankOf 55 = .ok (.invokevirtual 125, 3) := by decide +kernel
theorem dX3_rankOf_58 : decode cX3_rankOf 58 = .ok (.ireturn, 1) := by decide +kernel
theorem dX3_rankOf_59 : decode cX3_rankOf 59 = .ok (.iconst 0, 1) := by decide +kernel
theorem dX3_rankOf_60 : decode cX3_rankOf 60 = .ok (.ireturn, 1) := by decide +kernel
theorem dX3_mean_0 : decode cX3_mean 0 = .ok (.iload_n 3, 1) := by decide +kernel
theorem dX3_mean_1 : decode cX3_mean 1 = .ok (.ifCond .ne 18, 3) := by decide +kernel
theorem dX3_mean_4 : decode cX3_mean 4 = .ok (.iload_n 1, 1) := by decide +kernel
theorem dX3_mean_5 : decode cX3_mean 5 = .ok (.iconst 1, 1) := by decide +kernel
theorem dX3_mean_6 : decode cX3_mean 6 = .ok (.iadd, 1) := by decide +kernel
theorem dX3_mean_7 : decode cX3_mean 7 = .ok (.aload_n 0, 1) := by decide +kernel
theorem dX3_mean_8 : decode cX3_mean 8 = .ok (.getfield 39, 3) := by decide +kernel
theorem dX3_mean_11 : decode cX3_mean 11 = .ok (.getfield 63, 3) := by decide +kernel
theorem dX3_mean_14 : decode cX3_mean 14 = .ok (.if_icmp .lt 5, 3) := by decide +kernel
theorem dX3_mean_17 : decode cX3_mean 17 = .ok (.iconst 0, 1) := by decide +kernel
theorem dX3_mean_18 : decode cX3_mean 18 = .ok (.ireturn, 1) := by decide +kernel
theorem dX3_mean_19 : decode cX3_mean 19 = .ok (.aload_n 0, 1) := by decide +kernel
theorem dX3_mean_20 : decode cX3_mean 20 = .ok (.getfield 39, 3) := by decide +kernel
theorem dX3_mean_23 : decode cX3_mean 23 = .ok (.iload_n 2, 1) := by decide +kernel
theorem dX3_mean_24 : decode cX3_mean 24 = .ok (.aload_n 0, 1) := by decide +kernel
theorem dX3_mean_25 : decode cX3_mean 25 = .ok (.getfield 15, 3) := by decide +kernel
theorem dX3_mean_28 : decode cX3_mean 28 = .ok (.iconst 0, 1) := by decide +kernel
theorem dX3_mean_29 : decode cX3_mean 29 = .ok (.iload_n 1, 1) := by decide +kernel
theorem dX3_mean_30 : decode cX3_mean 30 = .ok (.invokevirtual 128, 3) := by decide +kernel
theorem dX3_mean_33 : decode cX3_mean 33 = .ok (.istore 4, 2) := by decide +kernel
theorem dX3_mean_35 : decode cX3_mean 35 = .ok (.aload_n 0, 1) := by decide +kernel
theorem dX3_mean_36 : decode cX3_mean 36 = .ok (.getfield 39, 3) := by decide +kernel
theorem dX3_mean_39 : decode cX3_mean 39 = .ok (.iload_n 2, 1) := by decide +kernel
theorem dX3_mean_40 : decode cX3_mean 40 = .ok (.aload_n 0, 1) := by decide +kernel
theorem dX3_mean_41 : decode cX3_mean 41 = .ok (.getfield 15, 3) := by decide +kernel
theorem dX3_mean_44 : decode cX3_mean 44 = .ok (.iconst 1, 1) := by decide +kernel
theorem dX3_mean_45 : decode cX3_mean 45 = .ok (.iload_n 1, 1) := by decide +kernel
theorem dX3_mean_46 : decode cX3_mean 46 = .ok (.invokevirtual 128, 3) := by decide +kernel
theorem dX3_mean_49 : decode cX3_mean 49 = .ok (.istore 5, 2) := by decide +kernel
theorem dX3_mean_51 : decode cX3_mean 51 = .ok (.aload_n 0, 1) := by decide +kernel
theorem dX3_mean_52 : decode cX3_mean 52 = .ok (.getfield 39, 3) := by decide +kernel
theorem dX3_mean_55 : decode cX3_mean 55 = .ok (.iload_n 2, 1) := by decide +kernel
theorem dX3_mean_56 : decode cX3_mean 56 = .ok (.aload_n 0, 1) := by decide +kernel
theorem dX3_mean_57 : decode cX3_mean 57 = .ok (.getfield 15, 3) := by decide +kernel
theorem dX3_mean_60 : decode cX3_mean 60 = .ok (.iconst 2, 1) := by decide +kernel
theorem dX3_mean_61 : decode cX3_mean 61 = .ok (.iload_n 1, 1) := by decide +kernel
theorem dX3_mean_62 : decode cX3_mean 62 = .ok (.invokevirtual 128, 3) := by decide +kernel
theorem dX3_mean_65 : decode cX3_mean 65 = .ok (.istore 6, 2) := by decide +kernel
theorem dX3_mean_67 : decode cX3_mean 67 = .ok (.lconst 0, 1) := by decide +kernel
theorem dX3_mean_68 : decode cX3_mean 68 = .ok (.lstore 7, 2) := by decide +kernel
theorem dX3_mean_70 : decode cX3_mean 70 = .ok (.iconst 0, 1) := by decide +kernel
theorem dX3_mean_71 : decode cX3_mean 71 = .ok (.istore 9, 2) := by decide +kernel
theorem dX3_mean_73 : decode cX3_mean 73 = .ok (.iload 9, 2) := by decide +kernel
theorem dX3_mean_75 : decode cX3_mean 75 = .ok (.iconst 1, 1) := by decide +kernel
theorem dX3_mean_76 : decode cX3_mean 76 = .ok (.if_icmp .gt 153, 3) := by decide +kernel
theorem dX3_mean_79 : decode cX3_mean 79 = .ok (.iload 9, 2) := by decide +kernel
theorem dX3_mean_81 : decode cX3_mean 81 = .ok (.iload 6, 2) := by decide +kernel
theorem dX3_mean_83 : decode cX3_mean 83 = .ok (.invokestatic 132, 3) := by decide +kernel
theorem dX3_mean_86 : decode cX3_mean 86 = .ok (.istore 10, 2) := by decide +kernel
theorem dX3_mean_88 : decode cX3_mean 88 = .ok (.iconst 0, 1) := by decide +kernel
theorem dX3_mean_89 : decode cX3_mean 89 = .ok (.istore 11, 2) := by decide +kernel
theorem dX3_mean_91 : decode cX3_mean 91 = .ok (.iload 11, 2) := by decide +kernel
theorem dX3_mean_93 : decode cX3_mean 93 = .ok (.iconst 1, 1) := by decide +kernel
theorem dX3_mean_94 : decode cX3_mean 94 = .ok (.if_icmp .gt 129, 3) := by decide +kernel
theorem dX3_mean_97 : decode cX3_mean 97 = .ok (.iload 10, 2) := by decide +kernel
theorem dX3_mean_99 : decode cX3_mean 99 = .ok (.ifCond .le 124, 3) := by decide +kernel
theorem dX3_mean_102 : decode cX3_mean 102 = .ok (.iload 10, 2) := by decide +kernel
theorem dX3_mean_104 : decode cX3_mean 104 = .ok (.iload 11, 2) := by decide +kernel
theorem dX3_mean_106 : decode cX3_mean 106 = .ok (.iload 5, 2) := by decide +kernel
theorem dX3_mean_108 : decode cX3_mean 108 = .ok (.invokestatic 132, 3) := by decide +kernel
theorem dX3_mean_111 : decode cX3_mean 111 = .ok (.imul, 1) := by decide +kernel
theorem dX3_mean_112 : decode cX3_mean 112 = .ok (.istore 12, 2) := by decide +kernel
theorem dX3_mean_114 : decode cX3_mean 114 = .ok (.iconst 0, 1) := by decide +kernel
theorem dX3_mean_115 : decode cX3_mean 115 = .ok (.istore 13, 2) := by decide +kernel
theorem dX3_mean_117 : decode cX3_mean 117 = .ok (.iload 13, 2) := by decide +kernel
theorem dX3_mean_119 : decode cX3_mean 119 = .ok (.iconst 1, 1) := by decide +kernel
theorem dX3_mean_120 : decode cX3_mean 120 = .ok (.if_icmp .gt 97, 3) := by decide +kernel
theorem dX3_mean_123 : decode cX3_mean 123 = .ok (.iload 12, 2) := by decide +kernel
theorem dX3_mean_125 : decode cX3_mean 125 = .ok (.ifCond .le 92, 3) := by decide +kernel
theorem dX3_mean_128 : decode cX3_mean 128 = .ok (.iload 12, 2) := by decide +kernel
theorem dX3_mean_130 : decode cX3_mean 130 = .ok (.iload 13, 2) := by decide +kernel
theorem dX3_mean_132 : decode cX3_mean 132 = .ok (.iload 4, 2) := by decide +kernel
theorem dX3_mean_134 : decode cX3_mean 134 = .ok (.invokestatic 132, 3) := by decide +kernel
theorem dX3_mean_137 : decode cX3_mean 137 = .ok (.imul, 1) := by decide +kernel
theorem dX3_mean_138 : decode cX3_mean 138 = .ok (.istore 14, 2) := by decide +kernel
theorem dX3_mean_140 : decode cX3_mean 140 = .ok (.iload 14, 2) := by decide +kernel
theorem dX3_mean_142 : decode cX3_mean 142 = .ok (.ifCond .le 69, 3) := by decide +kernel
theorem dX3_mean_145 : decode cX3_mean 145 = .ok (.iload_n 2, 1) := by decide +kernel
theorem dX3_mean_146 : decode cX3_mean 146 = .ok (.iconst 0, 1) := by decide +kernel
theorem dX3_mean_147 : decode cX3_mean 147 = .ok (.iload 13, 2) := by decide +kernel
theorem dX3_mean_149 : decode cX3_mean 149 = .ok (.iconst 0, 1) := by decide +kernel
theorem dX3_mean_150 : decode cX3_mean 150 = .ok (.invokestatic 135, 3) := by decide +kernel
theorem dX3_mean_153 : decode cX3_mean 153 = .ok (.iadd, 1) := by decide +kernel
theorem dX3_mean_154 : decode cX3_mean 154 = .ok (.iconst 1, 1) := by decide +kernel
theorem dX3_mean_155 : decode cX3_mean 155 = .ok (.iload 11, 2) := by decide +kernel
theorem dX3_mean_157 : decode cX3_mean 157 = .ok (.iconst 0, 1) := by decide +kernel
theorem dX3_mean_158 : decode cX3_mean 158 = .ok (.invokestatic 135, 3) := by decide +kernel
theorem dX3_mean_161 : decode cX3_mean 161 = .ok (.iadd, 1) := by decide +kernel
theorem dX3_mean_162 : decode cX3_mean 162 = .ok (.iconst 2, 1) := by decide +kernel
theorem dX3_mean_163 : decode cX3_mean 163 = .ok (.iload 9, 2) := by decide +kernel
theorem dX3_mean_165 : decode cX3_mean 165 = .ok (.iconst 0, 1) := by decide +kernel
theorem dX3_mean_166 : decode cX3_mean 166 = .ok (.invokestatic 135, 3) := by decide +kernel
theorem dX3_mean_169 : decode cX3_mean 169 = .ok (.iadd, 1) := by decide +kernel
theorem dX3_mean_170 : decode cX3_mean 170 = .ok (.istore 15, 2) := by decide +kernel
theorem dX3_mean_172 : decode cX3_mean 172 = .ok (.iload_n 3, 1) := by decide +kernel
theorem dX3_mean_173 : decode cX3_mean 173 = .ok (.ifCond .eq 15, 3) := by decide +kernel
theorem dX3_mean_176 : decode cX3_mean 176 = .ok (.aload_n 0, 1) := by decide +kernel
theorem dX3_mean_177 : decode cX3_mean 177 = .ok (.iload_n 1, 1) := by decide +kernel
theorem dX3_mean_178 : decode cX3_mean 178 = .ok (.iconst 1, 1) := by decide +kernel
theorem dX3_mean_179 : decode cX3_mean 179 = .ok (.iadd, 1) := by decide +kernel
theorem dX3_mean_180 : decode cX3_mean 180 = .ok (.iload 15, 2) := by decide +kernel
theorem dX3_mean_182 : decode cX3_mean 182 = .ok (.invokevirtual 138, 3) := by decide +kernel
theorem dX3_mean_185 : decode cX3_mean 185 = .ok (.goto 12, 3) := by decide +kernel
theorem dX3_mean_188 : decode cX3_mean 188 = .ok (.aload_n 0, 1) := by decide +kernel
theorem dX3_mean_189 : decode cX3_mean 189 = .ok (.iload_n 1, 1) := by decide +kernel
theorem dX3_mean_190 : decode cX3_mean 190 = .ok (.iconst 1, 1) := by decide +kernel
theorem dX3_mean_191 : decode cX3_mean 191 = .ok (.iadd, 1) := by decide +kernel
theorem dX3_mean_192 : decode cX3_mean 192 = .ok (.iload 15, 2) := by decide +kernel
theorem dX3_mean_194 : decode cX3_mean 194 = .ok (.invokevirtual 141, 3) := by decide +kernel
theorem dX3_mean_197 : decode cX3_mean 197 = .ok (.istore 16, 2) := by decide +kernel
theorem dX3_mean_199 : decode cX3_mean 199 = .ok (.lload 7, 2) := by decide +kernel
theorem dX3_mean_201 : decode cX3_mean 201 = .ok (.iload 14, 2) := by decide +kernel
theorem dX3_mean_203 : decode cX3_mean 203 = .ok (.i2l, 1) := by decide +kernel
theorem dX3_mean_204 : decode cX3_mean 204 = .ok (.iload 16, 2) := by decide +kernel
theorem dX3_mean_206 : decode cX3_mean 206 = .ok (.i2l, 1) := by decide +kernel
theorem dX3_mean_207 : decode cX3_mean 207 = .ok (.lmul, 1) := by decide +kernel
theorem dX3_mean_208 : decode cX3_mean 208 = .ok (.ladd, 1) := by decide +kernel
theorem dX3_mean_209 : decode cX3_mean 209 = .ok (.lstore 7, 2) := by decide +kernel
theorem dX3_mean_211 : decode cX3_mean 211 = .ok (.iinc 13 1, 3) := by decide +kernel
theorem dX3_mean_214 : decode cX3_mean 214 = .ok (.goto (-97), 3) := by decide +kernel
theorem dX3_mean_217 : decode cX3_mean 217 = .ok (.iinc 11 1, 3) := by decide +kernel
theorem dX3_mean_220 : decode cX3_mean 220 = .ok (.goto (-129), 3) := by decide +kernel
theorem dX3_mean_223 : decode cX3_mean 223 = .ok (.iinc 9 1, 3) := by decide +kernel
theorem dX3_mean_226 : decode cX3_mean 226 = .ok (.goto (-153), 3) := by decide +kernel
theorem dX3_mean_229 : decode cX3_mean 229 = .ok (.lload 7, 2) := by decide +kernel
theorem dX3_mean_231 : decode cX3_mean 231 = .ok (.ldc2_w 144, 3) := by decide +kernel
theorem dX3_mean_234 : decode cX3_mean 234 = .ok (.ldiv, 1) := by decide +kernel
theorem dX3_mean_235 : decode cX3_mean 235 = .ok (.l2i, 1) := by decide +kernel
theorem dX3_mean_236 : decode cX3_mean 236 = .ok (.ireturn, 1) := by decide +kernel
theorem dX3_partOf_0 : decode cX3_partOf 0 = .ok (.iload_n 0, 1) := by decide +kernel
theorem dX3_partOf_1 : decode cX3_partOf 1 = .ok (.iconst 1, 1) := by decide +kernel
theorem dX3_partOf_2 : decode cX3_partOf 2 = .ok (.if_icmp .ne 7, 3) := by decide +kernel
theorem dX3_partOf_5 : decode cX3_partOf 5 = .ok (.iload_n 1, 1) := by decide +kernel
theorem dX3_partOf_6 : decode cX3_partOf 6 = .ok (.goto 7, 3) := by decide +kernel
theorem dX3_partOf_9 : decode cX3_partOf 9 = .ok (.bipush 10, 2) := by decide +kernel
theorem dX3_partOf_11 : decode cX3_partOf 11 = .ok (.iload_n 1, 1) := by decide +kernel
theorem dX3_partOf_12 : decode cX3_partOf 12 = .ok (.isub, 1) := by decide +kernel
theorem dX3_partOf_13 : decode cX3_partOf 13 = .ok (.ireturn, 1) := by decide +kernel
theorem dX4_init_0 : decode cX4_init 0 = .ok (.aload_n 0, 1) := by decide +kernel
theorem dX4_init_1 : decode cX4_init 1 = .ok (.invokespecial 3, 3) := by decide +kernel
theorem dX4_init_4 : decode cX4_init 4 = .ok (.aload_n 0, 1) := by decide +kernel
theorem dX4_init_5 : decode cX4_init 5 = .ok (.sipush 401, 3) := by decide +kernel
theorem dX4_init_8 : decode cX4_init 8 = .ok (.newarray .int, 2) := by decide +kernel
theorem dX4_init_10 : decode cX4_init 10 = .ok (.putfield 9, 3) := by decide +kernel
theorem dX4_init_13 : decode cX4_init 13 = .ok (.aload_n 0, 1) := by decide +kernel
theorem dX4_init_14 : decode cX4_init 14 = .ok (.sipush 401, 3) := by decide +kernel
theorem dX4_init_17 : decode cX4_init 17 = .ok (.newarray .int, 2) := by decide +kernel
theorem dX4_init_19 : decode cX4_init 19 = .ok (.putfield 15, 3) := by decide +kernel
theorem dX4_init_22 : decode cX4_init 22 = .ok (.aload_n 0, 1) := by decide +kernel
theorem dX4_init_23 : decode cX4_init 23 = .ok (.sipush 401, 3) := by decide +kernel
theorem dX4_init_26 : decode cX4_init 26 = .ok (.newarray .int, 2) := by decide +kernel
theorem dX4_init_28 : decode cX4_init 28 = .ok (.putfield 18, 3) := by decide +kernel
theorem dX4_init_31 : decode cX4_init 31 = .ok (.aload_n 0, 1) := by decide +kernel
theorem dX4_init_32 : decode cX4_init 32 = .ok (.iconst 0, 1) := by decide +kernel
theorem dX4_init_33 : decode cX4_init 33 = .ok (.putfield 21, 3) := by decide +kernel
theorem dX4_init_36 : decode cX4_init 36 = .ok (.aload_n 0, 1) := by decide +kernel
theorem dX4_init_37 : decode cX4_init 37 = .ok (.iconst 0, 1) := by decide +kernel
theorem dX4_init_38 : decode cX4_init 38 = .ok (.putfield 25, 3) := by decide +kernel
theorem dX4_init_41 : decode cX4_init 41 = .ok (.aload_n 0, 1) := by decide +kernel
theorem dX4_init_42 : decode cX4_init 42 = .ok (.iconst 0, 1) := by decide +kernel
theorem dX4_init_43 : decode cX4_init 43 = .ok (.putfield 28, 3) := by decide +kernel
theorem dX4_init_46 : decode cX4_init 46 = .ok (.aload_n 0, 1) := by decide +kernel
theorem dX4_init_47 : decode cX4_init 47 = .ok (.iconst 0, 1) := by decide +kernel
theorem dX4_init_48 : decode cX4_init 48 = .ok (.putfield 31, 3) := by decide +kernel
theorem dX4_init_51 : decode cX4_init 51 = .ok (.aload_n 0, 1) := by decide +kernel
theorem dX4_init_52 : decode cX4_init 52 = .ok (.aload_n 1, 1) := by decide +kernel
theorem dX4_init_53 : decode cX4_init 53 = .ok (.putfield 34, 3) := by decide +kernel
theorem dX4_init_56 : decode cX4_init 56 = .ok (.aload_n 0, 1) := by decide +kernel
theorem dX4_init_57 : decode cX4_init 57 = .ok (.aload_n 2, 1) := by decide +kernel
theorem dX4_init_58 : decode cX4_init 58 = .ok (.putfield 38, 3) := by decide +kernel
theorem dX4_init_61 : decode cX4_init 61 = .ok (.return_, 1) := by decide +kernel
theorem dX4_readAll_0 : decode cX4_readAll 0 = .ok (.aload_n 0, 1) := by decide +kernel
theorem dX4_readAll_1 : decode cX4_readAll 1 = .ok (.iconst 0, 1) := by decide +kernel
theorem dX4_readAll_2 : decode cX4_readAll 2 = .ok (.iload_n 1, 1) := by decide +kernel
theorem dX4_readAll_3 : decode cX4_readAll 3 = .ok (.sipush 400, 3) := by decide +kernel
theorem dX4_readAll_6 : decode cX4_readAll 6 = .ok (.invokestatic 42, 3) := by decide +kernel
theorem dX4_readAll_9 : decode cX4_readAll 9 = .ok (.invokestatic 48, 3) := by decide +kernel
theorem dX4_readAll_12 : decode cX4_readAll 12 = .ok (.putfield 21, 3) := by decide +kernel
theorem dX4_readAll_15 : decode cX4_readAll 15 = .ok (.aload_n 0, 1) := by decide +kernel
theorem dX4_readAll_16 : decode cX4_readAll 16 = .ok (.invokevirtual 51, 3) := by decide +kernel
theorem dX4_readAll_19 : decode cX4_readAll 19 = .ok (.aload_n 0, 1) := by decide +kernel
theorem dX4_readAll_20 : decode cX4_readAll 20 = .ok (.getfield 38, 3) := by decide +kernel
theorem dX4_readAll_23 : decode cX4_readAll 23 = .ok (.invokevirtual 54, 3) := by decide +kernel
theorem dX4_readAll_26 : decode cX4_readAll 26 = .ok (.aload_n 0, 1) := by decide +kernel
theorem dX4_readAll_27 : decode cX4_readAll 27 = .ok (.iconst 0, 1) := by decide +kernel
theorem dX4_readAll_28 : decode cX4_readAll 28 = .ok (.invokevirtual 59, 3) := by decide +kernel
theorem dX4_readAll_31 : decode cX4_readAll 31 = .ok (.iconst 0, 1) := by decide +kernel
theorem dX4_readAll_32 : decode cX4_readAll 32 = .ok (.istore_n 2, 1) := by decide +kernel
theorem dX4_readAll_33 : decode cX4_readAll 33 = .ok (.iload_n 2, 1) := by decide +kernel
theorem dX4_readAll_34 : decode cX4_readAll 34 = .ok (.sipush 400, 3) := by decide +kernel
theorem dX4_readAll_37 : decode cX4_readAll 37 = .ok (.if_icmp .ge 37, 3) := by decide +kernel
theorem dX4_readAll_40 : decode cX4_readAll 40 = .ok (.aload_n 0, 1) := by decide +kernel
theorem dX4_readAll_41 : decode cX4_readAll 41 = .ok (.getfield 28, 3) := by decide +kernel
theorem dX4_readAll_44 : decode cX4_readAll 44 = .ok (.ifCond .ne 5, 3) := by decide +kernel
theorem dX4_readAll_47 : decode cX4_readAll 47 = .ok (.iload_n 2, 1) := by decide +kernel
theorem dX4_readAll_48 : decode cX4_readAll 48 = .ok (.ireturn, 1) := by decide +kernel
theorem dX4_readAll_49 : decode cX4_readAll 49 = .ok (.aload_n 0, 1) := by decide +kernel
theorem dX4_readAll_50 : decode cX4_readAll 50 = .ok (.iload_n 2, 1) := by decide +kernel
theorem dX4_readAll_51 : decode cX4_readAll 51 = .ok (.ifCond .ne 7, 3) := by decide +kernel
theorem dX4_readAll_54 : decode cX4_readAll 54 = .ok (.iconst 1, 1) := by decide +kernel
theorem dX4_readAll_55 : decode cX4_readAll 55 = .ok (.goto 4, 3) := by decide +kernel
theorem dX4_readAll_58 : decode cX4_readAll 58 = .ok (.iconst 0, 1) := by decide +kernel
theorem dX4_readAll_59 : decode cX4_readAll 59 = .ok (.invokevirtual 63, 3) := by decide +kernel
theorem dX4_readAll_62 : decode cX4_readAll 62 = .ok (.ifCond .ne 6, 3) := by decide +kernel
theorem dX4_readAll_65 : decode cX4_readAll 65 = .ok (.goto 9, 3) := by decide +kernel
theorem dX4_readAll_68 : decode cX4_readAll 68 = .ok (.iinc 2 1, 3) := by decide +kernel
theorem dX4_readAll_71 : decode cX4_readAll 71 = .ok (.goto (-38), 3) := by decide +kernel
theorem dX4_readAll_74 : decode cX4_readAll 74 = .ok (.bipush (-10), 2) := by decide +kernel
theorem dX4_readAll_76 : decode cX4_readAll 76 = .ok (.aload_n 0, 1) := by decide +kernel
theorem dX4_readAll_77 : decode cX4_readAll 77 = .ok (.getfield 18, 3) := by decide +kernel
theorem dX4_readAll_80 : decode cX4_readAll 80 = .ok (.aload_n 0, 1) := by decide +kernel
theorem dX4_readAll_81 : decode cX4_readAll 81 = .ok (.getfield 25, 3) := by decide +kernel
theorem dX4_readAll_84 : decode cX4_readAll 84 = .ok (.iaload, 1) := by decide +kernel
theorem dX4_readAll_85 : decode cX4_readAll 85 = .ok (.isub, 1) := by decide +kernel
theorem dX4_readAll_86 : decode cX4_readAll 86 = .ok (.ireturn, 1) := by decide +kernel
theorem dX4_lookAt_0 : decode cX4_lookAt 0 = .ok (.iload_n 1, 1) := by decide +kernel
theorem dX4_lookAt_1 : decode cX4_lookAt 1 = .ok (.ifCond .lt 37, 3) := by decide +kernel
theorem dX4_lookAt_4 : decode cX4_lookAt 4 = .ok (.iload_n 1, 1) := by decide +kernel
theorem dX4_lookAt_5 : decode cX4_lookAt 5 = .ok (.aload_n 0, 1) := by decide +kernel
theorem dX4_lookAt_6 : decode cX4_lookAt 6 = .ok (.getfield 9, 3) := by decide +kernel
theorem dX4_lookAt_9 : decode cX4_lookAt 9 = .ok (.arraylength, 1) := by decide +kernel
theorem dX4_lookAt_10 : decode cX4_lookAt 10 = .ok (.if_icmp .ge 28, 3) := by decide +kernel
theorem dX4_lookAt_13 : decode cX4_lookAt 13 = .ok (.aload_n 0, 1) := by decide +kernel
theorem dX4_lookAt_14 : decode cX4_lookAt 14 = .ok (.iload_n 1, 1) := by decide +kernel
theorem dX4_lookAt_15 : decode cX4_lookAt 15 = .ok (.putfield 25, 3) := by decide +kernel
theorem dX4_lookAt_18 : decode cX4_lookAt 18 = .ok (.aload_n 0, 1) := by decide +kernel
theorem dX4_lookAt_19 : decode cX4_lookAt 19 = .ok (.aload_n 0, 1) := by decide +kernel
theorem dX4_lookAt_20 : decode cX4_lookAt 20 = .ok (.getfield 9, 3) := by decide +kernel
theorem dX4_lookAt_23 : decode cX4_lookAt 23 = .ok (.iload_n 1, 1) := by decide +kernel
theorem dX4_lookAt_24 : decode cX4_lookAt 24 = .ok (.iaload, 1) := by decide +kernel
theorem dX4_lookAt_25 : decode cX4_lookAt 25 = .ok (.putfield 28, 3) := by decide +kernel
theorem dX4_lookAt_28 : decode cX4_lookAt 28 = .ok (.aload_n 0, 1) := by decide +kernel
theorem dX4_lookAt_29 : decode cX4_lookAt 29 = .ok (.aload_n 0, 1) := by decide +kernel
theorem dX4_lookAt_30 : decode cX4_lookAt 30 = .ok (.getfield 15, 3) := by decide +kernel
theorem dX4_lookAt_33 : decode cX4_lookAt 33 = .ok (.iload_n 1, 1) := by decide +kernel
theorem dX4_lookAt_34 : decode cX4_lookAt 34 = .ok (.iaload, 1) := by decide +kernel
theorem dX4_lookAt_35 : decode cX4_lookAt 35 = .ok (.putfield 31, 3) := by decide +kernel
theorem dX4_lookAt_38 : decode cX4_lookAt 38 = .ok (.return_, 1) := by decide +kernel
theorem dX4_readItem_0 : decode cX4_readItem 0 = .ok (.aload_n 0, 1) := by decide +kernel
theorem dX4_readItem_1 : decode cX4_readItem 1 = .ok (.getfield 28, 3) := by decide +kernel
theorem dX4_readItem_4 : decode cX4_readItem 4 = .ok (.tableswitch 149 4 12 #[52, 69, 149, 149, 149, 93, 117, 122, 135], 52) := by decide +kernel
theorem dX4_readItem_56 : decode cX4_readItem 56 = .ok (.iload_n 1, 1) := by decide +kernel
theorem dX4_readItem_57 : decode cX4_readItem 57 = .ok (.ifCond .eq 14, 3) := by decide +kernel
theorem dX4_readItem_60 : decode cX4_readItem 60 = .ok (.aload_n 0, 1) := by decide +kernel
theorem dX4_readItem_61 : decode cX4_readItem 61 = .ok (.invokevirtual 67, 3) := by decide +kernel
theorem dX4_readItem_64 : decode cX4_readItem 64 = .ok (.ifCond .eq 7, 3) := by decide +kernel
theorem dX4_readItem_67 : decode cX4_readItem 67 = .ok (.iconst 1, 1) := by decide +kernel
theorem dX4_readItem_68 : decode cX4_readItem 68 = .ok (.goto 4, 3) := by decide +kernel
theorem dX4_readItem_71 : decode cX4_readItem 71 = .ok (.iconst 0, 1) := by decide +kernel
theorem dX4_readItem_72 : decode cX4_readItem 72 = .ok (.ireturn, 1) := by decide +kernel
theorem dX4_readItem_73 : decode cX4_readItem 73 = .ok (.aload_n 0, 1) := by decide +kernel
theorem dX4_readItem_74 : decode cX4_readItem 74 = .ok (.getfield 38, 3) := by decide +kernel
theorem dX4_readItem_77 : decode cX4_readItem 77 = .ok (.getfield 71, 3) := by decide +kernel
theorem dX4_readItem_80 : decode cX4_readItem 80 = .ok (.iconst 4, 1) := by decide +kernel
theorem dX4_readItem_81 : decode cX4_readItem 81 = .ok (.if_icmp .ge 14, 3) := by decide +kernel
theorem dX4_readItem_84 : decode cX4_readItem 84 = .ok (.aload_n 0, 1) := by decide +kernel
theorem dX4_readItem_85 : decode cX4_readItem 85 = .ok (.invokevirtual 74, 3) := by decide +kernel
theorem dX4_readItem_88 : decode cX4_readItem 88 = .ok (.ifCond .eq 7, 3) := by decide +kernel
theorem dX4_readItem_91 : decode cX4_readItem 91 = .ok (.iconst 1, 1) := by decide +kernel
theorem dX4_readItem_92 : decode cX4_readItem 92 = .ok (.goto 4, 3) := by decide +kernel
theorem dX4_readItem_95 : decode cX4_readItem 95 = .ok (.iconst 0, 1) := by decide +kernel
theorem dX4_readItem_96 : decode cX4_readItem 96 = .ok (.ireturn, 1) := by decide +kernel
theorem dX4_readItem_97 : decode cX4_readItem 97 = .ok (.aload_n 0, 1) := by decide +kernel
theorem dX4_readItem_98 : decode cX4_readItem 98 = .ok (.getfield 38, 3) := by decide +kernel
theorem dX4_readItem_101 : decode cX4_readItem 101 = .ok (.getfield 77, 3) := by decide +kernel
theorem dX4_readItem_104 : decode cX4_readItem 104 = .ok (.iconst 3, 1) := by decide +kernel
theorem dX4_readItem_105 : decode cX4_readItem 105 = .ok (.if_icmp .ge 14, 3) := by decide +kernel
theorem dX4_readItem_108 : decode cX4_readItem 108 = .ok (.aload_n 0, 1) := by decide +kernel
theorem dX4_readItem_109 : decode cX4_readItem 109 = .ok (.invokevirtual 80, 3) := by decide +kernel
theorem dX4_readItem_112 : decode cX4_readItem 112 = .ok (.ifCond .eq 7, 3) := by decide +kernel
theorem dX4_readItem_115 : decode cX4_readItem 115 = .ok (.iconst 1, 1) := by decide +kernel
theorem dX4_readItem_116 : decode cX4_readItem 116 = .ok (.goto 4, 3) := by decide +kernel
theorem dX4_readItem_119 : decode cX4_readItem 119 = .ok (.iconst 0, 1) := by decide +kernel
theorem dX4_readItem_120 : decode cX4_readItem 120 = .ok (.ireturn, 1) := by decide +kernel
theorem dX4_readItem_121 : decode cX4_readItem 121 = .ok (.aload_n 0, 1) := by decide +kernel
theorem dX4_readItem_122 : decode cX4_readItem 122 = .ok (.invokevirtual 83, 3) := by decide +kernel
theorem dX4_readItem_125 : decode cX4_readItem 125 = .ok (.ireturn, 1) := by decide +kernel
theorem dX4_readItem_126 : decode cX4_readItem 126 = .ok (.aload_n 0, 1) := by decide +kernel
theorem dX4_readItem_127 : decode cX4_readItem 127 = .ok (.aload_n 0, 1) := by decide +kernel
theorem dX4_readItem_128 : decode cX4_readItem 128 = .ok (.getfield 38, 3) := by decide +kernel
theorem dX4_readItem_131 : decode cX4_readItem 131 = .ok (.getfield 86, 3) := by decide +kernel
theorem dX4_readItem_134 : decode cX4_readItem 134 = .ok (.iconst 5, 1) := by decide +kernel
theorem dX4_readItem_135 : decode cX4_readItem 135 = .ok (.invokevirtual 89, 3) := by decide +kernel
theorem dX4_readItem_138 : decode cX4_readItem 138 = .ok (.ireturn, 1) := by decide +kernel
theorem dX4_readItem_139 : decode cX4_readItem 139 = .ok (.aload_n 0, 1) := by decide +kernel
theorem dX4_readItem_140 : decode cX4_readItem 140 = .ok (.aload_n 0, 1) := by decide +kernel
theorem dX4_readItem_141 : decode cX4_readItem 141 = .ok (.getfield 38, 3) := by decide +kernel
theorem dX4_readItem_144 : decode cX4_readItem 144 = .ok (.getfield 93, 3) := by decide +kernel
theorem dX4_readItem_147 : decode cX4_readItem 147 = .ok (.bipush 99, 2) := by decide +kernel
theorem dX4_readItem_149 : decode cX4_readItem 149 = .ok (.invokevirtual 89, 3) := by decide +kernel
theorem dX4_readItem_152 : decode cX4_readItem 152 = .ok (.ireturn, 1) := by decide +kernel
theorem dX4_readItem_153 : decode cX4_readItem 153 = .ok (.iconst 0, 1) := by decide +kernel
theorem dX4_readItem_154 : decode cX4_readItem 154 = .ok (.ireturn, 1) := by decide +kernel
theorem dX4_readWeeks_0 : decode cX4_readWeeks 0 = .ok (.aload_n 0, 1) := by decide +kernel
theorem dX4_readWeeks_1 : decode cX4_readWeeks 1 = .ok (.aload_n 0, 1) := by decide +kernel
theorem dX4_readWeeks_2 : decode cX4_readWeeks 2 = .ok (.getfield 25, 3) := by decide +kernel
theorem dX4_readWeeks_5 : decode cX4_readWeeks 5 = .ok (.iconst 1, 1) := by decide +kernel
theorem dX4_readWeeks_6 : decode cX4_readWeeks 6 = .ok (.iadd, 1) := by decide +kernel
theorem dX4_readWeeks_7 : decode cX4_readWeeks 7 = .ok (.invokevirtual 59, 3) := by decide +kernel
theorem dX4_readWeeks_10 : decode cX4_readWeeks 10 = .ok (.aload_n 0, 1) := by decide +kernel
theorem dX4_readWeeks_11 : decode cX4_readWeeks 11 = .ok (.iconst 1, 1) := by decide +kernel
theorem dX4_readWeeks_12 : decode cX4_readWeeks 12 = .ok (.bipush 8, 2) := by decide +kernel
theorem dX4_readWeeks_14 : decode cX4_readWeeks 14 = .ok (.invokevirtual 96, 3) := by decide +kernel
theorem dX4_readWeeks_17 : decode cX4_readWeeks 17 = .ok (.ifCond .ne 5, 3) := by decide +kernel
theorem dX4_readWeeks_20 : decode cX4_readWeeks 20 = .ok (.iconst 0, 1) := by decide +kernel
theorem dX4_readWeeks_21 : decode cX4_readWeeks 21 = .ok (.ireturn, 1) := by decide +kernel
theorem dX4_readWeeks_22 : decode cX4_readWeeks 22 = .ok (.aload_n 0, 1) := by decide +kernel
theorem dX4_readWeeks_23 : decode cX4_readWeeks 23 = .ok (.getfield 38, 3) := by decide +kernel
theorem dX4_readWeeks_26 : decode cX4_readWeeks 26 = .ok (.aload_n 0, 1) := by decide +kernel
theorem dX4_readWeeks_27 : decode cX4_readWeeks 27 = .ok (.getfield 31, 3) := by decide +kernel
theorem dX4_readWeeks_30 : decode cX4_readWeeks 30 = .ok (.putfield 100, 3) := by decide +kernel
theorem dX4_readWeeks_33 : decode cX4_readWeeks 33 = .ok (.aload_n 0, 1) := by decide +kernel
theorem dX4_readWeeks_34 : decode cX4_readWeeks 34 = .ok (.aload_n 0, 1) := by decide +kernel
theorem dX4_readWeeks_35 : decode cX4_readWeeks 35 = .ok (.getfield 25, 3) := by decide +kernel
theorem dX4_readWeeks_38 : decode cX4_readWeeks 38 = .ok (.iconst 1, 1) := by decide +kernel
theorem dX4_readWeeks_39 : decode cX4_readWeeks 39 = .ok (.iadd, 1) := by decide +kernel
theorem dX4_readWeeks_40 : decode cX4_readWeeks 40 = .ok (.invokevirtual 59, 3) := by decide +kernel
theorem dX4_readWeeks_43 : decode cX4_readWeeks 43 = .ok (.aload_n 0, 1) := by decide +kernel
theorem dX4_readWeeks_44 : decode cX4_readWeeks 44 = .ok (.iconst 2, 1) := by decide +kernel
theorem dX4_readWeeks_45 : decode cX4_readWeeks 45 = .ok (.invokevirtual 103, 3) := by decide +kernel
theorem dX4_readWeeks_48 : decode cX4_readWeeks 48 = .ok (.ireturn, 1) := by decide +kernel
theorem dX4_readSort_0 : decode cX4_readSort 0 = .ok (.aload_n 0, 1) := by decide +kernel
theorem dX4_readSort_1 : decode cX4_readSort 1 = .ok (.getfield 38, 3) := by decide +kernel
theorem dX4_readSort_4 : decode cX4_readSort 4 = .ok (.getfield 71, 3) := by decide +kernel
theorem dX4_readSort_7 : decode cX4_readSort 7 = .ok (.istore_n 1, 1) := by decide +kernel
theorem dX4_readSort_8 : decode cX4_readSort 8 = .ok (.iload_n 1, 1) := by decide +kernel
theorem dX4_readSort_9 : decode cX4_readSort 9 = .ok (.ifCond .lt 8, 3) := by decide +kernel
theorem dX4_readSort_12 : decode cX4_readSort 12 = .ok (.iload_n 1, 1) := by decide +kernel
theorem dX4_readSort_13 : decode cX4_readSort 13 = .ok (.iconst 4, 1) := by decide +kernel
theorem dX4_readSort_14 : decode cX4_readSort 14 = .ok (.if_icmp .lt 5, 3) := by decide +kernel
theorem dX4_readSort_17 : decode cX4_readSort 17 = .ok (.iconst 0, 1) := by decide +kernel
theorem dX4_readSort_18 : decode cX4_readSort 18 = .ok (.ireturn, 1) := by decide +kernel
theorem dX4_readSort_19 : decode cX4_readSort 19 = .ok (.aload_n 0, 1) := by decide +kernel
theorem dX4_readSort_20 : decode cX4_readSort 20 = .ok (.getfield 38, 3) := by decide +kernel
theorem dX4_readSort_23 : decode cX4_readSort 23 = .ok (.getfield 107, 3) := by decide +kernel
theorem dX4_readSort_26 : decode cX4_readSort 26 = .ok (.iload_n 1, 1) := by decide +kernel
theorem dX4_readSort_27 : decode cX4_readSort 27 = .ok (.aaload, 1) := by decide +kernel
theorem dX4_readSort_28 : decode cX4_readSort 28 = .ok (.astore_n 2, 1) := by decide +kernel
theorem dX4_readSort_29 : decode cX4_readSort 29 = .ok (.aload_n 0, 1) := by decide +kernel
theorem dX4_readSort_30 : decode cX4_readSort 30 = .ok (.iconst 5, 1) := by decide +kernel
theorem dX4_readSort_31 : decode cX4_readSort 31 = .ok (.invokevirtual 103, 3) := by decide +kernel
theorem dX4_readSort_34 : decode cX4_readSort 34 = .ok (.ifCond .eq 95, 3) := by decide +kernel
theorem dX4_readSort_37 : decode cX4_readSort 37 = .ok (.aload_n 0, 1) := by decide +kernel
theorem dX4_readSort_38 : decode cX4_readSort 38 = .ok (.aload_n 2, 1) := by decide +kernel
theorem dX4_readSort_39 : decode cX4_readSort 39 = .ok (.iconst 0, 1) := by decide +kernel
theorem dX4_readSort_40 : decode cX4_readSort 40 = .ok (.iconst 4, 1) := by decide +kernel
theorem dX4_readSort_41 : decode cX4_readSort 41 = .ok (.bipush 99, 2) := by decide +kernel
theorem dX4_readSort_43 : decode cX4_readSort 43 = .ok (.invokevirtual 111, 3) := by decide +kernel
theorem dX4_readSort_46 : decode cX4_readSort 46 = .ok (.ifCond .eq 83, 3) := by decide +kernel
theorem dX4_readSort_49 : decode cX4_readSort 49 = .ok (.aload_n 0, 1) := by decide +kernel
theorem dX4_readSort_50 : decode cX4_readSort 50 = .ok (.bipush 6, 2) := by decide +kernel
theorem dX4_readSort_52 : decode cX4_readSort 52 = .ok (.invokevirtual 103, 3) := by decide +kernel
theorem dX4_readSort_55 : decode cX4_readSort 55 = .ok (.ifCond .eq 74, 3) := by decide +kernel
theorem dX4_readSort_58 : decode cX4_readSort 58 = .ok (.aload_n 0, 1) := by decide +kernel
theorem dX4_readSort_59 : decode cX4_readSort 59 = .ok (.aload_n 2, 1) := by decide +kernel
theorem dX4_readSort_60 : decode cX4_readSort 60 = .ok (.iconst 4, 1) := by decide +kernel
theorem dX4_readSort_61 : decode cX4_readSort 61 = .ok (.bipush 7, 2) := by decide +kernel
theorem dX4_readSort_63 : decode cX4_readSort 63 = .ok (.bipush 10, 2) := by decide +kernel
theorem dX4_readSort_65 : decode cX4_readSort 65 = .ok (.invokevirtual 111, 3) := by decide +kernel
theorem dX4_readSort_68 : decode cX4_readSort 68 = .ok (.ifCond .eq 61, 3) := by decide +kernel
theorem dX4_readSort_71 : decode cX4_readSort 71 = .ok (.aload_n 0, 1) := by decide +kernel
theorem dX4_readSort_72 : decode cX4_readSort 72 = .ok (.bipush 7, 2) := by decide +kernel
theorem dX4_readSort_74 : decode cX4_readSort 74 = .ok (.invokevirtual 103, 3) := by decide +kernel
theorem dX4_readSort_77 : decode cX4_readSort 77 = .ok (.ifCond .eq 52, 3) := by decide +kernel
theorem dX4_readSort_80 : decode cX4_readSort 80 = .ok (.aload_n 0, 1) := by decide +kernel
theorem dX4_readSort_81 : decode cX4_readSort 81 = .ok (.aload_n 2, 1) := by decide +kernel
theorem dX4_readSort_82 : decode cX4_readSort 82 = .ok (.bipush 7, 2) := by decide +kernel
theorem dX4_readSort_84 : decode cX4_readSort 84 = .ok (.bipush 10, 2) := by decide +kernel
theorem dX4_readSort_86 : decode cX4_readSort 86 = .ok (.bipush 10, 2) := by decide +kernel
theorem dX4_readSort_88 : decode cX4_readSort 88 = .ok (.invokevirtual 111, 3) := by decide +kernel
theorem dX4_readSort_91 : decode cX4_readSort 91 = .ok (.ifCond .eq 38, 3) := by decide +kernel
theorem dX4_readSort_94 : decode cX4_readSort 94 = .ok (.aload_n 0, 1) := by decide +kernel
theorem dX4_readSort_95 : decode cX4_readSort 95 = .ok (.bipush 8, 2) := by decide +kernel
theorem dX4_readSort_97 : decode cX4_readSort 97 = .ok (.invokevirtual 103, 3) := by decide +kernel
theorem dX4_readSort_100 : decode cX4_readSort 100 = .ok (.ifCond .eq 29, 3) := by decide +kernel
theorem dX4_readSort_103 : decode cX4_readSort 103 = .ok (.aload_n 0, 1) := by decide +kernel
theorem dX4_readSort_104 : decode cX4_readSort 104 = .ok (.aload_n 2, 1) := by decide +kernel
theorem dX4_readSort_105 : decode cX4_readSort 105 = .ok (.bipush 10, 2) := by decide +kernel
theorem dX4_readSort_107 : decode cX4_readSort 107 = .ok (.bipush 14, 2) := by decide +kernel
theorem dX4_readSort_109 : decode cX4_readSort 109 = .ok (.bipush 10, 2) := by decide +kernel
theorem dX4_readSort_111 : decode cX4_readSort 111 = .ok (.invokevirtual 111, 3) := by decide +kernel
theorem dX4_readSort_114 : decode cX4_readSort 114 = .ok (.ifCond .eq 15, 3) := by decide +kernel
theorem dX4_readSort_117 : decode cX4_readSort 117 = .ok (.aload_n 0, 1) := by decide +kernel
theorem dX4_readSort_118 : decode cX4_readSort 118 = .ok (.iconst 2, 1) := by decide +kernel
theorem dX4_readSort_119 : decode cX4_readSort 119 = .ok (.invokevirtual 103, 3) := by decide +kernel
theorem dX4_readSort_122 : decode cX4_readSort 122 = .ok (.ifCond .eq 7, 3) := by decide +kernel
theorem dX4_readSort_125 : decode cX4_readSort 125 = .ok (.iconst 1, 1) := by decide +kernel
theorem dX4_readSort_126 : decode cX4_readSort 126 = .ok (.goto 4, 3) := by decide +kernel
theorem dX4_readSort_129 : decode cX4_readSort 129 = .ok (.iconst 0, 1) := by decide +kernel
theorem dX4_readSort_130 : decode cX4_readSort 130 = .ok (.istore_n 3, 1) := by decide +kernel
theorem dX4_readSort_131 : decode cX4_readSort 131 = .ok (.iload_n 3, 1) := by decide +kernel
theorem dX4_readSort_132 : decode cX4_readSort 132 = .ok (.ifCond .eq 16, 3) := by decide +kernel
theorem dX4_readSort_135 : decode cX4_readSort 135 = .ok (.aload_n 0, 1) := by decide +kernel
theorem dX4_readSort_136 : decode cX4_readSort 136 = .ok (.getfield 38, 3) := by decide +kernel
theorem dX4_readSort_139 : decode cX4_readSort 139 = .ok (.dup, 1) := by decide +kernel
theorem dX4_readSort_140 : decode cX4_readSort 140 = .ok (.getfield 71, 3) := by decide +kernel
theorem dX4_readSort_143 : decode cX4_readSort 143 = .ok (.iconst 1, 1) := by decide +kernel
theorem dX4_readSort_144 : decode cX4_readSort 144 = .ok (.iadd, 1) := by decide +kernel
theorem dX4_readSort_145 : decode cX4_readSort 145 = .ok (.putfield 71, 3) := by decide +kernel
theorem dX4_readSort_148 : decode cX4_readSort 148 = .ok (.iload_n 3, 1) := by decide +kernel
theorem dX4_readSort_149 : decode cX4_readSort 149 = .ok (.ireturn, 1) := by decide +kernel
theorem dX4_readWheel_0 : decode cX4_readWheel 0 = .ok (.aload_n 0, 1) := by decide +kernel
theorem dX4_readWheel_1 : decode cX4_readWheel 1 = .ok (.getfield 38, 3) := by decide +kernel
theorem dX4_readWheel_4 : decode cX4_readWheel 4 = .ok (.getfield 77, 3) := by decide +kernel
theorem dX4_readWheel_7 : decode cX4_readWheel 7 = .ok (.istore_n 1, 1) := by decide +kernel
theorem dX4_readWheel_8 : decode cX4_readWheel 8 = .ok (.aload_n 0, 1) := by decide +kernel
theorem dX4_readWheel_9 : decode cX4_readWheel 9 = .ok (.aload_n 0, 1) := by decide +kernel
theorem dX4_readWheel_10 : decode cX4_readWheel 10 = .ok (.getfield 25, 3) := by decide +kernel
theorem dX4_readWheel_13 : decode cX4_readWheel 13 = .ok (.iconst 1, 1) := by decide +kernel
theorem dX4_readWheel_14 : decode cX4_readWheel 14 = .ok (.iadd, 1) := by decide +kernel
theorem dX4_readWheel_15 : decode cX4_readWheel 15 = .ok (.invokevirtual 59, 3) := by decide +kernel
theorem dX4_readWheel_18 : decode cX4_readWheel 18 = .ok (.iload_n 1, 1) := by decide +kernel
theorem dX4_readWheel_19 : decode cX4_readWheel 19 = .ok (.ifCond .lt 25, 3) := by decide +kernel
theorem dX4_readWheel_22 : decode cX4_readWheel 22 = .ok (.iload_n 1, 1) := by decide +kernel
theorem dX4_readWheel_23 : decode cX4_readWheel 23 = .ok (.iconst 3, 1) := by decide +kernel
theorem dX4_readWheel_24 : decode cX4_readWheel 24 = .ok (.if_icmp .ge 20, 3) := by decide +kernel
theorem dX4_readWheel_27 : decode cX4_readWheel 27 = .ok (.aload_n 0, 1) := by decide +kernel
theorem dX4_readWheel_28 : decode cX4_readWheel 28 = .ok (.iconst 0, 1) := by decide +kernel
theorem dX4_readWheel_29 : decode cX4_readWheel 29 = .ok (.aload_n 0, 1) := by decide +kernel
theorem dX4_readWheel_30 : decode cX4_readWheel 30 = .ok (.getfield 38, 3) := by decide +kernel
theorem dX4_readWheel_33 : decode cX4_readWheel 33 = .ok (.getfield 71, 3) := by decide +kernel
theorem dX4_readWheel_36 : decode cX4_readWheel 36 = .ok (.iconst 1, 1) := by decide +kernel
theorem dX4_readWheel_37 : decode cX4_readWheel 37 = .ok (.isub, 1) := by decide +kernel
theorem dX4_readWheel_38 : decode cX4_readWheel 38 = .ok (.invokevirtual 96, 3) := by decide +kernel
theorem dX4_readWheel_41 : decode cX4_readWheel 41 = .ok (.ifCond .ne 5, 3) := by decide +kernel
theorem dX4_readWheel_44 : decode cX4_readWheel 44 = .ok (.iconst 0, 1) := by decide +kernel
theorem dX4_readWheel_45 : decode cX4_readWheel 45 = .ok (.ireturn, 1) := by decide +kernel
theorem dX4_readWheel_46 : decode cX4_readWheel 46 = .ok (.aload_n 0, 1) := by decide +kernel
theorem dX4_readWheel_47 : decode cX4_readWheel 47 = .ok (.getfield 38, 3) := by decide +kernel
theorem dX4_readWheel_50 : decode cX4_readWheel 50 = .ok (.getfield 115, 3) := by decide +kernel
theorem dX4_readWheel_53 : decode cX4_readWheel 53 = .ok (.iload_n 1, 1) := by decide +kernel
theorem dX4_readWheel_54 : decode cX4_readWheel 54 = .ok (.aload_n 0, 1) := by decide +kernel
theorem dX4_readWheel_55 : decode cX4_readWheel 55 = .ok (.getfield 31, 3) := by decide +kernel
theorem dX4_readWheel_58 : decode cX4_readWheel 58 = .ok (.iastore, 1) := by decide +kernel
theorem dX4_readWheel_59 : decode cX4_readWheel 59 = .ok (.aload_n 0, 1) := by decide +kernel
theorem dX4_readWheel_60 : decode cX4_readWheel 60 = .ok (.aload_n 0, 1) := by decide +kernel
theorem dX4_readWheel_61 : decode cX4_readWheel 61 = .ok (.getfield 25, 3) := by decide +kernel
theorem dX4_readWheel_64 : decode cX4_readWheel 64 = .ok (.iconst 1, 1) := by decide +kernel
theorem dX4_readWheel_65 : decode cX4_readWheel 65 = .ok (.iadd, 1) := by decide +kernel
theorem dX4_readWheel_66 : decode cX4_readWheel 66 = .ok (.invokevirtual 59, 3) := by decide +kernel
theorem dX4_readWheel_69 : decode cX4_readWheel 69 = .ok (.aload_n 0, 1) := by decide +kernel
theorem dX4_readWheel_70 : decode cX4_readWheel 70 = .ok (.iconst 1, 1) := by decide +kernel
theorem dX4_readWheel_71 : decode cX4_readWheel 71 = .ok (.iconst 3, 1) := by decide +kernel
theorem dX4_readWheel_72 : decode cX4_readWheel 72 = .ok (.invokevirtual 96, 3) := by decide +kernel
theorem dX4_readWheel_75 : decode cX4_readWheel 75 = .ok (.ifCond .ne 5, 3) := by decide +kernel
theorem dX4_readWheel_78 : decode cX4_readWheel 78 = .ok (.iconst 0, 1) := by decide +kernel
theorem dX4_readWheel_79 : decode cX4_readWheel 79 = .ok (.ireturn, 1) := by decide +kernel
theorem dX4_readWheel_80 : decode cX4_readWheel 80 = .ok (.aload_n 0, 1) := by decide +kernel
theorem dX4_readWheel_81 : decode cX4_readWheel 81 = .ok (.getfield 38, 3) := by decide +kernel
theorem dX4_readWheel_84 : decode cX4_readWheel 84 = .ok (.getfield 118, 3) := by decide +kernel
theorem dX4_readWheel_87 : decode cX4_readWheel 87 = .ok (.iload_n 1, 1) := by decide +kernel
theorem dX4_readWheel_88 : decode cX4_readWheel 88 = .ok (.aload_n 0, 1) := by decide +kernel
theorem dX4_readWheel_89 : decode cX4_readWheel 89 = .ok (.getfield 31, 3) := by decide +kernel
theorem dX4_readWheel_92 : decode cX4_readWheel 92 = .ok (.iastore, 1) := by decide +kernel
theorem dX4_readWheel_93 : decode cX4_readWheel 93 = .ok (.aload_n 0, 1) := by decide +kernel
theorem dX4_readWheel_94 : decode cX4_readWheel 94 = .ok (.getfield 38, 3) := by decide +kernel
theorem dX4_readWheel_97 : decode cX4_readWheel 97 = .ok (.dup, 1) := by decide +kernel
theorem dX4_readWheel_98 : decode cX4_readWheel 98 = .ok (.getfield 77, 3) := by decide +kernel
theorem dX4_readWheel_101 : decode cX4_readWheel 101 = .ok (.iconst 1, 1) := by decide +kernel
theorem dX4_readWheel_102 : decode cX4_readWheel 102 = .ok (.iadd, 1) := by decide +kernel
theorem dX4_readWheel_103 : decode cX4_readWheel 103 = .ok (.putfield 77, 3) := by decide +kernel
theorem dX4_readWheel_106 : decode cX4_readWheel 106 = .ok (.aload_n 0, 1) := by decide +kernel
theorem dX4_readWheel_107 : decode cX4_readWheel 107 = .ok (.aload_n 0, 1) := by decide +kernel
theorem dX4_readWheel_108 : decode cX4_readWheel 108 = .ok (.getfield 25, 3) := by decide +kernel
theorem dX4_readWheel_111 : decode cX4_readWheel 111 = .ok (.iconst 1, 1) := by decide +kernel
theorem dX4_readWheel_112 : decode cX4_readWheel 112 = .ok (.iadd, 1) := by decide +kernel
theorem dX4_readWheel_113 : decode cX4_readWheel 113 = .ok (.invokevirtual 59, 3) := by decide +kernel
theorem dX4_readWheel_116 : decode cX4_readWheel 116 = .ok (.aload_n 0, 1) := by decide +kernel
theorem dX4_readWheel_117 : decode cX4_readWheel 117 = .ok (.iconst 2, 1) := by decide +kernel
theorem dX4_readWheel_118 : decode cX4_readWheel 118 = .ok (.invokevirtual 103, 3) := by decide +kernel
theorem dX4_readWheel_121 : decode cX4_readWheel 121 = .ok (.ireturn, 1) := by decide +kernel
theorem dX4_readOpen_0 : decode cX4_readOpen 0 = .ok (.aload_n 0, 1) := by decide +kernel
theorem dX4_readOpen_1 : decode cX4_readOpen 1 = .ok (.aload_n 0, 1) := by decide +kernel
theorem dX4_readOpen_2 : decode cX4_readOpen 2 = .ok (.getfield 25, 3) := by decide +kernel
theorem dX4_readOpen_5 : decode cX4_readOpen 5 = .ok (.iconst 1, 1) := by decide +kernel
theorem dX4_readOpen_6 : decode cX4_readOpen 6 = .ok (.iadd, 1) := by decide +kernel
theorem dX4_readOpen_7 : decode cX4_readOpen 7 = .ok (.invokevirtual 59, 3) := by decide +kernel
theorem dX4_readOpen_10 : decode cX4_readOpen 10 = .ok (.aload_n 0, 1) := by decide +kernel
theorem dX4_readOpen_11 : decode cX4_readOpen 11 = .ok (.iconst 1, 1) := by decide +kernel
theorem dX4_readOpen_12 : decode cX4_readOpen 12 = .ok (.iconst 3, 1) := by decide +kernel
theorem dX4_readOpen_13 : decode cX4_readOpen 13 = .ok (.invokevirtual 96, 3) := by decide +kernel
theorem dX4_readOpen_16 : decode cX4_readOpen 16 = .ok (.ifCond .ne 5, 3) := by decide +kernel
theorem dX4_readOpen_19 : decode cX4_readOpen 19 = .ok (.iconst 0, 1) := by decide +kernel
theorem dX4_readOpen_20 : decode cX4_readOpen 20 = .ok (.ireturn, 1) := by decide +kernel
theorem dX4_readOpen_21 : decode cX4_readOpen 21 = .ok (.aload_n 0, 1) := by decide +kernel
theorem dX4_readOpen_22 : decode cX4_readOpen 22 = .ok (.getfield 38, 3) := by decide +kernel
theorem dX4_readOpen_25 : decode cX4_readOpen 25 = .ok (.aload_n 0, 1) := by decide +kernel
theorem dX4_readOpen_26 : decode cX4_readOpen 26 = .ok (.getfield 31, 3) := by decide +kernel
theorem dX4_readOpen_29 : decode cX4_readOpen 29 = .ok (.putfield 121, 3) := by decide +kernel
theorem dX4_readOpen_32 : decode cX4_readOpen 32 = .ok (.aload_n 0, 1) := by decide +kernel
theorem dX4_readOpen_33 : decode cX4_readOpen 33 = .ok (.aload_n 0, 1) := by decide +kernel
theorem dX4_readOpen_34 : decode cX4_readOpen 34 = .ok (.getfield 25, 3) := by decide +kernel
theorem dX4_readOpen_37 : decode cX4_readOpen 37 = .ok (.iconst 1, 1) := by decide +kernel
theorem dX4_readOpen_38 : decode cX4_readOpen 38 = .ok (.iadd, 1) := by decide +kernel
theorem dX4_readOpen_39 : decode cX4_readOpen 39 = .ok (.invokevirtual 59, 3) := by decide +kernel
theorem dX4_readOpen_42 : decode cX4_readOpen 42 = .ok (.aload_n 0, 1) := by decide +kernel
theorem dX4_readOpen_43 : decode cX4_readOpen 43 = .ok (.iconst 2, 1) := by decide +kernel
theorem dX4_readOpen_44 : decode cX4_readOpen 44 = .ok (.invokevirtual 103, 3) := by decide +kernel
theorem dX4_readOpen_47 : decode cX4_readOpen 47 = .ok (.ireturn, 1) := by decide +kernel
theorem dX4_readOfWeek_0 : decode cX4_readOfWeek 0 = .ok (.aload_n 0, 1) := by decide +kernel
theorem dX4_readOfWeek_1 : decode cX4_readOfWeek 1 = .ok (.aload_n 0, 1) := by decide +kernel
theorem dX4_readOfWeek_2 : decode cX4_readOfWeek 2 = .ok (.getfield 25, 3) := by decide +kernel
theorem dX4_readOfWeek_5 : decode cX4_readOfWeek 5 = .ok (.iconst 1, 1) := by decide +kernel
theorem dX4_readOfWeek_6 : decode cX4_readOfWeek 6 = .ok (.iadd, 1) := by decide +kernel
theorem dX4_readOfWeek_7 : decode cX4_readOfWeek 7 = .ok (.invokevirtual 59, 3) := by decide +kernel
theorem dX4_readOfWeek_10 : decode cX4_readOfWeek 10 = .ok (.aload_n 0, 1) := by decide +kernel
theorem dX4_readOfWeek_11 : decode cX4_readOfWeek 11 = .ok (.iconst 0, 1) := by decide +kernel
theorem dX4_readOfWeek_12 : decode cX4_readOfWeek 12 = .ok (.bipush 7, 2) := by decide +kernel
theorem dX4_readOfWeek_14 : decode cX4_readOfWeek 14 = .ok (.invokevirtual 96, 3) := by decide +kernel
theorem dX4_readOfWeek_17 : decode cX4_readOfWeek 17 = .ok (.ifCond .ne 5, 3) := by decide +kernel
theorem dX4_readOfWeek_20 : decode cX4_readOfWeek 20 = .ok (.iconst 0, 1) := by decide +kernel
theorem dX4_readOfWeek_21 : decode cX4_readOfWeek 21 = .ok (.ireturn, 1) := by decide +kernel
theorem dX4_readOfWeek_22 : decode cX4_readOfWeek 22 = .ok (.aload_n 0, 1) := by decide +kernel
theorem dX4_readOfWeek_23 : decode cX4_readOfWeek 23 = .ok (.getfield 31, 3) := by decide +kernel
theorem dX4_readOfWeek_26 : decode cX4_readOfWeek 26 = .ok (.istore_n 3, 1) := by decide +kernel
theorem dX4_readOfWeek_27 : decode cX4_readOfWeek 27 = .ok (.aload_n 0, 1) := by decide +kernel
theorem dX4_readOfWeek_28 : decode cX4_readOfWeek 28 = .ok (.aload_n 0, 1) := by decide +kernel
theorem dX4_readOfWeek_29 : decode cX4_readOfWeek 29 = .ok (.getfield 25, 3) := by decide +kernel
theorem dX4_readOfWeek_32 : decode cX4_readOfWeek 32 = .ok (.iconst 1, 1) := by decide +kernel
theorem dX4_readOfWeek_33 : decode cX4_readOfWeek 33 = .ok (.iadd, 1) := by decide +kernel
theorem dX4_readOfWeek_34 : decode cX4_readOfWeek 34 = .ok (.invokevirtual 59, 3) := by decide +kernel
theorem dX4_readOfWeek_37 : decode cX4_readOfWeek 37 = .ok (.aload_n 0, 1) := by decide +kernel
theorem dX4_readOfWeek_38 : decode cX4_readOfWeek 38 = .ok (.iconst 0, 1) := by decide +kernel
theorem dX4_readOfWeek_39 : decode cX4_readOfWeek 39 = .ok (.iload_n 2, 1) := by decide +kernel
theorem dX4_readOfWeek_40 : decode cX4_readOfWeek 40 = .ok (.invokevirtual 96, 3) := by decide +kernel
theorem dX4_readOfWeek_43 : decode cX4_readOfWeek 43 = .ok (.ifCond .eq 13, 3) := by decide +kernel
theorem dX4_readOfWeek_46 : decode cX4_readOfWeek 46 = .ok (.iload_n 3, 1) := by decide +kernel
theorem dX4_readOfWeek_47 : decode cX4_readOfWeek 47 = .ok (.ifCond .lt 9, 3) := by decide +kernel
theorem dX4_readOfWeek_50 : decode cX4_readOfWeek 50 = .ok (.iload_n 3, 1) := by decide +kernel
theorem dX4_readOfWeek_51 : decode cX4_readOfWeek 51 = .ok (.aload_n 1, 1) := by decide +kernel
theorem dX4_readOfWeek_52 : decode cX4_readOfWeek 52 = .ok (.arraylength, 1) := by decide +kernel
theorem dX4_readOfWeek_53 : decode cX4_readOfWeek 53 = .ok (.if_icmp .lt 5, 3) := by decide +kernel
theorem dX4_readOfWeek_56 : decode cX4_readOfWeek 56 = .ok (.iconst 0, 1) := by decide +kernel
theorem dX4_readOfWeek_57 : decode cX4_readOfWeek 57 = .ok (.ireturn, 1) := by decide +kernel
theorem dX4_readOfWeek_58 : decode cX4_readOfWeek 58 = .ok (.aload_n 1, 1) := by decide +kernel
theorem dX4_readOfWeek_59 : decode cX4_readOfWeek 59 = .ok (.iload_n 3, 1) := by decide +kernel
