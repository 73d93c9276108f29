theorem dX9_brings_40 : decode cX9_brings 40 = .ok (.getfield 44, 3) := by decide +kernel
theorem dX9_brings_43 : decode cX9_brings 43 = .ok (.iconst 0, 1) := by decide +kernel
theorem dX9_brings_44 : decode cX9_brings 44 = .ok (.baload, 1) := by decide +kernel
theorem dX9_brings_45 : decode cX9_brings 45 = .ok (.ifCond .ne 15, 3) := by decide +kernel
theorem dX9_brings_48 : decode cX9_brings 48 = .ok (.aload_n 0, 1) := by decide +kernel
theorem dX9_brings_49 : decode cX9_brings 49 = .ok (.aload_n 0, 1) := by decide +kernel
theorem dX9_brings_50 : decode cX9_brings 50 = .ok (.invokevirtual 192, 3) := by decide +kernel
theorem dX9_brings_53 : decode cX9_brings 53 = .ok (.iload_n 1, 1) := by decide +kernel
theorem dX9_brings_54 : decode cX9_brings 54 = .ok (.invokevirtual 215, 3) := by decide +kernel
theorem dX9_brings_57 : decode cX9_brings 57 = .ok (.ifCond .ne 6, 3) := by decide +kernel
theorem dX9_brings_60 : decode cX9_brings 60 = .ok (.ldc 242, 2) := by decide +kernel
theorem dX9_brings_62 : decode cX9_brings 62 = .ok (.ireturn, 1) := by decide +kernel
theorem dX9_brings_63 : decode cX9_brings 63 = .ok (.aload_n 0, 1) := by decide +kernel
theorem dX9_brings_64 : decode cX9_brings 64 = .ok (.iconst 4, 1) := by decide +kernel
theorem dX9_brings_65 : decode cX9_brings 65 = .ok (.aload_n 0, 1) := by decide +kernel
theorem dX9_brings_66 : decode cX9_brings 66 = .ok (.getfield 41, 3) := by decide +kernel
theorem dX9_brings_69 : decode cX9_brings 69 = .ok (.iconst 0, 1) := by decide +kernel
theorem dX9_brings_70 : decode cX9_brings 70 = .ok (.iaload, 1) := by decide +kernel
theorem dX9_brings_71 : decode cX9_brings 71 = .ok (.iconst 1, 1) := by decide +kernel
theorem dX9_brings_72 : decode cX9_brings 72 = .ok (.iadd, 1) := by decide +kernel
theorem dX9_brings_73 : decode cX9_brings 73 = .ok (.invokevirtual 227, 3) := by decide +kernel
theorem dX9_brings_76 : decode cX9_brings 76 = .ok (.aload_n 0, 1) := by decide +kernel
theorem dX9_brings_77 : decode cX9_brings 77 = .ok (.aload_n 0, 1) := by decide +kernel
theorem dX9_brings_78 : decode cX9_brings 78 = .ok (.invokevirtual 192, 3) := by decide +kernel
theorem dX9_brings_81 : decode cX9_brings 81 = .ok (.iload_n 1, 1) := by decide +kernel
theorem dX9_brings_82 : decode cX9_brings 82 = .ok (.aload_n 0, 1) := by decide +kernel
theorem dX9_brings_83 : decode cX9_brings 83 = .ok (.getfield 41, 3) := by decide +kernel
theorem dX9_brings_86 : decode cX9_brings 86 = .ok (.iconst 0, 1) := by decide +kernel
theorem dX9_brings_87 : decode cX9_brings 87 = .ok (.iaload, 1) := by decide +kernel
theorem dX9_brings_88 : decode cX9_brings 88 = .ok (.invokevirtual 218, 3) := by decide +kernel
theorem dX9_brings_91 : decode cX9_brings 91 = .ok (.ireturn, 1) := by decide +kernel
theorem dX9_play_0 : decode cX9_play 0 = .ok (.iload_n 1, 1) := by decide +kernel
theorem dX9_play_1 : decode cX9_play 1 = .ok (.invokestatic 233, 3) := by decide +kernel
theorem dX9_play_4 : decode cX9_play 4 = .ok (.ifCond .ne 5, 3) := by decide +kernel
theorem dX9_play_7 : decode cX9_play 7 = .ok (.iconst (-1), 1) := by decide +kernel
theorem dX9_play_8 : decode cX9_play 8 = .ok (.ireturn, 1) := by decide +kernel
theorem dX9_play_9 : decode cX9_play 9 = .ok (.iconst 0, 1) := by decide +kernel
theorem dX9_play_10 : decode cX9_play 10 = .ok (.istore_n 2, 1) := by decide +kernel
theorem dX9_play_11 : decode cX9_play 11 = .ok (.aload_n 0, 1) := by decide +kernel
theorem dX9_play_12 : decode cX9_play 12 = .ok (.invokevirtual 188, 3) := by decide +kernel
theorem dX9_play_15 : decode cX9_play 15 = .ok (.ifCond .ne 54, 3) := by decide +kernel
theorem dX9_play_18 : decode cX9_play 18 = .ok (.aload_n 0, 1) := by decide +kernel
theorem dX9_play_19 : decode cX9_play 19 = .ok (.iload_n 1, 1) := by decide +kernel
theorem dX9_play_20 : decode cX9_play 20 = .ok (.invokevirtual 230, 3) := by decide +kernel
theorem dX9_play_23 : decode cX9_play 23 = .ok (.istore_n 3, 1) := by decide +kernel
theorem dX9_play_24 : decode cX9_play 24 = .ok (.iload_n 3, 1) := by decide +kernel
theorem dX9_play_25 : decode cX9_play 25 = .ok (.bipush 6, 2) := by decide +kernel
theorem dX9_play_27 : decode cX9_play 27 = .ok (.if_icmp .ne 7, 3) := by decide +kernel
theorem dX9_play_30 : decode cX9_play 30 = .ok (.iconst 0, 1) := by decide +kernel
theorem dX9_play_31 : decode cX9_play 31 = .ok (.goto 23, 3) := by decide +kernel
theorem dX9_play_34 : decode cX9_play 34 = .ok (.iload_n 3, 1) := by decide +kernel
theorem dX9_play_35 : decode cX9_play 35 = .ok (.iconst 3, 1) := by decide +kernel
theorem dX9_play_36 : decode cX9_play 36 = .ok (.if_icmp .ge 11, 3) := by decide +kernel
theorem dX9_play_39 : decode cX9_play 39 = .ok (.aload_n 0, 1) := by decide +kernel
theorem dX9_play_40 : decode cX9_play 40 = .ok (.iload_n 3, 1) := by decide +kernel
theorem dX9_play_41 : decode cX9_play 41 = .ok (.invokevirtual 243, 3) := by decide +kernel
theorem dX9_play_44 : decode cX9_play 44 = .ok (.goto 10, 3) := by decide +kernel
theorem dX9_play_47 : decode cX9_play 47 = .ok (.aload_n 0, 1) := by decide +kernel
theorem dX9_play_48 : decode cX9_play 48 = .ok (.iload_n 3, 1) := by decide +kernel
theorem dX9_play_49 : decode cX9_play 49 = .ok (.iconst 3, 1) := by decide +kernel
theorem dX9_play_50 : decode cX9_play 50 = .ok (.isub, 1) := by decide +kernel
theorem dX9_play_51 : decode cX9_play 51 = .ok (.invokevirtual 246, 3) := by decide +kernel
theorem dX9_play_54 : decode cX9_play 54 = .ok (.istore 4, 2) := by decide +kernel
theorem dX9_play_56 : decode cX9_play 56 = .ok (.iload_n 2, 1) := by decide +kernel
theorem dX9_play_57 : decode cX9_play 57 = .ok (.iload 4, 2) := by decide +kernel
theorem dX9_play_59 : decode cX9_play 59 = .ok (.iadd, 1) := by decide +kernel
theorem dX9_play_60 : decode cX9_play 60 = .ok (.istore_n 2, 1) := by decide +kernel
theorem dX9_play_61 : decode cX9_play 61 = .ok (.aload_n 0, 1) := by decide +kernel
theorem dX9_play_62 : decode cX9_play 62 = .ok (.invokevirtual 196, 3) := by decide +kernel
theorem dX9_play_65 : decode cX9_play 65 = .ok (.pop, 1) := by decide +kernel
theorem dX9_play_66 : decode cX9_play 66 = .ok (.goto (-55), 3) := by decide +kernel
theorem dX9_play_69 : decode cX9_play 69 = .ok (.iload_n 2, 1) := by decide +kernel
theorem dX9_play_70 : decode cX9_play 70 = .ok (.ireturn, 1) := by decide +kernel
theorem dX9_age_0 : decode cX9_age 0 = .ok (.iconst 3, 1) := by decide +kernel
theorem dX9_age_1 : decode cX9_age 1 = .ok (.istore 4, 2) := by decide +kernel
theorem dX9_age_3 : decode cX9_age 3 = .ok (.iload 4, 2) := by decide +kernel
theorem dX9_age_5 : decode cX9_age 5 = .ok (.ifCond .lt 169, 3) := by decide +kernel
theorem dX9_age_8 : decode cX9_age 8 = .ok (.aload_n 0, 1) := by decide +kernel
theorem dX9_age_9 : decode cX9_age 9 = .ok (.iload_n 1, 1) := by decide +kernel
theorem dX9_age_10 : decode cX9_age 10 = .ok (.iload 4, 2) := by decide +kernel
theorem dX9_age_12 : decode cX9_age 12 = .ok (.iload_n 2, 1) := by decide +kernel
theorem dX9_age_13 : decode cX9_age 13 = .ok (.ifCond .eq 12, 3) := by decide +kernel
theorem dX9_age_16 : decode cX9_age 16 = .ok (.aload_n 0, 1) := by decide +kernel
theorem dX9_age_17 : decode cX9_age 17 = .ok (.getfield 32, 3) := by decide +kernel
theorem dX9_age_20 : decode cX9_age 20 = .ok (.iload_n 1, 1) := by decide +kernel
theorem dX9_age_21 : decode cX9_age 21 = .ok (.iaload, 1) := by decide +kernel
theorem dX9_age_22 : decode cX9_age 22 = .ok (.goto 4, 3) := by decide +kernel
theorem dX9_age_25 : decode cX9_age 25 = .ok (.iconst 0, 1) := by decide +kernel
theorem dX9_age_26 : decode cX9_age 26 = .ok (.iload_n 3, 1) := by decide +kernel
theorem dX9_age_27 : decode cX9_age 27 = .ok (.invokevirtual 171, 3) := by decide +kernel
theorem dX9_age_30 : decode cX9_age 30 = .ok (.istore 5, 2) := by decide +kernel
theorem dX9_age_32 : decode cX9_age 32 = .ok (.aload_n 0, 1) := by decide +kernel
theorem dX9_age_33 : decode cX9_age 33 = .ok (.getfield 63, 3) := by decide +kernel
theorem dX9_age_36 : decode cX9_age 36 = .ok (.iload_n 1, 1) := by decide +kernel
theorem dX9_age_37 : decode cX9_age 37 = .ok (.baload, 1) := by decide +kernel
theorem dX9_age_38 : decode cX9_age 38 = .ok (.ifCond .ne 9, 3) := by decide +kernel
theorem dX9_age_41 : decode cX9_age 41 = .ok (.iload 4, 2) := by decide +kernel
theorem dX9_age_43 : decode cX9_age 43 = .ok (.iconst 3, 1) := by decide +kernel
theorem dX9_age_44 : decode cX9_age 44 = .ok (.if_icmp .ne 7, 3) := by decide +kernel
theorem dX9_age_47 : decode cX9_age 47 = .ok (.iconst 0, 1) := by decide +kernel
theorem dX9_age_48 : decode cX9_age 48 = .ok (.goto 23, 3) := by decide +kernel
theorem dX9_age_51 : decode cX9_age 51 = .ok (.aload_n 0, 1) := by decide +kernel
theorem dX9_age_52 : decode cX9_age 52 = .ok (.getfield 26, 3) := by decide +kernel
theorem dX9_age_55 : decode cX9_age 55 = .ok (.bipush 14, 2) := by decide +kernel
theorem dX9_age_57 : decode cX9_age 57 = .ok (.aload_n 0, 1) := by decide +kernel
theorem dX9_age_58 : decode cX9_age 58 = .ok (.getfield 29, 3) := by decide +kernel
theorem dX9_age_61 : decode cX9_age 61 = .ok (.iload_n 1, 1) := by decide +kernel
theorem dX9_age_62 : decode cX9_age 62 = .ok (.iaload, 1) := by decide +kernel
theorem dX9_age_63 : decode cX9_age 63 = .ok (.imul, 1) := by decide +kernel
theorem dX9_age_64 : decode cX9_age 64 = .ok (.bipush 7, 2) := by decide +kernel
theorem dX9_age_66 : decode cX9_age 66 = .ok (.iadd, 1) := by decide +kernel
theorem dX9_age_67 : decode cX9_age 67 = .ok (.iload 4, 2) := by decide +kernel
theorem dX9_age_69 : decode cX9_age 69 = .ok (.iadd, 1) := by decide +kernel
theorem dX9_age_70 : decode cX9_age 70 = .ok (.iaload, 1) := by decide +kernel
theorem dX9_age_71 : decode cX9_age 71 = .ok (.istore 6, 2) := by decide +kernel
theorem dX9_age_73 : decode cX9_age 73 = .ok (.iload 6, 2) := by decide +kernel
theorem dX9_age_75 : decode cX9_age 75 = .ok (.ifCond .ne 7, 3) := by decide +kernel
theorem dX9_age_78 : decode cX9_age 78 = .ok (.iconst 0, 1) := by decide +kernel
theorem dX9_age_79 : decode cX9_age 79 = .ok (.goto 29, 3) := by decide +kernel
theorem dX9_age_82 : decode cX9_age 82 = .ok (.iload 6, 2) := by decide +kernel
theorem dX9_age_84 : decode cX9_age 84 = .ok (.aload_n 0, 1) := by decide +kernel
theorem dX9_age_85 : decode cX9_age 85 = .ok (.iload_n 3, 1) := by decide +kernel
theorem dX9_age_86 : decode cX9_age 86 = .ok (.invokevirtual 161, 3) := by decide +kernel
theorem dX9_age_89 : decode cX9_age 89 = .ok (.iadd, 1) := by decide +kernel
theorem dX9_age_90 : decode cX9_age 90 = .ok (.bipush 10, 2) := by decide +kernel
theorem dX9_age_92 : decode cX9_age 92 = .ok (.if_icmp .le 8, 3) := by decide +kernel
theorem dX9_age_95 : decode cX9_age 95 = .ok (.bipush 10, 2) := by decide +kernel
theorem dX9_age_97 : decode cX9_age 97 = .ok (.goto 11, 3) := by decide +kernel
theorem dX9_age_100 : decode cX9_age 100 = .ok (.iload 6, 2) := by decide +kernel
theorem dX9_age_102 : decode cX9_age 102 = .ok (.aload_n 0, 1) := by decide +kernel
theorem dX9_age_103 : decode cX9_age 103 = .ok (.iload_n 3, 1) := by decide +kernel
theorem dX9_age_104 : decode cX9_age 104 = .ok (.invokevirtual 161, 3) := by decide +kernel
theorem dX9_age_107 : decode cX9_age 107 = .ok (.iadd, 1) := by decide +kernel
theorem dX9_age_108 : decode cX9_age 108 = .ok (.istore 7, 2) := by decide +kernel
theorem dX9_age_110 : decode cX9_age 110 = .ok (.iload_n 2, 1) := by decide +kernel
theorem dX9_age_111 : decode cX9_age 111 = .ok (.ifCond .eq 8, 3) := by decide +kernel
theorem dX9_age_114 : decode cX9_age 114 = .ok (.iload 5, 2) := by decide +kernel
theorem dX9_age_116 : decode cX9_age 116 = .ok (.goto 5, 3) := by decide +kernel
theorem dX9_age_119 : decode cX9_age 119 = .ok (.iload 7, 2) := by decide +kernel
theorem dX9_age_121 : decode cX9_age 121 = .ok (.istore 8, 2) := by decide +kernel
theorem dX9_age_123 : decode cX9_age 123 = .ok (.iload 4, 2) := by decide +kernel
theorem dX9_age_125 : decode cX9_age 125 = .ok (.iconst 3, 1) := by decide +kernel
theorem dX9_age_126 : decode cX9_age 126 = .ok (.if_icmp .ge 26, 3) := by decide +kernel
theorem dX9_age_129 : decode cX9_age 129 = .ok (.aload_n 0, 1) := by decide +kernel
theorem dX9_age_130 : decode cX9_age 130 = .ok (.getfield 96, 3) := by decide +kernel
theorem dX9_age_133 : decode cX9_age 133 = .ok (.iload 4, 2) := by decide +kernel
theorem dX9_age_135 : decode cX9_age 135 = .ok (.iconst 1, 1) := by decide +kernel
theorem dX9_age_136 : decode cX9_age 136 = .ok (.iadd, 1) := by decide +kernel
theorem dX9_age_137 : decode cX9_age 137 = .ok (.dup2, 1) := by decide +kernel
theorem dX9_age_138 : decode cX9_age 138 = .ok (.laload, 1) := by decide +kernel
theorem dX9_age_139 : decode cX9_age 139 = .ok (.aload_n 0, 1) := by decide +kernel
theorem dX9_age_140 : decode cX9_age 140 = .ok (.getfield 96, 3) := by decide +kernel
theorem dX9_age_143 : decode cX9_age 143 = .ok (.iload 4, 2) := by decide +kernel
theorem dX9_age_145 : decode cX9_age 145 = .ok (.laload, 1) := by decide +kernel
theorem dX9_age_146 : decode cX9_age 146 = .ok (.iload 8, 2) := by decide +kernel
theorem dX9_age_148 : decode cX9_age 148 = .ok (.i2l, 1) := by decide +kernel
theorem dX9_age_149 : decode cX9_age 149 = .ok (.lmul, 1) := by decide +kernel
theorem dX9_age_150 : decode cX9_age 150 = .ok (.ladd, 1) := by decide +kernel
theorem dX9_age_151 : decode cX9_age 151 = .ok (.lastore, 1) := by decide +kernel
theorem dX9_age_152 : decode cX9_age 152 = .ok (.aload_n 0, 1) := by decide +kernel
theorem dX9_age_153 : decode cX9_age 153 = .ok (.getfield 96, 3) := by decide +kernel
theorem dX9_age_156 : decode cX9_age 156 = .ok (.iload 4, 2) := by decide +kernel
theorem dX9_age_158 : decode cX9_age 158 = .ok (.dup2, 1) := by decide +kernel
theorem dX9_age_159 : decode cX9_age 159 = .ok (.laload, 1) := by decide +kernel
theorem dX9_age_160 : decode cX9_age 160 = .ok (.bipush 10, 2) := by decide +kernel
theorem dX9_age_162 : decode cX9_age 162 = .ok (.iload 8, 2) := by decide +kernel
theorem dX9_age_164 : decode cX9_age 164 = .ok (.isub, 1) := by decide +kernel
theorem dX9_age_165 : decode cX9_age 165 = .ok (.i2l, 1) := by decide +kernel
theorem dX9_age_166 : decode cX9_age 166 = .ok (.lmul, 1) := by decide +kernel
theorem dX9_age_167 : decode cX9_age 167 = .ok (.lastore, 1) := by decide +kernel
theorem dX9_age_168 : decode cX9_age 168 = .ok (.iinc 4 (-1), 3) := by decide +kernel
theorem dX9_age_171 : decode cX9_age 171 = .ok (.goto (-168), 3) := by decide +kernel
theorem dX9_age_174 : decode cX9_age 174 = .ok (.return_, 1) := by decide +kernel
theorem dX9_gainOf_0 : decode cX9_gainOf 0 = .ok (.lconst 1, 1) := by decide +kernel
theorem dX9_gainOf_1 : decode cX9_gainOf 1 = .ok (.lstore 4, 2) := by decide +kernel
theorem dX9_gainOf_3 : decode cX9_gainOf 3 = .ok (.iconst 0, 1) := by decide +kernel
theorem dX9_gainOf_4 : decode cX9_gainOf 4 = .ok (.istore 6, 2) := by decide +kernel
theorem dX9_gainOf_6 : decode cX9_gainOf 6 = .ok (.iload 6, 2) := by decide +kernel
theorem dX9_gainOf_8 : decode cX9_gainOf 8 = .ok (.iconst 4, 1) := by decide +kernel
theorem dX9_gainOf_9 : decode cX9_gainOf 9 = .ok (.if_icmp .ge 32, 3) := by decide +kernel
theorem dX9_gainOf_12 : decode cX9_gainOf 12 = .ok (.aload_n 0, 1) := by decide +kernel
theorem dX9_gainOf_13 : decode cX9_gainOf 13 = .ok (.getfield 96, 3) := by decide +kernel
theorem dX9_gainOf_16 : decode cX9_gainOf 16 = .ok (.iload 6, 2) := by decide +kernel
theorem dX9_gainOf_18 : decode cX9_gainOf 18 = .ok (.iload 6, 2) := by decide +kernel
theorem dX9_gainOf_20 : decode cX9_gainOf 20 = .ok (.aload_n 0, 1) := by decide +kernel
theorem dX9_gainOf_21 : decode cX9_gainOf 21 = .ok (.getfield 57, 3) := by decide +kernel
theorem dX9_gainOf_24 : decode cX9_gainOf 24 = .ok (.iload_n 1, 1) := by decide +kernel
theorem dX9_gainOf_25 : decode cX9_gainOf 25 = .ok (.iaload, 1) := by decide +kernel
theorem dX9_gainOf_26 : decode cX9_gainOf 26 = .ok (.if_icmp .ne 7, 3) := by decide +kernel
theorem dX9_gainOf_29 : decode cX9_gainOf 29 = .ok (.lconst 1, 1) := by decide +kernel
theorem dX9_gainOf_30 : decode cX9_gainOf 30 = .ok (.goto 4, 3) := by decide +kernel
theorem dX9_gainOf_33 : decode cX9_gainOf 33 = .ok (.lconst 0, 1) := by decide +kernel
theorem dX9_gainOf_34 : decode cX9_gainOf 34 = .ok (.lastore, 1) := by decide +kernel
theorem dX9_gainOf_35 : decode cX9_gainOf 35 = .ok (.iinc 6 1, 3) := by decide +kernel
theorem dX9_gainOf_38 : decode cX9_gainOf 38 = .ok (.goto (-32), 3) := by decide +kernel
theorem dX9_gainOf_41 : decode cX9_gainOf 41 = .ok (.aload_n 0, 1) := by decide +kernel
theorem dX9_gainOf_42 : decode cX9_gainOf 42 = .ok (.getfield 41, 3) := by decide +kernel
theorem dX9_gainOf_45 : decode cX9_gainOf 45 = .ok (.iconst 0, 1) := by decide +kernel
theorem dX9_gainOf_46 : decode cX9_gainOf 46 = .ok (.iaload, 1) := by decide +kernel
theorem dX9_gainOf_47 : decode cX9_gainOf 47 = .ok (.istore 6, 2) := by decide +kernel
theorem dX9_gainOf_49 : decode cX9_gainOf 49 = .ok (.iload 6, 2) := by decide +kernel
theorem dX9_gainOf_51 : decode cX9_gainOf 51 = .ok (.iload_n 3, 1) := by decide +kernel
theorem dX9_gainOf_52 : decode cX9_gainOf 52 = .ok (.if_icmp .ge 41, 3) := by decide +kernel
theorem dX9_gainOf_55 : decode cX9_gainOf 55 = .ok (.aload_n 0, 1) := by decide +kernel
theorem dX9_gainOf_56 : decode cX9_gainOf 56 = .ok (.iload_n 1, 1) := by decide +kernel
theorem dX9_gainOf_57 : decode cX9_gainOf 57 = .ok (.iload_n 2, 1) := by decide +kernel
theorem dX9_gainOf_58 : decode cX9_gainOf 58 = .ok (.bipush 8, 2) := by decide +kernel
theorem dX9_gainOf_60 : decode cX9_gainOf 60 = .ok (.if_icmp .ge 13, 3) := by decide +kernel
theorem dX9_gainOf_63 : decode cX9_gainOf 63 = .ok (.iload 6, 2) := by decide +kernel
theorem dX9_gainOf_65 : decode cX9_gainOf 65 = .ok (.iload_n 2, 1) := by decide +kernel
theorem dX9_gainOf_66 : decode cX9_gainOf 66 = .ok (.if_icmp .ge 7, 3) := by decide +kernel
theorem dX9_gainOf_69 : decode cX9_gainOf 69 = .ok (.iconst 1, 1) := by decide +kernel
theorem dX9_gainOf_70 : decode cX9_gainOf 70 = .ok (.goto 4, 3) := by decide +kernel
theorem dX9_gainOf_73 : decode cX9_gainOf 73 = .ok (.iconst 0, 1) := by decide +kernel
theorem dX9_gainOf_74 : decode cX9_gainOf 74 = .ok (.iload 6, 2) := by decide +kernel
theorem dX9_gainOf_76 : decode cX9_gainOf 76 = .ok (.invokevirtual 249, 3) := by decide +kernel
theorem dX9_gainOf_79 : decode cX9_gainOf 79 = .ok (.lload 4, 2) := by decide +kernel
theorem dX9_gainOf_81 : decode cX9_gainOf 81 = .ok (.ldc2_w 253, 3) := by decide +kernel
theorem dX9_gainOf_84 : decode cX9_gainOf 84 = .ok (.lmul, 1) := by decide +kernel
theorem dX9_gainOf_85 : decode cX9_gainOf 85 = .ok (.lstore 4, 2) := by decide +kernel
theorem dX9_gainOf_87 : decode cX9_gainOf 87 = .ok (.iinc 6 1, 3) := by decide +kernel
theorem dX9_gainOf_90 : decode cX9_gainOf 90 = .ok (.goto (-41), 3) := by decide +kernel
theorem dX9_gainOf_93 : decode cX9_gainOf 93 = .ok (.lconst 0, 1) := by decide +kernel
theorem dX9_gainOf_94 : decode cX9_gainOf 94 = .ok (.lstore 6, 2) := by decide +kernel
theorem dX9_gainOf_96 : decode cX9_gainOf 96 = .ok (.iconst 0, 1) := by decide +kernel
theorem dX9_gainOf_97 : decode cX9_gainOf 97 = .ok (.istore 8, 2) := by decide +kernel
theorem dX9_gainOf_99 : decode cX9_gainOf 99 = .ok (.iload 8, 2) := by decide +kernel
theorem dX9_gainOf_101 : decode cX9_gainOf 101 = .ok (.iconst 4, 1) := by decide +kernel
theorem dX9_gainOf_102 : decode cX9_gainOf 102 = .ok (.if_icmp .ge 30, 3) := by decide +kernel
theorem dX9_gainOf_105 : decode cX9_gainOf 105 = .ok (.lload 6, 2) := by decide +kernel
theorem dX9_gainOf_107 : decode cX9_gainOf 107 = .ok (.aload_n 0, 1) := by decide +kernel
theorem dX9_gainOf_108 : decode cX9_gainOf 108 = .ok (.getfield 96, 3) := by decide +kernel
theorem dX9_gainOf_111 : decode cX9_gainOf 111 = .ok (.iload 8, 2) := by decide +kernel
theorem dX9_gainOf_113 : decode cX9_gainOf 113 = .ok (.laload, 1) := by decide +kernel
theorem dX9_gainOf_114 : decode cX9_gainOf 114 = .ok (.aload_n 0, 1) := by decide +kernel
theorem dX9_gainOf_115 : decode cX9_gainOf 115 = .ok (.iload_n 1, 1) := by decide +kernel
theorem dX9_gainOf_116 : decode cX9_gainOf 116 = .ok (.iload 8, 2) := by decide +kernel
theorem dX9_gainOf_118 : decode cX9_gainOf 118 = .ok (.invokevirtual 168, 3) := by decide +kernel
theorem dX9_gainOf_121 : decode cX9_gainOf 121 = .ok (.i2l, 1) := by decide +kernel
theorem dX9_gainOf_122 : decode cX9_gainOf 122 = .ok (.lmul, 1) := by decide +kernel
theorem dX9_gainOf_123 : decode cX9_gainOf 123 = .ok (.ladd, 1) := by decide +kernel
theorem dX9_gainOf_124 : decode cX9_gainOf 124 = .ok (.lstore 6, 2) := by decide +kernel
theorem dX9_gainOf_126 : decode cX9_gainOf 126 = .ok (.iinc 8 1, 3) := by decide +kernel
theorem dX9_gainOf_129 : decode cX9_gainOf 129 = .ok (.goto (-30), 3) := by decide +kernel
theorem dX9_gainOf_132 : decode cX9_gainOf 132 = .ok (.lload 6, 2) := by decide +kernel
theorem dX9_gainOf_134 : decode cX9_gainOf 134 = .ok (.ldc2_w 203, 3) := by decide +kernel
theorem dX9_gainOf_137 : decode cX9_gainOf 137 = .ok (.lmul, 1) := by decide +kernel
theorem dX9_gainOf_138 : decode cX9_gainOf 138 = .ok (.lload 4, 2) := by decide +kernel
theorem dX9_gainOf_140 : decode cX9_gainOf 140 = .ok (.ldiv, 1) := by decide +kernel
theorem dX9_gainOf_141 : decode cX9_gainOf 141 = .ok (.l2i, 1) := by decide +kernel
theorem dX9_gainOf_142 : decode cX9_gainOf 142 = .ok (.ireturn, 1) := by decide +kernel
theorem dX9_firstWeek_0 : decode cX9_firstWeek 0 = .ok (.aload_n 0, 1) := by decide +kernel
theorem dX9_firstWeek_1 : decode cX9_firstWeek 1 = .ok (.getfield 41, 3) := by decide +kernel
theorem dX9_firstWeek_4 : decode cX9_firstWeek 4 = .ok (.iconst 0, 1) := by decide +kernel
theorem dX9_firstWeek_5 : decode cX9_firstWeek 5 = .ok (.iaload, 1) := by decide +kernel
theorem dX9_firstWeek_6 : decode cX9_firstWeek 6 = .ok (.aload_n 0, 1) := by decide +kernel
theorem dX9_firstWeek_7 : decode cX9_firstWeek 7 = .ok (.getfield 44, 3) := by decide +kernel
theorem dX9_firstWeek_10 : decode cX9_firstWeek 10 = .ok (.iconst 0, 1) := by decide +kernel
theorem dX9_firstWeek_11 : decode cX9_firstWeek 11 = .ok (.baload, 1) := by decide +kernel
theorem dX9_firstWeek_12 : decode cX9_firstWeek 12 = .ok (.ifCond .eq 7, 3) := by decide +kernel
theorem dX9_firstWeek_15 : decode cX9_firstWeek 15 = .ok (.iconst 1, 1) := by decide +kernel
theorem dX9_firstWeek_16 : decode cX9_firstWeek 16 = .ok (.goto 4, 3) := by decide +kernel
theorem dX9_firstWeek_19 : decode cX9_firstWeek 19 = .ok (.iconst 0, 1) := by decide +kernel
theorem dX9_firstWeek_20 : decode cX9_firstWeek 20 = .ok (.iadd, 1) := by decide +kernel
theorem dX9_firstWeek_21 : decode cX9_firstWeek 21 = .ok (.ireturn, 1) := by decide +kernel
theorem dX9_mayBlind_0 : decode cX9_mayBlind 0 = .ok (.iconst 0, 1) := by decide +kernel
theorem dX9_mayBlind_1 : decode cX9_mayBlind 1 = .ok (.istore_n 2, 1) := by decide +kernel
theorem dX9_mayBlind_2 : decode cX9_mayBlind 2 = .ok (.iconst 0, 1) := by decide +kernel
theorem dX9_mayBlind_3 : decode cX9_mayBlind 3 = .ok (.istore_n 3, 1) := by decide +kernel
theorem dX9_mayBlind_4 : decode cX9_mayBlind 4 = .ok (.iload_n 3, 1) := by decide +kernel
theorem dX9_mayBlind_5 : decode cX9_mayBlind 5 = .ok (.aload_n 0, 1) := by decide +kernel
theorem dX9_mayBlind_6 : decode cX9_mayBlind 6 = .ok (.getfield 17, 3) := by decide +kernel
theorem dX9_mayBlind_9 : decode cX9_mayBlind 9 = .ok (.iconst 0, 1) := by decide +kernel
theorem dX9_mayBlind_10 : decode cX9_mayBlind 10 = .ok (.iaload, 1) := by decide +kernel
theorem dX9_mayBlind_11 : decode cX9_mayBlind 11 = .ok (.if_icmp .ge 46, 3) := by decide +kernel
theorem dX9_mayBlind_14 : decode cX9_mayBlind 14 = .ok (.iload_n 2, 1) := by decide +kernel
theorem dX9_mayBlind_15 : decode cX9_mayBlind 15 = .ok (.iload_n 3, 1) := by decide +kernel
theorem dX9_mayBlind_16 : decode cX9_mayBlind 16 = .ok (.iload_n 1, 1) := by decide +kernel
theorem dX9_mayBlind_17 : decode cX9_mayBlind 17 = .ok (.if_icmp .eq 31, 3) := by decide +kernel
theorem dX9_mayBlind_20 : decode cX9_mayBlind 20 = .ok (.aload_n 0, 1) := by decide +kernel
theorem dX9_mayBlind_21 : decode cX9_mayBlind 21 = .ok (.getfield 93, 3) := by decide +kernel
theorem dX9_mayBlind_24 : decode cX9_mayBlind 24 = .ok (.iload_n 3, 1) := by decide +kernel
theorem dX9_mayBlind_25 : decode cX9_mayBlind 25 = .ok (.iaload, 1) := by decide +kernel
theorem dX9_mayBlind_26 : decode cX9_mayBlind 26 = .ok (.ifCond .le 22, 3) := by decide +kernel
theorem dX9_mayBlind_29 : decode cX9_mayBlind 29 = .ok (.aload_n 0, 1) := by decide +kernel
theorem dX9_mayBlind_30 : decode cX9_mayBlind 30 = .ok (.getfield 93, 3) := by decide +kernel
theorem dX9_mayBlind_33 : decode cX9_mayBlind 33 = .ok (.iload_n 3, 1) := by decide +kernel
theorem dX9_mayBlind_34 : decode cX9_mayBlind 34 = .ok (.iaload, 1) := by decide +kernel
theorem dX9_mayBlind_35 : decode cX9_mayBlind 35 = .ok (.aload_n 0, 1) := by decide +kernel
theorem dX9_mayBlind_36 : decode cX9_mayBlind 36 = .ok (.getfield 32, 3) := by decide +kernel
theorem dX9_mayBlind_39 : decode cX9_mayBlind 39 = .ok (.iload_n 3, 1) := by decide +kernel
theorem dX9_mayBlind_40 : decode cX9_mayBlind 40 = .ok (.iaload, 1) := by decide +kernel
theorem dX9_mayBlind_41 : decode cX9_mayBlind 41 = .ok (.if_icmp .ge 7, 3) := by decide +kernel
theorem dX9_mayBlind_44 : decode cX9_mayBlind 44 = .ok (.iconst 1, 1) := by decide +kernel
theorem dX9_mayBlind_45 : decode cX9_mayBlind 45 = .ok (.goto 4, 3) := by decide +kernel
theorem dX9_mayBlind_48 : decode cX9_mayBlind 48 = .ok (.iconst 0, 1) := by decide +kernel
theorem dX9_mayBlind_49 : decode cX9_mayBlind 49 = .ok (.iadd, 1) := by decide +kernel
theorem dX9_mayBlind_50 : decode cX9_mayBlind 50 = .ok (.istore_n 2, 1) := by decide +kernel
theorem dX9_mayBlind_51 : decode cX9_mayBlind 51 = .ok (.iinc 3 1, 3) := by decide +kernel
theorem dX9_mayBlind_54 : decode cX9_mayBlind 54 = .ok (.goto (-50), 3) := by decide +kernel
theorem dX9_mayBlind_57 : decode cX9_mayBlind 57 = .ok (.aload_n 0, 1) := by decide +kernel
theorem dX9_mayBlind_58 : decode cX9_mayBlind 58 = .ok (.iload_n 1, 1) := by decide +kernel
theorem dX9_mayBlind_59 : decode cX9_mayBlind 59 = .ok (.invokevirtual 164, 3) := by decide +kernel
theorem dX9_mayBlind_62 : decode cX9_mayBlind 62 = .ok (.ifCond .eq 41, 3) := by decide +kernel
theorem dX9_mayBlind_65 : decode cX9_mayBlind 65 = .ok (.aload_n 0, 1) := by decide +kernel
theorem dX9_mayBlind_66 : decode cX9_mayBlind 66 = .ok (.getfield 93, 3) := by decide +kernel
theorem dX9_mayBlind_69 : decode cX9_mayBlind 69 = .ok (.iload_n 1, 1) := by decide +kernel
theorem dX9_mayBlind_70 : decode cX9_mayBlind 70 = .ok (.iaload, 1) := by decide +kernel
theorem dX9_mayBlind_71 : decode cX9_mayBlind 71 = .ok (.ifCond .le 32, 3) := by decide +kernel
theorem dX9_mayBlind_74 : decode cX9_mayBlind 74 = .ok (.aload_n 0, 1) := by decide +kernel
theorem dX9_mayBlind_75 : decode cX9_mayBlind 75 = .ok (.getfield 93, 3) := by decide +kernel
theorem dX9_mayBlind_78 : decode cX9_mayBlind 78 = .ok (.iload_n 1, 1) := by decide +kernel
theorem dX9_mayBlind_79 : decode cX9_mayBlind 79 = .ok (.iaload, 1) := by decide +kernel
theorem dX9_mayBlind_80 : decode cX9_mayBlind 80 = .ok (.aload_n 0, 1) := by decide +kernel
theorem dX9_mayBlind_81 : decode cX9_mayBlind 81 = .ok (.getfield 32, 3) := by decide +kernel
theorem dX9_mayBlind_84 : decode cX9_mayBlind 84 = .ok (.iload_n 1, 1) := by decide +kernel
theorem dX9_mayBlind_85 : decode cX9_mayBlind 85 = .ok (.iaload, 1) := by decide +kernel
theorem dX9_mayBlind_86 : decode cX9_mayBlind 86 = .ok (.if_icmp .lt 13, 3) := by decide +kernel
theorem dX9_mayBlind_89 : decode cX9_mayBlind 89 = .ok (.iload_n 2, 1) := by decide +kernel
theorem dX9_mayBlind_90 : decode cX9_mayBlind 90 = .ok (.aload_n 0, 1) := by decide +kernel
theorem dX9_mayBlind_91 : decode cX9_mayBlind 91 = .ok (.getfield 23, 3) := by decide +kernel
theorem dX9_mayBlind_94 : decode cX9_mayBlind 94 = .ok (.iconst 0, 1) := by decide +kernel
theorem dX9_mayBlind_95 : decode cX9_mayBlind 95 = .ok (.iaload, 1) := by decide +kernel
theorem dX9_mayBlind_96 : decode cX9_mayBlind 96 = .ok (.if_icmp .ge 7, 3) := by decide +kernel
theorem dX9_mayBlind_99 : decode cX9_mayBlind 99 = .ok (.iconst 1, 1) := by decide +kernel
theorem dX9_mayBlind_100 : decode cX9_mayBlind 100 = .ok (.goto 4, 3) := by decide +kernel
theorem dX9_mayBlind_103 : decode cX9_mayBlind 103 = .ok (.iconst 0, 1) := by decide +kernel
theorem dX9_mayBlind_104 : decode cX9_mayBlind 104 = .ok (.ireturn, 1) := by decide +kernel
theorem dX9_findRow_0 : decode cX9_findRow 0 = .ok (.aload_n 0, 1) := by decide +kernel
theorem dX9_findRow_1 : decode cX9_findRow 1 = .ok (.getfield 20, 3) := by decide +kernel
theorem dX9_findRow_4 : decode cX9_findRow 4 = .ok (.iconst 0, 1) := by decide +kernel
theorem dX9_findRow_5 : decode cX9_findRow 5 = .ok (.iaload, 1) := by decide +kernel
theorem dX9_findRow_6 : decode cX9_findRow 6 = .ok (.aload_n 0, 1) := by decide +kernel
theorem dX9_findRow_7 : decode cX9_findRow 7 = .ok (.invokevirtual 255, 3) := by decide +kernel
theorem dX9_findRow_10 : decode cX9_findRow 10 = .ok (.isub, 1) := by decide +kernel
theorem dX9_findRow_11 : decode cX9_findRow 11 = .ok (.istore_n 1, 1) := by decide +kernel
theorem dX9_findRow_12 : decode cX9_findRow 12 = .ok (.iconst 0, 1) := by decide +kernel
theorem dX9_findRow_13 : decode cX9_findRow 13 = .ok (.istore_n 2, 1) := by decide +kernel
theorem dX9_findRow_14 : decode cX9_findRow 14 = .ok (.iload_n 2, 1) := by decide +kernel
theorem dX9_findRow_15 : decode cX9_findRow 15 = .ok (.aload_n 0, 1) := by decide +kernel
theorem dX9_findRow_16 : decode cX9_findRow 16 = .ok (.getfield 17, 3) := by decide +kernel
theorem dX9_findRow_19 : decode cX9_findRow 19 = .ok (.iconst 0, 1) := by decide +kernel
theorem dX9_findRow_20 : decode cX9_findRow 20 = .ok (.iaload, 1) := by decide +kernel
theorem dX9_findRow_21 : decode cX9_findRow 21 = .ok (.if_icmp .ge 127, 3) := by decide +kernel
theorem dX9_findRow_24 : decode cX9_findRow 24 = .ok (.aload_n 0, 1) := by decide +kernel
theorem dX9_findRow_25 : decode cX9_findRow 25 = .ok (.getfield 93, 3) := by decide +kernel
theorem dX9_findRow_28 : decode cX9_findRow 28 = .ok (.iload_n 2, 1) := by decide +kernel
theorem dX9_findRow_29 : decode cX9_findRow 29 = .ok (.aload_n 0, 1) := by decide +kernel
theorem dX9_findRow_30 : decode cX9_findRow 30 = .ok (.getfield 60, 3) := by decide +kernel
theorem dX9_findRow_33 : decode cX9_findRow 33 = .ok (.iload_n 2, 1) := by decide +kernel
theorem dX9_findRow_34 : decode cX9_findRow 34 = .ok (.iaload, 1) := by decide +kernel
theorem dX9_findRow_35 : decode cX9_findRow 35 = .ok (.iastore, 1) := by decide +kernel
theorem dX9_findRow_36 : decode cX9_findRow 36 = .ok (.aload_n 0, 1) := by decide +kernel
theorem dX9_findRow_37 : decode cX9_findRow 37 = .ok (.getfield 90, 3) := by decide +kernel
theorem dX9_findRow_40 : decode cX9_findRow 40 = .ok (.iload_n 2, 1) := by decide +kernel
theorem dX9_findRow_41 : decode cX9_findRow 41 = .ok (.aload_n 0, 1) := by decide +kernel
theorem dX9_findRow_42 : decode cX9_findRow 42 = .ok (.getfield 60, 3) := by decide +kernel
theorem dX9_findRow_45 : decode cX9_findRow 45 = .ok (.iload_n 2, 1) := by decide +kernel
theorem dX9_findRow_46 : decode cX9_findRow 46 = .ok (.iaload, 1) := by decide +kernel
theorem dX9_findRow_47 : decode cX9_findRow 47 = .ok (.aload_n 0, 1) := by decide +kernel
theorem dX9_findRow_48 : decode cX9_findRow 48 = .ok (.getfield 32, 3) := by decide +kernel
theorem dX9_findRow_51 : decode cX9_findRow 51 = .ok (.iload_n 2, 1) := by decide +kernel
theorem dX9_findRow_52 : decode cX9_findRow 52 = .ok (.iaload, 1) := by decide +kernel
theorem dX9_findRow_53 : decode cX9_findRow 53 = .ok (.if_icmp .ge 8, 3) := by decide +kernel
theorem dX9_findRow_56 : decode cX9_findRow 56 = .ok (.bipush 8, 2) := by decide +kernel
theorem dX9_findRow_58 : decode cX9_findRow 58 = .ok (.goto 5, 3) := by decide +kernel
theorem dX9_findRow_61 : decode cX9_findRow 61 = .ok (.bipush (-9), 2) := by decide +kernel
theorem dX9_findRow_63 : decode cX9_findRow 63 = .ok (.iastore, 1) := by decide +kernel
theorem dX9_findRow_64 : decode cX9_findRow 64 = .ok (.iconst 0, 1) := by decide +kernel
theorem dX9_findRow_65 : decode cX9_findRow 65 = .ok (.istore_n 3, 1) := by decide +kernel
theorem dX9_findRow_66 : decode cX9_findRow 66 = .ok (.iload_n 3, 1) := by decide +kernel
theorem dX9_findRow_67 : decode cX9_findRow 67 = .ok (.bipush 8, 2) := by decide +kernel
theorem dX9_findRow_69 : decode cX9_findRow 69 = .ok (.if_icmp .gt 73, 3) := by decide +kernel
theorem dX9_findRow_72 : decode cX9_findRow 72 = .ok (.aload_n 0, 1) := by decide +kernel
theorem dX9_findRow_73 : decode cX9_findRow 73 = .ok (.invokevirtual 255, 3) := by decide +kernel
theorem dX9_findRow_76 : decode cX9_findRow 76 = .ok (.istore 4, 2) := by decide +kernel
theorem dX9_findRow_78 : decode cX9_findRow 78 = .ok (.iload 4, 2) := by decide +kernel
theorem dX9_findRow_80 : decode cX9_findRow 80 = .ok (.aload_n 0, 1) := by decide +kernel
theorem dX9_findRow_81 : decode cX9_findRow 81 = .ok (.getfield 20, 3) := by decide +kernel
theorem dX9_findRow_84 : decode cX9_findRow 84 = .ok (.iconst 0, 1) := by decide +kernel
theorem dX9_findRow_85 : decode cX9_findRow 85 = .ok (.iaload, 1) := by decide +kernel
theorem dX9_findRow_86 : decode cX9_findRow 86 = .ok (.if_icmp .ge 50, 3) := by decide +kernel
theorem dX9_findRow_89 : decode cX9_findRow 89 = .ok (.aload_n 0, 1) := by decide +kernel
theorem dX9_findRow_90 : decode cX9_findRow 90 = .ok (.getfield 81, 3) := by decide +kernel
theorem dX9_findRow_93 : decode cX9_findRow 93 = .ok (.bipush 72, 2) := by decide +kernel
theorem dX9_findRow_95 : decode cX9_findRow 95 = .ok (.iload_n 2, 1) := by decide +kernel
theorem dX9_findRow_96 : decode cX9_findRow 96 = .ok (.imul, 1) := by decide +kernel
theorem dX9_findRow_97 : decode cX9_findRow 97 = .ok (.bipush 8, 2) := by decide +kernel
theorem dX9_findRow_99 : decode cX9_findRow 99 = .ok (.iload_n 3, 1) := by decide +kernel
theorem dX9_findRow_100 : decode cX9_findRow 100 = .ok (.imul, 1) := by decide +kernel
theorem dX9_findRow_101 : decode cX9_findRow 101 = .ok (.iadd, 1) := by decide +kernel
theorem dX9_findRow_102 : decode cX9_findRow 102 = .ok (.iload 4, 2) := by decide +kernel
theorem dX9_findRow_104 : decode cX9_findRow 104 = .ok (.iadd, 1) := by decide +kernel
theorem dX9_findRow_105 : decode cX9_findRow 105 = .ok (.iload_n 3, 1) := by decide +kernel
theorem dX9_findRow_106 : decode cX9_findRow 106 = .ok (.bipush 8, 2) := by decide +kernel
theorem dX9_findRow_108 : decode cX9_findRow 108 = .ok (.if_icmp .eq 9, 3) := by decide +kernel
theorem dX9_findRow_111 : decode cX9_findRow 111 = .ok (.iload_n 3, 1) := by decide +kernel
theorem dX9_findRow_112 : decode cX9_findRow 112 = .ok (.iload 4, 2) := by decide +kernel
theorem dX9_findRow_114 : decode cX9_findRow 114 = .ok (.if_icmp .gt 14, 3) := by decide +kernel
theorem dX9_findRow_117 : decode cX9_findRow 117 = .ok (.aload_n 0, 1) := by decide +kernel
theorem dX9_findRow_118 : decode cX9_findRow 118 = .ok (.iload_n 2, 1) := by decide +kernel
theorem dX9_findRow_119 : decode cX9_findRow 119 = .ok (.iload_n 3, 1) := by decide +kernel
theorem dX9_findRow_120 : decode cX9_findRow 120 = .ok (.iload 4, 2) := by decide +kernel
theorem dX9_findRow_122 : decode cX9_findRow 122 = .ok (.invokevirtual 258, 3) := by decide +kernel
theorem dX9_findRow_125 : decode cX9_findRow 125 = .ok (.goto 4, 3) := by decide +kernel
theorem dX9_findRow_128 : decode cX9_findRow 128 = .ok (.iconst 0, 1) := by decide +kernel
theorem dX9_findRow_129 : decode cX9_findRow 129 = .ok (.iastore, 1) := by decide +kernel
theorem dX9_findRow_130 : decode cX9_findRow 130 = .ok (.iinc 4 1, 3) := by decide +kernel
theorem dX9_findRow_133 : decode cX9_findRow 133 = .ok (.goto (-55), 3) := by decide +kernel
theorem dX9_findRow_136 : decode cX9_findRow 136 = .ok (.iinc 3 1, 3) := by decide +kernel
theorem dX9_findRow_139 : decode cX9_findRow 139 = .ok (.goto (-73), 3) := by decide +kernel
theorem dX9_findRow_142 : decode cX9_findRow 142 = .ok (.iinc 2 1, 3) := by decide +kernel
theorem dX9_findRow_145 : decode cX9_findRow 145 = .ok (.goto (-131), 3) := by decide +kernel
theorem dX9_findRow_148 : decode cX9_findRow 148 = .ok (.iconst (-1), 1) := by decide +kernel
theorem dX9_findRow_149 : decode cX9_findRow 149 = .ok (.istore_n 2, 1) := by decide +kernel
theorem dX9_findRow_150 : decode cX9_findRow 150 = .ok (.iconst 0, 1) := by decide +kernel
theorem dX9_findRow_151 : decode cX9_findRow 151 = .ok (.istore_n 3, 1) := by decide +kernel
theorem dX9_findRow_152 : decode cX9_findRow 152 = .ok (.iconst 0, 1) := by decide +kernel
theorem dX9_findRow_153 : decode cX9_findRow 153 = .ok (.istore 4, 2) := by decide +kernel
theorem dX9_findRow_155 : decode cX9_findRow 155 = .ok (.aload_n 0, 1) := by decide +kernel
theorem dX9_findRow_156 : decode cX9_findRow 156 = .ok (.getfield 84, 3) := by decide +kernel
theorem dX9_findRow_159 : decode cX9_findRow 159 = .ok (.iconst 0, 1) := by decide +kernel
theorem dX9_findRow_160 : decode cX9_findRow 160 = .ok (.iconst (-1), 1) := by decide +kernel
theorem dX9_findRow_161 : decode cX9_findRow 161 = .ok (.iastore, 1) := by decide +kernel
theorem dX9_findRow_162 : decode cX9_findRow 162 = .ok (.iload_n 1, 1) := by decide +kernel
theorem dX9_findRow_163 : decode cX9_findRow 163 = .ok (.ifCond .gt 5, 3) := by decide +kernel
theorem dX9_findRow_166 : decode cX9_findRow 166 = .ok (.iconst 0, 1) := by decide +kernel
theorem dX9_findRow_167 : decode cX9_findRow 167 = .ok (.ireturn, 1) := by decide +kernel
theorem dX9_findRow_168 : decode cX9_findRow 168 = .ok (.iload 4, 2) := by decide +kernel
theorem dX9_findRow_170 : decode cX9_findRow 170 = .ok (.ifCond .lt 224, 3) := by decide +kernel
theorem dX9_findRow_173 : decode cX9_findRow 173 = .ok (.aload_n 0, 1) := by decide +kernel
theorem dX9_findRow_174 : decode cX9_findRow 174 = .ok (.invokevirtual 255, 3) := by decide +kernel
theorem dX9_findRow_177 : decode cX9_findRow 177 = .ok (.iload 4, 2) := by decide +kernel
theorem dX9_findRow_179 : decode cX9_findRow 179 = .ok (.iadd, 1) := by decide +kernel
theorem dX9_findRow_180 : decode cX9_findRow 180 = .ok (.istore 5, 2) := by decide +kernel
theorem dX9_findRow_182 : decode cX9_findRow 182 = .ok (.aload_n 0, 1) := by decide +kernel
theorem dX9_findRow_183 : decode cX9_findRow 183 = .ok (.getfield 84, 3) := by decide +kernel
theorem dX9_findRow_186 : decode cX9_findRow 186 = .ok (.iload 4, 2) := by decide +kernel
theorem dX9_findRow_188 : decode cX9_findRow 188 = .ok (.iaload, 1) := by decide +kernel
theorem dX9_findRow_189 : decode cX9_findRow 189 = .ok (.ifCond .lt 30, 3) := by decide +kernel
theorem dX9_findRow_192 : decode cX9_findRow 192 = .ok (.aload_n 0, 1) := by decide +kernel
theorem dX9_findRow_193 : decode cX9_findRow 193 = .ok (.getfield 84, 3) := by decide +kernel
theorem dX9_findRow_196 : decode cX9_findRow 196 = .ok (.iload 4, 2) := by decide +kernel
theorem dX9_findRow_198 : decode cX9_findRow 198 = .ok (.iaload, 1) := by decide +kernel
theorem dX9_findRow_199 : decode cX9_findRow 199 = .ok (.iconst 3, 1) := by decide +kernel
theorem dX9_findRow_200 : decode cX9_findRow 200 = .ok (.if_icmp .ge 19, 3) := by decide +kernel
theorem dX9_findRow_203 : decode cX9_findRow 203 = .ok (.iload_n 3, 1) := by decide +kernel
theorem dX9_findRow_204 : decode cX9_findRow 204 = .ok (.aload_n 0, 1) := by decide +kernel
theorem dX9_findRow_205 : decode cX9_findRow 205 = .ok (.aload_n 0, 1) := by decide +kernel
theorem dX9_findRow_206 : decode cX9_findRow 206 = .ok (.getfield 84, 3) := by decide +kernel
theorem dX9_findRow_209 : decode cX9_findRow 209 = .ok (.iload 4, 2) := by decide +kernel
theorem dX9_findRow_211 : decode cX9_findRow 211 = .ok (.iaload, 1) := by decide +kernel
theorem dX9_findRow_212 : decode cX9_findRow 212 = .ok (.iload 5, 2) := by decide +kernel
theorem dX9_findRow_214 : decode cX9_findRow 214 = .ok (.invokevirtual 261, 3) := by decide +kernel
theorem dX9_findRow_217 : decode cX9_findRow 217 = .ok (.isub, 1) := by decide +kernel
theorem dX9_findRow_218 : decode cX9_findRow 218 = .ok (.istore_n 3, 1) := by decide +kernel
theorem dX9_findRow_219 : decode cX9_findRow 219 = .ok (.aload_n 0, 1) := by decide +kernel
theorem dX9_findRow_220 : decode cX9_findRow 220 = .ok (.getfield 84, 3) := by decide +kernel
theorem dX9_findRow_223 : decode cX9_findRow 223 = .ok (.iload 4, 2) := by decide +kernel
theorem dX9_findRow_225 : decode cX9_findRow 225 = .ok (.dup2, 1) := by decide +kernel
theorem dX9_findRow_226 : decode cX9_findRow 226 = .ok (.iaload, 1) := by decide +kernel
theorem dX9_findRow_227 : decode cX9_findRow 227 = .ok (.iconst 1, 1) := by decide +kernel
theorem dX9_findRow_228 : decode cX9_findRow 228 = .ok (.iadd, 1) := by decide +kernel
theorem dX9_findRow_229 : decode cX9_findRow 229 = .ok (.iastore, 1) := by decide +kernel
theorem dX9_findRow_230 : decode cX9_findRow 230 = .ok (.aload_n 0, 1) := by decide +kernel
theorem dX9_findRow_231 : decode cX9_findRow 231 = .ok (.getfield 84, 3) := by decide +kernel
theorem dX9_findRow_234 : decode cX9_findRow 234 = .ok (.iload 4, 2) := by decide +kernel
theorem dX9_findRow_236 : decode cX9_findRow 236 = .ok (.iaload, 1) := by decide +kernel
theorem dX9_findRow_237 : decode cX9_findRow 237 = .ok (.iconst 3, 1) := by decide +kernel
theorem dX9_findRow_238 : decode cX9_findRow 238 = .ok (.if_icmp .ge 31, 3) := by decide +kernel
theorem dX9_findRow_241 : decode cX9_findRow 241 = .ok (.aload_n 0, 1) := by decide +kernel
theorem dX9_findRow_242 : decode cX9_findRow 242 = .ok (.aload_n 0, 1) := by decide +kernel
theorem dX9_findRow_243 : decode cX9_findRow 243 = .ok (.getfield 84, 3) := by decide +kernel
theorem dX9_findRow_246 : decode cX9_findRow 246 = .ok (.iload 4, 2) := by decide +kernel
theorem dX9_findRow_248 : decode cX9_findRow 248 = .ok (.iaload, 1) := by decide +kernel
theorem dX9_findRow_249 : decode cX9_findRow 249 = .ok (.invokevirtual 264, 3) := by decide +kernel
theorem dX9_findRow_252 : decode cX9_findRow 252 = .ok (.ifCond .ne 17, 3) := by decide +kernel
theorem dX9_findRow_255 : decode cX9_findRow 255 = .ok (.aload_n 0, 1) := by decide +kernel
theorem dX9_findRow_256 : decode cX9_findRow 256 = .ok (.getfield 84, 3) := by decide +kernel
theorem dX9_findRow_259 : decode cX9_findRow 259 = .ok (.iload 4, 2) := by decide +kernel
theorem dX9_findRow_261 : decode cX9_findRow 261 = .ok (.dup2, 1) := by decide +kernel
theorem dX9_findRow_262 : decode cX9_findRow 262 = .ok (.iaload, 1) := by decide +kernel
theorem dX9_findRow_263 : decode cX9_findRow 263 = .ok (.iconst 1, 1) := by decide +kernel
theorem dX9_findRow_264 : decode cX9_findRow 264 = .ok (.iadd, 1) := by decide +kernel
theorem dX9_findRow_265 : decode cX9_findRow 265 = .ok (.iastore, 1) := by decide +kernel
theorem dX9_findRow_266 : decode cX9_findRow 266 = .ok (.goto (-36), 3) := by decide +kernel
theorem dX9_findRow_269 : decode cX9_findRow 269 = .ok (.aload_n 0, 1) := by decide +kernel
theorem dX9_findRow_270 : decode cX9_findRow 270 = .ok (.getfield 84, 3) := by decide +kernel
theorem dX9_findRow_273 : decode cX9_findRow 273 = .ok (.iload 4, 2) := by decide +kernel
theorem dX9_findRow_275 : decode cX9_findRow 275 = .ok (.iaload, 1) := by decide +kernel
theorem dX9_findRow_276 : decode cX9_findRow 276 = .ok (.iconst 3, 1) := by decide +kernel
theorem dX9_findRow_277 : decode cX9_findRow 277 = .ok (.if_icmp .le 9, 3) := by decide +kernel
theorem dX9_findRow_280 : decode cX9_findRow 280 = .ok (.iinc 4 (-1), 3) := by decide +kernel
theorem dX9_findRow_283 : decode cX9_findRow 283 = .ok (.goto 108, 3) := by decide +kernel
theorem dX9_findRow_286 : decode cX9_findRow 286 = .ok (.iload_n 3, 1) := by decide +kernel
theorem dX9_findRow_287 : decode cX9_findRow 287 = .ok (.aload_n 0, 1) := by decide +kernel
theorem dX9_findRow_288 : decode cX9_findRow 288 = .ok (.getfield 84, 3) := by decide +kernel
theorem dX9_findRow_291 : decode cX9_findRow 291 = .ok (.iload 4, 2) := by decide +kernel
theorem dX9_findRow_293 : decode cX9_findRow 293 = .ok (.iaload, 1) := by decide +kernel
theorem dX9_findRow_294 : decode cX9_findRow 294 = .ok (.iconst 3, 1) := by decide +kernel
theorem dX9_findRow_295 : decode cX9_findRow 295 = .ok (.if_icmp .ge 19, 3) := by decide +kernel
theorem dX9_findRow_298 : decode cX9_findRow 298 = .ok (.aload_n 0, 1) := by decide +kernel
theorem dX9_findRow_299 : decode cX9_findRow 299 = .ok (.aload_n 0, 1) := by decide +kernel
theorem dX9_findRow_300 : decode cX9_findRow 300 = .ok (.getfield 84, 3) := by decide +kernel
theorem dX9_findRow_303 : decode cX9_findRow 303 = .ok (.iload 4, 2) := by decide +kernel
theorem dX9_findRow_305 : decode cX9_findRow 305 = .ok (.iaload, 1) := by decide +kernel
theorem dX9_findRow_306 : decode cX9_findRow 306 = .ok (.iload 5, 2) := by decide +kernel
theorem dX9_findRow_308 : decode cX9_findRow 308 = .ok (.invokevirtual 267, 3) := by decide +kernel
theorem dX9_findRow_311 : decode cX9_findRow 311 = .ok (.goto 4, 3) := by decide +kernel
theorem dX9_findRow_314 : decode cX9_findRow 314 = .ok (.iconst 0, 1) := by decide +kernel
theorem dX9_findRow_315 : decode cX9_findRow 315 = .ok (.iadd, 1) := by decide +kernel
theorem dX9_findRow_316 : decode cX9_findRow 316 = .ok (.istore_n 3, 1) := by decide +kernel
theorem dX9_findRow_317 : decode cX9_findRow 317 = .ok (.iload 4, 2) := by decide +kernel
theorem dX9_findRow_319 : decode cX9_findRow 319 = .ok (.iload_n 1, 1) := by decide +kernel
theorem dX9_findRow_320 : decode cX9_findRow 320 = .ok (.iconst 1, 1) := by decide +kernel
theorem dX9_findRow_321 : decode cX9_findRow 321 = .ok (.isub, 1) := by decide +kernel
theorem dX9_findRow_322 : decode cX9_findRow 322 = .ok (.if_icmp .ne 58, 3) := by decide +kernel
theorem dX9_findRow_325 : decode cX9_findRow 325 = .ok (.iload_n 3, 1) := by decide +kernel
theorem dX9_findRow_326 : decode cX9_findRow 326 = .ok (.iload_n 2, 1) := by decide +kernel
theorem dX9_findRow_327 : decode cX9_findRow 327 = .ok (.if_icmp .le 64, 3) := by decide +kernel
theorem dX9_findRow_330 : decode cX9_findRow 330 = .ok (.iload_n 3, 1) := by decide +kernel
theorem dX9_findRow_331 : decode cX9_findRow 331 = .ok (.istore_n 2, 1) := by decide +kernel
theorem dX9_findRow_332 : decode cX9_findRow 332 = .ok (.iconst 0, 1) := by decide +kernel
theorem dX9_findRow_333 : decode cX9_findRow 333 = .ok (.istore 6, 2) := by decide +kernel
theorem dX9_findRow_335 : decode cX9_findRow 335 = .ok (.iload 6, 2) := by decide +kernel
theorem dX9_findRow_337 : decode cX9_findRow 337 = .ok (.iload_n 1, 1) := by decide +kernel
theorem dX9_findRow_338 : decode cX9_findRow 338 = .ok (.if_icmp .ge 39, 3) := by decide +kernel
theorem dX9_findRow_341 : decode cX9_findRow 341 = .ok (.aload_n 0, 1) := by decide +kernel
theorem dX9_findRow_342 : decode cX9_findRow 342 = .ok (.getfield 87, 3) := by decide +kernel
theorem dX9_findRow_345 : decode cX9_findRow 345 = .ok (.iload 6, 2) := by decide +kernel
theorem dX9_findRow_347 : decode cX9_findRow 347 = .ok (.aload_n 0, 1) := by decide +kernel
theorem dX9_findRow_348 : decode cX9_findRow 348 = .ok (.getfield 84, 3) := by decide +kernel
theorem dX9_findRow_351 : decode cX9_findRow 351 = .ok (.iload 6, 2) := by decide +kernel
theorem dX9_findRow_353 : decode cX9_findRow 353 = .ok (.iaload, 1) := by decide +kernel
theorem dX9_findRow_354 : decode cX9_findRow 354 = .ok (.iconst 3, 1) := by decide +kernel
theorem dX9_findRow_355 : decode cX9_findRow 355 = .ok (.if_icmp .ne 8, 3) := by decide +kernel
theorem dX9_findRow_358 : decode cX9_findRow 358 = .ok (.bipush 6, 2) := by decide +kernel
theorem dX9_findRow_360 : decode cX9_findRow 360 = .ok (.goto 10, 3) := by decide +kernel
theorem dX9_findRow_363 : decode cX9_findRow 363 = .ok (.aload_n 0, 1) := by decide +kernel
theorem dX9_findRow_364 : decode cX9_findRow 364 = .ok (.getfield 84, 3) := by decide +kernel
theorem dX9_findRow_367 : decode cX9_findRow 367 = .ok (.iload 6, 2) := by decide +kernel
theorem dX9_findRow_369 : decode cX9_findRow 369 = .ok (.iaload, 1) := by decide +kernel
theorem dX9_findRow_370 : decode cX9_findRow 370 = .ok (.iastore, 1) := by decide +kernel
theorem dX9_findRow_371 : decode cX9_findRow 371 = .ok (.iinc 6 1, 3) := by decide +kernel
theorem dX9_findRow_374 : decode cX9_findRow 374 = .ok (.goto (-39), 3) := by decide +kernel
theorem dX9_findRow_377 : decode cX9_findRow 377 = .ok (.goto 14, 3) := by decide +kernel
theorem dX9_findRow_380 : decode cX9_findRow 380 = .ok (.iinc 4 1, 3) := by decide +kernel
theorem dX9_findRow_383 : decode cX9_findRow 383 = .ok (.aload_n 0, 1) := by decide +kernel
theorem dX9_findRow_384 : decode cX9_findRow 384 = .ok (.getfield 84, 3) := by decide +kernel
theorem dX9_findRow_387 : decode cX9_findRow 387 = .ok (.iload 4, 2) := by decide +kernel
theorem dX9_findRow_389 : decode cX9_findRow 389 = .ok (.iconst (-1), 1) := by decide +kernel
theorem dX9_findRow_390 : decode cX9_findRow 390 = .ok (.iastore, 1) := by decide +kernel
theorem dX9_findRow_391 : decode cX9_findRow 391 = .ok (.goto (-223), 3) := by decide +kernel
theorem dX9_findRow_394 : decode cX9_findRow 394 = .ok (.iload_n 2, 1) := by decide +kernel
theorem dX9_findRow_395 : decode cX9_findRow 395 = .ok (.ireturn, 1) := by decide +kernel
theorem dX9_gainIn_0 : decode cX9_gainIn 0 = .ok (.aload_n 0, 1) := by decide +kernel
theorem dX9_gainIn_1 : decode cX9_gainIn 1 = .ok (.getfield 81, 3) := by decide +kernel
theorem dX9_gainIn_4 : decode cX9_gainIn 4 = .ok (.bipush 72, 2) := by decide +kernel
theorem dX9_gainIn_6 : decode cX9_gainIn 6 = .ok (.iload_n 1, 1) := by decide +kernel
theorem dX9_gainIn_7 : decode cX9_gainIn 7 = .ok (.imul, 1) := by decide +kernel
theorem dX9_gainIn_8 : decode cX9_gainIn 8 = .ok (.bipush 8, 2) := by decide +kernel
theorem dX9_gainIn_10 : decode cX9_gainIn 10 = .ok (.aload_n 0, 1) := by decide +kernel
theorem dX9_gainIn_11 : decode cX9_gainIn 11 = .ok (.getfield 90, 3) := by decide +kernel
theorem dX9_gainIn_14 : decode cX9_gainIn 14 = .ok (.iload_n 1, 1) := by decide +kernel
theorem dX9_gainIn_15 : decode cX9_gainIn 15 = .ok (.iaload, 1) := by decide +kernel
theorem dX9_gainIn_16 : decode cX9_gainIn 16 = .ok (.imul, 1) := by decide +kernel
theorem dX9_gainIn_17 : decode cX9_gainIn 17 = .ok (.iadd, 1) := by decide +kernel
theorem dX9_gainIn_18 : decode cX9_gainIn 18 = .ok (.iload_n 2, 1) := by decide +kernel
theorem dX9_gainIn_19 : decode cX9_gainIn 19 = .ok (.iadd, 1) := by decide +kernel
theorem dX9_gainIn_20 : decode cX9_gainIn 20 = .ok (.iaload, 1) := by decide +kernel
theorem dX9_gainIn_21 : decode cX9_gainIn 21 = .ok (.ireturn, 1) := by decide +kernel
theorem dX9_eatBlind_0 : decode cX9_eatBlind 0 = .ok (.aload_n 0, 1) := by decide +kernel
theorem dX9_eatBlind_1 : decode cX9_eatBlind 1 = .ok (.getfield 90, 3) := by decide +kernel
theorem dX9_eatBlind_4 : decode cX9_eatBlind 4 = .ok (.iload_n 1, 1) := by decide +kernel
theorem dX9_eatBlind_5 : decode cX9_eatBlind 5 = .ok (.aload_n 0, 1) := by decide +kernel
theorem dX9_eatBlind_6 : decode cX9_eatBlind 6 = .ok (.getfield 90, 3) := by decide +kernel
theorem dX9_eatBlind_9 : decode cX9_eatBlind 9 = .ok (.iload_n 1, 1) := by decide +kernel
theorem dX9_eatBlind_10 : decode cX9_eatBlind 10 = .ok (.iaload, 1) := by decide +kernel
theorem dX9_eatBlind_11 : decode cX9_eatBlind 11 = .ok (.bipush (-9), 2) := by decide +kernel
theorem dX9_eatBlind_13 : decode cX9_eatBlind 13 = .ok (.if_icmp .ne 7, 3) := by decide +kernel
theorem dX9_eatBlind_16 : decode cX9_eatBlind 16 = .ok (.iload_n 2, 1) := by decide +kernel
theorem dX9_eatBlind_17 : decode cX9_eatBlind 17 = .ok (.goto 9, 3) := by decide +kernel
theorem dX9_eatBlind_20 : decode cX9_eatBlind 20 = .ok (.aload_n 0, 1) := by decide +kernel
theorem dX9_eatBlind_21 : decode cX9_eatBlind 21 = .ok (.getfield 90, 3) := by decide +kernel
theorem dX9_eatBlind_24 : decode cX9_eatBlind 24 = .ok (.iload_n 1, 1) := by decide +kernel
theorem dX9_eatBlind_25 : decode cX9_eatBlind 25 = .ok (.iaload, 1) := by decide +kernel
theorem dX9_eatBlind_26 : decode cX9_eatBlind 26 = .ok (.iastore, 1) := by decide +kernel
theorem dX9_eatBlind_27 : decode cX9_eatBlind 27 = .ok (.aload_n 0, 1) := by decide +kernel
theorem dX9_eatBlind_28 : decode cX9_eatBlind 28 = .ok (.getfield 93, 3) := by decide +kernel
theorem dX9_eatBlind_31 : decode cX9_eatBlind 31 = .ok (.iload_n 1, 1) := by decide +kernel
theorem dX9_eatBlind_32 : decode cX9_eatBlind 32 = .ok (.dup2, 1) := by decide +kernel
theorem dX9_eatBlind_33 : decode cX9_eatBlind 33 = .ok (.iaload, 1) := by decide +kernel
theorem dX9_eatBlind_34 : decode cX9_eatBlind 34 = .ok (.iconst 1, 1) := by decide +kernel
theorem dX9_eatBlind_35 : decode cX9_eatBlind 35 = .ok (.isub, 1) := by decide +kernel
theorem dX9_eatBlind_36 : decode cX9_eatBlind 36 = .ok (.iastore, 1) := by decide +kernel
theorem dX9_eatBlind_37 : decode cX9_eatBlind 37 = .ok (.aload_n 0, 1) := by decide +kernel
theorem dX9_eatBlind_38 : decode cX9_eatBlind 38 = .ok (.iload_n 1, 1) := by decide +kernel
theorem dX9_eatBlind_39 : decode cX9_eatBlind 39 = .ok (.iload_n 2, 1) := by decide +kernel
theorem dX9_eatBlind_40 : decode cX9_eatBlind 40 = .ok (.invokevirtual 270, 3) := by decide +kernel
theorem dX9_eatBlind_43 : decode cX9_eatBlind 43 = .ok (.ireturn, 1) := by decide +kernel
theorem dX9_undo_0 : decode cX9_undo 0 = .ok (.aload_n 0, 1) := by decide +kernel
theorem dX9_undo_1 : decode cX9_undo 1 = .ok (.iload_n 1, 1) := by decide +kernel
theorem dX9_undo_2 : decode cX9_undo 2 = .ok (.iload_n 2, 1) := by decide +kernel
theorem dX9_undo_3 : decode cX9_undo 3 = .ok (.invokevirtual 270, 3) := by decide +kernel
theorem dX9_undo_6 : decode cX9_undo 6 = .ok (.istore_n 3, 1) := by decide +kernel
theorem dX9_undo_7 : decode cX9_undo 7 = .ok (.aload_n 0, 1) := by decide +kernel
theorem dX9_undo_8 : decode cX9_undo 8 = .ok (.getfield 93, 3) := by decide +kernel
theorem dX9_undo_11 : decode cX9_undo 11 = .ok (.iload_n 1, 1) := by decide +kernel
theorem dX9_undo_12 : decode cX9_undo 12 = .ok (.dup2, 1) := by decide +kernel
theorem dX9_undo_13 : decode cX9_undo 13 = .ok (.iaload, 1) := by decide +kernel
theorem dX9_undo_14 : decode cX9_undo 14 = .ok (.iconst 1, 1) := by decide +kernel
theorem dX9_undo_15 : decode cX9_undo 15 = .ok (.iadd, 1) := by decide +kernel
theorem dX9_undo_16 : decode cX9_undo 16 = .ok (.iastore, 1) := by decide +kernel
theorem dX9_undo_17 : decode cX9_undo 17 = .ok (.aload_n 0, 1) := by decide +kernel
theorem dX9_undo_18 : decode cX9_undo 18 = .ok (.getfield 90, 3) := by decide +kernel
theorem dX9_undo_21 : decode cX9_undo 21 = .ok (.iload_n 1, 1) := by decide +kernel
theorem dX9_undo_22 : decode cX9_undo 22 = .ok (.aload_n 0, 1) := by decide +kernel
theorem dX9_undo_23 : decode cX9_undo 23 = .ok (.getfield 93, 3) := by decide +kernel
theorem dX9_undo_26 : decode cX9_undo 26 = .ok (.iload_n 1, 1) := by decide +kernel
theorem dX9_undo_27 : decode cX9_undo 27 = .ok (.iaload, 1) := by decide +kernel
theorem dX9_undo_28 : decode cX9_undo 28 = .ok (.aload_n 0, 1) := by decide +kernel
theorem dX9_undo_29 : decode cX9_undo 29 = .ok (.getfield 32, 3) := by decide +kernel
theorem dX9_undo_32 : decode cX9_undo 32 = .ok (.iload_n 1, 1) := by decide +kernel
theorem dX9_undo_33 : decode cX9_undo 33 = .ok (.iaload, 1) := by decide +kernel
theorem dX9_undo_34 : decode cX9_undo 34 = .ok (.if_icmp .ne 8, 3) := by decide +kernel
theorem dX9_undo_37 : decode cX9_undo 37 = .ok (.bipush (-9), 2) := by decide +kernel
theorem dX9_undo_39 : decode cX9_undo 39 = .ok (.goto 9, 3) := by decide +kernel
theorem dX9_undo_42 : decode cX9_undo 42 = .ok (.aload_n 0, 1) := by decide +kernel
theorem dX9_undo_43 : decode cX9_undo 43 = .ok (.getfield 90, 3) := by decide +kernel
theorem dX9_undo_46 : decode cX9_undo 46 = .ok (.iload_n 1, 1) := by decide +kernel
theorem dX9_undo_47 : decode cX9_undo 47 = .ok (.iaload, 1) := by decide +kernel
theorem dX9_undo_48 : decode cX9_undo 48 = .ok (.iastore, 1) := by decide +kernel
theorem dX9_undo_49 : decode cX9_undo 49 = .ok (.iload_n 3, 1) := by decide +kernel
theorem dX9_undo_50 : decode cX9_undo 50 = .ok (.ireturn, 1) := by decide +kernel
theorem dX9_blind_0 : decode cX9_blind 0 = .ok (.aload_n 0, 1) := by decide +kernel
theorem dX9_blind_1 : decode cX9_blind 1 = .ok (.invokevirtual 188, 3) := by decide +kernel
theorem dX9_blind_4 : decode cX9_blind 4 = .ok (.ifCond .eq 7, 3) := by decide +kernel
theorem dX9_blind_7 : decode cX9_blind 7 = .ok (.iconst 0, 1) := by decide +kernel
theorem dX9_blind_8 : decode cX9_blind 8 = .ok (.goto 14, 3) := by decide +kernel
theorem dX9_blind_11 : decode cX9_blind 11 = .ok (.aload_n 0, 1) := by decide +kernel
theorem dX9_blind_12 : decode cX9_blind 12 = .ok (.getfield 20, 3) := by decide +kernel
theorem dX9_blind_15 : decode cX9_blind 15 = .ok (.iconst 0, 1) := by decide +kernel
theorem dX9_blind_16 : decode cX9_blind 16 = .ok (.iaload, 1) := by decide +kernel
theorem dX9_blind_17 : decode cX9_blind 17 = .ok (.aload_n 0, 1) := by decide +kernel
theorem dX9_blind_18 : decode cX9_blind 18 = .ok (.invokevirtual 255, 3) := by decide +kernel
theorem dX9_blind_21 : decode cX9_blind 21 = .ok (.isub, 1) := by decide +kernel
theorem dX9_blind_22 : decode cX9_blind 22 = .ok (.istore_n 2, 1) := by decide +kernel
theorem dX9_blind_23 : decode cX9_blind 23 = .ok (.iload_n 1, 1) := by decide +kernel
theorem dX9_blind_24 : decode cX9_blind 24 = .ok (.bipush (-2), 2) := by decide +kernel
theorem dX9_blind_26 : decode cX9_blind 26 = .ok (.iload_n 2, 1) := by decide +kernel
theorem dX9_blind_27 : decode cX9_blind 27 = .ok (.iconst 1, 1) := by decide +kernel
theorem dX9_blind_28 : decode cX9_blind 28 = .ok (.isub, 1) := by decide +kernel
theorem dX9_blind_29 : decode cX9_blind 29 = .ok (.invokestatic 103, 3) := by decide +kernel
theorem dX9_blind_32 : decode cX9_blind 32 = .ok (.ifCond .ne 6, 3) := by decide +kernel
theorem dX9_blind_35 : decode cX9_blind 35 = .ok (.ldc 242, 2) := by decide +kernel
theorem dX9_blind_37 : decode cX9_blind 37 = .ok (.ireturn, 1) := by decide +kernel
theorem dX9_blind_38 : decode cX9_blind 38 = .ok (.iload_n 2, 1) := by decide +kernel
theorem dX9_blind_39 : decode cX9_blind 39 = .ok (.ifCond .ne 7, 3) := by decide +kernel
theorem dX9_blind_42 : decode cX9_blind 42 = .ok (.iconst 0, 1) := by decide +kernel
theorem dX9_blind_43 : decode cX9_blind 43 = .ok (.goto 7, 3) := by decide +kernel
theorem dX9_blind_46 : decode cX9_blind 46 = .ok (.aload_n 0, 1) := by decide +kernel
theorem dX9_blind_47 : decode cX9_blind 47 = .ok (.invokevirtual 273, 3) := by decide +kernel
theorem dX9_blind_50 : decode cX9_blind 50 = .ok (.istore_n 3, 1) := by decide +kernel
theorem dX9_blind_51 : decode cX9_blind 51 = .ok (.iload_n 1, 1) := by decide +kernel
theorem dX9_blind_52 : decode cX9_blind 52 = .ok (.bipush (-2), 2) := by decide +kernel
theorem dX9_blind_54 : decode cX9_blind 54 = .ok (.if_icmp .ne 7, 3) := by decide +kernel
theorem dX9_blind_57 : decode cX9_blind 57 = .ok (.iload_n 2, 1) := by decide +kernel
theorem dX9_blind_58 : decode cX9_blind 58 = .ok (.goto 18, 3) := by decide +kernel
theorem dX9_blind_61 : decode cX9_blind 61 = .ok (.iload_n 1, 1) := by decide +kernel
theorem dX9_blind_62 : decode cX9_blind 62 = .ok (.iconst (-1), 1) := by decide +kernel
theorem dX9_blind_63 : decode cX9_blind 63 = .ok (.if_icmp .ne 7, 3) := by decide +kernel
theorem dX9_blind_66 : decode cX9_blind 66 = .ok (.iload_n 3, 1) := by decide +kernel
theorem dX9_blind_67 : decode cX9_blind 67 = .ok (.goto 9, 3) := by decide +kernel
theorem dX9_blind_70 : decode cX9_blind 70 = .ok (.aload_n 0, 1) := by decide +kernel
theorem dX9_blind_71 : decode cX9_blind 71 = .ok (.getfield 87, 3) := by decide +kernel
theorem dX9_blind_74 : decode cX9_blind 74 = .ok (.iload_n 1, 1) := by decide +kernel
theorem dX9_blind_75 : decode cX9_blind 75 = .ok (.iaload, 1) := by decide +kernel
theorem dX9_blind_76 : decode cX9_blind 76 = .ok (.ireturn, 1) := by decide +kernel
theorem dX9_know_0 : decode cX9_know 0 = .ok (.aload_n 0, 1) := by decide +kernel
theorem dX9_know_1 : decode cX9_know 1 = .ok (.iconst 4, 1) := by decide +kernel
theorem dX9_know_2 : decode cX9_know 2 = .ok (.invokevirtual 236, 3) := by decide +kernel
theorem dX9_know_5 : decode cX9_know 5 = .ok (.aload_n 0, 1) := by decide +kernel
theorem dX9_know_6 : decode cX9_know 6 = .ok (.invokevirtual 276, 3) := by decide +kernel
theorem dX9_know_9 : decode cX9_know 9 = .ok (.isub, 1) := by decide +kernel
theorem dX9_know_10 : decode cX9_know 10 = .ok (.ireturn, 1) := by decide +kernel
theorem dX9_blindNow_0 : decode cX9_blindNow 0 = .ok (.aload_n 0, 1) := by decide +kernel
theorem dX9_blindNow_1 : decode cX9_blindNow 1 = .ok (.invokevirtual 188, 3) := by decide +kernel
theorem dX9_blindNow_4 : decode cX9_blindNow 4 = .ok (.ifCond .ne 16, 3) := by decide +kernel
theorem dX9_blindNow_7 : decode cX9_blindNow 7 = .ok (.aload_n 0, 1) := by decide +kernel
theorem dX9_blindNow_8 : decode cX9_blindNow 8 = .ok (.getfield 20, 3) := by decide +kernel
theorem dX9_blindNow_11 : decode cX9_blindNow 11 = .ok (.iconst 0, 1) := by decide +kernel
theorem dX9_blindNow_12 : decode cX9_blindNow 12 = .ok (.iaload, 1) := by decide +kernel
theorem dX9_blindNow_13 : decode cX9_blindNow 13 = .ok (.aload_n 0, 1) := by decide +kernel
theorem dX9_blindNow_14 : decode cX9_blindNow 14 = .ok (.invokevirtual 255, 3) := by decide +kernel
theorem dX9_blindNow_17 : decode cX9_blindNow 17 = .ok (.if_icmp .ne 7, 3) := by decide +kernel
theorem dX9_blindNow_20 : decode cX9_blindNow 20 = .ok (.iconst 0, 1) := by decide +kernel
theorem dX9_blindNow_21 : decode cX9_blindNow 21 = .ok (.goto 7, 3) := by decide +kernel
theorem dX9_blindNow_24 : decode cX9_blindNow 24 = .ok (.aload_n 0, 1) := by decide +kernel
theorem dX9_blindNow_25 : decode cX9_blindNow 25 = .ok (.invokevirtual 273, 3) := by decide +kernel
theorem dX9_blindNow_28 : decode cX9_blindNow 28 = .ok (.ireturn, 1) := by decide +kernel
theorem dX9_spare_0 : decode cX9_spare 0 = .ok (.aload_n 0, 1) := by decide +kernel
theorem dX9_spare_1 : decode cX9_spare 1 = .ok (.iload_n 1, 1) := by decide +kernel
theorem dX9_spare_2 : decode cX9_spare 2 = .ok (.invokevirtual 164, 3) := by decide +kernel
theorem dX9_spare_5 : decode cX9_spare 5 = .ok (.ifCond .ne 6, 3) := by decide +kernel
theorem dX9_spare_8 : decode cX9_spare 8 = .ok (.ldc 242, 2) := by decide +kernel
theorem dX9_spare_10 : decode cX9_spare 10 = .ok (.ireturn, 1) := by decide +kernel
theorem dX9_spare_11 : decode cX9_spare 11 = .ok (.aload_n 0, 1) := by decide +kernel
theorem dX9_spare_12 : decode cX9_spare 12 = .ok (.iconst 4, 1) := by decide +kernel
theorem dX9_spare_13 : decode cX9_spare 13 = .ok (.invokevirtual 236, 3) := by decide +kernel
theorem dX9_spare_16 : decode cX9_spare 16 = .ok (.istore_n 2, 1) := by decide +kernel
theorem dX9_spare_17 : decode cX9_spare 17 = .ok (.aload_n 0, 1) := by decide +kernel
theorem dX9_spare_18 : decode cX9_spare 18 = .ok (.getfield 63, 3) := by decide +kernel
theorem dX9_spare_21 : decode cX9_spare 21 = .ok (.iload_n 1, 1) := by decide +kernel
theorem dX9_spare_22 : decode cX9_spare 22 = .ok (.baload, 1) := by decide +kernel
theorem dX9_spare_23 : decode cX9_spare 23 = .ok (.istore_n 3, 1) := by decide +kernel
theorem dX9_spare_24 : decode cX9_spare 24 = .ok (.aload_n 0, 1) := by decide +kernel
theorem dX9_spare_25 : decode cX9_spare 25 = .ok (.getfield 63, 3) := by decide +kernel
theorem dX9_spare_28 : decode cX9_spare 28 = .ok (.iload_n 1, 1) := by decide +kernel
theorem dX9_spare_29 : decode cX9_spare 29 = .ok (.iconst 1, 1) := by decide +kernel
theorem dX9_spare_30 : decode cX9_spare 30 = .ok (.bastore, 1) := by decide +kernel
theorem dX9_spare_31 : decode cX9_spare 31 = .ok (.aload_n 0, 1) := by decide +kernel
theorem dX9_spare_32 : decode cX9_spare 32 = .ok (.iconst 4, 1) := by decide +kernel
theorem dX9_spare_33 : decode cX9_spare 33 = .ok (.invokevirtual 236, 3) := by decide +kernel
theorem dX9_spare_36 : decode cX9_spare 36 = .ok (.istore 4, 2) := by decide +kernel
theorem dX9_spare_38 : decode cX9_spare 38 = .ok (.aload_n 0, 1) := by decide +kernel
theorem dX9_spare_39 : decode cX9_spare 39 = .ok (.getfield 63, 3) := by decide +kernel
theorem dX9_spare_42 : decode cX9_spare 42 = .ok (.iload_n 1, 1) := by decide +kernel
theorem dX9_spare_43 : decode cX9_spare 43 = .ok (.iload_n 3, 1) := by decide +kernel
theorem dX9_spare_44 : decode cX9_spare 44 = .ok (.bastore, 1) := by decide +kernel
theorem dX9_spare_45 : decode cX9_spare 45 = .ok (.iload 4, 2) := by decide +kernel
theorem dX9_spare_47 : decode cX9_spare 47 = .ok (.iload_n 2, 1) := by decide +kernel
theorem dX9_spare_48 : decode cX9_spare 48 = .ok (.isub, 1) := by decide +kernel
theorem dX9_spare_49 : decode cX9_spare 49 = .ok (.ireturn, 1) := by decide +kernel
theorem dX9_common_0 : decode cX9_common 0 = .ok (.lload_n 0, 1) := by decide +kernel
theorem dX9_common_1 : decode cX9_common 1 = .ok (.lstore 4, 2) := by decide +kernel
theorem dX9_common_3 : decode cX9_common 3 = .ok (.lload_n 2, 1) := by decide +kernel
theorem dX9_common_4 : decode cX9_common 4 = .ok (.lstore 6, 2) := by decide +kernel
theorem dX9_common_6 : decode cX9_common 6 = .ok (.lload 6, 2) := by decide +kernel
theorem dX9_common_8 : decode cX9_common 8 = .ok (.lconst 0, 1) := by decide +kernel
theorem dX9_common_9 : decode cX9_common 9 = .ok (.lcmp, 1) := by decide +kernel
theorem dX9_common_10 : decode cX9_common 10 = .ok (.ifCond .eq 21, 3) := by decide +kernel
theorem dX9_common_13 : decode cX9_common 13 = .ok (.lload 4, 2) := by decide +kernel
theorem dX9_common_15 : decode cX9_common 15 = .ok (.lload 6, 2) := by decide +kernel
theorem dX9_common_17 : decode cX9_common 17 = .ok (.lrem, 1) := by decide +kernel
theorem dX9_common_18 : decode cX9_common 18 = .ok (.lstore 8, 2) := by decide +kernel
theorem dX9_common_20 : decode cX9_common 20 = .ok (.lload 6, 2) := by decide +kernel
theorem dX9_common_22 : decode cX9_common 22 = .ok (.lstore 4, 2) := by decide +kernel
theorem dX9_common_24 : decode cX9_common 24 = .ok (.lload 8, 2) := by decide +kernel
theorem dX9_common_26 : decode cX9_common 26 = .ok (.lstore 6, 2) := by decide +kernel
theorem dX9_common_28 : decode cX9_common 28 = .ok (.goto (-22), 3) := by decide +kernel
theorem dX9_common_31 : decode cX9_common 31 = .ok (.lload 4, 2) := by decide +kernel
theorem dX9_common_33 : decode cX9_common 33 = .ok (.lreturn, 1) := by decide +kernel
theorem dX9_inLeast_0 : decode cX9_inLeast 0 = .ok (.lload_n 0, 1) := by decide +kernel
theorem dX9_inLeast_1 : decode cX9_inLeast 1 = .ok (.lload_n 2, 1) := by decide +kernel
theorem dX9_inLeast_2 : decode cX9_inLeast 2 = .ok (.invokestatic 279, 3) := by decide +kernel
theorem dX9_inLeast_5 : decode cX9_inLeast 5 = .ok (.lstore 5, 2) := by decide +kernel
theorem dX9_inLeast_7 : decode cX9_inLeast 7 = .ok (.iload 4, 2) := by decide +kernel
theorem dX9_inLeast_9 : decode cX9_inLeast 9 = .ok (.ifCond .ne 10, 3) := by decide +kernel
theorem dX9_inLeast_12 : decode cX9_inLeast 12 = .ok (.lload_n 0, 1) := by decide +kernel
theorem dX9_inLeast_13 : decode cX9_inLeast 13 = .ok (.lload 5, 2) := by decide +kernel
theorem dX9_inLeast_15 : decode cX9_inLeast 15 = .ok (.ldiv, 1) := by decide +kernel
theorem dX9_inLeast_16 : decode cX9_inLeast 16 = .ok (.goto 7, 3) := by decide +kernel
theorem dX9_inLeast_19 : decode cX9_inLeast 19 = .ok (.lload_n 2, 1) := by decide +kernel
theorem dX9_inLeast_20 : decode cX9_inLeast 20 = .ok (.lload 5, 2) := by decide +kernel
theorem dX9_inLeast_22 : decode cX9_inLeast 22 = .ok (.ldiv, 1) := by decide +kernel
theorem dX9_inLeast_23 : decode cX9_inLeast 23 = .ok (.lreturn, 1) := by decide +kernel
theorem dX9_stands_0 : decode cX9_stands 0 = .ok (.aload_n 0, 1) := by decide +kernel
theorem dX9_stands_1 : decode cX9_stands 1 = .ok (.iload_n 1, 1) := by decide +kernel
theorem dX9_stands_2 : decode cX9_stands 2 = .ok (.invokevirtual 164, 3) := by decide +kernel
theorem dX9_stands_5 : decode cX9_stands 5 = .ok (.ifCond .eq 32, 3) := by decide +kernel
theorem dX9_stands_8 : decode cX9_stands 8 = .ok (.iload_n 2, 1) := by decide +kernel
theorem dX9_stands_9 : decode cX9_stands 9 = .ok (.iconst 0, 1) := by decide +kernel
theorem dX9_stands_10 : decode cX9_stands 10 = .ok (.bipush 8, 2) := by decide +kernel
theorem dX9_stands_12 : decode cX9_stands 12 = .ok (.invokestatic 103, 3) := by decide +kernel
theorem dX9_stands_15 : decode cX9_stands 15 = .ok (.ifCond .eq 22, 3) := by decide +kernel
theorem dX9_stands_18 : decode cX9_stands 18 = .ok (.iload_n 3, 1) := by decide +kernel
theorem dX9_stands_19 : decode cX9_stands 19 = .ok (.iconst 0, 1) := by decide +kernel
theorem dX9_stands_20 : decode cX9_stands 20 = .ok (.iconst 3, 1) := by decide +kernel
theorem dX9_stands_21 : decode cX9_stands 21 = .ok (.invokestatic 103, 3) := by decide +kernel
theorem dX9_stands_24 : decode cX9_stands 24 = .ok (.ifCond .eq 13, 3) := by decide +kernel
theorem dX9_stands_27 : decode cX9_stands 27 = .ok (.iload 4, 2) := by decide +kernel
theorem dX9_stands_29 : decode cX9_stands 29 = .ok (.iconst 0, 1) := by decide +kernel
theorem dX9_stands_30 : decode cX9_stands 30 = .ok (.iconst 1, 1) := by decide +kernel
theorem dX9_stands_31 : decode cX9_stands 31 = .ok (.invokestatic 103, 3) := by decide +kernel
theorem dX9_stands_34 : decode cX9_stands 34 = .ok (.ifCond .ne 7, 3) := by decide +kernel
theorem dX9_stands_37 : decode cX9_stands 37 = .ok (.ldc2_w 283, 3) := by decide +kernel
theorem dX9_stands_40 : decode cX9_stands 40 = .ok (.lreturn, 1) := by decide +kernel
theorem dX9_stands_41 : decode cX9_stands 41 = .ok (.lconst 1, 1) := by decide +kernel
theorem dX9_stands_42 : decode cX9_stands 42 = .ok (.lstore 5, 2) := by decide +kernel
theorem dX9_stands_44 : decode cX9_stands 44 = .ok (.iconst 0, 1) := by decide +kernel
theorem dX9_stands_45 : decode cX9_stands 45 = .ok (.istore 7, 2) := by decide +kernel
theorem dX9_stands_47 : decode cX9_stands 47 = .ok (.iload 7, 2) := by decide +kernel
theorem dX9_stands_49 : decode cX9_stands 49 = .ok (.iconst 4, 1) := by decide +kernel
theorem dX9_stands_50 : decode cX9_stands 50 = .ok (.if_icmp .ge 32, 3) := by decide +kernel
theorem dX9_stands_53 : decode cX9_stands 53 = .ok (.aload_n 0, 1) := by decide +kernel
theorem dX9_stands_54 : decode cX9_stands 54 = .ok (.getfield 96, 3) := by decide +kernel
theorem dX9_stands_57 : decode cX9_stands 57 = .ok (.iload 7, 2) := by decide +kernel
theorem dX9_stands_59 : decode cX9_stands 59 = .ok (.iload 7, 2) := by decide +kernel
theorem dX9_stands_61 : decode cX9_stands 61 = .ok (.aload_n 0, 1) := by decide +kernel
theorem dX9_stands_62 : decode cX9_stands 62 = .ok (.getfield 57, 3) := by decide +kernel
theorem dX9_stands_65 : decode cX9_stands 65 = .ok (.iload_n 1, 1) := by decide +kernel
theorem dX9_stands_66 : decode cX9_stands 66 = .ok (.iaload, 1) := by decide +kernel
theorem dX9_stands_67 : decode cX9_stands 67 = .ok (.if_icmp .ne 7, 3) := by decide +kernel
theorem dX9_stands_70 : decode cX9_stands 70 = .ok (.lconst 1, 1) := by decide +kernel
theorem dX9_stands_71 : decode cX9_stands 71 = .ok (.goto 4, 3) := by decide +kernel
theorem dX9_stands_74 : decode cX9_stands 74 = .ok (.lconst 0, 1) := by decide +kernel
theorem dX9_stands_75 : decode cX9_stands 75 = .ok (.lastore, 1) := by decide +kernel
theorem dX9_stands_76 : decode cX9_stands 76 = .ok (.iinc 7 1, 3) := by decide +kernel
theorem dX9_stands_79 : decode cX9_stands 79 = .ok (.goto (-32), 3) := by decide +kernel
theorem dX9_stands_82 : decode cX9_stands 82 = .ok (.iconst 0, 1) := by decide +kernel
theorem dX9_stands_83 : decode cX9_stands 83 = .ok (.istore 7, 2) := by decide +kernel
theorem dX9_stands_85 : decode cX9_stands 85 = .ok (.iload 7, 2) := by decide +kernel
theorem dX9_stands_87 : decode cX9_stands 87 = .ok (.iload_n 2, 1) := by decide +kernel
theorem dX9_stands_88 : decode cX9_stands 88 = .ok (.if_icmp .ge 100, 3) := by decide +kernel
theorem dX9_stands_91 : decode cX9_stands 91 = .ok (.iconst 3, 1) := by decide +kernel
theorem dX9_stands_92 : decode cX9_stands 92 = .ok (.istore 8, 2) := by decide +kernel
theorem dX9_stands_94 : decode cX9_stands 94 = .ok (.iload 8, 2) := by decide +kernel
theorem dX9_stands_96 : decode cX9_stands 96 = .ok (.ifCond .lt 78, 3) := by decide +kernel
theorem dX9_stands_99 : decode cX9_stands 99 = .ok (.aload_n 0, 1) := by decide +kernel
theorem dX9_stands_100 : decode cX9_stands 100 = .ok (.iload_n 1, 1) := by decide +kernel
theorem dX9_stands_101 : decode cX9_stands 101 = .ok (.iload 8, 2) := by decide +kernel
theorem dX9_stands_103 : decode cX9_stands 103 = .ok (.aload_n 0, 1) := by decide +kernel
theorem dX9_stands_104 : decode cX9_stands 104 = .ok (.getfield 60, 3) := by decide +kernel
theorem dX9_stands_107 : decode cX9_stands 107 = .ok (.iload_n 1, 1) := by decide +kernel
theorem dX9_stands_108 : decode cX9_stands 108 = .ok (.iaload, 1) := by decide +kernel
theorem dX9_stands_109 : decode cX9_stands 109 = .ok (.aload_n 0, 1) := by decide +kernel
theorem dX9_stands_110 : decode cX9_stands 110 = .ok (.getfield 41, 3) := by decide +kernel
theorem dX9_stands_113 : decode cX9_stands 113 = .ok (.iconst 0, 1) := by decide +kernel
theorem dX9_stands_114 : decode cX9_stands 114 = .ok (.iaload, 1) := by decide +kernel
theorem dX9_stands_115 : decode cX9_stands 115 = .ok (.iload 7, 2) := by decide +kernel
theorem dX9_stands_117 : decode cX9_stands 117 = .ok (.iadd, 1) := by decide +kernel
theorem dX9_stands_118 : decode cX9_stands 118 = .ok (.invokevirtual 171, 3) := by decide +kernel
theorem dX9_stands_121 : decode cX9_stands 121 = .ok (.istore 9, 2) := by decide +kernel
theorem dX9_stands_123 : decode cX9_stands 123 = .ok (.iload 8, 2) := by decide +kernel
theorem dX9_stands_125 : decode cX9_stands 125 = .ok (.iconst 3, 1) := by decide +kernel
theorem dX9_stands_126 : decode cX9_stands 126 = .ok (.if_icmp .ge 26, 3) := by decide +kernel
theorem dX9_stands_129 : decode cX9_stands 129 = .ok (.aload_n 0, 1) := by decide +kernel
theorem dX9_stands_130 : decode cX9_stands 130 = .ok (.getfield 96, 3) := by decide +kernel
theorem dX9_stands_133 : decode cX9_stands 133 = .ok (.iload 8, 2) := by decide +kernel
theorem dX9_stands_135 : decode cX9_stands 135 = .ok (.iconst 1, 1) := by decide +kernel
theorem dX9_stands_136 : decode cX9_stands 136 = .ok (.iadd, 1) := by decide +kernel
theorem dX9_stands_137 : decode cX9_stands 137 = .ok (.dup2, 1) := by decide +kernel
theorem dX9_stands_138 : decode cX9_stands 138 = .ok (.laload, 1) := by decide +kernel
theorem dX9_stands_139 : decode cX9_stands 139 = .ok (.aload_n 0, 1) := by decide +kernel
theorem dX9_stands_140 : decode cX9_stands 140 = .ok (.getfield 96, 3) := by decide +kernel
theorem dX9_stands_143 : decode cX9_stands 143 = .ok (.iload 8, 2) := by decide +kernel
theorem dX9_stands_145 : decode cX9_stands 145 = .ok (.laload, 1) := by decide +kernel
theorem dX9_stands_146 : decode cX9_stands 146 = .ok (.iload 9, 2) := by decide +kernel
theorem dX9_stands_148 : decode cX9_stands 148 = .ok (.i2l, 1) := by decide +kernel
theorem dX9_stands_149 : decode cX9_stands 149 = .ok (.lmul, 1) := by decide +kernel
theorem dX9_stands_150 : decode cX9_stands 150 = .ok (.ladd, 1) := by decide +kernel
theorem dX9_stands_151 : decode cX9_stands 151 = .ok (.lastore, 1) := by decide +kernel
theorem dX9_stands_152 : decode cX9_stands 152 = .ok (.aload_n 0, 1) := by decide +kernel
theorem dX9_stands_153 : decode cX9_stands 153 = .ok (.getfield 96, 3) := by decide +kernel
theorem dX9_stands_156 : decode cX9_stands 156 = .ok (.iload 8, 2) := by decide +kernel
theorem dX9_stands_158 : decode cX9_stands 158 = .ok (.dup2, 1) := by decide +kernel
theorem dX9_stands_159 : decode cX9_stands 159 = .ok (.laload, 1) := by decide +kernel
theorem dX9_stands_160 : decode cX9_stands 160 = .ok (.bipush 10, 2) := by decide +kernel
theorem dX9_stands_162 : decode cX9_stands 162 = .ok (.iload 9, 2) := by decide +kernel
theorem dX9_stands_164 : decode cX9_stands 164 = .ok (.isub, 1) := by decide +kernel
theorem dX9_stands_165 : decode cX9_stands 165 = .ok (.i2l, 1) := by decide +kernel
theorem dX9_stands_166 : decode cX9_stands 166 = .ok (.lmul, 1) := by decide +kernel
theorem dX9_stands_167 : decode cX9_stands 167 = .ok (.lastore, 1) := by decide +kernel
theorem dX9_stands_168 : decode cX9_stands 168 = .ok (.iinc 8 (-1), 3) := by decide +kernel
theorem dX9_stands_171 : decode cX9_stands 171 = .ok (.goto (-77), 3) := by decide +kernel
theorem dX9_stands_174 : decode cX9_stands 174 = .ok (.lload 5, 2) := by decide +kernel
theorem dX9_stands_176 : decode cX9_stands 176 = .ok (.ldc2_w 253, 3) := by decide +kernel
theorem dX9_stands_179 : decode cX9_stands 179 = .ok (.lmul, 1) := by decide +kernel
theorem dX9_stands_180 : decode cX9_stands 180 = .ok (.lstore 5, 2) := by decide +kernel
theorem dX9_stands_182 : decode cX9_stands 182 = .ok (.iinc 7 1, 3) := by decide +kernel
theorem dX9_stands_185 : decode cX9_stands 185 = .ok (.goto (-100), 3) := by decide +kernel
theorem dX9_stands_188 : decode cX9_stands 188 = .ok (.aload_n 0, 1) := by decide +kernel
theorem dX9_stands_189 : decode cX9_stands 189 = .ok (.getfield 96, 3) := by decide +kernel
theorem dX9_stands_192 : decode cX9_stands 192 = .ok (.iload_n 3, 1) := by decide +kernel
theorem dX9_stands_193 : decode cX9_stands 193 = .ok (.laload, 1) := by decide +kernel
theorem dX9_stands_194 : decode cX9_stands 194 = .ok (.lload 5, 2) := by decide +kernel
theorem dX9_stands_196 : decode cX9_stands 196 = .ok (.iload 4, 2) := by decide +kernel
theorem dX9_stands_198 : decode cX9_stands 198 = .ok (.invokestatic 285, 3) := by decide +kernel
theorem dX9_stands_201 : decode cX9_stands 201 = .ok (.lreturn, 1) := by decide +kernel
theorem dX9_think_0 : decode cX9_think 0 = .ok (.aload_n 0, 1) := by decide +kernel
theorem dX9_think_1 : decode cX9_think 1 = .ok (.iload_n 1, 1) := by decide +kernel
theorem dX9_think_2 : decode cX9_think 2 = .ok (.putfield 289, 3) := by decide +kernel
theorem dX9_think_5 : decode cX9_think 5 = .ok (.iconst 0, 1) := by decide +kernel
theorem dX9_think_6 : decode cX9_think 6 = .ok (.istore_n 2, 1) := by decide +kernel
theorem dX9_think_7 : decode cX9_think 7 = .ok (.iload_n 2, 1) := by decide +kernel
theorem dX9_think_8 : decode cX9_think 8 = .ok (.iconst 4, 1) := by decide +kernel
theorem dX9_think_9 : decode cX9_think 9 = .ok (.if_icmp .ge 24, 3) := by decide +kernel
theorem dX9_think_12 : decode cX9_think 12 = .ok (.aload_n 0, 1) := by decide +kernel
theorem dX9_think_13 : decode cX9_think 13 = .ok (.getfield 100, 3) := by decide +kernel
theorem dX9_think_16 : decode cX9_think 16 = .ok (.iload_n 2, 1) := by decide +kernel
theorem dX9_think_17 : decode cX9_think 17 = .ok (.iload_n 2, 1) := by decide +kernel
theorem dX9_think_18 : decode cX9_think 18 = .ok (.ifCond .ne 7, 3) := by decide +kernel
theorem dX9_think_21 : decode cX9_think 21 = .ok (.lconst 1, 1) := by decide +kernel
theorem dX9_think_22 : decode cX9_think 22 = .ok (.goto 4, 3) := by decide +kernel
theorem dX9_think_25 : decode cX9_think 25 = .ok (.lconst 0, 1) := by decide +kernel
theorem dX9_think_26 : decode cX9_think 26 = .ok (.lastore, 1) := by decide +kernel
theorem dX9_think_27 : decode cX9_think 27 = .ok (.iinc 2 1, 3) := by decide +kernel
theorem dX9_think_30 : decode cX9_think 30 = .ok (.goto (-23), 3) := by decide +kernel
theorem dX9_think_33 : decode cX9_think 33 = .ok (.return_, 1) := by decide +kernel
theorem dX9_thought_0 : decode cX9_thought 0 = .ok (.iload_n 1, 1) := by decide +kernel
theorem dX9_thought_1 : decode cX9_thought 1 = .ok (.iconst 0, 1) := by decide +kernel
theorem dX9_thought_2 : decode cX9_thought 2 = .ok (.aload_n 0, 1) := by decide +kernel
theorem dX9_thought_3 : decode cX9_thought 3 = .ok (.getfield 13, 3) := by decide +kernel
theorem dX9_thought_6 : decode cX9_thought 6 = .ok (.iconst 0, 1) := by decide +kernel
theorem dX9_thought_7 : decode cX9_thought 7 = .ok (.iaload, 1) := by decide +kernel
theorem dX9_thought_8 : decode cX9_thought 8 = .ok (.iconst 1, 1) := by decide +kernel
theorem dX9_thought_9 : decode cX9_thought 9 = .ok (.isub, 1) := by decide +kernel
theorem dX9_thought_10 : decode cX9_thought 10 = .ok (.invokestatic 103, 3) := by decide +kernel
theorem dX9_thought_13 : decode cX9_thought 13 = .ok (.ifCond .ne 5, 3) := by decide +kernel
theorem dX9_thought_16 : decode cX9_thought 16 = .ok (.iconst (-1), 1) := by decide +kernel
theorem dX9_thought_17 : decode cX9_thought 17 = .ok (.ireturn, 1) := by decide +kernel
theorem dX9_thought_18 : decode cX9_thought 18 = .ok (.aload_n 0, 1) := by decide +kernel
theorem dX9_thought_19 : decode cX9_thought 19 = .ok (.iload_n 1, 1) := by decide +kernel
theorem dX9_thought_20 : decode cX9_thought 20 = .ok (.invokevirtual 157, 3) := by decide +kernel
theorem dX9_thought_23 : decode cX9_thought 23 = .ok (.iconst 1, 1) := by decide +kernel
theorem dX9_thought_24 : decode cX9_thought 24 = .ok (.ireturn, 1) := by decide +kernel
theorem dX9_settle_0 : decode cX9_settle 0 = .ok (.lconst 0, 1) := by decide +kernel
theorem dX9_settle_1 : decode cX9_settle 1 = .ok (.lstore_n 1, 1) := by decide +kernel
theorem dX9_settle_2 : decode cX9_settle 2 = .ok (.iconst 0, 1) := by decide +kernel
theorem dX9_settle_3 : decode cX9_settle 3 = .ok (.istore_n 3, 1) := by decide +kernel
theorem dX9_settle_4 : decode cX9_settle 4 = .ok (.iload_n 3, 1) := by decide +kernel
theorem dX9_settle_5 : decode cX9_settle 5 = .ok (.iconst 4, 1) := by decide +kernel
theorem dX9_settle_6 : decode cX9_settle 6 = .ok (.if_icmp .ge 22, 3) := by decide +kernel
theorem dX9_settle_9 : decode cX9_settle 9 = .ok (.aload_n 0, 1) := by decide +kernel
theorem dX9_settle_10 : decode cX9_settle 10 = .ok (.getfield 100, 3) := by decide +kernel
theorem dX9_settle_13 : decode cX9_settle 13 = .ok (.iconst 4, 1) := by decide +kernel
theorem dX9_settle_14 : decode cX9_settle 14 = .ok (.iload_n 3, 1) := by decide +kernel
theorem dX9_settle_15 : decode cX9_settle 15 = .ok (.iadd, 1) := by decide +kernel
theorem dX9_settle_16 : decode cX9_settle 16 = .ok (.laload, 1) := by decide +kernel
theorem dX9_settle_17 : decode cX9_settle 17 = .ok (.lload_n 1, 1) := by decide +kernel
theorem dX9_settle_18 : decode cX9_settle 18 = .ok (.invokestatic 279, 3) := by decide +kernel
theorem dX9_settle_21 : decode cX9_settle 21 = .ok (.lstore_n 1, 1) := by decide +kernel
theorem dX9_settle_22 : decode cX9_settle 22 = .ok (.iinc 3 1, 3) := by decide +kernel
theorem dX9_settle_25 : decode cX9_settle 25 = .ok (.goto (-21), 3) := by decide +kernel
theorem dX9_settle_28 : decode cX9_settle 28 = .ok (.lload_n 1, 1) := by decide +kernel
theorem dX9_settle_29 : decode cX9_settle 29 = .ok (.lconst 0, 1) := by decide +kernel
theorem dX9_settle_30 : decode cX9_settle 30 = .ok (.lcmp, 1) := by decide +kernel
theorem dX9_settle_31 : decode cX9_settle 31 = .ok (.ifCond .ne 6, 3) := by decide +kernel
theorem dX9_settle_34 : decode cX9_settle 34 = .ok (.bipush (-2), 2) := by decide +kernel
theorem dX9_settle_36 : decode cX9_settle 36 = .ok (.ireturn, 1) := by decide +kernel
theorem dX9_settle_37 : decode cX9_settle 37 = .ok (.iconst 0, 1) := by decide +kernel
theorem dX9_settle_38 : decode cX9_settle 38 = .ok (.istore_n 3, 1) := by decide +kernel
theorem dX9_settle_39 : decode cX9_settle 39 = .ok (.iload_n 3, 1) := by decide +kernel
theorem dX9_settle_40 : decode cX9_settle 40 = .ok (.iconst 4, 1) := by decide +kernel
theorem dX9_settle_41 : decode cX9_settle 41 = .ok (.if_icmp .ge 29, 3) := by decide +kernel
theorem dX9_settle_44 : decode cX9_settle 44 = .ok (.aload_n 0, 1) := by decide +kernel
theorem dX9_settle_45 : decode cX9_settle 45 = .ok (.getfield 100, 3) := by decide +kernel
theorem dX9_settle_48 : decode cX9_settle 48 = .ok (.iconst 4, 1) := by decide +kernel
theorem dX9_settle_49 : decode cX9_settle 49 = .ok (.iload_n 3, 1) := by decide +kernel
theorem dX9_settle_50 : decode cX9_settle 50 = .ok (.iadd, 1) := by decide +kernel
theorem dX9_settle_51 : decode cX9_settle 51 = .ok (.laload, 1) := by decide +kernel
theorem dX9_settle_52 : decode cX9_settle 52 = .ok (.lload_n 1, 1) := by decide +kernel
theorem dX9_settle_53 : decode cX9_settle 53 = .ok (.ldiv, 1) := by decide +kernel
theorem dX9_settle_54 : decode cX9_settle 54 = .ok (.ldc2_w 292, 3) := by decide +kernel
theorem dX9_settle_57 : decode cX9_settle 57 = .ok (.lcmp, 1) := by decide +kernel
theorem dX9_settle_58 : decode cX9_settle 58 = .ok (.ifCond .le 6, 3) := by decide +kernel
theorem dX9_settle_61 : decode cX9_settle 61 = .ok (.bipush (-3), 2) := by decide +kernel
theorem dX9_settle_63 : decode cX9_settle 63 = .ok (.ireturn, 1) := by decide +kernel
theorem dX9_settle_64 : decode cX9_settle 64 = .ok (.iinc 3 1, 3) := by decide +kernel
theorem dX9_settle_67 : decode cX9_settle 67 = .ok (.goto (-28), 3) := by decide +kernel
theorem dX9_settle_70 : decode cX9_settle 70 = .ok (.iconst 0, 1) := by decide +kernel
theorem dX9_settle_71 : decode cX9_settle 71 = .ok (.istore_n 3, 1) := by decide +kernel
theorem dX9_settle_72 : decode cX9_settle 72 = .ok (.iload_n 3, 1) := by decide +kernel
theorem dX9_settle_73 : decode cX9_settle 73 = .ok (.iconst 4, 1) := by decide +kernel
theorem dX9_settle_74 : decode cX9_settle 74 = .ok (.if_icmp .ge 25, 3) := by decide +kernel
theorem dX9_settle_77 : decode cX9_settle 77 = .ok (.aload_n 0, 1) := by decide +kernel
theorem dX9_settle_78 : decode cX9_settle 78 = .ok (.getfield 100, 3) := by decide +kernel
theorem dX9_settle_81 : decode cX9_settle 81 = .ok (.iload_n 3, 1) := by decide +kernel
theorem dX9_settle_82 : decode cX9_settle 82 = .ok (.aload_n 0, 1) := by decide +kernel
theorem dX9_settle_83 : decode cX9_settle 83 = .ok (.getfield 100, 3) := by decide +kernel
theorem dX9_settle_86 : decode cX9_settle 86 = .ok (.iconst 4, 1) := by decide +kernel
theorem dX9_settle_87 : decode cX9_settle 87 = .ok (.iload_n 3, 1) := by decide +kernel
theorem dX9_settle_88 : decode cX9_settle 88 = .ok (.iadd, 1) := by decide +kernel
theorem dX9_settle_89 : decode cX9_settle 89 = .ok (.laload, 1) := by decide +kernel
theorem dX9_settle_90 : decode cX9_settle 90 = .ok (.lload_n 1, 1) := by decide +kernel
theorem dX9_settle_91 : decode cX9_settle 91 = .ok (.ldiv, 1) := by decide +kernel
theorem dX9_settle_92 : decode cX9_settle 92 = .ok (.lastore, 1) := by decide +kernel
theorem dX9_settle_93 : decode cX9_settle 93 = .ok (.iinc 3 1, 3) := by decide +kernel
theorem dX9_settle_96 : decode cX9_settle 96 = .ok (.goto (-24), 3) := by decide +kernel
theorem dX9_settle_99 : decode cX9_settle 99 = .ok (.iconst 1, 1) := by decide +kernel
theorem dX9_settle_100 : decode cX9_settle 100 = .ok (.ireturn, 1) := by decide +kernel
theorem dX9_aged_0 : decode cX9_aged 0 = .ok (.aload_n 0, 1) := by decide +kernel
theorem dX9_aged_1 : decode cX9_aged 1 = .ok (.getfield 13, 3) := by decide +kernel
theorem dX9_aged_4 : decode cX9_aged 4 = .ok (.iconst 0, 1) := by decide +kernel
theorem dX9_aged_5 : decode cX9_aged 5 = .ok (.iaload, 1) := by decide +kernel
theorem dX9_aged_6 : decode cX9_aged 6 = .ok (.ifCond .ne 6, 3) := by decide +kernel
theorem dX9_aged_9 : decode cX9_aged 9 = .ok (.bipush (-2), 2) := by decide +kernel
theorem dX9_aged_11 : decode cX9_aged 11 = .ok (.ireturn, 1) := by decide +kernel
theorem dX9_aged_12 : decode cX9_aged 12 = .ok (.lconst 0, 1) := by decide +kernel
theorem dX9_aged_13 : decode cX9_aged 13 = .ok (.lstore_n 1, 1) := by decide +kernel
theorem dX9_aged_14 : decode cX9_aged 14 = .ok (.iconst 0, 1) := by decide +kernel
theorem dX9_aged_15 : decode cX9_aged 15 = .ok (.istore_n 3, 1) := by decide +kernel
theorem dX9_aged_16 : decode cX9_aged 16 = .ok (.iload_n 3, 1) := by decide +kernel
theorem dX9_aged_17 : decode cX9_aged 17 = .ok (.iconst 4, 1) := by decide +kernel
theorem dX9_aged_18 : decode cX9_aged 18 = .ok (.if_icmp .ge 70, 3) := by decide +kernel
theorem dX9_aged_21 : decode cX9_aged 21 = .ok (.iload_n 3, 1) := by decide +kernel
theorem dX9_aged_22 : decode cX9_aged 22 = .ok (.iconst 3, 1) := by decide +kernel
theorem dX9_aged_23 : decode cX9_aged 23 = .ok (.if_icmp .ne 7, 3) := by decide +kernel
theorem dX9_aged_26 : decode cX9_aged 26 = .ok (.lconst 0, 1) := by decide +kernel
theorem dX9_aged_27 : decode cX9_aged 27 = .ok (.goto 20, 3) := by decide +kernel
theorem dX9_aged_30 : decode cX9_aged 30 = .ok (.aload_n 0, 1) := by decide +kernel
theorem dX9_aged_31 : decode cX9_aged 31 = .ok (.getfield 26, 3) := by decide +kernel
theorem dX9_aged_34 : decode cX9_aged 34 = .ok (.bipush 14, 2) := by decide +kernel
theorem dX9_aged_36 : decode cX9_aged 36 = .ok (.aload_n 0, 1) := by decide +kernel
theorem dX9_aged_37 : decode cX9_aged 37 = .ok (.getfield 289, 3) := by decide +kernel
theorem dX9_aged_40 : decode cX9_aged 40 = .ok (.imul, 1) := by decide +kernel
theorem dX9_aged_41 : decode cX9_aged 41 = .ok (.iconst 4, 1) := by decide +kernel
theorem dX9_aged_42 : decode cX9_aged 42 = .ok (.iadd, 1) := by decide +kernel
theorem dX9_aged_43 : decode cX9_aged 43 = .ok (.iload_n 3, 1) := by decide +kernel
theorem dX9_aged_44 : decode cX9_aged 44 = .ok (.iadd, 1) := by decide +kernel
theorem dX9_aged_45 : decode cX9_aged 45 = .ok (.iaload, 1) := by decide +kernel
theorem dX9_aged_46 : decode cX9_aged 46 = .ok (.i2l, 1) := by decide +kernel
theorem dX9_aged_47 : decode cX9_aged 47 = .ok (.lstore 4, 2) := by decide +kernel
theorem dX9_aged_49 : decode cX9_aged 49 = .ok (.aload_n 0, 1) := by decide +kernel
theorem dX9_aged_50 : decode cX9_aged 50 = .ok (.getfield 100, 3) := by decide +kernel
theorem dX9_aged_53 : decode cX9_aged 53 = .ok (.iconst 4, 1) := by decide +kernel
theorem dX9_aged_54 : decode cX9_aged 54 = .ok (.iload_n 3, 1) := by decide +kernel
theorem dX9_aged_55 : decode cX9_aged 55 = .ok (.iadd, 1) := by decide +kernel
theorem dX9_aged_56 : decode cX9_aged 56 = .ok (.lload_n 1, 1) := by decide +kernel
theorem dX9_aged_57 : decode cX9_aged 57 = .ok (.aload_n 0, 1) := by decide +kernel
theorem dX9_aged_58 : decode cX9_aged 58 = .ok (.getfield 100, 3) := by decide +kernel
theorem dX9_aged_61 : decode cX9_aged 61 = .ok (.iload_n 3, 1) := by decide +kernel
theorem dX9_aged_62 : decode cX9_aged 62 = .ok (.laload, 1) := by decide +kernel
theorem dX9_aged_63 : decode cX9_aged 63 = .ok (.ldc2_w 253, 3) := by decide +kernel
theorem dX9_aged_66 : decode cX9_aged 66 = .ok (.lload 4, 2) := by decide +kernel
theorem dX9_aged_68 : decode cX9_aged 68 = .ok (.lsub, 1) := by decide +kernel
theorem dX9_aged_69 : decode cX9_aged 69 = .ok (.lmul, 1) := by decide +kernel
theorem dX9_aged_70 : decode cX9_aged 70 = .ok (.ladd, 1) := by decide +kernel
theorem dX9_aged_71 : decode cX9_aged 71 = .ok (.lastore, 1) := by decide +kernel
theorem dX9_aged_72 : decode cX9_aged 72 = .ok (.aload_n 0, 1) := by decide +kernel
theorem dX9_aged_73 : decode cX9_aged 73 = .ok (.getfield 100, 3) := by decide +kernel
theorem dX9_aged_76 : decode cX9_aged 76 = .ok (.iload_n 3, 1) := by decide +kernel
theorem dX9_aged_77 : decode cX9_aged 77 = .ok (.laload, 1) := by decide +kernel
theorem dX9_aged_78 : decode cX9_aged 78 = .ok (.lload 4, 2) := by decide +kernel
theorem dX9_aged_80 : decode cX9_aged 80 = .ok (.lmul, 1) := by decide +kernel
theorem dX9_aged_81 : decode cX9_aged 81 = .ok (.lstore_n 1, 1) := by decide +kernel
theorem dX9_aged_82 : decode cX9_aged 82 = .ok (.iinc 3 1, 3) := by decide +kernel
theorem dX9_aged_85 : decode cX9_aged 85 = .ok (.goto (-69), 3) := by decide +kernel
theorem dX9_aged_88 : decode cX9_aged 88 = .ok (.aload_n 0, 1) := by decide +kernel
theorem dX9_aged_89 : decode cX9_aged 89 = .ok (.invokevirtual 294, 3) := by decide +kernel
theorem dX9_aged_92 : decode cX9_aged 92 = .ok (.ireturn, 1) := by decide +kernel
theorem dX9_shown_0 : decode cX9_shown 0 = .ok (.iload_n 1, 1) := by decide +kernel
theorem dX9_shown_1 : decode cX9_shown 1 = .ok (.iconst 0, 1) := by decide +kernel
theorem dX9_shown_2 : decode cX9_shown 2 = .ok (.iconst 1, 1) := by decide +kernel
theorem dX9_shown_3 : decode cX9_shown 3 = .ok (.invokestatic 103, 3) := by decide +kernel
theorem dX9_shown_6 : decode cX9_shown 6 = .ok (.ifCond .ne 5, 3) := by decide +kernel
theorem dX9_shown_9 : decode cX9_shown 9 = .ok (.iconst (-1), 1) := by decide +kernel
theorem dX9_shown_10 : decode cX9_shown 10 = .ok (.ireturn, 1) := by decide +kernel
theorem dX9_shown_11 : decode cX9_shown 11 = .ok (.aload_n 0, 1) := by decide +kernel
theorem dX9_shown_12 : decode cX9_shown 12 = .ok (.getfield 13, 3) := by decide +kernel
theorem dX9_shown_15 : decode cX9_shown 15 = .ok (.iconst 0, 1) := by decide +kernel
theorem dX9_shown_16 : decode cX9_shown 16 = .ok (.iaload, 1) := by decide +kernel
theorem dX9_shown_17 : decode cX9_shown 17 = .ok (.ifCond .ne 6, 3) := by decide +kernel
theorem dX9_shown_20 : decode cX9_shown 20 = .ok (.bipush (-2), 2) := by decide +kernel
theorem dX9_shown_22 : decode cX9_shown 22 = .ok (.ireturn, 1) := by decide +kernel
theorem dX9_shown_23 : decode cX9_shown 23 = .ok (.iconst 0, 1) := by decide +kernel
theorem dX9_shown_24 : decode cX9_shown 24 = .ok (.istore_n 2, 1) := by decide +kernel
theorem dX9_shown_25 : decode cX9_shown 25 = .ok (.iload_n 2, 1) := by decide +kernel
theorem dX9_shown_26 : decode cX9_shown 26 = .ok (.iconst 4, 1) := by decide +kernel
theorem dX9_shown_27 : decode cX9_shown 27 = .ok (.if_icmp .ge 57, 3) := by decide +kernel
theorem dX9_shown_30 : decode cX9_shown 30 = .ok (.aload_n 0, 1) := by decide +kernel
theorem dX9_shown_31 : decode cX9_shown 31 = .ok (.getfield 26, 3) := by decide +kernel
theorem dX9_shown_34 : decode cX9_shown 34 = .ok (.bipush 14, 2) := by decide +kernel
theorem dX9_shown_36 : decode cX9_shown 36 = .ok (.aload_n 0, 1) := by decide +kernel
theorem dX9_shown_37 : decode cX9_shown 37 = .ok (.getfield 289, 3) := by decide +kernel
theorem dX9_shown_40 : decode cX9_shown 40 = .ok (.imul, 1) := by decide +kernel
theorem dX9_shown_41 : decode cX9_shown 41 = .ok (.bipush 10, 2) := by decide +kernel
theorem dX9_shown_43 : decode cX9_shown 43 = .ok (.iadd, 1) := by decide +kernel
theorem dX9_shown_44 : decode cX9_shown 44 = .ok (.iload_n 2, 1) := by decide +kernel
theorem dX9_shown_45 : decode cX9_shown 45 = .ok (.iadd, 1) := by decide +kernel
theorem dX9_shown_46 : decode cX9_shown 46 = .ok (.iaload, 1) := by decide +kernel
theorem dX9_shown_47 : decode cX9_shown 47 = .ok (.i2l, 1) := by decide +kernel
theorem dX9_shown_48 : decode cX9_shown 48 = .ok (.lstore_n 3, 1) := by decide +kernel
theorem dX9_shown_49 : decode cX9_shown 49 = .ok (.aload_n 0, 1) := by decide +kernel
theorem dX9_shown_50 : decode cX9_shown 50 = .ok (.getfield 100, 3) := by decide +kernel
theorem dX9_shown_53 : decode cX9_shown 53 = .ok (.iconst 4, 1) := by decide +kernel
theorem dX9_shown_54 : decode cX9_shown 54 = .ok (.iload_n 2, 1) := by decide +kernel
theorem dX9_shown_55 : decode cX9_shown 55 = .ok (.iadd, 1) := by decide +kernel
theorem dX9_shown_56 : decode cX9_shown 56 = .ok (.aload_n 0, 1) := by decide +kernel
theorem dX9_shown_57 : decode cX9_shown 57 = .ok (.getfield 100, 3) := by decide +kernel
theorem dX9_shown_60 : decode cX9_shown 60 = .ok (.iload_n 2, 1) := by decide +kernel
theorem dX9_shown_61 : decode cX9_shown 61 = .ok (.laload, 1) := by decide +kernel
theorem dX9_shown_62 : decode cX9_shown 62 = .ok (.iload_n 1, 1) := by decide +kernel
theorem dX9_shown_63 : decode cX9_shown 63 = .ok (.iconst 1, 1) := by decide +kernel
theorem dX9_shown_64 : decode cX9_shown 64 = .ok (.if_icmp .ne 7, 3) := by decide +kernel
theorem dX9_shown_67 : decode cX9_shown 67 = .ok (.lload_n 3, 1) := by decide +kernel
theorem dX9_shown_68 : decode cX9_shown 68 = .ok (.goto 8, 3) := by decide +kernel
theorem dX9_shown_71 : decode cX9_shown 71 = .ok (.ldc2_w 253, 3) := by decide +kernel
theorem dX9_shown_74 : decode cX9_shown 74 = .ok (.lload_n 3, 1) := by decide +kernel
theorem dX9_shown_75 : decode cX9_shown 75 = .ok (.lsub, 1) := by decide +kernel
theorem dX9_shown_76 : decode cX9_shown 76 = .ok (.lmul, 1) := by decide +kernel
theorem dX9_shown_77 : decode cX9_shown 77 = .ok (.lastore, 1) := by decide +kernel
theorem dX9_shown_78 : decode cX9_shown 78 = .ok (.iinc 2 1, 3) := by decide +kernel
theorem dX9_shown_81 : decode cX9_shown 81 = .ok (.goto (-56), 3) := by decide +kernel
theorem dX9_shown_84 : decode cX9_shown 84 = .ok (.aload_n 0, 1) := by decide +kernel
theorem dX9_shown_85 : decode cX9_shown 85 = .ok (.invokevirtual 294, 3) := by decide +kernel
theorem dX9_shown_88 : decode cX9_shown 88 = .ok (.ireturn, 1) := by decide +kernel
theorem dX9_thinks_0 : decode cX9_thinks 0 = .ok (.iload_n 1, 1) := by decide +kernel
theorem dX9_thinks_1 : decode cX9_thinks 1 = .ok (.iconst 0, 1) := by decide +kernel
theorem dX9_thinks_2 : decode cX9_thinks 2 = .ok (.iconst 4, 1) := by decide +kernel
