theorem dX9_init_234 : decode cX9_init 234 = .ok (.putfield 100, 3) := by decide +kernel
theorem dX9_init_237 : decode cX9_init 237 = .ok (.aload_n 0, 1) := by decide +kernel
theorem dX9_init_238 : decode cX9_init 238 = .ok (.getfield 20, 3) := by decide +kernel
theorem dX9_init_241 : decode cX9_init 241 = .ok (.iconst 0, 1) := by decide +kernel
theorem dX9_init_242 : decode cX9_init 242 = .ok (.bipush 6, 2) := by decide +kernel
theorem dX9_init_244 : decode cX9_init 244 = .ok (.iastore, 1) := by decide +kernel
theorem dX9_init_245 : decode cX9_init 245 = .ok (.aload_n 0, 1) := by decide +kernel
theorem dX9_init_246 : decode cX9_init 246 = .ok (.getfield 23, 3) := by decide +kernel
theorem dX9_init_249 : decode cX9_init 249 = .ok (.iconst 0, 1) := by decide +kernel
theorem dX9_init_250 : decode cX9_init 250 = .ok (.iconst 3, 1) := by decide +kernel
theorem dX9_init_251 : decode cX9_init 251 = .ok (.iastore, 1) := by decide +kernel
theorem dX9_init_252 : decode cX9_init 252 = .ok (.aload_n 0, 1) := by decide +kernel
theorem dX9_init_253 : decode cX9_init 253 = .ok (.getfield 54, 3) := by decide +kernel
theorem dX9_init_256 : decode cX9_init 256 = .ok (.iconst 0, 1) := by decide +kernel
theorem dX9_init_257 : decode cX9_init 257 = .ok (.iconst 1, 1) := by decide +kernel
theorem dX9_init_258 : decode cX9_init 258 = .ok (.iastore, 1) := by decide +kernel
theorem dX9_init_259 : decode cX9_init 259 = .ok (.aload_n 0, 1) := by decide +kernel
theorem dX9_init_260 : decode cX9_init 260 = .ok (.getfield 100, 3) := by decide +kernel
theorem dX9_init_263 : decode cX9_init 263 = .ok (.iconst 0, 1) := by decide +kernel
theorem dX9_init_264 : decode cX9_init 264 = .ok (.lconst 1, 1) := by decide +kernel
theorem dX9_init_265 : decode cX9_init 265 = .ok (.lastore, 1) := by decide +kernel
theorem dX9_init_266 : decode cX9_init 266 = .ok (.return_, 1) := by decide +kernel
theorem dX9_in_0 : decode cX9_in 0 = .ok (.iload_n 0, 1) := by decide +kernel
theorem dX9_in_1 : decode cX9_in 1 = .ok (.iload_n 1, 1) := by decide +kernel
theorem dX9_in_2 : decode cX9_in 2 = .ok (.if_icmp .lt 12, 3) := by decide +kernel
theorem dX9_in_5 : decode cX9_in 5 = .ok (.iload_n 0, 1) := by decide +kernel
theorem dX9_in_6 : decode cX9_in 6 = .ok (.iload_n 2, 1) := by decide +kernel
theorem dX9_in_7 : decode cX9_in 7 = .ok (.if_icmp .gt 7, 3) := by decide +kernel
theorem dX9_in_10 : decode cX9_in 10 = .ok (.iconst 1, 1) := by decide +kernel
theorem dX9_in_11 : decode cX9_in 11 = .ok (.goto 4, 3) := by decide +kernel
theorem dX9_in_14 : decode cX9_in 14 = .ok (.iconst 0, 1) := by decide +kernel
theorem dX9_in_15 : decode cX9_in 15 = .ok (.ireturn, 1) := by decide +kernel
theorem dX9_type_0 : decode cX9_type 0 = .ok (.iload_n 3, 1) := by decide +kernel
theorem dX9_type_1 : decode cX9_type 1 = .ok (.iconst 1, 1) := by decide +kernel
theorem dX9_type_2 : decode cX9_type 2 = .ok (.bipush 8, 2) := by decide +kernel
theorem dX9_type_4 : decode cX9_type 4 = .ok (.invokestatic 103, 3) := by decide +kernel
theorem dX9_type_7 : decode cX9_type 7 = .ok (.ifCond .ne 5, 3) := by decide +kernel
theorem dX9_type_10 : decode cX9_type 10 = .ok (.iconst (-1), 1) := by decide +kernel
theorem dX9_type_11 : decode cX9_type 11 = .ok (.ireturn, 1) := by decide +kernel
theorem dX9_type_12 : decode cX9_type 12 = .ok (.aload_n 0, 1) := by decide +kernel
theorem dX9_type_13 : decode cX9_type 13 = .ok (.getfield 107, 3) := by decide +kernel
theorem dX9_type_16 : decode cX9_type 16 = .ok (.iload_n 3, 1) := by decide +kernel
theorem dX9_type_17 : decode cX9_type 17 = .ok (.iadd, 1) := by decide +kernel
theorem dX9_type_18 : decode cX9_type 18 = .ok (.sipush 400, 3) := by decide +kernel
theorem dX9_type_21 : decode cX9_type 21 = .ok (.if_icmp .le 6, 3) := by decide +kernel
theorem dX9_type_24 : decode cX9_type 24 = .ok (.bipush (-3), 2) := by decide +kernel
theorem dX9_type_26 : decode cX9_type 26 = .ok (.ireturn, 1) := by decide +kernel
theorem dX9_type_27 : decode cX9_type 27 = .ok (.iload_n 3, 1) := by decide +kernel
theorem dX9_type_28 : decode cX9_type 28 = .ok (.iconst 1, 1) := by decide +kernel
theorem dX9_type_29 : decode cX9_type 29 = .ok (.isub, 1) := by decide +kernel
theorem dX9_type_30 : decode cX9_type 30 = .ok (.istore 4, 2) := by decide +kernel
theorem dX9_type_32 : decode cX9_type 32 = .ok (.iload 4, 2) := by decide +kernel
theorem dX9_type_34 : decode cX9_type 34 = .ok (.ifCond .lt 41, 3) := by decide +kernel
theorem dX9_type_37 : decode cX9_type 37 = .ok (.aload_n 0, 1) := by decide +kernel
theorem dX9_type_38 : decode cX9_type 38 = .ok (.getfield 7, 3) := by decide +kernel
theorem dX9_type_41 : decode cX9_type 41 = .ok (.aload_n 0, 1) := by decide +kernel
theorem dX9_type_42 : decode cX9_type 42 = .ok (.getfield 107, 3) := by decide +kernel
theorem dX9_type_45 : decode cX9_type 45 = .ok (.lload_n 1, 1) := by decide +kernel
theorem dX9_type_46 : decode cX9_type 46 = .ok (.bipush 8, 2) := by decide +kernel
theorem dX9_type_48 : decode cX9_type 48 = .ok (.iload 4, 2) := by decide +kernel
theorem dX9_type_50 : decode cX9_type 50 = .ok (.imul, 1) := by decide +kernel
theorem dX9_type_51 : decode cX9_type 51 = .ok (.lshr, 1) := by decide +kernel
theorem dX9_type_52 : decode cX9_type 52 = .ok (.ldc2_w 111, 3) := by decide +kernel
theorem dX9_type_55 : decode cX9_type 55 = .ok (.land, 1) := by decide +kernel
theorem dX9_type_56 : decode cX9_type 56 = .ok (.l2i, 1) := by decide +kernel
theorem dX9_type_57 : decode cX9_type 57 = .ok (.i2b, 1) := by decide +kernel
theorem dX9_type_58 : decode cX9_type 58 = .ok (.bastore, 1) := by decide +kernel
theorem dX9_type_59 : decode cX9_type 59 = .ok (.aload_n 0, 1) := by decide +kernel
theorem dX9_type_60 : decode cX9_type 60 = .ok (.dup, 1) := by decide +kernel
theorem dX9_type_61 : decode cX9_type 61 = .ok (.getfield 107, 3) := by decide +kernel
theorem dX9_type_64 : decode cX9_type 64 = .ok (.iconst 1, 1) := by decide +kernel
theorem dX9_type_65 : decode cX9_type 65 = .ok (.iadd, 1) := by decide +kernel
theorem dX9_type_66 : decode cX9_type 66 = .ok (.putfield 107, 3) := by decide +kernel
theorem dX9_type_69 : decode cX9_type 69 = .ok (.iinc 4 (-1), 3) := by decide +kernel
theorem dX9_type_72 : decode cX9_type 72 = .ok (.goto (-40), 3) := by decide +kernel
theorem dX9_type_75 : decode cX9_type 75 = .ok (.aload_n 0, 1) := by decide +kernel
theorem dX9_type_76 : decode cX9_type 76 = .ok (.getfield 107, 3) := by decide +kernel
theorem dX9_type_79 : decode cX9_type 79 = .ok (.ireturn, 1) := by decide +kernel
theorem dX9_clear_0 : decode cX9_clear 0 = .ok (.aload_n 0, 1) := by decide +kernel
theorem dX9_clear_1 : decode cX9_clear 1 = .ok (.getfield 107, 3) := by decide +kernel
theorem dX9_clear_4 : decode cX9_clear 4 = .ok (.istore_n 1, 1) := by decide +kernel
theorem dX9_clear_5 : decode cX9_clear 5 = .ok (.aload_n 0, 1) := by decide +kernel
theorem dX9_clear_6 : decode cX9_clear 6 = .ok (.iconst 0, 1) := by decide +kernel
theorem dX9_clear_7 : decode cX9_clear 7 = .ok (.putfield 107, 3) := by decide +kernel
theorem dX9_clear_10 : decode cX9_clear 10 = .ok (.iload_n 1, 1) := by decide +kernel
theorem dX9_clear_11 : decode cX9_clear 11 = .ok (.ireturn, 1) := by decide +kernel
theorem dX9_here_0 : decode cX9_here 0 = .ok (.aload_n 0, 1) := by decide +kernel
theorem dX9_here_1 : decode cX9_here 1 = .ok (.getfield 113, 3) := by decide +kernel
theorem dX9_here_4 : decode cX9_here 4 = .ok (.aload_n 0, 1) := by decide +kernel
theorem dX9_here_5 : decode cX9_here 5 = .ok (.getfield 107, 3) := by decide +kernel
theorem dX9_here_8 : decode cX9_here 8 = .ok (.if_icmp .ge 19, 3) := by decide +kernel
theorem dX9_here_11 : decode cX9_here 11 = .ok (.aload_n 0, 1) := by decide +kernel
theorem dX9_here_12 : decode cX9_here 12 = .ok (.getfield 7, 3) := by decide +kernel
theorem dX9_here_15 : decode cX9_here 15 = .ok (.aload_n 0, 1) := by decide +kernel
theorem dX9_here_16 : decode cX9_here 16 = .ok (.getfield 113, 3) := by decide +kernel
theorem dX9_here_19 : decode cX9_here 19 = .ok (.baload, 1) := by decide +kernel
theorem dX9_here_20 : decode cX9_here 20 = .ok (.sipush 255, 3) := by decide +kernel
theorem dX9_here_23 : decode cX9_here 23 = .ok (.iand, 1) := by decide +kernel
theorem dX9_here_24 : decode cX9_here 24 = .ok (.goto 4, 3) := by decide +kernel
theorem dX9_here_27 : decode cX9_here 27 = .ok (.iconst (-1), 1) := by decide +kernel
theorem dX9_here_28 : decode cX9_here 28 = .ok (.ireturn, 1) := by decide +kernel
theorem dX9_mean_0 : decode cX9_mean 0 = .ok (.iload_n 0, 1) := by decide +kernel
theorem dX9_mean_1 : decode cX9_mean 1 = .ok (.lookupswitch 105 #[(2774, 89), (307058, 96), (380741, 91), (385418, 85), (453937, 99), (8863997, 102), (12325519, 83), (12384399, 93), (12391871, 87)], 83) := by decide +kernel
theorem dX9_mean_84 : decode cX9_mean 84 = .ok (.iconst 1, 1) := by decide +kernel
theorem dX9_mean_85 : decode cX9_mean 85 = .ok (.ireturn, 1) := by decide +kernel
theorem dX9_mean_86 : decode cX9_mean 86 = .ok (.iconst 2, 1) := by decide +kernel
theorem dX9_mean_87 : decode cX9_mean 87 = .ok (.ireturn, 1) := by decide +kernel
theorem dX9_mean_88 : decode cX9_mean 88 = .ok (.iconst 3, 1) := by decide +kernel
theorem dX9_mean_89 : decode cX9_mean 89 = .ok (.ireturn, 1) := by decide +kernel
theorem dX9_mean_90 : decode cX9_mean 90 = .ok (.iconst 4, 1) := by decide +kernel
theorem dX9_mean_91 : decode cX9_mean 91 = .ok (.ireturn, 1) := by decide +kernel
theorem dX9_mean_92 : decode cX9_mean 92 = .ok (.iconst 5, 1) := by decide +kernel
theorem dX9_mean_93 : decode cX9_mean 93 = .ok (.ireturn, 1) := by decide +kernel
theorem dX9_mean_94 : decode cX9_mean 94 = .ok (.bipush 6, 2) := by decide +kernel
theorem dX9_mean_96 : decode cX9_mean 96 = .ok (.ireturn, 1) := by decide +kernel
theorem dX9_mean_97 : decode cX9_mean 97 = .ok (.bipush 7, 2) := by decide +kernel
theorem dX9_mean_99 : decode cX9_mean 99 = .ok (.ireturn, 1) := by decide +kernel
theorem dX9_mean_100 : decode cX9_mean 100 = .ok (.bipush 8, 2) := by decide +kernel
theorem dX9_mean_102 : decode cX9_mean 102 = .ok (.ireturn, 1) := by decide +kernel
theorem dX9_mean_103 : decode cX9_mean 103 = .ok (.bipush 9, 2) := by decide +kernel
theorem dX9_mean_105 : decode cX9_mean 105 = .ok (.ireturn, 1) := by decide +kernel
theorem dX9_mean_106 : decode cX9_mean 106 = .ok (.bipush 12, 2) := by decide +kernel
theorem dX9_mean_108 : decode cX9_mean 108 = .ok (.ireturn, 1) := by decide +kernel
theorem dX9_read_0 : decode cX9_read 0 = .ok (.aload_n 0, 1) := by decide +kernel
theorem dX9_read_1 : decode cX9_read 1 = .ok (.invokevirtual 116, 3) := by decide +kernel
theorem dX9_read_4 : decode cX9_read 4 = .ok (.bipush 32, 2) := by decide +kernel
theorem dX9_read_6 : decode cX9_read 6 = .ok (.if_icmp .ne 16, 3) := by decide +kernel
theorem dX9_read_9 : decode cX9_read 9 = .ok (.aload_n 0, 1) := by decide +kernel
theorem dX9_read_10 : decode cX9_read 10 = .ok (.dup, 1) := by decide +kernel
theorem dX9_read_11 : decode cX9_read 11 = .ok (.getfield 113, 3) := by decide +kernel
theorem dX9_read_14 : decode cX9_read 14 = .ok (.iconst 1, 1) := by decide +kernel
theorem dX9_read_15 : decode cX9_read 15 = .ok (.iadd, 1) := by decide +kernel
theorem dX9_read_16 : decode cX9_read 16 = .ok (.putfield 113, 3) := by decide +kernel
theorem dX9_read_19 : decode cX9_read 19 = .ok (.goto (-19), 3) := by decide +kernel
theorem dX9_read_22 : decode cX9_read 22 = .ok (.aload_n 0, 1) := by decide +kernel
theorem dX9_read_23 : decode cX9_read 23 = .ok (.aload_n 0, 1) := by decide +kernel
theorem dX9_read_24 : decode cX9_read 24 = .ok (.getfield 113, 3) := by decide +kernel
theorem dX9_read_27 : decode cX9_read 27 = .ok (.putfield 120, 3) := by decide +kernel
theorem dX9_read_30 : decode cX9_read 30 = .ok (.aload_n 0, 1) := by decide +kernel
theorem dX9_read_31 : decode cX9_read 31 = .ok (.iconst 0, 1) := by decide +kernel
theorem dX9_read_32 : decode cX9_read 32 = .ok (.putfield 123, 3) := by decide +kernel
theorem dX9_read_35 : decode cX9_read 35 = .ok (.aload_n 0, 1) := by decide +kernel
theorem dX9_read_36 : decode cX9_read 36 = .ok (.invokevirtual 116, 3) := by decide +kernel
theorem dX9_read_39 : decode cX9_read 39 = .ok (.istore_n 1, 1) := by decide +kernel
theorem dX9_read_40 : decode cX9_read 40 = .ok (.iload_n 1, 1) := by decide +kernel
theorem dX9_read_41 : decode cX9_read 41 = .ok (.ifCond .ge 11, 3) := by decide +kernel
theorem dX9_read_44 : decode cX9_read 44 = .ok (.aload_n 0, 1) := by decide +kernel
theorem dX9_read_45 : decode cX9_read 45 = .ok (.iconst 0, 1) := by decide +kernel
theorem dX9_read_46 : decode cX9_read 46 = .ok (.putfield 126, 3) := by decide +kernel
theorem dX9_read_49 : decode cX9_read 49 = .ok (.goto 243, 3) := by decide +kernel
theorem dX9_read_52 : decode cX9_read 52 = .ok (.iload_n 1, 1) := by decide +kernel
theorem dX9_read_53 : decode cX9_read 53 = .ok (.bipush 97, 2) := by decide +kernel
theorem dX9_read_55 : decode cX9_read 55 = .ok (.bipush 122, 2) := by decide +kernel
theorem dX9_read_57 : decode cX9_read 57 = .ok (.invokestatic 103, 3) := by decide +kernel
theorem dX9_read_60 : decode cX9_read 60 = .ok (.ifCond .eq 90, 3) := by decide +kernel
theorem dX9_read_63 : decode cX9_read 63 = .ok (.iconst 0, 1) := by decide +kernel
theorem dX9_read_64 : decode cX9_read 64 = .ok (.istore_n 2, 1) := by decide +kernel
theorem dX9_read_65 : decode cX9_read 65 = .ok (.aload_n 0, 1) := by decide +kernel
theorem dX9_read_66 : decode cX9_read 66 = .ok (.invokevirtual 116, 3) := by decide +kernel
theorem dX9_read_69 : decode cX9_read 69 = .ok (.bipush 97, 2) := by decide +kernel
theorem dX9_read_71 : decode cX9_read 71 = .ok (.bipush 122, 2) := by decide +kernel
theorem dX9_read_73 : decode cX9_read 73 = .ok (.invokestatic 103, 3) := by decide +kernel
theorem dX9_read_76 : decode cX9_read 76 = .ok (.ifCond .eq 46, 3) := by decide +kernel
theorem dX9_read_79 : decode cX9_read 79 = .ok (.aload_n 0, 1) := by decide +kernel
theorem dX9_read_80 : decode cX9_read 80 = .ok (.getfield 113, 3) := by decide +kernel
theorem dX9_read_83 : decode cX9_read 83 = .ok (.aload_n 0, 1) := by decide +kernel
theorem dX9_read_84 : decode cX9_read 84 = .ok (.getfield 120, 3) := by decide +kernel
theorem dX9_read_87 : decode cX9_read 87 = .ok (.isub, 1) := by decide +kernel
theorem dX9_read_88 : decode cX9_read 88 = .ok (.iconst 5, 1) := by decide +kernel
theorem dX9_read_89 : decode cX9_read 89 = .ok (.if_icmp .ge 18, 3) := by decide +kernel
theorem dX9_read_92 : decode cX9_read 92 = .ok (.bipush 27, 2) := by decide +kernel
theorem dX9_read_94 : decode cX9_read 94 = .ok (.iload_n 2, 1) := by decide +kernel
theorem dX9_read_95 : decode cX9_read 95 = .ok (.imul, 1) := by decide +kernel
theorem dX9_read_96 : decode cX9_read 96 = .ok (.aload_n 0, 1) := by decide +kernel
theorem dX9_read_97 : decode cX9_read 97 = .ok (.invokevirtual 116, 3) := by decide +kernel
theorem dX9_read_100 : decode cX9_read 100 = .ok (.iadd, 1) := by decide +kernel
theorem dX9_read_101 : decode cX9_read 101 = .ok (.bipush 96, 2) := by decide +kernel
theorem dX9_read_103 : decode cX9_read 103 = .ok (.isub, 1) := by decide +kernel
theorem dX9_read_104 : decode cX9_read 104 = .ok (.goto 4, 3) := by decide +kernel
theorem dX9_read_107 : decode cX9_read 107 = .ok (.iconst 0, 1) := by decide +kernel
theorem dX9_read_108 : decode cX9_read 108 = .ok (.istore_n 2, 1) := by decide +kernel
theorem dX9_read_109 : decode cX9_read 109 = .ok (.aload_n 0, 1) := by decide +kernel
theorem dX9_read_110 : decode cX9_read 110 = .ok (.dup, 1) := by decide +kernel
theorem dX9_read_111 : decode cX9_read 111 = .ok (.getfield 113, 3) := by decide +kernel
theorem dX9_read_114 : decode cX9_read 114 = .ok (.iconst 1, 1) := by decide +kernel
theorem dX9_read_115 : decode cX9_read 115 = .ok (.iadd, 1) := by decide +kernel
theorem dX9_read_116 : decode cX9_read 116 = .ok (.putfield 113, 3) := by decide +kernel
theorem dX9_read_119 : decode cX9_read 119 = .ok (.goto (-54), 3) := by decide +kernel
theorem dX9_read_122 : decode cX9_read 122 = .ok (.aload_n 0, 1) := by decide +kernel
theorem dX9_read_123 : decode cX9_read 123 = .ok (.aload_n 0, 1) := by decide +kernel
theorem dX9_read_124 : decode cX9_read 124 = .ok (.getfield 113, 3) := by decide +kernel
theorem dX9_read_127 : decode cX9_read 127 = .ok (.aload_n 0, 1) := by decide +kernel
theorem dX9_read_128 : decode cX9_read 128 = .ok (.getfield 120, 3) := by decide +kernel
theorem dX9_read_131 : decode cX9_read 131 = .ok (.isub, 1) := by decide +kernel
theorem dX9_read_132 : decode cX9_read 132 = .ok (.iconst 5, 1) := by decide +kernel
theorem dX9_read_133 : decode cX9_read 133 = .ok (.if_icmp .le 7, 3) := by decide +kernel
theorem dX9_read_136 : decode cX9_read 136 = .ok (.iconst 0, 1) := by decide +kernel
theorem dX9_read_137 : decode cX9_read 137 = .ok (.goto 4, 3) := by decide +kernel
theorem dX9_read_140 : decode cX9_read 140 = .ok (.iload_n 2, 1) := by decide +kernel
theorem dX9_read_141 : decode cX9_read 141 = .ok (.invokestatic 129, 3) := by decide +kernel
theorem dX9_read_144 : decode cX9_read 144 = .ok (.putfield 126, 3) := by decide +kernel
theorem dX9_read_147 : decode cX9_read 147 = .ok (.goto 145, 3) := by decide +kernel
theorem dX9_read_150 : decode cX9_read 150 = .ok (.iload_n 1, 1) := by decide +kernel
theorem dX9_read_151 : decode cX9_read 151 = .ok (.bipush 48, 2) := by decide +kernel
theorem dX9_read_153 : decode cX9_read 153 = .ok (.bipush 57, 2) := by decide +kernel
theorem dX9_read_155 : decode cX9_read 155 = .ok (.invokestatic 103, 3) := by decide +kernel
theorem dX9_read_158 : decode cX9_read 158 = .ok (.ifCond .eq 107, 3) := by decide +kernel
theorem dX9_read_161 : decode cX9_read 161 = .ok (.aload_n 0, 1) := by decide +kernel
theorem dX9_read_162 : decode cX9_read 162 = .ok (.invokevirtual 116, 3) := by decide +kernel
theorem dX9_read_165 : decode cX9_read 165 = .ok (.bipush 48, 2) := by decide +kernel
theorem dX9_read_167 : decode cX9_read 167 = .ok (.bipush 57, 2) := by decide +kernel
theorem dX9_read_169 : decode cX9_read 169 = .ok (.invokestatic 103, 3) := by decide +kernel
theorem dX9_read_172 : decode cX9_read 172 = .ok (.ifCond .eq 51, 3) := by decide +kernel
theorem dX9_read_175 : decode cX9_read 175 = .ok (.aload_n 0, 1) := by decide +kernel
theorem dX9_read_176 : decode cX9_read 176 = .ok (.aload_n 0, 1) := by decide +kernel
theorem dX9_read_177 : decode cX9_read 177 = .ok (.getfield 123, 3) := by decide +kernel
theorem dX9_read_180 : decode cX9_read 180 = .ok (.bipush 99, 2) := by decide +kernel
theorem dX9_read_182 : decode cX9_read 182 = .ok (.if_icmp .le 10, 3) := by decide +kernel
theorem dX9_read_185 : decode cX9_read 185 = .ok (.aload_n 0, 1) := by decide +kernel
theorem dX9_read_186 : decode cX9_read 186 = .ok (.getfield 123, 3) := by decide +kernel
theorem dX9_read_189 : decode cX9_read 189 = .ok (.goto 18, 3) := by decide +kernel
theorem dX9_read_192 : decode cX9_read 192 = .ok (.bipush 10, 2) := by decide +kernel
theorem dX9_read_194 : decode cX9_read 194 = .ok (.aload_n 0, 1) := by decide +kernel
theorem dX9_read_195 : decode cX9_read 195 = .ok (.getfield 123, 3) := by decide +kernel
theorem dX9_read_198 : decode cX9_read 198 = .ok (.imul, 1) := by decide +kernel
theorem dX9_read_199 : decode cX9_read 199 = .ok (.aload_n 0, 1) := by decide +kernel
theorem dX9_read_200 : decode cX9_read 200 = .ok (.invokevirtual 116, 3) := by decide +kernel
theorem dX9_read_203 : decode cX9_read 203 = .ok (.iadd, 1) := by decide +kernel
theorem dX9_read_204 : decode cX9_read 204 = .ok (.bipush 48, 2) := by decide +kernel
theorem dX9_read_206 : decode cX9_read 206 = .ok (.isub, 1) := by decide +kernel
theorem dX9_read_207 : decode cX9_read 207 = .ok (.putfield 123, 3) := by decide +kernel
theorem dX9_read_210 : decode cX9_read 210 = .ok (.aload_n 0, 1) := by decide +kernel
theorem dX9_read_211 : decode cX9_read 211 = .ok (.dup, 1) := by decide +kernel
theorem dX9_read_212 : decode cX9_read 212 = .ok (.getfield 113, 3) := by decide +kernel
theorem dX9_read_215 : decode cX9_read 215 = .ok (.iconst 1, 1) := by decide +kernel
theorem dX9_read_216 : decode cX9_read 216 = .ok (.iadd, 1) := by decide +kernel
theorem dX9_read_217 : decode cX9_read 217 = .ok (.putfield 113, 3) := by decide +kernel
theorem dX9_read_220 : decode cX9_read 220 = .ok (.goto (-59), 3) := by decide +kernel
theorem dX9_read_223 : decode cX9_read 223 = .ok (.aload_n 0, 1) := by decide +kernel
theorem dX9_read_224 : decode cX9_read 224 = .ok (.aload_n 0, 1) := by decide +kernel
theorem dX9_read_225 : decode cX9_read 225 = .ok (.getfield 123, 3) := by decide +kernel
theorem dX9_read_228 : decode cX9_read 228 = .ok (.bipush 99, 2) := by decide +kernel
theorem dX9_read_230 : decode cX9_read 230 = .ok (.if_icmp .gt 22, 3) := by decide +kernel
theorem dX9_read_233 : decode cX9_read 233 = .ok (.iload_n 1, 1) := by decide +kernel
theorem dX9_read_234 : decode cX9_read 234 = .ok (.bipush 48, 2) := by decide +kernel
theorem dX9_read_236 : decode cX9_read 236 = .ok (.if_icmp .ne 21, 3) := by decide +kernel
theorem dX9_read_239 : decode cX9_read 239 = .ok (.aload_n 0, 1) := by decide +kernel
theorem dX9_read_240 : decode cX9_read 240 = .ok (.getfield 113, 3) := by decide +kernel
theorem dX9_read_243 : decode cX9_read 243 = .ok (.aload_n 0, 1) := by decide +kernel
theorem dX9_read_244 : decode cX9_read 244 = .ok (.getfield 120, 3) := by decide +kernel
theorem dX9_read_247 : decode cX9_read 247 = .ok (.isub, 1) := by decide +kernel
theorem dX9_read_248 : decode cX9_read 248 = .ok (.iconst 1, 1) := by decide +kernel
theorem dX9_read_249 : decode cX9_read 249 = .ok (.if_icmp .le 8, 3) := by decide +kernel
theorem dX9_read_252 : decode cX9_read 252 = .ok (.bipush 12, 2) := by decide +kernel
theorem dX9_read_254 : decode cX9_read 254 = .ok (.goto 5, 3) := by decide +kernel
theorem dX9_read_257 : decode cX9_read 257 = .ok (.bipush 10, 2) := by decide +kernel
theorem dX9_read_259 : decode cX9_read 259 = .ok (.putfield 126, 3) := by decide +kernel
theorem dX9_read_262 : decode cX9_read 262 = .ok (.goto 30, 3) := by decide +kernel
theorem dX9_read_265 : decode cX9_read 265 = .ok (.aload_n 0, 1) := by decide +kernel
theorem dX9_read_266 : decode cX9_read 266 = .ok (.dup, 1) := by decide +kernel
theorem dX9_read_267 : decode cX9_read 267 = .ok (.getfield 113, 3) := by decide +kernel
theorem dX9_read_270 : decode cX9_read 270 = .ok (.iconst 1, 1) := by decide +kernel
theorem dX9_read_271 : decode cX9_read 271 = .ok (.iadd, 1) := by decide +kernel
theorem dX9_read_272 : decode cX9_read 272 = .ok (.putfield 113, 3) := by decide +kernel
theorem dX9_read_275 : decode cX9_read 275 = .ok (.aload_n 0, 1) := by decide +kernel
theorem dX9_read_276 : decode cX9_read 276 = .ok (.iload_n 1, 1) := by decide +kernel
theorem dX9_read_277 : decode cX9_read 277 = .ok (.bipush 59, 2) := by decide +kernel
theorem dX9_read_279 : decode cX9_read 279 = .ok (.if_icmp .ne 8, 3) := by decide +kernel
theorem dX9_read_282 : decode cX9_read 282 = .ok (.bipush 11, 2) := by decide +kernel
theorem dX9_read_284 : decode cX9_read 284 = .ok (.goto 5, 3) := by decide +kernel
theorem dX9_read_287 : decode cX9_read 287 = .ok (.bipush 12, 2) := by decide +kernel
theorem dX9_read_289 : decode cX9_read 289 = .ok (.putfield 126, 3) := by decide +kernel
theorem dX9_read_292 : decode cX9_read 292 = .ok (.return_, 1) := by decide +kernel
theorem dX9_due_0 : decode cX9_due 0 = .ok (.aload_n 0, 1) := by decide +kernel
theorem dX9_due_1 : decode cX9_due 1 = .ok (.getfield 123, 3) := by decide +kernel
theorem dX9_due_4 : decode cX9_due 4 = .ok (.istore_n 2, 1) := by decide +kernel
theorem dX9_due_5 : decode cX9_due 5 = .ok (.aload_n 0, 1) := by decide +kernel
theorem dX9_due_6 : decode cX9_due 6 = .ok (.getfield 133, 3) := by decide +kernel
theorem dX9_due_9 : decode cX9_due 9 = .ok (.bipush (-9), 2) := by decide +kernel
theorem dX9_due_11 : decode cX9_due 11 = .ok (.if_icmp .ne 22, 3) := by decide +kernel
theorem dX9_due_14 : decode cX9_due 14 = .ok (.iload_n 1, 1) := by decide +kernel
theorem dX9_due_15 : decode cX9_due 15 = .ok (.ifCond .eq 10, 3) := by decide +kernel
theorem dX9_due_18 : decode cX9_due 18 = .ok (.aload_n 0, 1) := by decide +kernel
theorem dX9_due_19 : decode cX9_due 19 = .ok (.invokevirtual 136, 3) := by decide +kernel
theorem dX9_due_22 : decode cX9_due 22 = .ok (.goto 11, 3) := by decide +kernel
theorem dX9_due_25 : decode cX9_due 25 = .ok (.aload_n 0, 1) := by decide +kernel
theorem dX9_due_26 : decode cX9_due 26 = .ok (.aload_n 0, 1) := by decide +kernel
theorem dX9_due_27 : decode cX9_due 27 = .ok (.getfield 120, 3) := by decide +kernel
theorem dX9_due_30 : decode cX9_due 30 = .ok (.putfield 133, 3) := by decide +kernel
theorem dX9_due_33 : decode cX9_due 33 = .ok (.iload_n 2, 1) := by decide +kernel
theorem dX9_due_34 : decode cX9_due 34 = .ok (.ireturn, 1) := by decide +kernel
theorem dX9_number_0 : decode cX9_number 0 = .ok (.aload_n 0, 1) := by decide +kernel
theorem dX9_number_1 : decode cX9_number 1 = .ok (.aload_n 0, 1) := by decide +kernel
theorem dX9_number_2 : decode cX9_number 2 = .ok (.getfield 126, 3) := by decide +kernel
theorem dX9_number_5 : decode cX9_number 5 = .ok (.bipush 10, 2) := by decide +kernel
theorem dX9_number_7 : decode cX9_number 7 = .ok (.if_icmp .ne 19, 3) := by decide +kernel
theorem dX9_number_10 : decode cX9_number 10 = .ok (.aload_n 0, 1) := by decide +kernel
theorem dX9_number_11 : decode cX9_number 11 = .ok (.getfield 123, 3) := by decide +kernel
theorem dX9_number_14 : decode cX9_number 14 = .ok (.iload_n 1, 1) := by decide +kernel
theorem dX9_number_15 : decode cX9_number 15 = .ok (.iload_n 2, 1) := by decide +kernel
theorem dX9_number_16 : decode cX9_number 16 = .ok (.invokestatic 103, 3) := by decide +kernel
theorem dX9_number_19 : decode cX9_number 19 = .ok (.ifCond .eq 7, 3) := by decide +kernel
theorem dX9_number_22 : decode cX9_number 22 = .ok (.iconst 1, 1) := by decide +kernel
theorem dX9_number_23 : decode cX9_number 23 = .ok (.goto 4, 3) := by decide +kernel
theorem dX9_number_26 : decode cX9_number 26 = .ok (.iconst 0, 1) := by decide +kernel
theorem dX9_number_27 : decode cX9_number 27 = .ok (.invokevirtual 139, 3) := by decide +kernel
theorem dX9_number_30 : decode cX9_number 30 = .ok (.ireturn, 1) := by decide +kernel
theorem dX9_readSort_0 : decode cX9_readSort 0 = .ok (.bipush 56, 2) := by decide +kernel
theorem dX9_readSort_2 : decode cX9_readSort 2 = .ok (.bipush 14, 2) := by decide +kernel
theorem dX9_readSort_4 : decode cX9_readSort 4 = .ok (.aload_n 0, 1) := by decide +kernel
theorem dX9_readSort_5 : decode cX9_readSort 5 = .ok (.getfield 13, 3) := by decide +kernel
theorem dX9_readSort_8 : decode cX9_readSort 8 = .ok (.iconst 1, 1) := by decide +kernel
theorem dX9_readSort_9 : decode cX9_readSort 9 = .ok (.iaload, 1) := by decide +kernel
theorem dX9_readSort_10 : decode cX9_readSort 10 = .ok (.iconst 4, 1) := by decide +kernel
theorem dX9_readSort_11 : decode cX9_readSort 11 = .ok (.if_icmp .ge 12, 3) := by decide +kernel
theorem dX9_readSort_14 : decode cX9_readSort 14 = .ok (.aload_n 0, 1) := by decide +kernel
theorem dX9_readSort_15 : decode cX9_readSort 15 = .ok (.getfield 13, 3) := by decide +kernel
theorem dX9_readSort_18 : decode cX9_readSort 18 = .ok (.iconst 1, 1) := by decide +kernel
theorem dX9_readSort_19 : decode cX9_readSort 19 = .ok (.iaload, 1) := by decide +kernel
theorem dX9_readSort_20 : decode cX9_readSort 20 = .ok (.goto 4, 3) := by decide +kernel
theorem dX9_readSort_23 : decode cX9_readSort 23 = .ok (.iconst 0, 1) := by decide +kernel
theorem dX9_readSort_24 : decode cX9_readSort 24 = .ok (.imul, 1) := by decide +kernel
theorem dX9_readSort_25 : decode cX9_readSort 25 = .ok (.iadd, 1) := by decide +kernel
theorem dX9_readSort_26 : decode cX9_readSort 26 = .ok (.istore_n 1, 1) := by decide +kernel
theorem dX9_readSort_27 : decode cX9_readSort 27 = .ok (.iconst 0, 1) := by decide +kernel
theorem dX9_readSort_28 : decode cX9_readSort 28 = .ok (.istore_n 2, 1) := by decide +kernel
theorem dX9_readSort_29 : decode cX9_readSort 29 = .ok (.iload_n 2, 1) := by decide +kernel
theorem dX9_readSort_30 : decode cX9_readSort 30 = .ok (.bipush 14, 2) := by decide +kernel
theorem dX9_readSort_32 : decode cX9_readSort 32 = .ok (.if_icmp .ge 110, 3) := by decide +kernel
theorem dX9_readSort_35 : decode cX9_readSort 35 = .ok (.iload_n 2, 1) := by decide +kernel
theorem dX9_readSort_36 : decode cX9_readSort 36 = .ok (.iconst 4, 1) := by decide +kernel
theorem dX9_readSort_37 : decode cX9_readSort 37 = .ok (.if_icmp .eq 15, 3) := by decide +kernel
theorem dX9_readSort_40 : decode cX9_readSort 40 = .ok (.iload_n 2, 1) := by decide +kernel
theorem dX9_readSort_41 : decode cX9_readSort 41 = .ok (.bipush 7, 2) := by decide +kernel
theorem dX9_readSort_43 : decode cX9_readSort 43 = .ok (.if_icmp .eq 9, 3) := by decide +kernel
theorem dX9_readSort_46 : decode cX9_readSort 46 = .ok (.iload_n 2, 1) := by decide +kernel
theorem dX9_readSort_47 : decode cX9_readSort 47 = .ok (.bipush 10, 2) := by decide +kernel
theorem dX9_readSort_49 : decode cX9_readSort 49 = .ok (.if_icmp .ne 40, 3) := by decide +kernel
theorem dX9_readSort_52 : decode cX9_readSort 52 = .ok (.aload_n 0, 1) := by decide +kernel
theorem dX9_readSort_53 : decode cX9_readSort 53 = .ok (.aload_n 0, 1) := by decide +kernel
theorem dX9_readSort_54 : decode cX9_readSort 54 = .ok (.getfield 126, 3) := by decide +kernel
theorem dX9_readSort_57 : decode cX9_readSort 57 = .ok (.iload_n 2, 1) := by decide +kernel
theorem dX9_readSort_58 : decode cX9_readSort 58 = .ok (.iconst 4, 1) := by decide +kernel
theorem dX9_readSort_59 : decode cX9_readSort 59 = .ok (.if_icmp .ne 7, 3) := by decide +kernel
theorem dX9_readSort_62 : decode cX9_readSort 62 = .ok (.iconst 3, 1) := by decide +kernel
theorem dX9_readSort_63 : decode cX9_readSort 63 = .ok (.goto 14, 3) := by decide +kernel
theorem dX9_readSort_66 : decode cX9_readSort 66 = .ok (.iload_n 2, 1) := by decide +kernel
theorem dX9_readSort_67 : decode cX9_readSort 67 = .ok (.bipush 7, 2) := by decide +kernel
theorem dX9_readSort_69 : decode cX9_readSort 69 = .ok (.if_icmp .ne 7, 3) := by decide +kernel
theorem dX9_readSort_72 : decode cX9_readSort 72 = .ok (.iconst 4, 1) := by decide +kernel
theorem dX9_readSort_73 : decode cX9_readSort 73 = .ok (.goto 4, 3) := by decide +kernel
theorem dX9_readSort_76 : decode cX9_readSort 76 = .ok (.iconst 5, 1) := by decide +kernel
theorem dX9_readSort_77 : decode cX9_readSort 77 = .ok (.if_icmp .ne 7, 3) := by decide +kernel
theorem dX9_readSort_80 : decode cX9_readSort 80 = .ok (.iconst 1, 1) := by decide +kernel
theorem dX9_readSort_81 : decode cX9_readSort 81 = .ok (.goto 4, 3) := by decide +kernel
theorem dX9_readSort_84 : decode cX9_readSort 84 = .ok (.iconst 0, 1) := by decide +kernel
theorem dX9_readSort_85 : decode cX9_readSort 85 = .ok (.invokevirtual 139, 3) := by decide +kernel
theorem dX9_readSort_88 : decode cX9_readSort 88 = .ok (.pop, 1) := by decide +kernel
theorem dX9_readSort_89 : decode cX9_readSort 89 = .ok (.aload_n 0, 1) := by decide +kernel
theorem dX9_readSort_90 : decode cX9_readSort 90 = .ok (.iconst 0, 1) := by decide +kernel
theorem dX9_readSort_91 : decode cX9_readSort 91 = .ok (.iload_n 2, 1) := by decide +kernel
theorem dX9_readSort_92 : decode cX9_readSort 92 = .ok (.iconst 4, 1) := by decide +kernel
theorem dX9_readSort_93 : decode cX9_readSort 93 = .ok (.if_icmp .ge 8, 3) := by decide +kernel
theorem dX9_readSort_96 : decode cX9_readSort 96 = .ok (.bipush 99, 2) := by decide +kernel
theorem dX9_readSort_98 : decode cX9_readSort 98 = .ok (.goto 5, 3) := by decide +kernel
theorem dX9_readSort_101 : decode cX9_readSort 101 = .ok (.bipush 10, 2) := by decide +kernel
theorem dX9_readSort_103 : decode cX9_readSort 103 = .ok (.invokevirtual 143, 3) := by decide +kernel
theorem dX9_readSort_106 : decode cX9_readSort 106 = .ok (.istore_n 3, 1) := by decide +kernel
theorem dX9_readSort_107 : decode cX9_readSort 107 = .ok (.aload_n 0, 1) := by decide +kernel
theorem dX9_readSort_108 : decode cX9_readSort 108 = .ok (.getfield 26, 3) := by decide +kernel
theorem dX9_readSort_111 : decode cX9_readSort 111 = .ok (.iload_n 1, 1) := by decide +kernel
theorem dX9_readSort_112 : decode cX9_readSort 112 = .ok (.iload_n 2, 1) := by decide +kernel
theorem dX9_readSort_113 : decode cX9_readSort 113 = .ok (.iadd, 1) := by decide +kernel
theorem dX9_readSort_114 : decode cX9_readSort 114 = .ok (.aload_n 0, 1) := by decide +kernel
theorem dX9_readSort_115 : decode cX9_readSort 115 = .ok (.getfield 133, 3) := by decide +kernel
theorem dX9_readSort_118 : decode cX9_readSort 118 = .ok (.bipush (-9), 2) := by decide +kernel
theorem dX9_readSort_120 : decode cX9_readSort 120 = .ok (.if_icmp .ne 7, 3) := by decide +kernel
theorem dX9_readSort_123 : decode cX9_readSort 123 = .ok (.iload_n 3, 1) := by decide +kernel
theorem dX9_readSort_124 : decode cX9_readSort 124 = .ok (.goto 11, 3) := by decide +kernel
theorem dX9_readSort_127 : decode cX9_readSort 127 = .ok (.aload_n 0, 1) := by decide +kernel
theorem dX9_readSort_128 : decode cX9_readSort 128 = .ok (.getfield 26, 3) := by decide +kernel
theorem dX9_readSort_131 : decode cX9_readSort 131 = .ok (.iload_n 1, 1) := by decide +kernel
theorem dX9_readSort_132 : decode cX9_readSort 132 = .ok (.iload_n 2, 1) := by decide +kernel
theorem dX9_readSort_133 : decode cX9_readSort 133 = .ok (.iadd, 1) := by decide +kernel
theorem dX9_readSort_134 : decode cX9_readSort 134 = .ok (.iaload, 1) := by decide +kernel
theorem dX9_readSort_135 : decode cX9_readSort 135 = .ok (.iastore, 1) := by decide +kernel
theorem dX9_readSort_136 : decode cX9_readSort 136 = .ok (.iinc 2 1, 3) := by decide +kernel
theorem dX9_readSort_139 : decode cX9_readSort 139 = .ok (.goto (-110), 3) := by decide +kernel
theorem dX9_readSort_142 : decode cX9_readSort 142 = .ok (.aload_n 0, 1) := by decide +kernel
theorem dX9_readSort_143 : decode cX9_readSort 143 = .ok (.getfield 13, 3) := by decide +kernel
theorem dX9_readSort_146 : decode cX9_readSort 146 = .ok (.iconst 1, 1) := by decide +kernel
theorem dX9_readSort_147 : decode cX9_readSort 147 = .ok (.dup2, 1) := by decide +kernel
theorem dX9_readSort_148 : decode cX9_readSort 148 = .ok (.iaload, 1) := by decide +kernel
theorem dX9_readSort_149 : decode cX9_readSort 149 = .ok (.iconst 1, 1) := by decide +kernel
theorem dX9_readSort_150 : decode cX9_readSort 150 = .ok (.iadd, 1) := by decide +kernel
theorem dX9_readSort_151 : decode cX9_readSort 151 = .ok (.iastore, 1) := by decide +kernel
theorem dX9_readSort_152 : decode cX9_readSort 152 = .ok (.return_, 1) := by decide +kernel
theorem dX9_item_0 : decode cX9_item 0 = .ok (.aload_n 0, 1) := by decide +kernel
theorem dX9_item_1 : decode cX9_item 1 = .ok (.iload_n 1, 1) := by decide +kernel
theorem dX9_item_2 : decode cX9_item 2 = .ok (.iconst 1, 1) := by decide +kernel
theorem dX9_item_3 : decode cX9_item 3 = .ok (.if_icmp .ne 15, 3) := by decide +kernel
theorem dX9_item_6 : decode cX9_item 6 = .ok (.iload_n 2, 1) := by decide +kernel
theorem dX9_item_7 : decode cX9_item 7 = .ok (.ifCond .ne 7, 3) := by decide +kernel
theorem dX9_item_10 : decode cX9_item 10 = .ok (.iconst 1, 1) := by decide +kernel
theorem dX9_item_11 : decode cX9_item 11 = .ok (.goto 77, 3) := by decide +kernel
theorem dX9_item_14 : decode cX9_item 14 = .ok (.iconst 0, 1) := by decide +kernel
theorem dX9_item_15 : decode cX9_item 15 = .ok (.goto 73, 3) := by decide +kernel
theorem dX9_item_18 : decode cX9_item 18 = .ok (.iload_n 1, 1) := by decide +kernel
theorem dX9_item_19 : decode cX9_item 19 = .ok (.iconst 2, 1) := by decide +kernel
theorem dX9_item_20 : decode cX9_item 20 = .ok (.if_icmp .ne 21, 3) := by decide +kernel
theorem dX9_item_23 : decode cX9_item 23 = .ok (.aload_n 0, 1) := by decide +kernel
theorem dX9_item_24 : decode cX9_item 24 = .ok (.getfield 13, 3) := by decide +kernel
theorem dX9_item_27 : decode cX9_item 27 = .ok (.iconst 1, 1) := by decide +kernel
theorem dX9_item_28 : decode cX9_item 28 = .ok (.iaload, 1) := by decide +kernel
theorem dX9_item_29 : decode cX9_item 29 = .ok (.iconst 4, 1) := by decide +kernel
theorem dX9_item_30 : decode cX9_item 30 = .ok (.if_icmp .ge 7, 3) := by decide +kernel
theorem dX9_item_33 : decode cX9_item 33 = .ok (.iconst 1, 1) := by decide +kernel
theorem dX9_item_34 : decode cX9_item 34 = .ok (.goto 54, 3) := by decide +kernel
theorem dX9_item_37 : decode cX9_item 37 = .ok (.iconst 0, 1) := by decide +kernel
theorem dX9_item_38 : decode cX9_item 38 = .ok (.goto 50, 3) := by decide +kernel
theorem dX9_item_41 : decode cX9_item 41 = .ok (.iload_n 1, 1) := by decide +kernel
theorem dX9_item_42 : decode cX9_item 42 = .ok (.bipush 6, 2) := by decide +kernel
theorem dX9_item_44 : decode cX9_item 44 = .ok (.if_icmp .ne 21, 3) := by decide +kernel
theorem dX9_item_47 : decode cX9_item 47 = .ok (.aload_n 0, 1) := by decide +kernel
theorem dX9_item_48 : decode cX9_item 48 = .ok (.getfield 17, 3) := by decide +kernel
theorem dX9_item_51 : decode cX9_item 51 = .ok (.iconst 1, 1) := by decide +kernel
theorem dX9_item_52 : decode cX9_item 52 = .ok (.iaload, 1) := by decide +kernel
theorem dX9_item_53 : decode cX9_item 53 = .ok (.iconst 3, 1) := by decide +kernel
theorem dX9_item_54 : decode cX9_item 54 = .ok (.if_icmp .ge 7, 3) := by decide +kernel
theorem dX9_item_57 : decode cX9_item 57 = .ok (.iconst 1, 1) := by decide +kernel
theorem dX9_item_58 : decode cX9_item 58 = .ok (.goto 30, 3) := by decide +kernel
theorem dX9_item_61 : decode cX9_item 61 = .ok (.iconst 0, 1) := by decide +kernel
theorem dX9_item_62 : decode cX9_item 62 = .ok (.goto 26, 3) := by decide +kernel
theorem dX9_item_65 : decode cX9_item 65 = .ok (.iload_n 1, 1) := by decide +kernel
theorem dX9_item_66 : decode cX9_item 66 = .ok (.bipush 7, 2) := by decide +kernel
theorem dX9_item_68 : decode cX9_item 68 = .ok (.if_icmp .eq 15, 3) := by decide +kernel
theorem dX9_item_71 : decode cX9_item 71 = .ok (.iload_n 1, 1) := by decide +kernel
theorem dX9_item_72 : decode cX9_item 72 = .ok (.bipush 8, 2) := by decide +kernel
theorem dX9_item_74 : decode cX9_item 74 = .ok (.if_icmp .eq 9, 3) := by decide +kernel
theorem dX9_item_77 : decode cX9_item 77 = .ok (.iload_n 1, 1) := by decide +kernel
theorem dX9_item_78 : decode cX9_item 78 = .ok (.bipush 9, 2) := by decide +kernel
theorem dX9_item_80 : decode cX9_item 80 = .ok (.if_icmp .ne 7, 3) := by decide +kernel
theorem dX9_item_83 : decode cX9_item 83 = .ok (.iconst 1, 1) := by decide +kernel
theorem dX9_item_84 : decode cX9_item 84 = .ok (.goto 4, 3) := by decide +kernel
theorem dX9_item_87 : decode cX9_item 87 = .ok (.iconst 0, 1) := by decide +kernel
theorem dX9_item_88 : decode cX9_item 88 = .ok (.invokevirtual 139, 3) := by decide +kernel
theorem dX9_item_91 : decode cX9_item 91 = .ok (.pop, 1) := by decide +kernel
theorem dX9_item_92 : decode cX9_item 92 = .ok (.aload_n 0, 1) := by decide +kernel
theorem dX9_item_93 : decode cX9_item 93 = .ok (.getfield 133, 3) := by decide +kernel
theorem dX9_item_96 : decode cX9_item 96 = .ok (.bipush (-9), 2) := by decide +kernel
theorem dX9_item_98 : decode cX9_item 98 = .ok (.if_icmp .eq 4, 3) := by decide +kernel
theorem dX9_item_101 : decode cX9_item 101 = .ok (.return_, 1) := by decide +kernel
theorem dX9_item_102 : decode cX9_item 102 = .ok (.iload_n 1, 1) := by decide +kernel
theorem dX9_item_103 : decode cX9_item 103 = .ok (.iconst 1, 1) := by decide +kernel
theorem dX9_item_104 : decode cX9_item 104 = .ok (.if_icmp .ne 19, 3) := by decide +kernel
theorem dX9_item_107 : decode cX9_item 107 = .ok (.aload_n 0, 1) := by decide +kernel
theorem dX9_item_108 : decode cX9_item 108 = .ok (.getfield 20, 3) := by decide +kernel
theorem dX9_item_111 : decode cX9_item 111 = .ok (.iconst 1, 1) := by decide +kernel
theorem dX9_item_112 : decode cX9_item 112 = .ok (.aload_n 0, 1) := by decide +kernel
theorem dX9_item_113 : decode cX9_item 113 = .ok (.iconst 1, 1) := by decide +kernel
theorem dX9_item_114 : decode cX9_item 114 = .ok (.bipush 8, 2) := by decide +kernel
theorem dX9_item_116 : decode cX9_item 116 = .ok (.invokevirtual 143, 3) := by decide +kernel
theorem dX9_item_119 : decode cX9_item 119 = .ok (.iastore, 1) := by decide +kernel
theorem dX9_item_120 : decode cX9_item 120 = .ok (.goto 176, 3) := by decide +kernel
theorem dX9_item_123 : decode cX9_item 123 = .ok (.iload_n 1, 1) := by decide +kernel
theorem dX9_item_124 : decode cX9_item 124 = .ok (.iconst 2, 1) := by decide +kernel
theorem dX9_item_125 : decode cX9_item 125 = .ok (.if_icmp .ne 10, 3) := by decide +kernel
theorem dX9_item_128 : decode cX9_item 128 = .ok (.aload_n 0, 1) := by decide +kernel
theorem dX9_item_129 : decode cX9_item 129 = .ok (.invokevirtual 147, 3) := by decide +kernel
theorem dX9_item_132 : decode cX9_item 132 = .ok (.goto 164, 3) := by decide +kernel
theorem dX9_item_135 : decode cX9_item 135 = .ok (.iload_n 1, 1) := by decide +kernel
theorem dX9_item_136 : decode cX9_item 136 = .ok (.bipush 6, 2) := by decide +kernel
theorem dX9_item_138 : decode cX9_item 138 = .ok (.if_icmp .ne 61, 3) := by decide +kernel
theorem dX9_item_141 : decode cX9_item 141 = .ok (.aload_n 0, 1) := by decide +kernel
theorem dX9_item_142 : decode cX9_item 142 = .ok (.getfield 29, 3) := by decide +kernel
theorem dX9_item_145 : decode cX9_item 145 = .ok (.iconst 3, 1) := by decide +kernel
theorem dX9_item_146 : decode cX9_item 146 = .ok (.aload_n 0, 1) := by decide +kernel
theorem dX9_item_147 : decode cX9_item 147 = .ok (.getfield 17, 3) := by decide +kernel
theorem dX9_item_150 : decode cX9_item 150 = .ok (.iconst 1, 1) := by decide +kernel
theorem dX9_item_151 : decode cX9_item 151 = .ok (.iaload, 1) := by decide +kernel
theorem dX9_item_152 : decode cX9_item 152 = .ok (.iadd, 1) := by decide +kernel
theorem dX9_item_153 : decode cX9_item 153 = .ok (.aload_n 0, 1) := by decide +kernel
theorem dX9_item_154 : decode cX9_item 154 = .ok (.iconst 0, 1) := by decide +kernel
theorem dX9_item_155 : decode cX9_item 155 = .ok (.aload_n 0, 1) := by decide +kernel
theorem dX9_item_156 : decode cX9_item 156 = .ok (.getfield 13, 3) := by decide +kernel
theorem dX9_item_159 : decode cX9_item 159 = .ok (.iconst 1, 1) := by decide +kernel
theorem dX9_item_160 : decode cX9_item 160 = .ok (.iaload, 1) := by decide +kernel
theorem dX9_item_161 : decode cX9_item 161 = .ok (.iconst 1, 1) := by decide +kernel
theorem dX9_item_162 : decode cX9_item 162 = .ok (.isub, 1) := by decide +kernel
theorem dX9_item_163 : decode cX9_item 163 = .ok (.invokevirtual 143, 3) := by decide +kernel
theorem dX9_item_166 : decode cX9_item 166 = .ok (.iastore, 1) := by decide +kernel
theorem dX9_item_167 : decode cX9_item 167 = .ok (.aload_n 0, 1) := by decide +kernel
theorem dX9_item_168 : decode cX9_item 168 = .ok (.getfield 32, 3) := by decide +kernel
theorem dX9_item_171 : decode cX9_item 171 = .ok (.iconst 3, 1) := by decide +kernel
theorem dX9_item_172 : decode cX9_item 172 = .ok (.aload_n 0, 1) := by decide +kernel
theorem dX9_item_173 : decode cX9_item 173 = .ok (.getfield 17, 3) := by decide +kernel
theorem dX9_item_176 : decode cX9_item 176 = .ok (.iconst 1, 1) := by decide +kernel
theorem dX9_item_177 : decode cX9_item 177 = .ok (.iaload, 1) := by decide +kernel
theorem dX9_item_178 : decode cX9_item 178 = .ok (.iadd, 1) := by decide +kernel
theorem dX9_item_179 : decode cX9_item 179 = .ok (.aload_n 0, 1) := by decide +kernel
theorem dX9_item_180 : decode cX9_item 180 = .ok (.iconst 1, 1) := by decide +kernel
theorem dX9_item_181 : decode cX9_item 181 = .ok (.iconst 3, 1) := by decide +kernel
theorem dX9_item_182 : decode cX9_item 182 = .ok (.invokevirtual 143, 3) := by decide +kernel
theorem dX9_item_185 : decode cX9_item 185 = .ok (.iastore, 1) := by decide +kernel
theorem dX9_item_186 : decode cX9_item 186 = .ok (.aload_n 0, 1) := by decide +kernel
theorem dX9_item_187 : decode cX9_item 187 = .ok (.getfield 17, 3) := by decide +kernel
theorem dX9_item_190 : decode cX9_item 190 = .ok (.iconst 1, 1) := by decide +kernel
theorem dX9_item_191 : decode cX9_item 191 = .ok (.dup2, 1) := by decide +kernel
theorem dX9_item_192 : decode cX9_item 192 = .ok (.iaload, 1) := by decide +kernel
theorem dX9_item_193 : decode cX9_item 193 = .ok (.iconst 1, 1) := by decide +kernel
theorem dX9_item_194 : decode cX9_item 194 = .ok (.iadd, 1) := by decide +kernel
theorem dX9_item_195 : decode cX9_item 195 = .ok (.iastore, 1) := by decide +kernel
theorem dX9_item_196 : decode cX9_item 196 = .ok (.goto 100, 3) := by decide +kernel
theorem dX9_item_199 : decode cX9_item 199 = .ok (.iload_n 1, 1) := by decide +kernel
theorem dX9_item_200 : decode cX9_item 200 = .ok (.bipush 7, 2) := by decide +kernel
theorem dX9_item_202 : decode cX9_item 202 = .ok (.if_icmp .ne 18, 3) := by decide +kernel
theorem dX9_item_205 : decode cX9_item 205 = .ok (.aload_n 0, 1) := by decide +kernel
theorem dX9_item_206 : decode cX9_item 206 = .ok (.getfield 23, 3) := by decide +kernel
theorem dX9_item_209 : decode cX9_item 209 = .ok (.iconst 1, 1) := by decide +kernel
theorem dX9_item_210 : decode cX9_item 210 = .ok (.aload_n 0, 1) := by decide +kernel
theorem dX9_item_211 : decode cX9_item 211 = .ok (.iconst 1, 1) := by decide +kernel
theorem dX9_item_212 : decode cX9_item 212 = .ok (.iconst 3, 1) := by decide +kernel
theorem dX9_item_213 : decode cX9_item 213 = .ok (.invokevirtual 143, 3) := by decide +kernel
theorem dX9_item_216 : decode cX9_item 216 = .ok (.iastore, 1) := by decide +kernel
theorem dX9_item_217 : decode cX9_item 217 = .ok (.goto 79, 3) := by decide +kernel
theorem dX9_item_220 : decode cX9_item 220 = .ok (.aload_n 0, 1) := by decide +kernel
theorem dX9_item_221 : decode cX9_item 221 = .ok (.iconst 0, 1) := by decide +kernel
theorem dX9_item_222 : decode cX9_item 222 = .ok (.bipush 7, 2) := by decide +kernel
theorem dX9_item_224 : decode cX9_item 224 = .ok (.invokevirtual 143, 3) := by decide +kernel
theorem dX9_item_227 : decode cX9_item 227 = .ok (.istore_n 3, 1) := by decide +kernel
theorem dX9_item_228 : decode cX9_item 228 = .ok (.aload_n 0, 1) := by decide +kernel
theorem dX9_item_229 : decode cX9_item 229 = .ok (.iconst 0, 1) := by decide +kernel
theorem dX9_item_230 : decode cX9_item 230 = .ok (.iload_n 1, 1) := by decide +kernel
theorem dX9_item_231 : decode cX9_item 231 = .ok (.bipush 8, 2) := by decide +kernel
theorem dX9_item_233 : decode cX9_item 233 = .ok (.if_icmp .ne 7, 3) := by decide +kernel
theorem dX9_item_236 : decode cX9_item 236 = .ok (.iconst 5, 1) := by decide +kernel
theorem dX9_item_237 : decode cX9_item 237 = .ok (.goto 5, 3) := by decide +kernel
theorem dX9_item_240 : decode cX9_item 240 = .ok (.bipush 99, 2) := by decide +kernel
theorem dX9_item_242 : decode cX9_item 242 = .ok (.invokevirtual 143, 3) := by decide +kernel
theorem dX9_item_245 : decode cX9_item 245 = .ok (.istore 4, 2) := by decide +kernel
theorem dX9_item_247 : decode cX9_item 247 = .ok (.aload_n 0, 1) := by decide +kernel
theorem dX9_item_248 : decode cX9_item 248 = .ok (.getfield 133, 3) := by decide +kernel
theorem dX9_item_251 : decode cX9_item 251 = .ok (.bipush (-9), 2) := by decide +kernel
theorem dX9_item_253 : decode cX9_item 253 = .ok (.if_icmp .ne 23, 3) := by decide +kernel
theorem dX9_item_256 : decode cX9_item 256 = .ok (.iload_n 1, 1) := by decide +kernel
theorem dX9_item_257 : decode cX9_item 257 = .ok (.bipush 8, 2) := by decide +kernel
theorem dX9_item_259 : decode cX9_item 259 = .ok (.if_icmp .ne 17, 3) := by decide +kernel
theorem dX9_item_262 : decode cX9_item 262 = .ok (.aload_n 0, 1) := by decide +kernel
theorem dX9_item_263 : decode cX9_item 263 = .ok (.getfield 35, 3) := by decide +kernel
theorem dX9_item_266 : decode cX9_item 266 = .ok (.bipush 8, 2) := by decide +kernel
theorem dX9_item_268 : decode cX9_item 268 = .ok (.iload_n 3, 1) := by decide +kernel
theorem dX9_item_269 : decode cX9_item 269 = .ok (.iadd, 1) := by decide +kernel
theorem dX9_item_270 : decode cX9_item 270 = .ok (.iload 4, 2) := by decide +kernel
theorem dX9_item_272 : decode cX9_item 272 = .ok (.iastore, 1) := by decide +kernel
theorem dX9_item_273 : decode cX9_item 273 = .ok (.goto 23, 3) := by decide +kernel
theorem dX9_item_276 : decode cX9_item 276 = .ok (.aload_n 0, 1) := by decide +kernel
theorem dX9_item_277 : decode cX9_item 277 = .ok (.getfield 133, 3) := by decide +kernel
theorem dX9_item_280 : decode cX9_item 280 = .ok (.bipush (-9), 2) := by decide +kernel
theorem dX9_item_282 : decode cX9_item 282 = .ok (.if_icmp .ne 14, 3) := by decide +kernel
theorem dX9_item_285 : decode cX9_item 285 = .ok (.aload_n 0, 1) := by decide +kernel
theorem dX9_item_286 : decode cX9_item 286 = .ok (.getfield 38, 3) := by decide +kernel
theorem dX9_item_289 : decode cX9_item 289 = .ok (.bipush 8, 2) := by decide +kernel
theorem dX9_item_291 : decode cX9_item 291 = .ok (.iload_n 3, 1) := by decide +kernel
theorem dX9_item_292 : decode cX9_item 292 = .ok (.iadd, 1) := by decide +kernel
theorem dX9_item_293 : decode cX9_item 293 = .ok (.iload 4, 2) := by decide +kernel
theorem dX9_item_295 : decode cX9_item 295 = .ok (.iastore, 1) := by decide +kernel
theorem dX9_item_296 : decode cX9_item 296 = .ok (.aload_n 0, 1) := by decide +kernel
theorem dX9_item_297 : decode cX9_item 297 = .ok (.aload_n 0, 1) := by decide +kernel
theorem dX9_item_298 : decode cX9_item 298 = .ok (.getfield 126, 3) := by decide +kernel
theorem dX9_item_301 : decode cX9_item 301 = .ok (.bipush 11, 2) := by decide +kernel
theorem dX9_item_303 : decode cX9_item 303 = .ok (.if_icmp .ne 7, 3) := by decide +kernel
theorem dX9_item_306 : decode cX9_item 306 = .ok (.iconst 1, 1) := by decide +kernel
theorem dX9_item_307 : decode cX9_item 307 = .ok (.goto 4, 3) := by decide +kernel
theorem dX9_item_310 : decode cX9_item 310 = .ok (.iconst 0, 1) := by decide +kernel
theorem dX9_item_311 : decode cX9_item 311 = .ok (.invokevirtual 139, 3) := by decide +kernel
theorem dX9_item_314 : decode cX9_item 314 = .ok (.pop, 1) := by decide +kernel
theorem dX9_item_315 : decode cX9_item 315 = .ok (.return_, 1) := by decide +kernel
theorem dX9_cellar_0 : decode cX9_cellar 0 = .ok (.aload_n 0, 1) := by decide +kernel
theorem dX9_cellar_1 : decode cX9_cellar 1 = .ok (.iconst 0, 1) := by decide +kernel
theorem dX9_cellar_2 : decode cX9_cellar 2 = .ok (.putfield 113, 3) := by decide +kernel
theorem dX9_cellar_5 : decode cX9_cellar 5 = .ok (.aload_n 0, 1) := by decide +kernel
theorem dX9_cellar_6 : decode cX9_cellar 6 = .ok (.bipush (-9), 2) := by decide +kernel
theorem dX9_cellar_8 : decode cX9_cellar 8 = .ok (.putfield 133, 3) := by decide +kernel
theorem dX9_cellar_11 : decode cX9_cellar 11 = .ok (.aload_n 0, 1) := by decide +kernel
theorem dX9_cellar_12 : decode cX9_cellar 12 = .ok (.getfield 13, 3) := by decide +kernel
theorem dX9_cellar_15 : decode cX9_cellar 15 = .ok (.iconst 1, 1) := by decide +kernel
theorem dX9_cellar_16 : decode cX9_cellar 16 = .ok (.iconst 0, 1) := by decide +kernel
theorem dX9_cellar_17 : decode cX9_cellar 17 = .ok (.iastore, 1) := by decide +kernel
theorem dX9_cellar_18 : decode cX9_cellar 18 = .ok (.aload_n 0, 1) := by decide +kernel
theorem dX9_cellar_19 : decode cX9_cellar 19 = .ok (.getfield 17, 3) := by decide +kernel
theorem dX9_cellar_22 : decode cX9_cellar 22 = .ok (.iconst 1, 1) := by decide +kernel
theorem dX9_cellar_23 : decode cX9_cellar 23 = .ok (.iconst 0, 1) := by decide +kernel
theorem dX9_cellar_24 : decode cX9_cellar 24 = .ok (.iastore, 1) := by decide +kernel
theorem dX9_cellar_25 : decode cX9_cellar 25 = .ok (.aload_n 0, 1) := by decide +kernel
theorem dX9_cellar_26 : decode cX9_cellar 26 = .ok (.getfield 20, 3) := by decide +kernel
theorem dX9_cellar_29 : decode cX9_cellar 29 = .ok (.iconst 1, 1) := by decide +kernel
theorem dX9_cellar_30 : decode cX9_cellar 30 = .ok (.bipush 6, 2) := by decide +kernel
theorem dX9_cellar_32 : decode cX9_cellar 32 = .ok (.iastore, 1) := by decide +kernel
theorem dX9_cellar_33 : decode cX9_cellar 33 = .ok (.aload_n 0, 1) := by decide +kernel
theorem dX9_cellar_34 : decode cX9_cellar 34 = .ok (.getfield 23, 3) := by decide +kernel
theorem dX9_cellar_37 : decode cX9_cellar 37 = .ok (.iconst 1, 1) := by decide +kernel
theorem dX9_cellar_38 : decode cX9_cellar 38 = .ok (.iconst 3, 1) := by decide +kernel
theorem dX9_cellar_39 : decode cX9_cellar 39 = .ok (.iastore, 1) := by decide +kernel
theorem dX9_cellar_40 : decode cX9_cellar 40 = .ok (.iconst 0, 1) := by decide +kernel
theorem dX9_cellar_41 : decode cX9_cellar 41 = .ok (.istore_n 1, 1) := by decide +kernel
theorem dX9_cellar_42 : decode cX9_cellar 42 = .ok (.iload_n 1, 1) := by decide +kernel
theorem dX9_cellar_43 : decode cX9_cellar 43 = .ok (.bipush 8, 2) := by decide +kernel
theorem dX9_cellar_45 : decode cX9_cellar 45 = .ok (.if_icmp .ge 29, 3) := by decide +kernel
theorem dX9_cellar_48 : decode cX9_cellar 48 = .ok (.aload_n 0, 1) := by decide +kernel
theorem dX9_cellar_49 : decode cX9_cellar 49 = .ok (.getfield 35, 3) := by decide +kernel
theorem dX9_cellar_52 : decode cX9_cellar 52 = .ok (.bipush 8, 2) := by decide +kernel
theorem dX9_cellar_54 : decode cX9_cellar 54 = .ok (.iload_n 1, 1) := by decide +kernel
theorem dX9_cellar_55 : decode cX9_cellar 55 = .ok (.iadd, 1) := by decide +kernel
theorem dX9_cellar_56 : decode cX9_cellar 56 = .ok (.iconst 0, 1) := by decide +kernel
theorem dX9_cellar_57 : decode cX9_cellar 57 = .ok (.iastore, 1) := by decide +kernel
theorem dX9_cellar_58 : decode cX9_cellar 58 = .ok (.aload_n 0, 1) := by decide +kernel
theorem dX9_cellar_59 : decode cX9_cellar 59 = .ok (.getfield 38, 3) := by decide +kernel
theorem dX9_cellar_62 : decode cX9_cellar 62 = .ok (.bipush 8, 2) := by decide +kernel
theorem dX9_cellar_64 : decode cX9_cellar 64 = .ok (.iload_n 1, 1) := by decide +kernel
theorem dX9_cellar_65 : decode cX9_cellar 65 = .ok (.iadd, 1) := by decide +kernel
theorem dX9_cellar_66 : decode cX9_cellar 66 = .ok (.iconst 0, 1) := by decide +kernel
theorem dX9_cellar_67 : decode cX9_cellar 67 = .ok (.iastore, 1) := by decide +kernel
theorem dX9_cellar_68 : decode cX9_cellar 68 = .ok (.iinc 1 1, 3) := by decide +kernel
theorem dX9_cellar_71 : decode cX9_cellar 71 = .ok (.goto (-29), 3) := by decide +kernel
theorem dX9_cellar_74 : decode cX9_cellar 74 = .ok (.iconst 0, 1) := by decide +kernel
theorem dX9_cellar_75 : decode cX9_cellar 75 = .ok (.istore_n 1, 1) := by decide +kernel
theorem dX9_cellar_76 : decode cX9_cellar 76 = .ok (.aload_n 0, 1) := by decide +kernel
theorem dX9_cellar_77 : decode cX9_cellar 77 = .ok (.invokevirtual 136, 3) := by decide +kernel
theorem dX9_cellar_80 : decode cX9_cellar 80 = .ok (.aload_n 0, 1) := by decide +kernel
theorem dX9_cellar_81 : decode cX9_cellar 81 = .ok (.getfield 133, 3) := by decide +kernel
theorem dX9_cellar_84 : decode cX9_cellar 84 = .ok (.bipush (-9), 2) := by decide +kernel
theorem dX9_cellar_86 : decode cX9_cellar 86 = .ok (.if_icmp .ne 25, 3) := by decide +kernel
theorem dX9_cellar_89 : decode cX9_cellar 89 = .ok (.aload_n 0, 1) := by decide +kernel
theorem dX9_cellar_90 : decode cX9_cellar 90 = .ok (.getfield 126, 3) := by decide +kernel
theorem dX9_cellar_93 : decode cX9_cellar 93 = .ok (.ifCond .eq 18, 3) := by decide +kernel
theorem dX9_cellar_96 : decode cX9_cellar 96 = .ok (.aload_n 0, 1) := by decide +kernel
theorem dX9_cellar_97 : decode cX9_cellar 97 = .ok (.aload_n 0, 1) := by decide +kernel
theorem dX9_cellar_98 : decode cX9_cellar 98 = .ok (.getfield 126, 3) := by decide +kernel
theorem dX9_cellar_101 : decode cX9_cellar 101 = .ok (.iload_n 1, 1) := by decide +kernel
theorem dX9_cellar_102 : decode cX9_cellar 102 = .ok (.invokevirtual 150, 3) := by decide +kernel
theorem dX9_cellar_105 : decode cX9_cellar 105 = .ok (.iinc 1 1, 3) := by decide +kernel
theorem dX9_cellar_108 : decode cX9_cellar 108 = .ok (.goto (-28), 3) := by decide +kernel
theorem dX9_cellar_111 : decode cX9_cellar 111 = .ok (.aload_n 0, 1) := by decide +kernel
theorem dX9_cellar_112 : decode cX9_cellar 112 = .ok (.getfield 133, 3) := by decide +kernel
theorem dX9_cellar_115 : decode cX9_cellar 115 = .ok (.bipush (-9), 2) := by decide +kernel
theorem dX9_cellar_117 : decode cX9_cellar 117 = .ok (.if_icmp .eq 11, 3) := by decide +kernel
theorem dX9_cellar_120 : decode cX9_cellar 120 = .ok (.bipush (-10), 2) := by decide +kernel
theorem dX9_cellar_122 : decode cX9_cellar 122 = .ok (.aload_n 0, 1) := by decide +kernel
theorem dX9_cellar_123 : decode cX9_cellar 123 = .ok (.getfield 133, 3) := by decide +kernel
theorem dX9_cellar_126 : decode cX9_cellar 126 = .ok (.isub, 1) := by decide +kernel
theorem dX9_cellar_127 : decode cX9_cellar 127 = .ok (.ireturn, 1) := by decide +kernel
theorem dX9_cellar_128 : decode cX9_cellar 128 = .ok (.aload_n 0, 1) := by decide +kernel
theorem dX9_cellar_129 : decode cX9_cellar 129 = .ok (.getfield 13, 3) := by decide +kernel
theorem dX9_cellar_132 : decode cX9_cellar 132 = .ok (.iconst 0, 1) := by decide +kernel
theorem dX9_cellar_133 : decode cX9_cellar 133 = .ok (.aload_n 0, 1) := by decide +kernel
theorem dX9_cellar_134 : decode cX9_cellar 134 = .ok (.getfield 13, 3) := by decide +kernel
theorem dX9_cellar_137 : decode cX9_cellar 137 = .ok (.iconst 1, 1) := by decide +kernel
theorem dX9_cellar_138 : decode cX9_cellar 138 = .ok (.iaload, 1) := by decide +kernel
theorem dX9_cellar_139 : decode cX9_cellar 139 = .ok (.iastore, 1) := by decide +kernel
theorem dX9_cellar_140 : decode cX9_cellar 140 = .ok (.aload_n 0, 1) := by decide +kernel
theorem dX9_cellar_141 : decode cX9_cellar 141 = .ok (.getfield 17, 3) := by decide +kernel
theorem dX9_cellar_144 : decode cX9_cellar 144 = .ok (.iconst 0, 1) := by decide +kernel
theorem dX9_cellar_145 : decode cX9_cellar 145 = .ok (.aload_n 0, 1) := by decide +kernel
theorem dX9_cellar_146 : decode cX9_cellar 146 = .ok (.getfield 17, 3) := by decide +kernel
theorem dX9_cellar_149 : decode cX9_cellar 149 = .ok (.iconst 1, 1) := by decide +kernel
theorem dX9_cellar_150 : decode cX9_cellar 150 = .ok (.iaload, 1) := by decide +kernel
theorem dX9_cellar_151 : decode cX9_cellar 151 = .ok (.iastore, 1) := by decide +kernel
theorem dX9_cellar_152 : decode cX9_cellar 152 = .ok (.aload_n 0, 1) := by decide +kernel
theorem dX9_cellar_153 : decode cX9_cellar 153 = .ok (.getfield 20, 3) := by decide +kernel
theorem dX9_cellar_156 : decode cX9_cellar 156 = .ok (.iconst 0, 1) := by decide +kernel
theorem dX9_cellar_157 : decode cX9_cellar 157 = .ok (.aload_n 0, 1) := by decide +kernel
theorem dX9_cellar_158 : decode cX9_cellar 158 = .ok (.getfield 20, 3) := by decide +kernel
theorem dX9_cellar_161 : decode cX9_cellar 161 = .ok (.iconst 1, 1) := by decide +kernel
theorem dX9_cellar_162 : decode cX9_cellar 162 = .ok (.iaload, 1) := by decide +kernel
theorem dX9_cellar_163 : decode cX9_cellar 163 = .ok (.iastore, 1) := by decide +kernel
theorem dX9_cellar_164 : decode cX9_cellar 164 = .ok (.aload_n 0, 1) := by decide +kernel
theorem dX9_cellar_165 : decode cX9_cellar 165 = .ok (.getfield 23, 3) := by decide +kernel
theorem dX9_cellar_168 : decode cX9_cellar 168 = .ok (.iconst 0, 1) := by decide +kernel
theorem dX9_cellar_169 : decode cX9_cellar 169 = .ok (.aload_n 0, 1) := by decide +kernel
theorem dX9_cellar_170 : decode cX9_cellar 170 = .ok (.getfield 23, 3) := by decide +kernel
theorem dX9_cellar_173 : decode cX9_cellar 173 = .ok (.iconst 1, 1) := by decide +kernel
theorem dX9_cellar_174 : decode cX9_cellar 174 = .ok (.iaload, 1) := by decide +kernel
theorem dX9_cellar_175 : decode cX9_cellar 175 = .ok (.iastore, 1) := by decide +kernel
theorem dX9_cellar_176 : decode cX9_cellar 176 = .ok (.iconst 0, 1) := by decide +kernel
theorem dX9_cellar_177 : decode cX9_cellar 177 = .ok (.istore_n 2, 1) := by decide +kernel
theorem dX9_cellar_178 : decode cX9_cellar 178 = .ok (.iload_n 2, 1) := by decide +kernel
theorem dX9_cellar_179 : decode cX9_cellar 179 = .ok (.bipush 56, 2) := by decide +kernel
theorem dX9_cellar_181 : decode cX9_cellar 181 = .ok (.if_icmp .ge 24, 3) := by decide +kernel
theorem dX9_cellar_184 : decode cX9_cellar 184 = .ok (.aload_n 0, 1) := by decide +kernel
theorem dX9_cellar_185 : decode cX9_cellar 185 = .ok (.getfield 26, 3) := by decide +kernel
theorem dX9_cellar_188 : decode cX9_cellar 188 = .ok (.iload_n 2, 1) := by decide +kernel
theorem dX9_cellar_189 : decode cX9_cellar 189 = .ok (.aload_n 0, 1) := by decide +kernel
theorem dX9_cellar_190 : decode cX9_cellar 190 = .ok (.getfield 26, 3) := by decide +kernel
theorem dX9_cellar_193 : decode cX9_cellar 193 = .ok (.bipush 56, 2) := by decide +kernel
theorem dX9_cellar_195 : decode cX9_cellar 195 = .ok (.iload_n 2, 1) := by decide +kernel
theorem dX9_cellar_196 : decode cX9_cellar 196 = .ok (.iadd, 1) := by decide +kernel
theorem dX9_cellar_197 : decode cX9_cellar 197 = .ok (.iaload, 1) := by decide +kernel
theorem dX9_cellar_198 : decode cX9_cellar 198 = .ok (.iastore, 1) := by decide +kernel
theorem dX9_cellar_199 : decode cX9_cellar 199 = .ok (.iinc 2 1, 3) := by decide +kernel
theorem dX9_cellar_202 : decode cX9_cellar 202 = .ok (.goto (-24), 3) := by decide +kernel
theorem dX9_cellar_205 : decode cX9_cellar 205 = .ok (.iconst 0, 1) := by decide +kernel
theorem dX9_cellar_206 : decode cX9_cellar 206 = .ok (.istore_n 2, 1) := by decide +kernel
theorem dX9_cellar_207 : decode cX9_cellar 207 = .ok (.iload_n 2, 1) := by decide +kernel
theorem dX9_cellar_208 : decode cX9_cellar 208 = .ok (.iconst 3, 1) := by decide +kernel
theorem dX9_cellar_209 : decode cX9_cellar 209 = .ok (.if_icmp .ge 37, 3) := by decide +kernel
theorem dX9_cellar_212 : decode cX9_cellar 212 = .ok (.aload_n 0, 1) := by decide +kernel
theorem dX9_cellar_213 : decode cX9_cellar 213 = .ok (.getfield 29, 3) := by decide +kernel
theorem dX9_cellar_216 : decode cX9_cellar 216 = .ok (.iload_n 2, 1) := by decide +kernel
theorem dX9_cellar_217 : decode cX9_cellar 217 = .ok (.aload_n 0, 1) := by decide +kernel
theorem dX9_cellar_218 : decode cX9_cellar 218 = .ok (.getfield 29, 3) := by decide +kernel
theorem dX9_cellar_221 : decode cX9_cellar 221 = .ok (.iconst 3, 1) := by decide +kernel
theorem dX9_cellar_222 : decode cX9_cellar 222 = .ok (.iload_n 2, 1) := by decide +kernel
theorem dX9_cellar_223 : decode cX9_cellar 223 = .ok (.iadd, 1) := by decide +kernel
theorem dX9_cellar_224 : decode cX9_cellar 224 = .ok (.iaload, 1) := by decide +kernel
theorem dX9_cellar_225 : decode cX9_cellar 225 = .ok (.iastore, 1) := by decide +kernel
theorem dX9_cellar_226 : decode cX9_cellar 226 = .ok (.aload_n 0, 1) := by decide +kernel
theorem dX9_cellar_227 : decode cX9_cellar 227 = .ok (.getfield 32, 3) := by decide +kernel
theorem dX9_cellar_230 : decode cX9_cellar 230 = .ok (.iload_n 2, 1) := by decide +kernel
theorem dX9_cellar_231 : decode cX9_cellar 231 = .ok (.aload_n 0, 1) := by decide +kernel
theorem dX9_cellar_232 : decode cX9_cellar 232 = .ok (.getfield 32, 3) := by decide +kernel
theorem dX9_cellar_235 : decode cX9_cellar 235 = .ok (.iconst 3, 1) := by decide +kernel
theorem dX9_cellar_236 : decode cX9_cellar 236 = .ok (.iload_n 2, 1) := by decide +kernel
theorem dX9_cellar_237 : decode cX9_cellar 237 = .ok (.iadd, 1) := by decide +kernel
theorem dX9_cellar_238 : decode cX9_cellar 238 = .ok (.iaload, 1) := by decide +kernel
theorem dX9_cellar_239 : decode cX9_cellar 239 = .ok (.iastore, 1) := by decide +kernel
theorem dX9_cellar_240 : decode cX9_cellar 240 = .ok (.iinc 2 1, 3) := by decide +kernel
theorem dX9_cellar_243 : decode cX9_cellar 243 = .ok (.goto (-36), 3) := by decide +kernel
theorem dX9_cellar_246 : decode cX9_cellar 246 = .ok (.iconst 0, 1) := by decide +kernel
theorem dX9_cellar_247 : decode cX9_cellar 247 = .ok (.istore_n 2, 1) := by decide +kernel
theorem dX9_cellar_248 : decode cX9_cellar 248 = .ok (.iload_n 2, 1) := by decide +kernel
theorem dX9_cellar_249 : decode cX9_cellar 249 = .ok (.bipush 8, 2) := by decide +kernel
theorem dX9_cellar_251 : decode cX9_cellar 251 = .ok (.if_icmp .ge 39, 3) := by decide +kernel
theorem dX9_cellar_254 : decode cX9_cellar 254 = .ok (.aload_n 0, 1) := by decide +kernel
theorem dX9_cellar_255 : decode cX9_cellar 255 = .ok (.getfield 35, 3) := by decide +kernel
theorem dX9_cellar_258 : decode cX9_cellar 258 = .ok (.iload_n 2, 1) := by decide +kernel
theorem dX9_cellar_259 : decode cX9_cellar 259 = .ok (.aload_n 0, 1) := by decide +kernel
theorem dX9_cellar_260 : decode cX9_cellar 260 = .ok (.getfield 35, 3) := by decide +kernel
theorem dX9_cellar_263 : decode cX9_cellar 263 = .ok (.bipush 8, 2) := by decide +kernel
theorem dX9_cellar_265 : decode cX9_cellar 265 = .ok (.iload_n 2, 1) := by decide +kernel
theorem dX9_cellar_266 : decode cX9_cellar 266 = .ok (.iadd, 1) := by decide +kernel
theorem dX9_cellar_267 : decode cX9_cellar 267 = .ok (.iaload, 1) := by decide +kernel
theorem dX9_cellar_268 : decode cX9_cellar 268 = .ok (.iastore, 1) := by decide +kernel
theorem dX9_cellar_269 : decode cX9_cellar 269 = .ok (.aload_n 0, 1) := by decide +kernel
theorem dX9_cellar_270 : decode cX9_cellar 270 = .ok (.getfield 38, 3) := by decide +kernel
theorem dX9_cellar_273 : decode cX9_cellar 273 = .ok (.iload_n 2, 1) := by decide +kernel
theorem dX9_cellar_274 : decode cX9_cellar 274 = .ok (.aload_n 0, 1) := by decide +kernel
theorem dX9_cellar_275 : decode cX9_cellar 275 = .ok (.getfield 38, 3) := by decide +kernel
theorem dX9_cellar_278 : decode cX9_cellar 278 = .ok (.bipush 8, 2) := by decide +kernel
theorem dX9_cellar_280 : decode cX9_cellar 280 = .ok (.iload_n 2, 1) := by decide +kernel
theorem dX9_cellar_281 : decode cX9_cellar 281 = .ok (.iadd, 1) := by decide +kernel
theorem dX9_cellar_282 : decode cX9_cellar 282 = .ok (.iaload, 1) := by decide +kernel
theorem dX9_cellar_283 : decode cX9_cellar 283 = .ok (.iastore, 1) := by decide +kernel
theorem dX9_cellar_284 : decode cX9_cellar 284 = .ok (.iinc 2 1, 3) := by decide +kernel
theorem dX9_cellar_287 : decode cX9_cellar 287 = .ok (.goto (-39), 3) := by decide +kernel
theorem dX9_cellar_290 : decode cX9_cellar 290 = .ok (.aload_n 0, 1) := by decide +kernel
theorem dX9_cellar_291 : decode cX9_cellar 291 = .ok (.invokevirtual 154, 3) := by decide +kernel
theorem dX9_cellar_294 : decode cX9_cellar 294 = .ok (.aload_n 0, 1) := by decide +kernel
theorem dX9_cellar_295 : decode cX9_cellar 295 = .ok (.getfield 66, 3) := by decide +kernel
theorem dX9_cellar_298 : decode cX9_cellar 298 = .ok (.iconst 0, 1) := by decide +kernel
theorem dX9_cellar_299 : decode cX9_cellar 299 = .ok (.iconst 0, 1) := by decide +kernel
theorem dX9_cellar_300 : decode cX9_cellar 300 = .ok (.bastore, 1) := by decide +kernel
theorem dX9_cellar_301 : decode cX9_cellar 301 = .ok (.aload_n 0, 1) := by decide +kernel
theorem dX9_cellar_302 : decode cX9_cellar 302 = .ok (.getfield 66, 3) := by decide +kernel
theorem dX9_cellar_305 : decode cX9_cellar 305 = .ok (.iconst 1, 1) := by decide +kernel
theorem dX9_cellar_306 : decode cX9_cellar 306 = .ok (.iconst 0, 1) := by decide +kernel
theorem dX9_cellar_307 : decode cX9_cellar 307 = .ok (.bastore, 1) := by decide +kernel
theorem dX9_cellar_308 : decode cX9_cellar 308 = .ok (.aload_n 0, 1) := by decide +kernel
theorem dX9_cellar_309 : decode cX9_cellar 309 = .ok (.iconst 0, 1) := by decide +kernel
theorem dX9_cellar_310 : decode cX9_cellar 310 = .ok (.invokevirtual 157, 3) := by decide +kernel
theorem dX9_cellar_313 : decode cX9_cellar 313 = .ok (.aload_n 0, 1) := by decide +kernel
theorem dX9_cellar_314 : decode cX9_cellar 314 = .ok (.iconst 0, 1) := by decide +kernel
theorem dX9_cellar_315 : decode cX9_cellar 315 = .ok (.putfield 107, 3) := by decide +kernel
theorem dX9_cellar_318 : decode cX9_cellar 318 = .ok (.iload_n 1, 1) := by decide +kernel
theorem dX9_cellar_319 : decode cX9_cellar 319 = .ok (.ireturn, 1) := by decide +kernel
theorem dX9_begin_0 : decode cX9_begin 0 = .ok (.aload_n 0, 1) := by decide +kernel
theorem dX9_begin_1 : decode cX9_begin 1 = .ok (.getfield 41, 3) := by decide +kernel
theorem dX9_begin_4 : decode cX9_begin 4 = .ok (.iconst 0, 1) := by decide +kernel
theorem dX9_begin_5 : decode cX9_begin 5 = .ok (.iconst 0, 1) := by decide +kernel
theorem dX9_begin_6 : decode cX9_begin 6 = .ok (.iastore, 1) := by decide +kernel
theorem dX9_begin_7 : decode cX9_begin 7 = .ok (.aload_n 0, 1) := by decide +kernel
theorem dX9_begin_8 : decode cX9_begin 8 = .ok (.getfield 44, 3) := by decide +kernel
theorem dX9_begin_11 : decode cX9_begin 11 = .ok (.iconst 0, 1) := by decide +kernel
theorem dX9_begin_12 : decode cX9_begin 12 = .ok (.iconst 0, 1) := by decide +kernel
theorem dX9_begin_13 : decode cX9_begin 13 = .ok (.bastore, 1) := by decide +kernel
theorem dX9_begin_14 : decode cX9_begin 14 = .ok (.aload_n 0, 1) := by decide +kernel
theorem dX9_begin_15 : decode cX9_begin 15 = .ok (.getfield 48, 3) := by decide +kernel
theorem dX9_begin_18 : decode cX9_begin 18 = .ok (.iconst 0, 1) := by decide +kernel
theorem dX9_begin_19 : decode cX9_begin 19 = .ok (.iconst 0, 1) := by decide +kernel
theorem dX9_begin_20 : decode cX9_begin 20 = .ok (.iastore, 1) := by decide +kernel
theorem dX9_begin_21 : decode cX9_begin 21 = .ok (.aload_n 0, 1) := by decide +kernel
theorem dX9_begin_22 : decode cX9_begin 22 = .ok (.getfield 51, 3) := by decide +kernel
theorem dX9_begin_25 : decode cX9_begin 25 = .ok (.iconst 0, 1) := by decide +kernel
theorem dX9_begin_26 : decode cX9_begin 26 = .ok (.iconst 0, 1) := by decide +kernel
theorem dX9_begin_27 : decode cX9_begin 27 = .ok (.iastore, 1) := by decide +kernel
theorem dX9_begin_28 : decode cX9_begin 28 = .ok (.iconst 0, 1) := by decide +kernel
theorem dX9_begin_29 : decode cX9_begin 29 = .ok (.istore_n 1, 1) := by decide +kernel
theorem dX9_begin_30 : decode cX9_begin 30 = .ok (.iload_n 1, 1) := by decide +kernel
theorem dX9_begin_31 : decode cX9_begin 31 = .ok (.iconst 3, 1) := by decide +kernel
theorem dX9_begin_32 : decode cX9_begin 32 = .ok (.if_icmp .ge 35, 3) := by decide +kernel
theorem dX9_begin_35 : decode cX9_begin 35 = .ok (.aload_n 0, 1) := by decide +kernel
theorem dX9_begin_36 : decode cX9_begin 36 = .ok (.getfield 57, 3) := by decide +kernel
theorem dX9_begin_39 : decode cX9_begin 39 = .ok (.iload_n 1, 1) := by decide +kernel
theorem dX9_begin_40 : decode cX9_begin 40 = .ok (.iconst 0, 1) := by decide +kernel
theorem dX9_begin_41 : decode cX9_begin 41 = .ok (.iastore, 1) := by decide +kernel
theorem dX9_begin_42 : decode cX9_begin 42 = .ok (.aload_n 0, 1) := by decide +kernel
theorem dX9_begin_43 : decode cX9_begin 43 = .ok (.getfield 60, 3) := by decide +kernel
theorem dX9_begin_46 : decode cX9_begin 46 = .ok (.iload_n 1, 1) := by decide +kernel
theorem dX9_begin_47 : decode cX9_begin 47 = .ok (.aload_n 0, 1) := by decide +kernel
theorem dX9_begin_48 : decode cX9_begin 48 = .ok (.getfield 32, 3) := by decide +kernel
theorem dX9_begin_51 : decode cX9_begin 51 = .ok (.iload_n 1, 1) := by decide +kernel
theorem dX9_begin_52 : decode cX9_begin 52 = .ok (.iaload, 1) := by decide +kernel
theorem dX9_begin_53 : decode cX9_begin 53 = .ok (.iastore, 1) := by decide +kernel
theorem dX9_begin_54 : decode cX9_begin 54 = .ok (.aload_n 0, 1) := by decide +kernel
theorem dX9_begin_55 : decode cX9_begin 55 = .ok (.getfield 63, 3) := by decide +kernel
theorem dX9_begin_58 : decode cX9_begin 58 = .ok (.iload_n 1, 1) := by decide +kernel
theorem dX9_begin_59 : decode cX9_begin 59 = .ok (.iconst 0, 1) := by decide +kernel
theorem dX9_begin_60 : decode cX9_begin 60 = .ok (.bastore, 1) := by decide +kernel
theorem dX9_begin_61 : decode cX9_begin 61 = .ok (.iinc 1 1, 3) := by decide +kernel
theorem dX9_begin_64 : decode cX9_begin 64 = .ok (.goto (-34), 3) := by decide +kernel
theorem dX9_begin_67 : decode cX9_begin 67 = .ok (.return_, 1) := by decide +kernel
theorem dX9_isWheel_0 : decode cX9_isWheel 0 = .ok (.iload_n 1, 1) := by decide +kernel
theorem dX9_isWheel_1 : decode cX9_isWheel 1 = .ok (.iconst 0, 1) := by decide +kernel
theorem dX9_isWheel_2 : decode cX9_isWheel 2 = .ok (.aload_n 0, 1) := by decide +kernel
theorem dX9_isWheel_3 : decode cX9_isWheel 3 = .ok (.getfield 17, 3) := by decide +kernel
theorem dX9_isWheel_6 : decode cX9_isWheel 6 = .ok (.iconst 0, 1) := by decide +kernel
theorem dX9_isWheel_7 : decode cX9_isWheel 7 = .ok (.iaload, 1) := by decide +kernel
theorem dX9_isWheel_8 : decode cX9_isWheel 8 = .ok (.iconst 1, 1) := by decide +kernel
theorem dX9_isWheel_9 : decode cX9_isWheel 9 = .ok (.isub, 1) := by decide +kernel
theorem dX9_isWheel_10 : decode cX9_isWheel 10 = .ok (.invokestatic 103, 3) := by decide +kernel
theorem dX9_isWheel_13 : decode cX9_isWheel 13 = .ok (.ireturn, 1) := by decide +kernel
theorem dX9_isOver_0 : decode cX9_isOver 0 = .ok (.aload_n 0, 1) := by decide +kernel
theorem dX9_isOver_1 : decode cX9_isOver 1 = .ok (.getfield 41, 3) := by decide +kernel
theorem dX9_isOver_4 : decode cX9_isOver 4 = .ok (.iconst 0, 1) := by decide +kernel
theorem dX9_isOver_5 : decode cX9_isOver 5 = .ok (.iaload, 1) := by decide +kernel
theorem dX9_isOver_6 : decode cX9_isOver 6 = .ok (.aload_n 0, 1) := by decide +kernel
theorem dX9_isOver_7 : decode cX9_isOver 7 = .ok (.getfield 20, 3) := by decide +kernel
theorem dX9_isOver_10 : decode cX9_isOver 10 = .ok (.iconst 0, 1) := by decide +kernel
theorem dX9_isOver_11 : decode cX9_isOver 11 = .ok (.iaload, 1) := by decide +kernel
theorem dX9_isOver_12 : decode cX9_isOver 12 = .ok (.if_icmp .ne 7, 3) := by decide +kernel
theorem dX9_isOver_15 : decode cX9_isOver 15 = .ok (.iconst 1, 1) := by decide +kernel
theorem dX9_isOver_16 : decode cX9_isOver 16 = .ok (.goto 4, 3) := by decide +kernel
theorem dX9_isOver_19 : decode cX9_isOver 19 = .ok (.iconst 0, 1) := by decide +kernel
theorem dX9_isOver_20 : decode cX9_isOver 20 = .ok (.ireturn, 1) := by decide +kernel
theorem dX9_goodOf_0 : decode cX9_goodOf 0 = .ok (.aload_n 0, 1) := by decide +kernel
theorem dX9_goodOf_1 : decode cX9_goodOf 1 = .ok (.getfield 26, 3) := by decide +kernel
theorem dX9_goodOf_4 : decode cX9_goodOf 4 = .ok (.bipush 14, 2) := by decide +kernel
theorem dX9_goodOf_6 : decode cX9_goodOf 6 = .ok (.aload_n 0, 1) := by decide +kernel
theorem dX9_goodOf_7 : decode cX9_goodOf 7 = .ok (.getfield 29, 3) := by decide +kernel
theorem dX9_goodOf_10 : decode cX9_goodOf 10 = .ok (.iload_n 1, 1) := by decide +kernel
theorem dX9_goodOf_11 : decode cX9_goodOf 11 = .ok (.iaload, 1) := by decide +kernel
theorem dX9_goodOf_12 : decode cX9_goodOf 12 = .ok (.imul, 1) := by decide +kernel
theorem dX9_goodOf_13 : decode cX9_goodOf 13 = .ok (.iload_n 2, 1) := by decide +kernel
theorem dX9_goodOf_14 : decode cX9_goodOf 14 = .ok (.iadd, 1) := by decide +kernel
theorem dX9_goodOf_15 : decode cX9_goodOf 15 = .ok (.iaload, 1) := by decide +kernel
theorem dX9_goodOf_16 : decode cX9_goodOf 16 = .ok (.ireturn, 1) := by decide +kernel
theorem dX9_warmth_0 : decode cX9_warmth 0 = .ok (.iload_n 1, 1) := by decide +kernel
theorem dX9_warmth_1 : decode cX9_warmth 1 = .ok (.bipush 8, 2) := by decide +kernel
theorem dX9_warmth_3 : decode cX9_warmth 3 = .ok (.if_icmp .ge 12, 3) := by decide +kernel
theorem dX9_warmth_6 : decode cX9_warmth 6 = .ok (.aload_n 0, 1) := by decide +kernel
theorem dX9_warmth_7 : decode cX9_warmth 7 = .ok (.getfield 35, 3) := by decide +kernel
theorem dX9_warmth_10 : decode cX9_warmth 10 = .ok (.iload_n 1, 1) := by decide +kernel
theorem dX9_warmth_11 : decode cX9_warmth 11 = .ok (.iaload, 1) := by decide +kernel
theorem dX9_warmth_12 : decode cX9_warmth 12 = .ok (.goto 4, 3) := by decide +kernel
theorem dX9_warmth_15 : decode cX9_warmth 15 = .ok (.iconst 0, 1) := by decide +kernel
theorem dX9_warmth_16 : decode cX9_warmth 16 = .ok (.ireturn, 1) := by decide +kernel
theorem dX9_goes_0 : decode cX9_goes 0 = .ok (.iload_n 3, 1) := by decide +kernel
theorem dX9_goes_1 : decode cX9_goes 1 = .ok (.ifCond .eq 17, 3) := by decide +kernel
theorem dX9_goes_4 : decode cX9_goes 4 = .ok (.iload_n 2, 1) := by decide +kernel
theorem dX9_goes_5 : decode cX9_goes 5 = .ok (.iconst 3, 1) := by decide +kernel
theorem dX9_goes_6 : decode cX9_goes 6 = .ok (.if_icmp .eq 12, 3) := by decide +kernel
theorem dX9_goes_9 : decode cX9_goes 9 = .ok (.aload_n 0, 1) := by decide +kernel
theorem dX9_goes_10 : decode cX9_goes 10 = .ok (.getfield 63, 3) := by decide +kernel
theorem dX9_goes_13 : decode cX9_goes 13 = .ok (.iload_n 1, 1) := by decide +kernel
theorem dX9_goes_14 : decode cX9_goes 14 = .ok (.baload, 1) := by decide +kernel
theorem dX9_goes_15 : decode cX9_goes 15 = .ok (.ifCond .eq 5, 3) := by decide +kernel
theorem dX9_goes_18 : decode cX9_goes 18 = .ok (.iconst 0, 1) := by decide +kernel
theorem dX9_goes_19 : decode cX9_goes 19 = .ok (.ireturn, 1) := by decide +kernel
theorem dX9_goes_20 : decode cX9_goes 20 = .ok (.aload_n 0, 1) := by decide +kernel
theorem dX9_goes_21 : decode cX9_goes 21 = .ok (.getfield 26, 3) := by decide +kernel
theorem dX9_goes_24 : decode cX9_goes 24 = .ok (.bipush 14, 2) := by decide +kernel
theorem dX9_goes_26 : decode cX9_goes 26 = .ok (.aload_n 0, 1) := by decide +kernel
theorem dX9_goes_27 : decode cX9_goes 27 = .ok (.getfield 29, 3) := by decide +kernel
theorem dX9_goes_30 : decode cX9_goes 30 = .ok (.iload_n 1, 1) := by decide +kernel
theorem dX9_goes_31 : decode cX9_goes 31 = .ok (.iaload, 1) := by decide +kernel
theorem dX9_goes_32 : decode cX9_goes 32 = .ok (.imul, 1) := by decide +kernel
theorem dX9_goes_33 : decode cX9_goes 33 = .ok (.iload_n 3, 1) := by decide +kernel
theorem dX9_goes_34 : decode cX9_goes 34 = .ok (.aload_n 0, 1) := by decide +kernel
theorem dX9_goes_35 : decode cX9_goes 35 = .ok (.getfield 32, 3) := by decide +kernel
theorem dX9_goes_38 : decode cX9_goes 38 = .ok (.iload_n 1, 1) := by decide +kernel
theorem dX9_goes_39 : decode cX9_goes 39 = .ok (.iaload, 1) := by decide +kernel
theorem dX9_goes_40 : decode cX9_goes 40 = .ok (.if_icmp .ne 7, 3) := by decide +kernel
theorem dX9_goes_43 : decode cX9_goes 43 = .ok (.iconst 4, 1) := by decide +kernel
theorem dX9_goes_44 : decode cX9_goes 44 = .ok (.goto 5, 3) := by decide +kernel
theorem dX9_goes_47 : decode cX9_goes 47 = .ok (.bipush 7, 2) := by decide +kernel
theorem dX9_goes_49 : decode cX9_goes 49 = .ok (.iadd, 1) := by decide +kernel
theorem dX9_goes_50 : decode cX9_goes 50 = .ok (.iload_n 2, 1) := by decide +kernel
theorem dX9_goes_51 : decode cX9_goes 51 = .ok (.iadd, 1) := by decide +kernel
theorem dX9_goes_52 : decode cX9_goes 52 = .ok (.iaload, 1) := by decide +kernel
theorem dX9_goes_53 : decode cX9_goes 53 = .ok (.istore 5, 2) := by decide +kernel
theorem dX9_goes_55 : decode cX9_goes 55 = .ok (.iload 5, 2) := by decide +kernel
theorem dX9_goes_57 : decode cX9_goes 57 = .ok (.aload_n 0, 1) := by decide +kernel
theorem dX9_goes_58 : decode cX9_goes 58 = .ok (.iload 4, 2) := by decide +kernel
theorem dX9_goes_60 : decode cX9_goes 60 = .ok (.invokevirtual 161, 3) := by decide +kernel
theorem dX9_goes_63 : decode cX9_goes 63 = .ok (.iadd, 1) := by decide +kernel
theorem dX9_goes_64 : decode cX9_goes 64 = .ok (.istore 6, 2) := by decide +kernel
theorem dX9_goes_66 : decode cX9_goes 66 = .ok (.iload 5, 2) := by decide +kernel
theorem dX9_goes_68 : decode cX9_goes 68 = .ok (.ifCond .ne 7, 3) := by decide +kernel
theorem dX9_goes_71 : decode cX9_goes 71 = .ok (.iconst 0, 1) := by decide +kernel
theorem dX9_goes_72 : decode cX9_goes 72 = .ok (.goto 17, 3) := by decide +kernel
theorem dX9_goes_75 : decode cX9_goes 75 = .ok (.iload 6, 2) := by decide +kernel
theorem dX9_goes_77 : decode cX9_goes 77 = .ok (.bipush 10, 2) := by decide +kernel
theorem dX9_goes_79 : decode cX9_goes 79 = .ok (.if_icmp .le 8, 3) := by decide +kernel
theorem dX9_goes_82 : decode cX9_goes 82 = .ok (.bipush 10, 2) := by decide +kernel
theorem dX9_goes_84 : decode cX9_goes 84 = .ok (.goto 5, 3) := by decide +kernel
theorem dX9_goes_87 : decode cX9_goes 87 = .ok (.iload 6, 2) := by decide +kernel
theorem dX9_goes_89 : decode cX9_goes 89 = .ok (.ireturn, 1) := by decide +kernel
theorem dX9_sort_0 : decode cX9_sort 0 = .ok (.iload_n 1, 1) := by decide +kernel
theorem dX9_sort_1 : decode cX9_sort 1 = .ok (.iconst 0, 1) := by decide +kernel
theorem dX9_sort_2 : decode cX9_sort 2 = .ok (.aload_n 0, 1) := by decide +kernel
theorem dX9_sort_3 : decode cX9_sort 3 = .ok (.getfield 13, 3) := by decide +kernel
theorem dX9_sort_6 : decode cX9_sort 6 = .ok (.iconst 0, 1) := by decide +kernel
theorem dX9_sort_7 : decode cX9_sort 7 = .ok (.iaload, 1) := by decide +kernel
theorem dX9_sort_8 : decode cX9_sort 8 = .ok (.iconst 1, 1) := by decide +kernel
theorem dX9_sort_9 : decode cX9_sort 9 = .ok (.isub, 1) := by decide +kernel
theorem dX9_sort_10 : decode cX9_sort 10 = .ok (.invokestatic 103, 3) := by decide +kernel
theorem dX9_sort_13 : decode cX9_sort 13 = .ok (.ifCond .eq 27, 3) := by decide +kernel
theorem dX9_sort_16 : decode cX9_sort 16 = .ok (.iload_n 2, 1) := by decide +kernel
theorem dX9_sort_17 : decode cX9_sort 17 = .ok (.iconst 0, 1) := by decide +kernel
theorem dX9_sort_18 : decode cX9_sort 18 = .ok (.bipush 13, 2) := by decide +kernel
theorem dX9_sort_20 : decode cX9_sort 20 = .ok (.invokestatic 103, 3) := by decide +kernel
theorem dX9_sort_23 : decode cX9_sort 23 = .ok (.ifCond .eq 17, 3) := by decide +kernel
theorem dX9_sort_26 : decode cX9_sort 26 = .ok (.aload_n 0, 1) := by decide +kernel
theorem dX9_sort_27 : decode cX9_sort 27 = .ok (.getfield 26, 3) := by decide +kernel
theorem dX9_sort_30 : decode cX9_sort 30 = .ok (.bipush 14, 2) := by decide +kernel
theorem dX9_sort_32 : decode cX9_sort 32 = .ok (.iload_n 1, 1) := by decide +kernel
theorem dX9_sort_33 : decode cX9_sort 33 = .ok (.imul, 1) := by decide +kernel
theorem dX9_sort_34 : decode cX9_sort 34 = .ok (.iload_n 2, 1) := by decide +kernel
theorem dX9_sort_35 : decode cX9_sort 35 = .ok (.iadd, 1) := by decide +kernel
theorem dX9_sort_36 : decode cX9_sort 36 = .ok (.iaload, 1) := by decide +kernel
theorem dX9_sort_37 : decode cX9_sort 37 = .ok (.goto 4, 3) := by decide +kernel
theorem dX9_sort_40 : decode cX9_sort 40 = .ok (.iconst (-1), 1) := by decide +kernel
theorem dX9_sort_41 : decode cX9_sort 41 = .ok (.ireturn, 1) := by decide +kernel
theorem dX9_wheel_0 : decode cX9_wheel 0 = .ok (.aload_n 0, 1) := by decide +kernel
theorem dX9_wheel_1 : decode cX9_wheel 1 = .ok (.iload_n 1, 1) := by decide +kernel
theorem dX9_wheel_2 : decode cX9_wheel 2 = .ok (.invokevirtual 164, 3) := by decide +kernel
theorem dX9_wheel_5 : decode cX9_wheel 5 = .ok (.ifCond .ne 5, 3) := by decide +kernel
theorem dX9_wheel_8 : decode cX9_wheel 8 = .ok (.iconst (-1), 1) := by decide +kernel
theorem dX9_wheel_9 : decode cX9_wheel 9 = .ok (.ireturn, 1) := by decide +kernel
theorem dX9_wheel_10 : decode cX9_wheel 10 = .ok (.iload_n 2, 1) := by decide +kernel
theorem dX9_wheel_11 : decode cX9_wheel 11 = .ok (.tableswitch 154 0 7 #[45, 52, 59, 66, 73, 103, 118, 130], 45) := by decide +kernel
theorem dX9_wheel_56 : decode cX9_wheel 56 = .ok (.aload_n 0, 1) := by decide +kernel
theorem dX9_wheel_57 : decode cX9_wheel 57 = .ok (.getfield 29, 3) := by decide +kernel
theorem dX9_wheel_60 : decode cX9_wheel 60 = .ok (.iload_n 1, 1) := by decide +kernel
theorem dX9_wheel_61 : decode cX9_wheel 61 = .ok (.iaload, 1) := by decide +kernel
theorem dX9_wheel_62 : decode cX9_wheel 62 = .ok (.ireturn, 1) := by decide +kernel
theorem dX9_wheel_63 : decode cX9_wheel 63 = .ok (.aload_n 0, 1) := by decide +kernel
theorem dX9_wheel_64 : decode cX9_wheel 64 = .ok (.getfield 32, 3) := by decide +kernel
theorem dX9_wheel_67 : decode cX9_wheel 67 = .ok (.iload_n 1, 1) := by decide +kernel
theorem dX9_wheel_68 : decode cX9_wheel 68 = .ok (.iaload, 1) := by decide +kernel
theorem dX9_wheel_69 : decode cX9_wheel 69 = .ok (.ireturn, 1) := by decide +kernel
theorem dX9_wheel_70 : decode cX9_wheel 70 = .ok (.aload_n 0, 1) := by decide +kernel
theorem dX9_wheel_71 : decode cX9_wheel 71 = .ok (.getfield 57, 3) := by decide +kernel
theorem dX9_wheel_74 : decode cX9_wheel 74 = .ok (.iload_n 1, 1) := by decide +kernel
theorem dX9_wheel_75 : decode cX9_wheel 75 = .ok (.iaload, 1) := by decide +kernel
theorem dX9_wheel_76 : decode cX9_wheel 76 = .ok (.ireturn, 1) := by decide +kernel
theorem dX9_wheel_77 : decode cX9_wheel 77 = .ok (.aload_n 0, 1) := by decide +kernel
theorem dX9_wheel_78 : decode cX9_wheel 78 = .ok (.getfield 60, 3) := by decide +kernel
theorem dX9_wheel_81 : decode cX9_wheel 81 = .ok (.iload_n 1, 1) := by decide +kernel
theorem dX9_wheel_82 : decode cX9_wheel 82 = .ok (.iaload, 1) := by decide +kernel
theorem dX9_wheel_83 : decode cX9_wheel 83 = .ok (.ireturn, 1) := by decide +kernel
theorem dX9_wheel_84 : decode cX9_wheel 84 = .ok (.aload_n 0, 1) := by decide +kernel
theorem dX9_wheel_85 : decode cX9_wheel 85 = .ok (.getfield 60, 3) := by decide +kernel
theorem dX9_wheel_88 : decode cX9_wheel 88 = .ok (.iload_n 1, 1) := by decide +kernel
theorem dX9_wheel_89 : decode cX9_wheel 89 = .ok (.iaload, 1) := by decide +kernel
theorem dX9_wheel_90 : decode cX9_wheel 90 = .ok (.ifCond .le 22, 3) := by decide +kernel
theorem dX9_wheel_93 : decode cX9_wheel 93 = .ok (.aload_n 0, 1) := by decide +kernel
theorem dX9_wheel_94 : decode cX9_wheel 94 = .ok (.getfield 60, 3) := by decide +kernel
theorem dX9_wheel_97 : decode cX9_wheel 97 = .ok (.iload_n 1, 1) := by decide +kernel
theorem dX9_wheel_98 : decode cX9_wheel 98 = .ok (.iaload, 1) := by decide +kernel
theorem dX9_wheel_99 : decode cX9_wheel 99 = .ok (.aload_n 0, 1) := by decide +kernel
theorem dX9_wheel_100 : decode cX9_wheel 100 = .ok (.getfield 32, 3) := by decide +kernel
theorem dX9_wheel_103 : decode cX9_wheel 103 = .ok (.iload_n 1, 1) := by decide +kernel
theorem dX9_wheel_104 : decode cX9_wheel 104 = .ok (.iaload, 1) := by decide +kernel
theorem dX9_wheel_105 : decode cX9_wheel 105 = .ok (.if_icmp .ge 7, 3) := by decide +kernel
theorem dX9_wheel_108 : decode cX9_wheel 108 = .ok (.iconst 1, 1) := by decide +kernel
theorem dX9_wheel_109 : decode cX9_wheel 109 = .ok (.goto 4, 3) := by decide +kernel
theorem dX9_wheel_112 : decode cX9_wheel 112 = .ok (.iconst 0, 1) := by decide +kernel
theorem dX9_wheel_113 : decode cX9_wheel 113 = .ok (.ireturn, 1) := by decide +kernel
theorem dX9_wheel_114 : decode cX9_wheel 114 = .ok (.aload_n 0, 1) := by decide +kernel
theorem dX9_wheel_115 : decode cX9_wheel 115 = .ok (.getfield 63, 3) := by decide +kernel
theorem dX9_wheel_118 : decode cX9_wheel 118 = .ok (.iload_n 1, 1) := by decide +kernel
theorem dX9_wheel_119 : decode cX9_wheel 119 = .ok (.baload, 1) := by decide +kernel
theorem dX9_wheel_120 : decode cX9_wheel 120 = .ok (.ifCond .eq 7, 3) := by decide +kernel
theorem dX9_wheel_123 : decode cX9_wheel 123 = .ok (.iconst 1, 1) := by decide +kernel
theorem dX9_wheel_124 : decode cX9_wheel 124 = .ok (.goto 4, 3) := by decide +kernel
theorem dX9_wheel_127 : decode cX9_wheel 127 = .ok (.iconst 0, 1) := by decide +kernel
theorem dX9_wheel_128 : decode cX9_wheel 128 = .ok (.ireturn, 1) := by decide +kernel
theorem dX9_wheel_129 : decode cX9_wheel 129 = .ok (.aload_n 0, 1) := by decide +kernel
theorem dX9_wheel_130 : decode cX9_wheel 130 = .ok (.iload_n 1, 1) := by decide +kernel
theorem dX9_wheel_131 : decode cX9_wheel 131 = .ok (.aload_n 0, 1) := by decide +kernel
theorem dX9_wheel_132 : decode cX9_wheel 132 = .ok (.getfield 57, 3) := by decide +kernel
theorem dX9_wheel_135 : decode cX9_wheel 135 = .ok (.iload_n 1, 1) := by decide +kernel
theorem dX9_wheel_136 : decode cX9_wheel 136 = .ok (.iaload, 1) := by decide +kernel
theorem dX9_wheel_137 : decode cX9_wheel 137 = .ok (.invokevirtual 168, 3) := by decide +kernel
theorem dX9_wheel_140 : decode cX9_wheel 140 = .ok (.ireturn, 1) := by decide +kernel
theorem dX9_wheel_141 : decode cX9_wheel 141 = .ok (.aload_n 0, 1) := by decide +kernel
theorem dX9_wheel_142 : decode cX9_wheel 142 = .ok (.iload_n 1, 1) := by decide +kernel
theorem dX9_wheel_143 : decode cX9_wheel 143 = .ok (.aload_n 0, 1) := by decide +kernel
theorem dX9_wheel_144 : decode cX9_wheel 144 = .ok (.getfield 57, 3) := by decide +kernel
theorem dX9_wheel_147 : decode cX9_wheel 147 = .ok (.iload_n 1, 1) := by decide +kernel
theorem dX9_wheel_148 : decode cX9_wheel 148 = .ok (.iaload, 1) := by decide +kernel
theorem dX9_wheel_149 : decode cX9_wheel 149 = .ok (.aload_n 0, 1) := by decide +kernel
theorem dX9_wheel_150 : decode cX9_wheel 150 = .ok (.getfield 60, 3) := by decide +kernel
theorem dX9_wheel_153 : decode cX9_wheel 153 = .ok (.iload_n 1, 1) := by decide +kernel
theorem dX9_wheel_154 : decode cX9_wheel 154 = .ok (.iaload, 1) := by decide +kernel
theorem dX9_wheel_155 : decode cX9_wheel 155 = .ok (.aload_n 0, 1) := by decide +kernel
theorem dX9_wheel_156 : decode cX9_wheel 156 = .ok (.getfield 41, 3) := by decide +kernel
theorem dX9_wheel_159 : decode cX9_wheel 159 = .ok (.iconst 0, 1) := by decide +kernel
theorem dX9_wheel_160 : decode cX9_wheel 160 = .ok (.iaload, 1) := by decide +kernel
theorem dX9_wheel_161 : decode cX9_wheel 161 = .ok (.invokevirtual 171, 3) := by decide +kernel
theorem dX9_wheel_164 : decode cX9_wheel 164 = .ok (.ireturn, 1) := by decide +kernel
theorem dX9_wheel_165 : decode cX9_wheel 165 = .ok (.iconst (-1), 1) := by decide +kernel
theorem dX9_wheel_166 : decode cX9_wheel 166 = .ok (.ireturn, 1) := by decide +kernel
theorem dX9_week_0 : decode cX9_week 0 = .ok (.iload_n 1, 1) := by decide +kernel
theorem dX9_week_1 : decode cX9_week 1 = .ok (.iconst 0, 1) := by decide +kernel
theorem dX9_week_2 : decode cX9_week 2 = .ok (.bipush 7, 2) := by decide +kernel
theorem dX9_week_4 : decode cX9_week 4 = .ok (.invokestatic 103, 3) := by decide +kernel
theorem dX9_week_7 : decode cX9_week 7 = .ok (.ifCond .eq 34, 3) := by decide +kernel
theorem dX9_week_10 : decode cX9_week 10 = .ok (.iload_n 2, 1) := by decide +kernel
theorem dX9_week_11 : decode cX9_week 11 = .ok (.iconst 0, 1) := by decide +kernel
theorem dX9_week_12 : decode cX9_week 12 = .ok (.iconst 1, 1) := by decide +kernel
theorem dX9_week_13 : decode cX9_week 13 = .ok (.invokestatic 103, 3) := by decide +kernel
theorem dX9_week_16 : decode cX9_week 16 = .ok (.ifCond .eq 25, 3) := by decide +kernel
theorem dX9_week_19 : decode cX9_week 19 = .ok (.iload_n 2, 1) := by decide +kernel
theorem dX9_week_20 : decode cX9_week 20 = .ok (.ifCond .ne 12, 3) := by decide +kernel
theorem dX9_week_23 : decode cX9_week 23 = .ok (.aload_n 0, 1) := by decide +kernel
theorem dX9_week_24 : decode cX9_week 24 = .ok (.getfield 35, 3) := by decide +kernel
theorem dX9_week_27 : decode cX9_week 27 = .ok (.iload_n 1, 1) := by decide +kernel
theorem dX9_week_28 : decode cX9_week 28 = .ok (.iaload, 1) := by decide +kernel
theorem dX9_week_29 : decode cX9_week 29 = .ok (.goto 13, 3) := by decide +kernel
theorem dX9_week_32 : decode cX9_week 32 = .ok (.aload_n 0, 1) := by decide +kernel
theorem dX9_week_33 : decode cX9_week 33 = .ok (.getfield 38, 3) := by decide +kernel
theorem dX9_week_36 : decode cX9_week 36 = .ok (.iload_n 1, 1) := by decide +kernel
theorem dX9_week_37 : decode cX9_week 37 = .ok (.iaload, 1) := by decide +kernel
theorem dX9_week_38 : decode cX9_week 38 = .ok (.goto 4, 3) := by decide +kernel
theorem dX9_week_41 : decode cX9_week 41 = .ok (.iconst (-1), 1) := by decide +kernel
theorem dX9_week_42 : decode cX9_week 42 = .ok (.ireturn, 1) := by decide +kernel
theorem dX9_place_0 : decode cX9_place 0 = .ok (.aload_n 0, 1) := by decide +kernel
theorem dX9_place_1 : decode cX9_place 1 = .ok (.iload_n 1, 1) := by decide +kernel
theorem dX9_place_2 : decode cX9_place 2 = .ok (.invokevirtual 164, 3) := by decide +kernel
theorem dX9_place_5 : decode cX9_place 5 = .ok (.ifCond .eq 26, 3) := by decide +kernel
theorem dX9_place_8 : decode cX9_place 8 = .ok (.iload_n 2, 1) := by decide +kernel
theorem dX9_place_9 : decode cX9_place 9 = .ok (.iconst 0, 1) := by decide +kernel
theorem dX9_place_10 : decode cX9_place 10 = .ok (.iconst 3, 1) := by decide +kernel
theorem dX9_place_11 : decode cX9_place 11 = .ok (.invokestatic 103, 3) := by decide +kernel
theorem dX9_place_14 : decode cX9_place 14 = .ok (.ifCond .eq 17, 3) := by decide +kernel
theorem dX9_place_17 : decode cX9_place 17 = .ok (.iload_n 3, 1) := by decide +kernel
theorem dX9_place_18 : decode cX9_place 18 = .ok (.iconst 0, 1) := by decide +kernel
theorem dX9_place_19 : decode cX9_place 19 = .ok (.aload_n 0, 1) := by decide +kernel
theorem dX9_place_20 : decode cX9_place 20 = .ok (.getfield 32, 3) := by decide +kernel
theorem dX9_place_23 : decode cX9_place 23 = .ok (.iload_n 1, 1) := by decide +kernel
theorem dX9_place_24 : decode cX9_place 24 = .ok (.iaload, 1) := by decide +kernel
theorem dX9_place_25 : decode cX9_place 25 = .ok (.invokestatic 103, 3) := by decide +kernel
theorem dX9_place_28 : decode cX9_place 28 = .ok (.ifCond .ne 5, 3) := by decide +kernel
theorem dX9_place_31 : decode cX9_place 31 = .ok (.iconst (-1), 1) := by decide +kernel
theorem dX9_place_32 : decode cX9_place 32 = .ok (.ireturn, 1) := by decide +kernel
theorem dX9_place_33 : decode cX9_place 33 = .ok (.bipush 10, 2) := by decide +kernel
theorem dX9_place_35 : decode cX9_place 35 = .ok (.aload_n 0, 1) := by decide +kernel
theorem dX9_place_36 : decode cX9_place 36 = .ok (.getfield 57, 3) := by decide +kernel
theorem dX9_place_39 : decode cX9_place 39 = .ok (.iload_n 1, 1) := by decide +kernel
theorem dX9_place_40 : decode cX9_place 40 = .ok (.iaload, 1) := by decide +kernel
theorem dX9_place_41 : decode cX9_place 41 = .ok (.imul, 1) := by decide +kernel
theorem dX9_place_42 : decode cX9_place 42 = .ok (.aload_n 0, 1) := by decide +kernel
theorem dX9_place_43 : decode cX9_place 43 = .ok (.getfield 60, 3) := by decide +kernel
theorem dX9_place_46 : decode cX9_place 46 = .ok (.iload_n 1, 1) := by decide +kernel
theorem dX9_place_47 : decode cX9_place 47 = .ok (.iaload, 1) := by decide +kernel
theorem dX9_place_48 : decode cX9_place 48 = .ok (.iadd, 1) := by decide +kernel
theorem dX9_place_49 : decode cX9_place 49 = .ok (.istore 4, 2) := by decide +kernel
theorem dX9_place_51 : decode cX9_place 51 = .ok (.aload_n 0, 1) := by decide +kernel
theorem dX9_place_52 : decode cX9_place 52 = .ok (.getfield 57, 3) := by decide +kernel
theorem dX9_place_55 : decode cX9_place 55 = .ok (.iload_n 1, 1) := by decide +kernel
theorem dX9_place_56 : decode cX9_place 56 = .ok (.iload_n 2, 1) := by decide +kernel
theorem dX9_place_57 : decode cX9_place 57 = .ok (.iastore, 1) := by decide +kernel
theorem dX9_place_58 : decode cX9_place 58 = .ok (.aload_n 0, 1) := by decide +kernel
theorem dX9_place_59 : decode cX9_place 59 = .ok (.getfield 60, 3) := by decide +kernel
theorem dX9_place_62 : decode cX9_place 62 = .ok (.iload_n 1, 1) := by decide +kernel
theorem dX9_place_63 : decode cX9_place 63 = .ok (.iload_n 3, 1) := by decide +kernel
theorem dX9_place_64 : decode cX9_place 64 = .ok (.iastore, 1) := by decide +kernel
theorem dX9_place_65 : decode cX9_place 65 = .ok (.iload 4, 2) := by decide +kernel
theorem dX9_place_67 : decode cX9_place 67 = .ok (.ireturn, 1) := by decide +kernel
theorem dX9_stateNow_0 : decode cX9_stateNow 0 = .ok (.iconst 0, 1) := by decide +kernel
theorem dX9_stateNow_1 : decode cX9_stateNow 1 = .ok (.istore_n 1, 1) := by decide +kernel
theorem dX9_stateNow_2 : decode cX9_stateNow 2 = .ok (.aload_n 0, 1) := by decide +kernel
theorem dX9_stateNow_3 : decode cX9_stateNow 3 = .ok (.getfield 17, 3) := by decide +kernel
theorem dX9_stateNow_6 : decode cX9_stateNow 6 = .ok (.iconst 0, 1) := by decide +kernel
theorem dX9_stateNow_7 : decode cX9_stateNow 7 = .ok (.iaload, 1) := by decide +kernel
theorem dX9_stateNow_8 : decode cX9_stateNow 8 = .ok (.iconst 1, 1) := by decide +kernel
theorem dX9_stateNow_9 : decode cX9_stateNow 9 = .ok (.isub, 1) := by decide +kernel
theorem dX9_stateNow_10 : decode cX9_stateNow 10 = .ok (.istore_n 2, 1) := by decide +kernel
theorem dX9_stateNow_11 : decode cX9_stateNow 11 = .ok (.iload_n 2, 1) := by decide +kernel
