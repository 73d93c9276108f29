theorem dX0_init_0 : decode cX0_init 0 = .ok (.aload_n 0, 1) := by decide +kernel
theorem dX0_init_1 : decode cX0_init 1 = .ok (.invokespecial 3, 3) := by decide +kernel
theorem dX0_init_4 : decode cX0_init 4 = .ok (.aload_n 0, 1) := by decide +kernel
theorem dX0_init_5 : decode cX0_init 5 = .ok (.new 9, 3) := by decide +kernel
theorem dX0_init_8 : decode cX0_init 8 = .ok (.dup, 1) := by decide +kernel
theorem dX0_init_9 : decode cX0_init 9 = .ok (.invokespecial 11, 3) := by decide +kernel
theorem dX0_init_12 : decode cX0_init 12 = .ok (.putfield 12, 3) := by decide +kernel
theorem dX0_init_15 : decode cX0_init 15 = .ok (.aload_n 0, 1) := by decide +kernel
theorem dX0_init_16 : decode cX0_init 16 = .ok (.new 9, 3) := by decide +kernel
theorem dX0_init_19 : decode cX0_init 19 = .ok (.dup, 1) := by decide +kernel
theorem dX0_init_20 : decode cX0_init 20 = .ok (.invokespecial 11, 3) := by decide +kernel
theorem dX0_init_23 : decode cX0_init 23 = .ok (.putfield 18, 3) := by decide +kernel
theorem dX0_init_26 : decode cX0_init 26 = .ok (.aload_n 0, 1) := by decide +kernel
theorem dX0_init_27 : decode cX0_init 27 = .ok (.sipush 192, 3) := by decide +kernel
theorem dX0_init_30 : decode cX0_init 30 = .ok (.newarray .int, 2) := by decide +kernel
theorem dX0_init_32 : decode cX0_init 32 = .ok (.putfield 21, 3) := by decide +kernel
theorem dX0_init_35 : decode cX0_init 35 = .ok (.aload_n 0, 1) := by decide +kernel
theorem dX0_init_36 : decode cX0_init 36 = .ok (.bipush 9, 2) := by decide +kernel
theorem dX0_init_38 : decode cX0_init 38 = .ok (.newarray .int, 2) := by decide +kernel
theorem dX0_init_40 : decode cX0_init 40 = .ok (.putfield 25, 3) := by decide +kernel
theorem dX0_init_43 : decode cX0_init 43 = .ok (.aload_n 0, 1) := by decide +kernel
theorem dX0_init_44 : decode cX0_init 44 = .ok (.iconst 3, 1) := by decide +kernel
theorem dX0_init_45 : decode cX0_init 45 = .ok (.newarray .int, 2) := by decide +kernel
theorem dX0_init_47 : decode cX0_init 47 = .ok (.putfield 28, 3) := by decide +kernel
theorem dX0_init_50 : decode cX0_init 50 = .ok (.aload_n 0, 1) := by decide +kernel
theorem dX0_init_51 : decode cX0_init 51 = .ok (.bipush 8, 2) := by decide +kernel
theorem dX0_init_53 : decode cX0_init 53 = .ok (.newarray .int, 2) := by decide +kernel
theorem dX0_init_55 : decode cX0_init 55 = .ok (.putfield 31, 3) := by decide +kernel
theorem dX0_init_58 : decode cX0_init 58 = .ok (.aload_n 0, 1) := by decide +kernel
theorem dX0_init_59 : decode cX0_init 59 = .ok (.bipush 8, 2) := by decide +kernel
theorem dX0_init_61 : decode cX0_init 61 = .ok (.newarray .int, 2) := by decide +kernel
theorem dX0_init_63 : decode cX0_init 63 = .ok (.putfield 34, 3) := by decide +kernel
theorem dX0_init_66 : decode cX0_init 66 = .ok (.aload_n 0, 1) := by decide +kernel
theorem dX0_init_67 : decode cX0_init 67 = .ok (.iconst 0, 1) := by decide +kernel
theorem dX0_init_68 : decode cX0_init 68 = .ok (.putfield 37, 3) := by decide +kernel
theorem dX0_init_71 : decode cX0_init 71 = .ok (.aload_n 0, 1) := by decide +kernel
theorem dX0_init_72 : decode cX0_init 72 = .ok (.iconst 0, 1) := by decide +kernel
theorem dX0_init_73 : decode cX0_init 73 = .ok (.putfield 41, 3) := by decide +kernel
theorem dX0_init_76 : decode cX0_init 76 = .ok (.aload_n 0, 1) := by decide +kernel
theorem dX0_init_77 : decode cX0_init 77 = .ok (.iconst 0, 1) := by decide +kernel
theorem dX0_init_78 : decode cX0_init 78 = .ok (.putfield 44, 3) := by decide +kernel
theorem dX0_init_81 : decode cX0_init 81 = .ok (.aload_n 0, 1) := by decide +kernel
theorem dX0_init_82 : decode cX0_init 82 = .ok (.iconst 0, 1) := by decide +kernel
theorem dX0_init_83 : decode cX0_init 83 = .ok (.putfield 47, 3) := by decide +kernel
theorem dX0_init_86 : decode cX0_init 86 = .ok (.aload_n 0, 1) := by decide +kernel
theorem dX0_init_87 : decode cX0_init 87 = .ok (.iconst 0, 1) := by decide +kernel
theorem dX0_init_88 : decode cX0_init 88 = .ok (.putfield 51, 3) := by decide +kernel
theorem dX0_init_91 : decode cX0_init 91 = .ok (.aload_n 0, 1) := by decide +kernel
theorem dX0_init_92 : decode cX0_init 92 = .ok (.iconst 0, 1) := by decide +kernel
theorem dX0_init_93 : decode cX0_init 93 = .ok (.putfield 54, 3) := by decide +kernel
theorem dX0_init_96 : decode cX0_init 96 = .ok (.aload_n 0, 1) := by decide +kernel
theorem dX0_init_97 : decode cX0_init 97 = .ok (.iconst 0, 1) := by decide +kernel
theorem dX0_init_98 : decode cX0_init 98 = .ok (.putfield 57, 3) := by decide +kernel
theorem dX0_init_101 : decode cX0_init 101 = .ok (.aload_n 0, 1) := by decide +kernel
theorem dX0_init_102 : decode cX0_init 102 = .ok (.iconst 0, 1) := by decide +kernel
theorem dX0_init_103 : decode cX0_init 103 = .ok (.putfield 60, 3) := by decide +kernel
theorem dX0_init_106 : decode cX0_init 106 = .ok (.aload_n 0, 1) := by decide +kernel
theorem dX0_init_107 : decode cX0_init 107 = .ok (.aload_n 1, 1) := by decide +kernel
theorem dX0_init_108 : decode cX0_init 108 = .ok (.putfield 63, 3) := by decide +kernel
theorem dX0_init_111 : decode cX0_init 111 = .ok (.return_, 1) := by decide +kernel
theorem dX0_forgetAll_0 : decode cX0_forgetAll 0 = .ok (.aload_n 0, 1) := by decide +kernel
theorem dX0_forgetAll_1 : decode cX0_forgetAll 1 = .ok (.iconst 0, 1) := by decide +kernel
theorem dX0_forgetAll_2 : decode cX0_forgetAll 2 = .ok (.putfield 47, 3) := by decide +kernel
theorem dX0_forgetAll_5 : decode cX0_forgetAll 5 = .ok (.return_, 1) := by decide +kernel
theorem dX0_codeAt_0 : decode cX0_codeAt 0 = .ok (.iload_n 1, 1) := by decide +kernel
theorem dX0_codeAt_1 : decode cX0_codeAt 1 = .ok (.ifCond .lt 18, 3) := by decide +kernel
theorem dX0_codeAt_4 : decode cX0_codeAt 4 = .ok (.iload_n 1, 1) := by decide +kernel
theorem dX0_codeAt_5 : decode cX0_codeAt 5 = .ok (.bipush 8, 2) := by decide +kernel
theorem dX0_codeAt_7 : decode cX0_codeAt 7 = .ok (.if_icmp .ge 12, 3) := by decide +kernel
theorem dX0_codeAt_10 : decode cX0_codeAt 10 = .ok (.aload_n 0, 1) := by decide +kernel
theorem dX0_codeAt_11 : decode cX0_codeAt 11 = .ok (.getfield 34, 3) := by decide +kernel
theorem dX0_codeAt_14 : decode cX0_codeAt 14 = .ok (.iload_n 1, 1) := by decide +kernel
theorem dX0_codeAt_15 : decode cX0_codeAt 15 = .ok (.iaload, 1) := by decide +kernel
theorem dX0_codeAt_16 : decode cX0_codeAt 16 = .ok (.goto 5, 3) := by decide +kernel
theorem dX0_codeAt_19 : decode cX0_codeAt 19 = .ok (.bipush 6, 2) := by decide +kernel
theorem dX0_codeAt_21 : decode cX0_codeAt 21 = .ok (.ireturn, 1) := by decide +kernel
theorem dX0_lookFrom_0 : decode cX0_lookFrom 0 = .ok (.aload_n 0, 1) := by decide +kernel
theorem dX0_lookFrom_1 : decode cX0_lookFrom 1 = .ok (.getfield 47, 3) := by decide +kernel
theorem dX0_lookFrom_4 : decode cX0_lookFrom 4 = .ok (.ifCond .eq 48, 3) := by decide +kernel
theorem dX0_lookFrom_7 : decode cX0_lookFrom 7 = .ok (.aload_n 0, 1) := by decide +kernel
theorem dX0_lookFrom_8 : decode cX0_lookFrom 8 = .ok (.getfield 51, 3) := by decide +kernel
theorem dX0_lookFrom_11 : decode cX0_lookFrom 11 = .ok (.aload_n 1, 1) := by decide +kernel
theorem dX0_lookFrom_12 : decode cX0_lookFrom 12 = .ok (.getfield 67, 3) := by decide +kernel
theorem dX0_lookFrom_15 : decode cX0_lookFrom 15 = .ok (.if_icmp .ne 37, 3) := by decide +kernel
theorem dX0_lookFrom_18 : decode cX0_lookFrom 18 = .ok (.aload_n 0, 1) := by decide +kernel
theorem dX0_lookFrom_19 : decode cX0_lookFrom 19 = .ok (.getfield 54, 3) := by decide +kernel
theorem dX0_lookFrom_22 : decode cX0_lookFrom 22 = .ok (.aload_n 1, 1) := by decide +kernel
theorem dX0_lookFrom_23 : decode cX0_lookFrom 23 = .ok (.getfield 72, 3) := by decide +kernel
theorem dX0_lookFrom_26 : decode cX0_lookFrom 26 = .ok (.if_icmp .ne 26, 3) := by decide +kernel
theorem dX0_lookFrom_29 : decode cX0_lookFrom 29 = .ok (.aload_n 0, 1) := by decide +kernel
theorem dX0_lookFrom_30 : decode cX0_lookFrom 30 = .ok (.getfield 57, 3) := by decide +kernel
theorem dX0_lookFrom_33 : decode cX0_lookFrom 33 = .ok (.aload_n 1, 1) := by decide +kernel
theorem dX0_lookFrom_34 : decode cX0_lookFrom 34 = .ok (.getfield 75, 3) := by decide +kernel
theorem dX0_lookFrom_37 : decode cX0_lookFrom 37 = .ok (.if_icmp .ne 15, 3) := by decide +kernel
theorem dX0_lookFrom_40 : decode cX0_lookFrom 40 = .ok (.aload_n 0, 1) := by decide +kernel
theorem dX0_lookFrom_41 : decode cX0_lookFrom 41 = .ok (.getfield 60, 3) := by decide +kernel
theorem dX0_lookFrom_44 : decode cX0_lookFrom 44 = .ok (.aload_n 1, 1) := by decide +kernel
theorem dX0_lookFrom_45 : decode cX0_lookFrom 45 = .ok (.getfield 78, 3) := by decide +kernel
theorem dX0_lookFrom_48 : decode cX0_lookFrom 48 = .ok (.if_icmp .ne 4, 3) := by decide +kernel
theorem dX0_lookFrom_51 : decode cX0_lookFrom 51 = .ok (.return_, 1) := by decide +kernel
theorem dX0_lookFrom_52 : decode cX0_lookFrom 52 = .ok (.aload_n 0, 1) := by decide +kernel
theorem dX0_lookFrom_53 : decode cX0_lookFrom 53 = .ok (.iconst 1, 1) := by decide +kernel
theorem dX0_lookFrom_54 : decode cX0_lookFrom 54 = .ok (.putfield 47, 3) := by decide +kernel
theorem dX0_lookFrom_57 : decode cX0_lookFrom 57 = .ok (.aload_n 0, 1) := by decide +kernel
theorem dX0_lookFrom_58 : decode cX0_lookFrom 58 = .ok (.aload_n 1, 1) := by decide +kernel
theorem dX0_lookFrom_59 : decode cX0_lookFrom 59 = .ok (.getfield 67, 3) := by decide +kernel
theorem dX0_lookFrom_62 : decode cX0_lookFrom 62 = .ok (.putfield 51, 3) := by decide +kernel
theorem dX0_lookFrom_65 : decode cX0_lookFrom 65 = .ok (.aload_n 0, 1) := by decide +kernel
theorem dX0_lookFrom_66 : decode cX0_lookFrom 66 = .ok (.aload_n 1, 1) := by decide +kernel
theorem dX0_lookFrom_67 : decode cX0_lookFrom 67 = .ok (.getfield 72, 3) := by decide +kernel
theorem dX0_lookFrom_70 : decode cX0_lookFrom 70 = .ok (.putfield 54, 3) := by decide +kernel
theorem dX0_lookFrom_73 : decode cX0_lookFrom 73 = .ok (.aload_n 0, 1) := by decide +kernel
theorem dX0_lookFrom_74 : decode cX0_lookFrom 74 = .ok (.aload_n 1, 1) := by decide +kernel
theorem dX0_lookFrom_75 : decode cX0_lookFrom 75 = .ok (.getfield 75, 3) := by decide +kernel
theorem dX0_lookFrom_78 : decode cX0_lookFrom 78 = .ok (.putfield 57, 3) := by decide +kernel
theorem dX0_lookFrom_81 : decode cX0_lookFrom 81 = .ok (.aload_n 0, 1) := by decide +kernel
theorem dX0_lookFrom_82 : decode cX0_lookFrom 82 = .ok (.aload_n 1, 1) := by decide +kernel
theorem dX0_lookFrom_83 : decode cX0_lookFrom 83 = .ok (.getfield 78, 3) := by decide +kernel
theorem dX0_lookFrom_86 : decode cX0_lookFrom 86 = .ok (.putfield 60, 3) := by decide +kernel
theorem dX0_lookFrom_89 : decode cX0_lookFrom 89 = .ok (.aload_n 0, 1) := by decide +kernel
theorem dX0_lookFrom_90 : decode cX0_lookFrom 90 = .ok (.aload_n 1, 1) := by decide +kernel
theorem dX0_lookFrom_91 : decode cX0_lookFrom 91 = .ok (.getfield 72, 3) := by decide +kernel
theorem dX0_lookFrom_94 : decode cX0_lookFrom 94 = .ok (.ifCond .eq 12, 3) := by decide +kernel
theorem dX0_lookFrom_97 : decode cX0_lookFrom 97 = .ok (.aload_n 1, 1) := by decide +kernel
theorem dX0_lookFrom_98 : decode cX0_lookFrom 98 = .ok (.getfield 67, 3) := by decide +kernel
theorem dX0_lookFrom_101 : decode cX0_lookFrom 101 = .ok (.iconst 1, 1) := by decide +kernel
theorem dX0_lookFrom_102 : decode cX0_lookFrom 102 = .ok (.iadd, 1) := by decide +kernel
theorem dX0_lookFrom_103 : decode cX0_lookFrom 103 = .ok (.goto 7, 3) := by decide +kernel
theorem dX0_lookFrom_106 : decode cX0_lookFrom 106 = .ok (.aload_n 1, 1) := by decide +kernel
theorem dX0_lookFrom_107 : decode cX0_lookFrom 107 = .ok (.getfield 67, 3) := by decide +kernel
theorem dX0_lookFrom_110 : decode cX0_lookFrom 110 = .ok (.putfield 44, 3) := by decide +kernel
theorem dX0_lookFrom_113 : decode cX0_lookFrom 113 = .ok (.aload_n 0, 1) := by decide +kernel
theorem dX0_lookFrom_114 : decode cX0_lookFrom 114 = .ok (.iconst 0, 1) := by decide +kernel
theorem dX0_lookFrom_115 : decode cX0_lookFrom 115 = .ok (.aload_n 0, 1) := by decide +kernel
theorem dX0_lookFrom_116 : decode cX0_lookFrom 116 = .ok (.getfield 63, 3) := by decide +kernel
theorem dX0_lookFrom_119 : decode cX0_lookFrom 119 = .ok (.getfield 81, 3) := by decide +kernel
theorem dX0_lookFrom_122 : decode cX0_lookFrom 122 = .ok (.aload_n 0, 1) := by decide +kernel
theorem dX0_lookFrom_123 : decode cX0_lookFrom 123 = .ok (.getfield 44, 3) := by decide +kernel
theorem dX0_lookFrom_126 : decode cX0_lookFrom 126 = .ok (.isub, 1) := by decide +kernel
theorem dX0_lookFrom_127 : decode cX0_lookFrom 127 = .ok (.invokestatic 86, 3) := by decide +kernel
theorem dX0_lookFrom_130 : decode cX0_lookFrom 130 = .ok (.putfield 41, 3) := by decide +kernel
theorem dX0_lookFrom_133 : decode cX0_lookFrom 133 = .ok (.aload_n 0, 1) := by decide +kernel
theorem dX0_lookFrom_134 : decode cX0_lookFrom 134 = .ok (.getfield 21, 3) := by decide +kernel
theorem dX0_lookFrom_137 : decode cX0_lookFrom 137 = .ok (.iconst 0, 1) := by decide +kernel
theorem dX0_lookFrom_138 : decode cX0_lookFrom 138 = .ok (.invokestatic 92, 3) := by decide +kernel
theorem dX0_lookFrom_141 : decode cX0_lookFrom 141 = .ok (.iconst 0, 1) := by decide +kernel
theorem dX0_lookFrom_142 : decode cX0_lookFrom 142 = .ok (.istore_n 2, 1) := by decide +kernel
theorem dX0_lookFrom_143 : decode cX0_lookFrom 143 = .ok (.iload_n 2, 1) := by decide +kernel
theorem dX0_lookFrom_144 : decode cX0_lookFrom 144 = .ok (.aload_n 0, 1) := by decide +kernel
theorem dX0_lookFrom_145 : decode cX0_lookFrom 145 = .ok (.getfield 63, 3) := by decide +kernel
theorem dX0_lookFrom_148 : decode cX0_lookFrom 148 = .ok (.getfield 98, 3) := by decide +kernel
theorem dX0_lookFrom_151 : decode cX0_lookFrom 151 = .ok (.if_icmp .ge 19, 3) := by decide +kernel
theorem dX0_lookFrom_154 : decode cX0_lookFrom 154 = .ok (.iload_n 2, 1) := by decide +kernel
theorem dX0_lookFrom_155 : decode cX0_lookFrom 155 = .ok (.iconst 3, 1) := by decide +kernel
theorem dX0_lookFrom_156 : decode cX0_lookFrom 156 = .ok (.if_icmp .ge 14, 3) := by decide +kernel
theorem dX0_lookFrom_159 : decode cX0_lookFrom 159 = .ok (.aload_n 0, 1) := by decide +kernel
theorem dX0_lookFrom_160 : decode cX0_lookFrom 160 = .ok (.iload_n 2, 1) := by decide +kernel
theorem dX0_lookFrom_161 : decode cX0_lookFrom 161 = .ok (.invokevirtual 101, 3) := by decide +kernel
theorem dX0_lookFrom_164 : decode cX0_lookFrom 164 = .ok (.iinc 2 1, 3) := by decide +kernel
theorem dX0_lookFrom_167 : decode cX0_lookFrom 167 = .ok (.goto (-24), 3) := by decide +kernel
theorem dX0_lookFrom_170 : decode cX0_lookFrom 170 = .ok (.aload_n 0, 1) := by decide +kernel
theorem dX0_lookFrom_171 : decode cX0_lookFrom 171 = .ok (.invokevirtual 105, 3) := by decide +kernel
theorem dX0_lookFrom_174 : decode cX0_lookFrom 174 = .ok (.aload_n 0, 1) := by decide +kernel
theorem dX0_lookFrom_175 : decode cX0_lookFrom 175 = .ok (.iconst (-1), 1) := by decide +kernel
theorem dX0_lookFrom_176 : decode cX0_lookFrom 176 = .ok (.putfield 37, 3) := by decide +kernel
theorem dX0_lookFrom_179 : decode cX0_lookFrom 179 = .ok (.aload_n 0, 1) := by decide +kernel
theorem dX0_lookFrom_180 : decode cX0_lookFrom 180 = .ok (.aload_n 0, 1) := by decide +kernel
theorem dX0_lookFrom_181 : decode cX0_lookFrom 181 = .ok (.getfield 44, 3) := by decide +kernel
theorem dX0_lookFrom_184 : decode cX0_lookFrom 184 = .ok (.aload_n 1, 1) := by decide +kernel
theorem dX0_lookFrom_185 : decode cX0_lookFrom 185 = .ok (.getfield 75, 3) := by decide +kernel
theorem dX0_lookFrom_188 : decode cX0_lookFrom 188 = .ok (.iconst 0, 1) := by decide +kernel
theorem dX0_lookFrom_189 : decode cX0_lookFrom 189 = .ok (.invokevirtual 108, 3) := by decide +kernel
theorem dX0_lookFrom_192 : decode cX0_lookFrom 192 = .ok (.return_, 1) := by decide +kernel
theorem dX0_meanPlace_0 : decode cX0_meanPlace 0 = .ok (.iload_n 0, 1) := by decide +kernel
theorem dX0_meanPlace_1 : decode cX0_meanPlace 1 = .ok (.bipush 8, 2) := by decide +kernel
theorem dX0_meanPlace_3 : decode cX0_meanPlace 3 = .ok (.imul, 1) := by decide +kernel
theorem dX0_meanPlace_4 : decode cX0_meanPlace 4 = .ok (.iload_n 1, 1) := by decide +kernel
theorem dX0_meanPlace_5 : decode cX0_meanPlace 5 = .ok (.iadd, 1) := by decide +kernel
theorem dX0_meanPlace_6 : decode cX0_meanPlace 6 = .ok (.bipush 8, 2) := by decide +kernel
theorem dX0_meanPlace_8 : decode cX0_meanPlace 8 = .ok (.imul, 1) := by decide +kernel
theorem dX0_meanPlace_9 : decode cX0_meanPlace 9 = .ok (.iload_n 2, 1) := by decide +kernel
theorem dX0_meanPlace_10 : decode cX0_meanPlace 10 = .ok (.iadd, 1) := by decide +kernel
theorem dX0_meanPlace_11 : decode cX0_meanPlace 11 = .ok (.ireturn, 1) := by decide +kernel
theorem dX0_meanAt_0 : decode cX0_meanAt 0 = .ok (.iload_n 1, 1) := by decide +kernel
theorem dX0_meanAt_1 : decode cX0_meanAt 1 = .ok (.iload_n 2, 1) := by decide +kernel
theorem dX0_meanAt_2 : decode cX0_meanAt 2 = .ok (.iload_n 3, 1) := by decide +kernel
theorem dX0_meanAt_3 : decode cX0_meanAt 3 = .ok (.invokestatic 112, 3) := by decide +kernel
theorem dX0_meanAt_6 : decode cX0_meanAt 6 = .ok (.istore 4, 2) := by decide +kernel
theorem dX0_meanAt_8 : decode cX0_meanAt 8 = .ok (.iload 4, 2) := by decide +kernel
theorem dX0_meanAt_10 : decode cX0_meanAt 10 = .ok (.ifCond .lt 23, 3) := by decide +kernel
theorem dX0_meanAt_13 : decode cX0_meanAt 13 = .ok (.iload 4, 2) := by decide +kernel
theorem dX0_meanAt_15 : decode cX0_meanAt 15 = .ok (.aload_n 0, 1) := by decide +kernel
theorem dX0_meanAt_16 : decode cX0_meanAt 16 = .ok (.getfield 21, 3) := by decide +kernel
theorem dX0_meanAt_19 : decode cX0_meanAt 19 = .ok (.arraylength, 1) := by decide +kernel
theorem dX0_meanAt_20 : decode cX0_meanAt 20 = .ok (.if_icmp .ge 13, 3) := by decide +kernel
theorem dX0_meanAt_23 : decode cX0_meanAt 23 = .ok (.aload_n 0, 1) := by decide +kernel
theorem dX0_meanAt_24 : decode cX0_meanAt 24 = .ok (.getfield 21, 3) := by decide +kernel
theorem dX0_meanAt_27 : decode cX0_meanAt 27 = .ok (.iload 4, 2) := by decide +kernel
theorem dX0_meanAt_29 : decode cX0_meanAt 29 = .ok (.iaload, 1) := by decide +kernel
theorem dX0_meanAt_30 : decode cX0_meanAt 30 = .ok (.goto 4, 3) := by decide +kernel
theorem dX0_meanAt_33 : decode cX0_meanAt 33 = .ok (.iconst 0, 1) := by decide +kernel
theorem dX0_meanAt_34 : decode cX0_meanAt 34 = .ok (.ireturn, 1) := by decide +kernel
theorem dX0_tellMeans_0 : decode cX0_tellMeans 0 = .ok (.iload_n 1, 1) := by decide +kernel
theorem dX0_tellMeans_1 : decode cX0_tellMeans 1 = .ok (.ifCond .lt 19, 3) := by decide +kernel
theorem dX0_tellMeans_4 : decode cX0_tellMeans 4 = .ok (.iload_n 1, 1) := by decide +kernel
theorem dX0_tellMeans_5 : decode cX0_tellMeans 5 = .ok (.iconst 3, 1) := by decide +kernel
theorem dX0_tellMeans_6 : decode cX0_tellMeans 6 = .ok (.if_icmp .ge 14, 3) := by decide +kernel
theorem dX0_tellMeans_9 : decode cX0_tellMeans 9 = .ok (.aload_n 0, 1) := by decide +kernel
theorem dX0_tellMeans_10 : decode cX0_tellMeans 10 = .ok (.getfield 57, 3) := by decide +kernel
theorem dX0_tellMeans_13 : decode cX0_tellMeans 13 = .ok (.iload_n 1, 1) := by decide +kernel
theorem dX0_tellMeans_14 : decode cX0_tellMeans 14 = .ok (.invokestatic 116, 3) := by decide +kernel
theorem dX0_tellMeans_17 : decode cX0_tellMeans 17 = .ok (.ifCond .ne 4, 3) := by decide +kernel
theorem dX0_tellMeans_20 : decode cX0_tellMeans 20 = .ok (.return_, 1) := by decide +kernel
theorem dX0_tellMeans_21 : decode cX0_tellMeans 21 = .ok (.aload_n 0, 1) := by decide +kernel
theorem dX0_tellMeans_22 : decode cX0_tellMeans 22 = .ok (.getfield 63, 3) := by decide +kernel
theorem dX0_tellMeans_25 : decode cX0_tellMeans 25 = .ok (.aload_n 0, 1) := by decide +kernel
theorem dX0_tellMeans_26 : decode cX0_tellMeans 26 = .ok (.getfield 57, 3) := by decide +kernel
theorem dX0_tellMeans_29 : decode cX0_tellMeans 29 = .ok (.aload_n 0, 1) := by decide +kernel
theorem dX0_tellMeans_30 : decode cX0_tellMeans 30 = .ok (.getfield 60, 3) := by decide +kernel
theorem dX0_tellMeans_33 : decode cX0_tellMeans 33 = .ok (.iload_n 1, 1) := by decide +kernel
theorem dX0_tellMeans_34 : decode cX0_tellMeans 34 = .ok (.invokevirtual 119, 3) := by decide +kernel
theorem dX0_tellMeans_37 : decode cX0_tellMeans 37 = .ok (.istore_n 2, 1) := by decide +kernel
theorem dX0_tellMeans_38 : decode cX0_tellMeans 38 = .ok (.aload_n 0, 1) := by decide +kernel
theorem dX0_tellMeans_39 : decode cX0_tellMeans 39 = .ok (.getfield 12, 3) := by decide +kernel
theorem dX0_tellMeans_42 : decode cX0_tellMeans 42 = .ok (.aload_n 0, 1) := by decide +kernel
theorem dX0_tellMeans_43 : decode cX0_tellMeans 43 = .ok (.getfield 57, 3) := by decide +kernel
theorem dX0_tellMeans_46 : decode cX0_tellMeans 46 = .ok (.iload_n 1, 1) := by decide +kernel
theorem dX0_tellMeans_47 : decode cX0_tellMeans 47 = .ok (.invokestatic 123, 3) := by decide +kernel
theorem dX0_tellMeans_50 : decode cX0_tellMeans 50 = .ok (.invokevirtual 126, 3) := by decide +kernel
theorem dX0_tellMeans_53 : decode cX0_tellMeans 53 = .ok (.aload_n 0, 1) := by decide +kernel
theorem dX0_tellMeans_54 : decode cX0_tellMeans 54 = .ok (.getfield 63, 3) := by decide +kernel
theorem dX0_tellMeans_57 : decode cX0_tellMeans 57 = .ok (.aload_n 0, 1) := by decide +kernel
theorem dX0_tellMeans_58 : decode cX0_tellMeans 58 = .ok (.getfield 57, 3) := by decide +kernel
theorem dX0_tellMeans_61 : decode cX0_tellMeans 61 = .ok (.iload_n 1, 1) := by decide +kernel
theorem dX0_tellMeans_62 : decode cX0_tellMeans 62 = .ok (.invokevirtual 129, 3) := by decide +kernel
theorem dX0_tellMeans_65 : decode cX0_tellMeans 65 = .ok (.ifCond .ne 24, 3) := by decide +kernel
theorem dX0_tellMeans_68 : decode cX0_tellMeans 68 = .ok (.aload_n 0, 1) := by decide +kernel
theorem dX0_tellMeans_69 : decode cX0_tellMeans 69 = .ok (.getfield 28, 3) := by decide +kernel
theorem dX0_tellMeans_72 : decode cX0_tellMeans 72 = .ok (.iload_n 1, 1) := by decide +kernel
theorem dX0_tellMeans_73 : decode cX0_tellMeans 73 = .ok (.aload_n 0, 1) := by decide +kernel
theorem dX0_tellMeans_74 : decode cX0_tellMeans 74 = .ok (.getfield 51, 3) := by decide +kernel
theorem dX0_tellMeans_77 : decode cX0_tellMeans 77 = .ok (.iastore, 1) := by decide +kernel
theorem dX0_tellMeans_78 : decode cX0_tellMeans 78 = .ok (.aload_n 0, 1) := by decide +kernel
theorem dX0_tellMeans_79 : decode cX0_tellMeans 79 = .ok (.iload_n 1, 1) := by decide +kernel
theorem dX0_tellMeans_80 : decode cX0_tellMeans 80 = .ok (.aload_n 0, 1) := by decide +kernel
theorem dX0_tellMeans_81 : decode cX0_tellMeans 81 = .ok (.getfield 51, 3) := by decide +kernel
theorem dX0_tellMeans_84 : decode cX0_tellMeans 84 = .ok (.iload_n 2, 1) := by decide +kernel
theorem dX0_tellMeans_85 : decode cX0_tellMeans 85 = .ok (.invokevirtual 133, 3) := by decide +kernel
theorem dX0_tellMeans_88 : decode cX0_tellMeans 88 = .ok (.return_, 1) := by decide +kernel
theorem dX0_tellMeans_89 : decode cX0_tellMeans 89 = .ok (.aload_n 0, 1) := by decide +kernel
theorem dX0_tellMeans_90 : decode cX0_tellMeans 90 = .ok (.getfield 28, 3) := by decide +kernel
theorem dX0_tellMeans_93 : decode cX0_tellMeans 93 = .ok (.iload_n 1, 1) := by decide +kernel
theorem dX0_tellMeans_94 : decode cX0_tellMeans 94 = .ok (.iconst (-1), 1) := by decide +kernel
theorem dX0_tellMeans_95 : decode cX0_tellMeans 95 = .ok (.iastore, 1) := by decide +kernel
theorem dX0_tellMeans_96 : decode cX0_tellMeans 96 = .ok (.aload_n 0, 1) := by decide +kernel
theorem dX0_tellMeans_97 : decode cX0_tellMeans 97 = .ok (.getfield 51, 3) := by decide +kernel
theorem dX0_tellMeans_100 : decode cX0_tellMeans 100 = .ok (.istore_n 3, 1) := by decide +kernel
theorem dX0_tellMeans_101 : decode cX0_tellMeans 101 = .ok (.iload_n 3, 1) := by decide +kernel
theorem dX0_tellMeans_102 : decode cX0_tellMeans 102 = .ok (.aload_n 0, 1) := by decide +kernel
theorem dX0_tellMeans_103 : decode cX0_tellMeans 103 = .ok (.getfield 63, 3) := by decide +kernel
theorem dX0_tellMeans_106 : decode cX0_tellMeans 106 = .ok (.getfield 81, 3) := by decide +kernel
theorem dX0_tellMeans_109 : decode cX0_tellMeans 109 = .ok (.if_icmp .ge 41, 3) := by decide +kernel
theorem dX0_tellMeans_112 : decode cX0_tellMeans 112 = .ok (.aload_n 0, 1) := by decide +kernel
theorem dX0_tellMeans_113 : decode cX0_tellMeans 113 = .ok (.iload_n 1, 1) := by decide +kernel
theorem dX0_tellMeans_114 : decode cX0_tellMeans 114 = .ok (.iload_n 3, 1) := by decide +kernel
theorem dX0_tellMeans_115 : decode cX0_tellMeans 115 = .ok (.iload_n 2, 1) := by decide +kernel
theorem dX0_tellMeans_116 : decode cX0_tellMeans 116 = .ok (.invokevirtual 133, 3) := by decide +kernel
theorem dX0_tellMeans_119 : decode cX0_tellMeans 119 = .ok (.iload_n 2, 1) := by decide +kernel
theorem dX0_tellMeans_120 : decode cX0_tellMeans 120 = .ok (.ifCond .eq 24, 3) := by decide +kernel
theorem dX0_tellMeans_123 : decode cX0_tellMeans 123 = .ok (.aload_n 0, 1) := by decide +kernel
theorem dX0_tellMeans_124 : decode cX0_tellMeans 124 = .ok (.getfield 12, 3) := by decide +kernel
theorem dX0_tellMeans_127 : decode cX0_tellMeans 127 = .ok (.aload_n 0, 1) := by decide +kernel
theorem dX0_tellMeans_128 : decode cX0_tellMeans 128 = .ok (.getfield 63, 3) := by decide +kernel
theorem dX0_tellMeans_131 : decode cX0_tellMeans 131 = .ok (.aload_n 0, 1) := by decide +kernel
theorem dX0_tellMeans_132 : decode cX0_tellMeans 132 = .ok (.getfield 63, 3) := by decide +kernel
theorem dX0_tellMeans_135 : decode cX0_tellMeans 135 = .ok (.iload_n 1, 1) := by decide +kernel
theorem dX0_tellMeans_136 : decode cX0_tellMeans 136 = .ok (.invokevirtual 137, 3) := by decide +kernel
theorem dX0_tellMeans_139 : decode cX0_tellMeans 139 = .ok (.iconst 0, 1) := by decide +kernel
theorem dX0_tellMeans_140 : decode cX0_tellMeans 140 = .ok (.iload_n 3, 1) := by decide +kernel
theorem dX0_tellMeans_141 : decode cX0_tellMeans 141 = .ok (.invokevirtual 141, 3) := by decide +kernel
theorem dX0_tellMeans_144 : decode cX0_tellMeans 144 = .ok (.iinc 3 1, 3) := by decide +kernel
theorem dX0_tellMeans_147 : decode cX0_tellMeans 147 = .ok (.goto (-46), 3) := by decide +kernel
theorem dX0_tellMeans_150 : decode cX0_tellMeans 150 = .ok (.return_, 1) := by decide +kernel
theorem dX0_tellMeansOfCut_0 : decode cX0_tellMeansOfCut 0 = .ok (.aload_n 0, 1) := by decide +kernel
theorem dX0_tellMeansOfCut_1 : decode cX0_tellMeansOfCut 1 = .ok (.getfield 63, 3) := by decide +kernel
theorem dX0_tellMeansOfCut_4 : decode cX0_tellMeansOfCut 4 = .ok (.iload_n 1, 1) := by decide +kernel
theorem dX0_tellMeansOfCut_5 : decode cX0_tellMeansOfCut 5 = .ok (.invokevirtual 137, 3) := by decide +kernel
theorem dX0_tellMeansOfCut_8 : decode cX0_tellMeansOfCut 8 = .ok (.istore 4, 2) := by decide +kernel
theorem dX0_tellMeansOfCut_10 : decode cX0_tellMeansOfCut 10 = .ok (.aload_n 0, 1) := by decide +kernel
theorem dX0_tellMeansOfCut_11 : decode cX0_tellMeansOfCut 11 = .ok (.getfield 18, 3) := by decide +kernel
theorem dX0_tellMeansOfCut_14 : decode cX0_tellMeansOfCut 14 = .ok (.aload_n 0, 1) := by decide +kernel
theorem dX0_tellMeansOfCut_15 : decode cX0_tellMeansOfCut 15 = .ok (.getfield 12, 3) := by decide +kernel
theorem dX0_tellMeansOfCut_18 : decode cX0_tellMeansOfCut 18 = .ok (.invokevirtual 145, 3) := by decide +kernel
theorem dX0_tellMeansOfCut_21 : decode cX0_tellMeansOfCut 21 = .ok (.iload_n 2, 1) := by decide +kernel
theorem dX0_tellMeansOfCut_22 : decode cX0_tellMeansOfCut 22 = .ok (.istore 5, 2) := by decide +kernel
theorem dX0_tellMeansOfCut_24 : decode cX0_tellMeansOfCut 24 = .ok (.iload 5, 2) := by decide +kernel
theorem dX0_tellMeansOfCut_26 : decode cX0_tellMeansOfCut 26 = .ok (.aload_n 0, 1) := by decide +kernel
theorem dX0_tellMeansOfCut_27 : decode cX0_tellMeansOfCut 27 = .ok (.getfield 63, 3) := by decide +kernel
theorem dX0_tellMeansOfCut_30 : decode cX0_tellMeansOfCut 30 = .ok (.getfield 81, 3) := by decide +kernel
theorem dX0_tellMeansOfCut_33 : decode cX0_tellMeansOfCut 33 = .ok (.if_icmp .ge 97, 3) := by decide +kernel
theorem dX0_tellMeansOfCut_36 : decode cX0_tellMeansOfCut 36 = .ok (.iload_n 1, 1) := by decide +kernel
theorem dX0_tellMeansOfCut_37 : decode cX0_tellMeansOfCut 37 = .ok (.iload_n 2, 1) := by decide +kernel
theorem dX0_tellMeansOfCut_38 : decode cX0_tellMeansOfCut 38 = .ok (.iload 5, 2) := by decide +kernel
theorem dX0_tellMeansOfCut_40 : decode cX0_tellMeansOfCut 40 = .ok (.invokestatic 112, 3) := by decide +kernel
theorem dX0_tellMeansOfCut_43 : decode cX0_tellMeansOfCut 43 = .ok (.istore 6, 2) := by decide +kernel
theorem dX0_tellMeansOfCut_45 : decode cX0_tellMeansOfCut 45 = .ok (.aload_n 0, 1) := by decide +kernel
theorem dX0_tellMeansOfCut_46 : decode cX0_tellMeansOfCut 46 = .ok (.getfield 18, 3) := by decide +kernel
theorem dX0_tellMeansOfCut_49 : decode cX0_tellMeansOfCut 49 = .ok (.invokevirtual 149, 3) := by decide +kernel
theorem dX0_tellMeansOfCut_52 : decode cX0_tellMeansOfCut 52 = .ok (.lstore 7, 2) := by decide +kernel
theorem dX0_tellMeansOfCut_54 : decode cX0_tellMeansOfCut 54 = .ok (.iload 6, 2) := by decide +kernel
theorem dX0_tellMeansOfCut_56 : decode cX0_tellMeansOfCut 56 = .ok (.ifCond .lt 48, 3) := by decide +kernel
theorem dX0_tellMeansOfCut_59 : decode cX0_tellMeansOfCut 59 = .ok (.iload 6, 2) := by decide +kernel
theorem dX0_tellMeansOfCut_61 : decode cX0_tellMeansOfCut 61 = .ok (.aload_n 0, 1) := by decide +kernel
theorem dX0_tellMeansOfCut_62 : decode cX0_tellMeansOfCut 62 = .ok (.getfield 21, 3) := by decide +kernel
theorem dX0_tellMeansOfCut_65 : decode cX0_tellMeansOfCut 65 = .ok (.arraylength, 1) := by decide +kernel
theorem dX0_tellMeansOfCut_66 : decode cX0_tellMeansOfCut 66 = .ok (.if_icmp .ge 38, 3) := by decide +kernel
theorem dX0_tellMeansOfCut_69 : decode cX0_tellMeansOfCut 69 = .ok (.lload 7, 2) := by decide +kernel
theorem dX0_tellMeansOfCut_71 : decode cX0_tellMeansOfCut 71 = .ok (.lconst 0, 1) := by decide +kernel
theorem dX0_tellMeansOfCut_72 : decode cX0_tellMeansOfCut 72 = .ok (.lcmp, 1) := by decide +kernel
theorem dX0_tellMeansOfCut_73 : decode cX0_tellMeansOfCut 73 = .ok (.ifCond .le 31, 3) := by decide +kernel
theorem dX0_tellMeansOfCut_76 : decode cX0_tellMeansOfCut 76 = .ok (.aload_n 0, 1) := by decide +kernel
theorem dX0_tellMeansOfCut_77 : decode cX0_tellMeansOfCut 77 = .ok (.getfield 21, 3) := by decide +kernel
theorem dX0_tellMeansOfCut_80 : decode cX0_tellMeansOfCut 80 = .ok (.iload 6, 2) := by decide +kernel
theorem dX0_tellMeansOfCut_82 : decode cX0_tellMeansOfCut 82 = .ok (.ldc2_w 153, 3) := by decide +kernel
theorem dX0_tellMeansOfCut_85 : decode cX0_tellMeansOfCut 85 = .ok (.aload_n 0, 1) := by decide +kernel
theorem dX0_tellMeansOfCut_86 : decode cX0_tellMeansOfCut 86 = .ok (.getfield 18, 3) := by decide +kernel
theorem dX0_tellMeansOfCut_89 : decode cX0_tellMeansOfCut 89 = .ok (.aload_n 0, 1) := by decide +kernel
theorem dX0_tellMeansOfCut_90 : decode cX0_tellMeansOfCut 90 = .ok (.getfield 63, 3) := by decide +kernel
theorem dX0_tellMeansOfCut_93 : decode cX0_tellMeansOfCut 93 = .ok (.iload 4, 2) := by decide +kernel
theorem dX0_tellMeansOfCut_95 : decode cX0_tellMeansOfCut 95 = .ok (.invokevirtual 155, 3) := by decide +kernel
theorem dX0_tellMeansOfCut_98 : decode cX0_tellMeansOfCut 98 = .ok (.lmul, 1) := by decide +kernel
theorem dX0_tellMeansOfCut_99 : decode cX0_tellMeansOfCut 99 = .ok (.lload 7, 2) := by decide +kernel
theorem dX0_tellMeansOfCut_101 : decode cX0_tellMeansOfCut 101 = .ok (.ldiv, 1) := by decide +kernel
theorem dX0_tellMeansOfCut_102 : decode cX0_tellMeansOfCut 102 = .ok (.l2i, 1) := by decide +kernel
theorem dX0_tellMeansOfCut_103 : decode cX0_tellMeansOfCut 103 = .ok (.iastore, 1) := by decide +kernel
theorem dX0_tellMeansOfCut_104 : decode cX0_tellMeansOfCut 104 = .ok (.iload_n 3, 1) := by decide +kernel
theorem dX0_tellMeansOfCut_105 : decode cX0_tellMeansOfCut 105 = .ok (.ifCond .eq 19, 3) := by decide +kernel
theorem dX0_tellMeansOfCut_108 : decode cX0_tellMeansOfCut 108 = .ok (.aload_n 0, 1) := by decide +kernel
theorem dX0_tellMeansOfCut_109 : decode cX0_tellMeansOfCut 109 = .ok (.getfield 18, 3) := by decide +kernel
theorem dX0_tellMeansOfCut_112 : decode cX0_tellMeansOfCut 112 = .ok (.aload_n 0, 1) := by decide +kernel
theorem dX0_tellMeansOfCut_113 : decode cX0_tellMeansOfCut 113 = .ok (.getfield 63, 3) := by decide +kernel
theorem dX0_tellMeansOfCut_116 : decode cX0_tellMeansOfCut 116 = .ok (.iload 4, 2) := by decide +kernel
theorem dX0_tellMeansOfCut_118 : decode cX0_tellMeansOfCut 118 = .ok (.iconst 1, 1) := by decide +kernel
theorem dX0_tellMeansOfCut_119 : decode cX0_tellMeansOfCut 119 = .ok (.iload 5, 2) := by decide +kernel
theorem dX0_tellMeansOfCut_121 : decode cX0_tellMeansOfCut 121 = .ok (.invokevirtual 141, 3) := by decide +kernel
theorem dX0_tellMeansOfCut_124 : decode cX0_tellMeansOfCut 124 = .ok (.iinc 5 1, 3) := by decide +kernel
theorem dX0_tellMeansOfCut_127 : decode cX0_tellMeansOfCut 127 = .ok (.goto (-103), 3) := by decide +kernel
theorem dX0_tellMeansOfCut_130 : decode cX0_tellMeansOfCut 130 = .ok (.return_, 1) := by decide +kernel
theorem dX0_tellMost_0 : decode cX0_tellMost 0 = .ok (.aload_n 0, 1) := by decide +kernel
theorem dX0_tellMost_1 : decode cX0_tellMost 1 = .ok (.getfield 25, 3) := by decide +kernel
theorem dX0_tellMost_4 : decode cX0_tellMost 4 = .ok (.iconst 0, 1) := by decide +kernel
theorem dX0_tellMost_5 : decode cX0_tellMost 5 = .ok (.invokestatic 92, 3) := by decide +kernel
theorem dX0_tellMost_8 : decode cX0_tellMost 8 = .ok (.bipush 7, 2) := by decide +kernel
theorem dX0_tellMost_10 : decode cX0_tellMost 10 = .ok (.istore_n 1, 1) := by decide +kernel
theorem dX0_tellMost_11 : decode cX0_tellMost 11 = .ok (.iload_n 1, 1) := by decide +kernel
theorem dX0_tellMost_12 : decode cX0_tellMost 12 = .ok (.ifCond .lt 68, 3) := by decide +kernel
theorem dX0_tellMost_15 : decode cX0_tellMost 15 = .ok (.iconst 0, 1) := by decide +kernel
theorem dX0_tellMost_16 : decode cX0_tellMost 16 = .ok (.istore_n 2, 1) := by decide +kernel
theorem dX0_tellMost_17 : decode cX0_tellMost 17 = .ok (.iconst 0, 1) := by decide +kernel
theorem dX0_tellMost_18 : decode cX0_tellMost 18 = .ok (.istore_n 3, 1) := by decide +kernel
theorem dX0_tellMost_19 : decode cX0_tellMost 19 = .ok (.iload_n 3, 1) := by decide +kernel
theorem dX0_tellMost_20 : decode cX0_tellMost 20 = .ok (.iload_n 1, 1) := by decide +kernel
theorem dX0_tellMost_21 : decode cX0_tellMost 21 = .ok (.if_icmp .gt 37, 3) := by decide +kernel
theorem dX0_tellMost_24 : decode cX0_tellMost 24 = .ok (.iconst 0, 1) := by decide +kernel
theorem dX0_tellMost_25 : decode cX0_tellMost 25 = .ok (.istore 4, 2) := by decide +kernel
theorem dX0_tellMost_27 : decode cX0_tellMost 27 = .ok (.iload 4, 2) := by decide +kernel
theorem dX0_tellMost_29 : decode cX0_tellMost 29 = .ok (.iconst 3, 1) := by decide +kernel
theorem dX0_tellMost_30 : decode cX0_tellMost 30 = .ok (.if_icmp .ge 22, 3) := by decide +kernel
theorem dX0_tellMost_33 : decode cX0_tellMost 33 = .ok (.iload_n 2, 1) := by decide +kernel
theorem dX0_tellMost_34 : decode cX0_tellMost 34 = .ok (.aload_n 0, 1) := by decide +kernel
theorem dX0_tellMost_35 : decode cX0_tellMost 35 = .ok (.iload 4, 2) := by decide +kernel
theorem dX0_tellMost_37 : decode cX0_tellMost 37 = .ok (.iload_n 3, 1) := by decide +kernel
theorem dX0_tellMost_38 : decode cX0_tellMost 38 = .ok (.iload_n 1, 1) := by decide +kernel
theorem dX0_tellMost_39 : decode cX0_tellMost 39 = .ok (.invokevirtual 159, 3) := by decide +kernel
theorem dX0_tellMost_42 : decode cX0_tellMost 42 = .ok (.invokestatic 86, 3) := by decide +kernel
theorem dX0_tellMost_45 : decode cX0_tellMost 45 = .ok (.istore_n 2, 1) := by decide +kernel
theorem dX0_tellMost_46 : decode cX0_tellMost 46 = .ok (.iinc 4 1, 3) := by decide +kernel
theorem dX0_tellMost_49 : decode cX0_tellMost 49 = .ok (.goto (-22), 3) := by decide +kernel
theorem dX0_tellMost_52 : decode cX0_tellMost 52 = .ok (.iinc 3 1, 3) := by decide +kernel
theorem dX0_tellMost_55 : decode cX0_tellMost 55 = .ok (.goto (-36), 3) := by decide +kernel
theorem dX0_tellMost_58 : decode cX0_tellMost 58 = .ok (.aload_n 0, 1) := by decide +kernel
theorem dX0_tellMost_59 : decode cX0_tellMost 59 = .ok (.getfield 25, 3) := by decide +kernel
theorem dX0_tellMost_62 : decode cX0_tellMost 62 = .ok (.iload_n 1, 1) := by decide +kernel
theorem dX0_tellMost_63 : decode cX0_tellMost 63 = .ok (.aload_n 0, 1) := by decide +kernel
theorem dX0_tellMost_64 : decode cX0_tellMost 64 = .ok (.getfield 25, 3) := by decide +kernel
theorem dX0_tellMost_67 : decode cX0_tellMost 67 = .ok (.iload_n 1, 1) := by decide +kernel
theorem dX0_tellMost_68 : decode cX0_tellMost 68 = .ok (.iconst 1, 1) := by decide +kernel
theorem dX0_tellMost_69 : decode cX0_tellMost 69 = .ok (.iadd, 1) := by decide +kernel
theorem dX0_tellMost_70 : decode cX0_tellMost 70 = .ok (.iaload, 1) := by decide +kernel
theorem dX0_tellMost_71 : decode cX0_tellMost 71 = .ok (.iload_n 2, 1) := by decide +kernel
theorem dX0_tellMost_72 : decode cX0_tellMost 72 = .ok (.iadd, 1) := by decide +kernel
theorem dX0_tellMost_73 : decode cX0_tellMost 73 = .ok (.iastore, 1) := by decide +kernel
theorem dX0_tellMost_74 : decode cX0_tellMost 74 = .ok (.iinc 1 (-1), 3) := by decide +kernel
theorem dX0_tellMost_77 : decode cX0_tellMost 77 = .ok (.goto (-66), 3) := by decide +kernel
theorem dX0_tellMost_80 : decode cX0_tellMost 80 = .ok (.return_, 1) := by decide +kernel
theorem dX0_search_0 : decode cX0_search 0 = .ok (.iload_n 1, 1) := by decide +kernel
theorem dX0_search_1 : decode cX0_search 1 = .ok (.ifCond .lt 20, 3) := by decide +kernel
theorem dX0_search_4 : decode cX0_search 4 = .ok (.iload_n 1, 1) := by decide +kernel
theorem dX0_search_5 : decode cX0_search 5 = .ok (.aload_n 0, 1) := by decide +kernel
theorem dX0_search_6 : decode cX0_search 6 = .ok (.getfield 63, 3) := by decide +kernel
theorem dX0_search_9 : decode cX0_search 9 = .ok (.getfield 81, 3) := by decide +kernel
theorem dX0_search_12 : decode cX0_search 12 = .ok (.if_icmp .ge 9, 3) := by decide +kernel
theorem dX0_search_15 : decode cX0_search 15 = .ok (.iload_n 1, 1) := by decide +kernel
theorem dX0_search_16 : decode cX0_search 16 = .ok (.bipush 8, 2) := by decide +kernel
theorem dX0_search_18 : decode cX0_search 18 = .ok (.if_icmp .lt 9, 3) := by decide +kernel
theorem dX0_search_21 : decode cX0_search 21 = .ok (.aload_n 0, 1) := by decide +kernel
theorem dX0_search_22 : decode cX0_search 22 = .ok (.iload_n 3, 1) := by decide +kernel
theorem dX0_search_23 : decode cX0_search 23 = .ok (.invokevirtual 162, 3) := by decide +kernel
theorem dX0_search_26 : decode cX0_search 26 = .ok (.return_, 1) := by decide +kernel
theorem dX0_search_27 : decode cX0_search 27 = .ok (.iload_n 3, 1) := by decide +kernel
theorem dX0_search_28 : decode cX0_search 28 = .ok (.aload_n 0, 1) := by decide +kernel
theorem dX0_search_29 : decode cX0_search 29 = .ok (.getfield 25, 3) := by decide +kernel
theorem dX0_search_32 : decode cX0_search 32 = .ok (.iload_n 1, 1) := by decide +kernel
theorem dX0_search_33 : decode cX0_search 33 = .ok (.iaload, 1) := by decide +kernel
theorem dX0_search_34 : decode cX0_search 34 = .ok (.iadd, 1) := by decide +kernel
theorem dX0_search_35 : decode cX0_search 35 = .ok (.aload_n 0, 1) := by decide +kernel
theorem dX0_search_36 : decode cX0_search 36 = .ok (.getfield 37, 3) := by decide +kernel
theorem dX0_search_39 : decode cX0_search 39 = .ok (.if_icmp .gt 4, 3) := by decide +kernel
theorem dX0_search_42 : decode cX0_search 42 = .ok (.return_, 1) := by decide +kernel
theorem dX0_search_43 : decode cX0_search 43 = .ok (.iconst 0, 1) := by decide +kernel
theorem dX0_search_44 : decode cX0_search 44 = .ok (.istore 4, 2) := by decide +kernel
theorem dX0_search_46 : decode cX0_search 46 = .ok (.iload 4, 2) := by decide +kernel
theorem dX0_search_48 : decode cX0_search 48 = .ok (.iconst 3, 1) := by decide +kernel
theorem dX0_search_49 : decode cX0_search 49 = .ok (.if_icmp .ge 99, 3) := by decide +kernel
theorem dX0_search_52 : decode cX0_search 52 = .ok (.aload_n 0, 1) := by decide +kernel
theorem dX0_search_53 : decode cX0_search 53 = .ok (.getfield 63, 3) := by decide +kernel
theorem dX0_search_56 : decode cX0_search 56 = .ok (.iload_n 2, 1) := by decide +kernel
theorem dX0_search_57 : decode cX0_search 57 = .ok (.iload 4, 2) := by decide +kernel
theorem dX0_search_59 : decode cX0_search 59 = .ok (.invokevirtual 165, 3) := by decide +kernel
theorem dX0_search_62 : decode cX0_search 62 = .ok (.ifCond .eq 80, 3) := by decide +kernel
theorem dX0_search_65 : decode cX0_search 65 = .ok (.aload_n 0, 1) := by decide +kernel
theorem dX0_search_66 : decode cX0_search 66 = .ok (.getfield 28, 3) := by decide +kernel
theorem dX0_search_69 : decode cX0_search 69 = .ok (.iload 4, 2) := by decide +kernel
theorem dX0_search_71 : decode cX0_search 71 = .ok (.iaload, 1) := by decide +kernel
theorem dX0_search_72 : decode cX0_search 72 = .ok (.istore 5, 2) := by decide +kernel
theorem dX0_search_74 : decode cX0_search 74 = .ok (.aload_n 0, 1) := by decide +kernel
theorem dX0_search_75 : decode cX0_search 75 = .ok (.getfield 28, 3) := by decide +kernel
theorem dX0_search_78 : decode cX0_search 78 = .ok (.iload 4, 2) := by decide +kernel
theorem dX0_search_80 : decode cX0_search 80 = .ok (.iload 5, 2) := by decide +kernel
theorem dX0_search_82 : decode cX0_search 82 = .ok (.iconst (-1), 1) := by decide +kernel
theorem dX0_search_83 : decode cX0_search 83 = .ok (.if_icmp .ne 7, 3) := by decide +kernel
theorem dX0_search_86 : decode cX0_search 86 = .ok (.iload_n 1, 1) := by decide +kernel
theorem dX0_search_87 : decode cX0_search 87 = .ok (.goto 5, 3) := by decide +kernel
theorem dX0_search_90 : decode cX0_search 90 = .ok (.iload 5, 2) := by decide +kernel
theorem dX0_search_92 : decode cX0_search 92 = .ok (.iastore, 1) := by decide +kernel
theorem dX0_search_93 : decode cX0_search 93 = .ok (.aload_n 0, 1) := by decide +kernel
theorem dX0_search_94 : decode cX0_search 94 = .ok (.iload_n 1, 1) := by decide +kernel
theorem dX0_search_95 : decode cX0_search 95 = .ok (.iload 4, 2) := by decide +kernel
theorem dX0_search_97 : decode cX0_search 97 = .ok (.invokevirtual 168, 3) := by decide +kernel
theorem dX0_search_100 : decode cX0_search 100 = .ok (.aload_n 0, 1) := by decide +kernel
theorem dX0_search_101 : decode cX0_search 101 = .ok (.iload_n 1, 1) := by decide +kernel
theorem dX0_search_102 : decode cX0_search 102 = .ok (.iconst 1, 1) := by decide +kernel
theorem dX0_search_103 : decode cX0_search 103 = .ok (.iadd, 1) := by decide +kernel
theorem dX0_search_104 : decode cX0_search 104 = .ok (.aload_n 0, 1) := by decide +kernel
theorem dX0_search_105 : decode cX0_search 105 = .ok (.getfield 63, 3) := by decide +kernel
theorem dX0_search_108 : decode cX0_search 108 = .ok (.iload_n 2, 1) := by decide +kernel
theorem dX0_search_109 : decode cX0_search 109 = .ok (.iload 4, 2) := by decide +kernel
theorem dX0_search_111 : decode cX0_search 111 = .ok (.invokevirtual 172, 3) := by decide +kernel
theorem dX0_search_114 : decode cX0_search 114 = .ok (.iload_n 3, 1) := by decide +kernel
theorem dX0_search_115 : decode cX0_search 115 = .ok (.aload_n 0, 1) := by decide +kernel
theorem dX0_search_116 : decode cX0_search 116 = .ok (.iload 4, 2) := by decide +kernel
theorem dX0_search_118 : decode cX0_search 118 = .ok (.aload_n 0, 1) := by decide +kernel
theorem dX0_search_119 : decode cX0_search 119 = .ok (.getfield 28, 3) := by decide +kernel
theorem dX0_search_122 : decode cX0_search 122 = .ok (.iload 4, 2) := by decide +kernel
theorem dX0_search_124 : decode cX0_search 124 = .ok (.iaload, 1) := by decide +kernel
theorem dX0_search_125 : decode cX0_search 125 = .ok (.iload_n 1, 1) := by decide +kernel
theorem dX0_search_126 : decode cX0_search 126 = .ok (.invokevirtual 159, 3) := by decide +kernel
theorem dX0_search_129 : decode cX0_search 129 = .ok (.iadd, 1) := by decide +kernel
theorem dX0_search_130 : decode cX0_search 130 = .ok (.invokevirtual 108, 3) := by decide +kernel
theorem dX0_search_133 : decode cX0_search 133 = .ok (.aload_n 0, 1) := by decide +kernel
theorem dX0_search_134 : decode cX0_search 134 = .ok (.getfield 28, 3) := by decide +kernel
theorem dX0_search_137 : decode cX0_search 137 = .ok (.iload 4, 2) := by decide +kernel
theorem dX0_search_139 : decode cX0_search 139 = .ok (.iload 5, 2) := by decide +kernel
theorem dX0_search_141 : decode cX0_search 141 = .ok (.iastore, 1) := by decide +kernel
theorem dX0_search_142 : decode cX0_search 142 = .ok (.iinc 4 1, 3) := by decide +kernel
theorem dX0_search_145 : decode cX0_search 145 = .ok (.goto (-99), 3) := by decide +kernel
theorem dX0_search_148 : decode cX0_search 148 = .ok (.aload_n 0, 1) := by decide +kernel
theorem dX0_search_149 : decode cX0_search 149 = .ok (.iload_n 1, 1) := by decide +kernel
theorem dX0_search_150 : decode cX0_search 150 = .ok (.bipush 6, 2) := by decide +kernel
theorem dX0_search_152 : decode cX0_search 152 = .ok (.invokevirtual 168, 3) := by decide +kernel
theorem dX0_search_155 : decode cX0_search 155 = .ok (.aload_n 0, 1) := by decide +kernel
theorem dX0_search_156 : decode cX0_search 156 = .ok (.iload_n 1, 1) := by decide +kernel
theorem dX0_search_157 : decode cX0_search 157 = .ok (.iconst 1, 1) := by decide +kernel
theorem dX0_search_158 : decode cX0_search 158 = .ok (.iadd, 1) := by decide +kernel
theorem dX0_search_159 : decode cX0_search 159 = .ok (.iload_n 2, 1) := by decide +kernel
theorem dX0_search_160 : decode cX0_search 160 = .ok (.iload_n 3, 1) := by decide +kernel
theorem dX0_search_161 : decode cX0_search 161 = .ok (.invokevirtual 108, 3) := by decide +kernel
theorem dX0_search_164 : decode cX0_search 164 = .ok (.return_, 1) := by decide +kernel
theorem dX0_tellRow_0 : decode cX0_tellRow 0 = .ok (.iload_n 1, 1) := by decide +kernel
theorem dX0_tellRow_1 : decode cX0_tellRow 1 = .ok (.aload_n 0, 1) := by decide +kernel
theorem dX0_tellRow_2 : decode cX0_tellRow 2 = .ok (.getfield 44, 3) := by decide +kernel
theorem dX0_tellRow_5 : decode cX0_tellRow 5 = .ok (.isub, 1) := by decide +kernel
theorem dX0_tellRow_6 : decode cX0_tellRow 6 = .ok (.istore_n 3, 1) := by decide +kernel
theorem dX0_tellRow_7 : decode cX0_tellRow 7 = .ok (.iload_n 3, 1) := by decide +kernel
theorem dX0_tellRow_8 : decode cX0_tellRow 8 = .ok (.ifCond .lt 16, 3) := by decide +kernel
theorem dX0_tellRow_11 : decode cX0_tellRow 11 = .ok (.iload_n 3, 1) := by decide +kernel
theorem dX0_tellRow_12 : decode cX0_tellRow 12 = .ok (.bipush 8, 2) := by decide +kernel
theorem dX0_tellRow_14 : decode cX0_tellRow 14 = .ok (.if_icmp .ge 10, 3) := by decide +kernel
theorem dX0_tellRow_17 : decode cX0_tellRow 17 = .ok (.aload_n 0, 1) := by decide +kernel
theorem dX0_tellRow_18 : decode cX0_tellRow 18 = .ok (.getfield 31, 3) := by decide +kernel
theorem dX0_tellRow_21 : decode cX0_tellRow 21 = .ok (.iload_n 3, 1) := by decide +kernel
theorem dX0_tellRow_22 : decode cX0_tellRow 22 = .ok (.iload_n 2, 1) := by decide +kernel
theorem dX0_tellRow_23 : decode cX0_tellRow 23 = .ok (.iastore, 1) := by decide +kernel
theorem dX0_tellRow_24 : decode cX0_tellRow 24 = .ok (.return_, 1) := by decide +kernel
theorem dX0_takeIfBetter_0 : decode cX0_takeIfBetter 0 = .ok (.iload_n 1, 1) := by decide +kernel
theorem dX0_takeIfBetter_1 : decode cX0_takeIfBetter 1 = .ok (.aload_n 0, 1) := by decide +kernel
theorem dX0_takeIfBetter_2 : decode cX0_takeIfBetter 2 = .ok (.getfield 37, 3) := by decide +kernel
theorem dX0_takeIfBetter_5 : decode cX0_takeIfBetter 5 = .ok (.if_icmp .le 23, 3) := by decide +kernel
theorem dX0_takeIfBetter_8 : decode cX0_takeIfBetter 8 = .ok (.aload_n 0, 1) := by decide +kernel
theorem dX0_takeIfBetter_9 : decode cX0_takeIfBetter 9 = .ok (.iload_n 1, 1) := by decide +kernel
theorem dX0_takeIfBetter_10 : decode cX0_takeIfBetter 10 = .ok (.putfield 37, 3) := by decide +kernel
theorem dX0_takeIfBetter_13 : decode cX0_takeIfBetter 13 = .ok (.aload_n 0, 1) := by decide +kernel
theorem dX0_takeIfBetter_14 : decode cX0_takeIfBetter 14 = .ok (.getfield 31, 3) := by decide +kernel
theorem dX0_takeIfBetter_17 : decode cX0_takeIfBetter 17 = .ok (.iconst 0, 1) := by decide +kernel
theorem dX0_takeIfBetter_18 : decode cX0_takeIfBetter 18 = .ok (.aload_n 0, 1) := by decide +kernel
theorem dX0_takeIfBetter_19 : decode cX0_takeIfBetter 19 = .ok (.getfield 34, 3) := by decide +kernel
theorem dX0_takeIfBetter_22 : decode cX0_takeIfBetter 22 = .ok (.iconst 0, 1) := by decide +kernel
theorem dX0_takeIfBetter_23 : decode cX0_takeIfBetter 23 = .ok (.bipush 8, 2) := by decide +kernel
theorem dX0_takeIfBetter_25 : decode cX0_takeIfBetter 25 = .ok (.invokestatic 175, 3) := by decide +kernel
theorem dX0_takeIfBetter_28 : decode cX0_takeIfBetter 28 = .ok (.return_, 1) := by decide +kernel
theorem dX1_init_0 : decode cX1_init 0 = .ok (.aload_n 0, 1) := by decide +kernel
theorem dX1_init_1 : decode cX1_init 1 = .ok (.invokespecial 3, 3) := by decide +kernel
theorem dX1_init_4 : decode cX1_init 4 = .ok (.aload_n 0, 1) := by decide +kernel
theorem dX1_init_5 : decode cX1_init 5 = .ok (.iconst 4, 1) := by decide +kernel
theorem dX1_init_6 : decode cX1_init 6 = .ok (.bipush 14, 2) := by decide +kernel
theorem dX1_init_8 : decode cX1_init 8 = .ok (.multianewarray 9 2, 4) := by decide +kernel
theorem dX1_init_12 : decode cX1_init 12 = .ok (.putfield 11, 3) := by decide +kernel
theorem dX1_init_15 : decode cX1_init 15 = .ok (.aload_n 0, 1) := by decide +kernel
theorem dX1_init_16 : decode cX1_init 16 = .ok (.iconst 3, 1) := by decide +kernel
theorem dX1_init_17 : decode cX1_init 17 = .ok (.newarray .int, 2) := by decide +kernel
theorem dX1_init_19 : decode cX1_init 19 = .ok (.putfield 16, 3) := by decide +kernel
theorem dX1_init_22 : decode cX1_init 22 = .ok (.aload_n 0, 1) := by decide +kernel
theorem dX1_init_23 : decode cX1_init 23 = .ok (.iconst 3, 1) := by decide +kernel
theorem dX1_init_24 : decode cX1_init 24 = .ok (.newarray .int, 2) := by decide +kernel
theorem dX1_init_26 : decode cX1_init 26 = .ok (.putfield 20, 3) := by decide +kernel
theorem dX1_init_29 : decode cX1_init 29 = .ok (.aload_n 0, 1) := by decide +kernel
theorem dX1_init_30 : decode cX1_init 30 = .ok (.bipush 8, 2) := by decide +kernel
theorem dX1_init_32 : decode cX1_init 32 = .ok (.newarray .int, 2) := by decide +kernel
theorem dX1_init_34 : decode cX1_init 34 = .ok (.putfield 23, 3) := by decide +kernel
theorem dX1_init_37 : decode cX1_init 37 = .ok (.aload_n 0, 1) := by decide +kernel
theorem dX1_init_38 : decode cX1_init 38 = .ok (.bipush 8, 2) := by decide +kernel
theorem dX1_init_40 : decode cX1_init 40 = .ok (.newarray .int, 2) := by decide +kernel
theorem dX1_init_42 : decode cX1_init 42 = .ok (.putfield 26, 3) := by decide +kernel
theorem dX1_init_45 : decode cX1_init 45 = .ok (.aload_n 0, 1) := by decide +kernel
theorem dX1_init_46 : decode cX1_init 46 = .ok (.iconst 0, 1) := by decide +kernel
theorem dX1_init_47 : decode cX1_init 47 = .ok (.putfield 29, 3) := by decide +kernel
theorem dX1_init_50 : decode cX1_init 50 = .ok (.aload_n 0, 1) := by decide +kernel
theorem dX1_init_51 : decode cX1_init 51 = .ok (.iconst 0, 1) := by decide +kernel
theorem dX1_init_52 : decode cX1_init 52 = .ok (.putfield 33, 3) := by decide +kernel
theorem dX1_init_55 : decode cX1_init 55 = .ok (.aload_n 0, 1) := by decide +kernel
theorem dX1_init_56 : decode cX1_init 56 = .ok (.bipush 6, 2) := by decide +kernel
theorem dX1_init_58 : decode cX1_init 58 = .ok (.putfield 36, 3) := by decide +kernel
theorem dX1_init_61 : decode cX1_init 61 = .ok (.aload_n 0, 1) := by decide +kernel
theorem dX1_init_62 : decode cX1_init 62 = .ok (.iconst 3, 1) := by decide +kernel
theorem dX1_init_63 : decode cX1_init 63 = .ok (.putfield 39, 3) := by decide +kernel
theorem dX1_init_66 : decode cX1_init 66 = .ok (.return_, 1) := by decide +kernel
theorem dX1_becomeEmpty_0 : decode cX1_becomeEmpty 0 = .ok (.aload_n 0, 1) := by decide +kernel
theorem dX1_becomeEmpty_1 : decode cX1_becomeEmpty 1 = .ok (.iconst 0, 1) := by decide +kernel
theorem dX1_becomeEmpty_2 : decode cX1_becomeEmpty 2 = .ok (.putfield 29, 3) := by decide +kernel
theorem dX1_becomeEmpty_5 : decode cX1_becomeEmpty 5 = .ok (.aload_n 0, 1) := by decide +kernel
theorem dX1_becomeEmpty_6 : decode cX1_becomeEmpty 6 = .ok (.iconst 0, 1) := by decide +kernel
theorem dX1_becomeEmpty_7 : decode cX1_becomeEmpty 7 = .ok (.putfield 33, 3) := by decide +kernel
theorem dX1_becomeEmpty_10 : decode cX1_becomeEmpty 10 = .ok (.aload_n 0, 1) := by decide +kernel
theorem dX1_becomeEmpty_11 : decode cX1_becomeEmpty 11 = .ok (.bipush 6, 2) := by decide +kernel
theorem dX1_becomeEmpty_13 : decode cX1_becomeEmpty 13 = .ok (.putfield 36, 3) := by decide +kernel
theorem dX1_becomeEmpty_16 : decode cX1_becomeEmpty 16 = .ok (.aload_n 0, 1) := by decide +kernel
theorem dX1_becomeEmpty_17 : decode cX1_becomeEmpty 17 = .ok (.iconst 3, 1) := by decide +kernel
theorem dX1_becomeEmpty_18 : decode cX1_becomeEmpty 18 = .ok (.putfield 39, 3) := by decide +kernel
theorem dX1_becomeEmpty_21 : decode cX1_becomeEmpty 21 = .ok (.aload_n 0, 1) := by decide +kernel
theorem dX1_becomeEmpty_22 : decode cX1_becomeEmpty 22 = .ok (.getfield 20, 3) := by decide +kernel
theorem dX1_becomeEmpty_25 : decode cX1_becomeEmpty 25 = .ok (.iconst 0, 1) := by decide +kernel
theorem dX1_becomeEmpty_26 : decode cX1_becomeEmpty 26 = .ok (.invokestatic 42, 3) := by decide +kernel
theorem dX1_becomeEmpty_29 : decode cX1_becomeEmpty 29 = .ok (.aload_n 0, 1) := by decide +kernel
theorem dX1_becomeEmpty_30 : decode cX1_becomeEmpty 30 = .ok (.getfield 23, 3) := by decide +kernel
theorem dX1_becomeEmpty_33 : decode cX1_becomeEmpty 33 = .ok (.iconst 0, 1) := by decide +kernel
theorem dX1_becomeEmpty_34 : decode cX1_becomeEmpty 34 = .ok (.invokestatic 42, 3) := by decide +kernel
theorem dX1_becomeEmpty_37 : decode cX1_becomeEmpty 37 = .ok (.aload_n 0, 1) := by decide +kernel
theorem dX1_becomeEmpty_38 : decode cX1_becomeEmpty 38 = .ok (.getfield 26, 3) := by decide +kernel
theorem dX1_becomeEmpty_41 : decode cX1_becomeEmpty 41 = .ok (.iconst 0, 1) := by decide +kernel
theorem dX1_becomeEmpty_42 : decode cX1_becomeEmpty 42 = .ok (.invokestatic 42, 3) := by decide +kernel
theorem dX1_becomeEmpty_45 : decode cX1_becomeEmpty 45 = .ok (.return_, 1) := by decide +kernel
theorem dX1_becomeLike_0 : decode cX1_becomeLike 0 = .ok (.iconst 0, 1) := by decide +kernel
theorem dX1_becomeLike_1 : decode cX1_becomeLike 1 = .ok (.istore_n 2, 1) := by decide +kernel
theorem dX1_becomeLike_2 : decode cX1_becomeLike 2 = .ok (.iload_n 2, 1) := by decide +kernel
theorem dX1_becomeLike_3 : decode cX1_becomeLike 3 = .ok (.iconst 4, 1) := by decide +kernel
theorem dX1_becomeLike_4 : decode cX1_becomeLike 4 = .ok (.if_icmp .ge 28, 3) := by decide +kernel
theorem dX1_becomeLike_7 : decode cX1_becomeLike 7 = .ok (.aload_n 1, 1) := by decide +kernel
theorem dX1_becomeLike_8 : decode cX1_becomeLike 8 = .ok (.getfield 11, 3) := by decide +kernel
theorem dX1_becomeLike_11 : decode cX1_becomeLike 11 = .ok (.iload_n 2, 1) := by decide +kernel
theorem dX1_becomeLike_12 : decode cX1_becomeLike 12 = .ok (.aaload, 1) := by decide +kernel
theorem dX1_becomeLike_13 : decode cX1_becomeLike 13 = .ok (.iconst 0, 1) := by decide +kernel
theorem dX1_becomeLike_14 : decode cX1_becomeLike 14 = .ok (.aload_n 0, 1) := by decide +kernel
theorem dX1_becomeLike_15 : decode cX1_becomeLike 15 = .ok (.getfield 11, 3) := by decide +kernel
theorem dX1_becomeLike_18 : decode cX1_becomeLike 18 = .ok (.iload_n 2, 1) := by decide +kernel
theorem dX1_becomeLike_19 : decode cX1_becomeLike 19 = .ok (.aaload, 1) := by decide +kernel
theorem dX1_becomeLike_20 : decode cX1_becomeLike 20 = .ok (.iconst 0, 1) := by decide +kernel
theorem dX1_becomeLike_21 : decode cX1_becomeLike 21 = .ok (.bipush 14, 2) := by decide +kernel
theorem dX1_becomeLike_23 : decode cX1_becomeLike 23 = .ok (.invokestatic 48, 3) := by decide +kernel
theorem dX1_becomeLike_26 : decode cX1_becomeLike 26 = .ok (.iinc 2 1, 3) := by decide +kernel
theorem dX1_becomeLike_29 : decode cX1_becomeLike 29 = .ok (.goto (-27), 3) := by decide +kernel
theorem dX1_becomeLike_32 : decode cX1_becomeLike 32 = .ok (.aload_n 1, 1) := by decide +kernel
theorem dX1_becomeLike_33 : decode cX1_becomeLike 33 = .ok (.getfield 16, 3) := by decide +kernel
theorem dX1_becomeLike_36 : decode cX1_becomeLike 36 = .ok (.iconst 0, 1) := by decide +kernel
theorem dX1_becomeLike_37 : decode cX1_becomeLike 37 = .ok (.aload_n 0, 1) := by decide +kernel
theorem dX1_becomeLike_38 : decode cX1_becomeLike 38 = .ok (.getfield 16, 3) := by decide +kernel
theorem dX1_becomeLike_41 : decode cX1_becomeLike 41 = .ok (.iconst 0, 1) := by decide +kernel
theorem dX1_becomeLike_42 : decode cX1_becomeLike 42 = .ok (.iconst 3, 1) := by decide +kernel
theorem dX1_becomeLike_43 : decode cX1_becomeLike 43 = .ok (.invokestatic 48, 3) := by decide +kernel
theorem dX1_becomeLike_46 : decode cX1_becomeLike 46 = .ok (.aload_n 1, 1) := by decide +kernel
theorem dX1_becomeLike_47 : decode cX1_becomeLike 47 = .ok (.getfield 20, 3) := by decide +kernel
theorem dX1_becomeLike_50 : decode cX1_becomeLike 50 = .ok (.iconst 0, 1) := by decide +kernel
theorem dX1_becomeLike_51 : decode cX1_becomeLike 51 = .ok (.aload_n 0, 1) := by decide +kernel
theorem dX1_becomeLike_52 : decode cX1_becomeLike 52 = .ok (.getfield 20, 3) := by decide +kernel
theorem dX1_becomeLike_55 : decode cX1_becomeLike 55 = .ok (.iconst 0, 1) := by decide +kernel
theorem dX1_becomeLike_56 : decode cX1_becomeLike 56 = .ok (.iconst 3, 1) := by decide +kernel
theorem dX1_becomeLike_57 : decode cX1_becomeLike 57 = .ok (.invokestatic 48, 3) := by decide +kernel
theorem dX1_becomeLike_60 : decode cX1_becomeLike 60 = .ok (.aload_n 1, 1) := by decide +kernel
theorem dX1_becomeLike_61 : decode cX1_becomeLike 61 = .ok (.getfield 23, 3) := by decide +kernel
theorem dX1_becomeLike_64 : decode cX1_becomeLike 64 = .ok (.iconst 0, 1) := by decide +kernel
theorem dX1_becomeLike_65 : decode cX1_becomeLike 65 = .ok (.aload_n 0, 1) := by decide +kernel
theorem dX1_becomeLike_66 : decode cX1_becomeLike 66 = .ok (.getfield 23, 3) := by decide +kernel
theorem dX1_becomeLike_69 : decode cX1_becomeLike 69 = .ok (.iconst 0, 1) := by decide +kernel
theorem dX1_becomeLike_70 : decode cX1_becomeLike 70 = .ok (.bipush 8, 2) := by decide +kernel
theorem dX1_becomeLike_72 : decode cX1_becomeLike 72 = .ok (.invokestatic 48, 3) := by decide +kernel
theorem dX1_becomeLike_75 : decode cX1_becomeLike 75 = .ok (.aload_n 1, 1) := by decide +kernel
theorem dX1_becomeLike_76 : decode cX1_becomeLike 76 = .ok (.getfield 26, 3) := by decide +kernel
theorem dX1_becomeLike_79 : decode cX1_becomeLike 79 = .ok (.iconst 0, 1) := by decide +kernel
theorem dX1_becomeLike_80 : decode cX1_becomeLike 80 = .ok (.aload_n 0, 1) := by decide +kernel
theorem dX1_becomeLike_81 : decode cX1_becomeLike 81 = .ok (.getfield 26, 3) := by decide +kernel
theorem dX1_becomeLike_84 : decode cX1_becomeLike 84 = .ok (.iconst 0, 1) := by decide +kernel
theorem dX1_becomeLike_85 : decode cX1_becomeLike 85 = .ok (.bipush 8, 2) := by decide +kernel
theorem dX1_becomeLike_87 : decode cX1_becomeLike 87 = .ok (.invokestatic 48, 3) := by decide +kernel
theorem dX1_becomeLike_90 : decode cX1_becomeLike 90 = .ok (.aload_n 0, 1) := by decide +kernel
theorem dX1_becomeLike_91 : decode cX1_becomeLike 91 = .ok (.aload_n 1, 1) := by decide +kernel
theorem dX1_becomeLike_92 : decode cX1_becomeLike 92 = .ok (.getfield 29, 3) := by decide +kernel
theorem dX1_becomeLike_95 : decode cX1_becomeLike 95 = .ok (.putfield 29, 3) := by decide +kernel
theorem dX1_becomeLike_98 : decode cX1_becomeLike 98 = .ok (.aload_n 0, 1) := by decide +kernel
theorem dX1_becomeLike_99 : decode cX1_becomeLike 99 = .ok (.aload_n 1, 1) := by decide +kernel
theorem dX1_becomeLike_100 : decode cX1_becomeLike 100 = .ok (.getfield 33, 3) := by decide +kernel
theorem dX1_becomeLike_103 : decode cX1_becomeLike 103 = .ok (.putfield 33, 3) := by decide +kernel
theorem dX1_becomeLike_106 : decode cX1_becomeLike 106 = .ok (.aload_n 0, 1) := by decide +kernel
theorem dX1_becomeLike_107 : decode cX1_becomeLike 107 = .ok (.aload_n 1, 1) := by decide +kernel
theorem dX1_becomeLike_108 : decode cX1_becomeLike 108 = .ok (.getfield 36, 3) := by decide +kernel
theorem dX1_becomeLike_111 : decode cX1_becomeLike 111 = .ok (.putfield 36, 3) := by decide +kernel
theorem dX1_becomeLike_114 : decode cX1_becomeLike 114 = .ok (.aload_n 0, 1) := by decide +kernel
theorem dX1_becomeLike_115 : decode cX1_becomeLike 115 = .ok (.aload_n 1, 1) := by decide +kernel
theorem dX1_becomeLike_116 : decode cX1_becomeLike 116 = .ok (.getfield 39, 3) := by decide +kernel
theorem dX1_becomeLike_119 : decode cX1_becomeLike 119 = .ok (.putfield 39, 3) := by decide +kernel
theorem dX1_becomeLike_122 : decode cX1_becomeLike 122 = .ok (.return_, 1) := by decide +kernel
theorem dX1_isSort_0 : decode cX1_isSort 0 = .ok (.iload_n 1, 1) := by decide +kernel
theorem dX1_isSort_1 : decode cX1_isSort 1 = .ok (.ifCond .lt 15, 3) := by decide +kernel
theorem dX1_isSort_4 : decode cX1_isSort 4 = .ok (.iload_n 1, 1) := by decide +kernel
theorem dX1_isSort_5 : decode cX1_isSort 5 = .ok (.aload_n 0, 1) := by decide +kernel
theorem dX1_isSort_6 : decode cX1_isSort 6 = .ok (.getfield 29, 3) := by decide +kernel
theorem dX1_isSort_9 : decode cX1_isSort 9 = .ok (.if_icmp .ge 7, 3) := by decide +kernel
theorem dX1_isSort_12 : decode cX1_isSort 12 = .ok (.iconst 1, 1) := by decide +kernel
theorem dX1_isSort_13 : decode cX1_isSort 13 = .ok (.goto 4, 3) := by decide +kernel
theorem dX1_isSort_16 : decode cX1_isSort 16 = .ok (.iconst 0, 1) := by decide +kernel
theorem dX1_isSort_17 : decode cX1_isSort 17 = .ok (.ireturn, 1) := by decide +kernel
theorem dX1_isWheel_0 : decode cX1_isWheel 0 = .ok (.iload_n 1, 1) := by decide +kernel
theorem dX1_isWheel_1 : decode cX1_isWheel 1 = .ok (.ifCond .lt 15, 3) := by decide +kernel
theorem dX1_isWheel_4 : decode cX1_isWheel 4 = .ok (.iload_n 1, 1) := by decide +kernel
theorem dX1_isWheel_5 : decode cX1_isWheel 5 = .ok (.aload_n 0, 1) := by decide +kernel
theorem dX1_isWheel_6 : decode cX1_isWheel 6 = .ok (.getfield 33, 3) := by decide +kernel
theorem dX1_isWheel_9 : decode cX1_isWheel 9 = .ok (.if_icmp .ge 7, 3) := by decide +kernel
theorem dX1_isWheel_12 : decode cX1_isWheel 12 = .ok (.iconst 1, 1) := by decide +kernel
theorem dX1_isWheel_13 : decode cX1_isWheel 13 = .ok (.goto 4, 3) := by decide +kernel
theorem dX1_isWheel_16 : decode cX1_isWheel 16 = .ok (.iconst 0, 1) := by decide +kernel
theorem dX1_isWheel_17 : decode cX1_isWheel 17 = .ok (.ireturn, 1) := by decide +kernel
theorem dX1_trait_0 : decode cX1_trait 0 = .ok (.iload_n 1, 1) := by decide +kernel
theorem dX1_trait_1 : decode cX1_trait 1 = .ok (.ifCond .lt 18, 3) := by decide +kernel
theorem dX1_trait_4 : decode cX1_trait 4 = .ok (.iload_n 1, 1) := by decide +kernel
theorem dX1_trait_5 : decode cX1_trait 5 = .ok (.iconst 4, 1) := by decide +kernel
theorem dX1_trait_6 : decode cX1_trait 6 = .ok (.if_icmp .ge 13, 3) := by decide +kernel
theorem dX1_trait_9 : decode cX1_trait 9 = .ok (.iload_n 2, 1) := by decide +kernel
theorem dX1_trait_10 : decode cX1_trait 10 = .ok (.ifCond .lt 9, 3) := by decide +kernel
theorem dX1_trait_13 : decode cX1_trait 13 = .ok (.iload_n 2, 1) := by decide +kernel
theorem dX1_trait_14 : decode cX1_trait 14 = .ok (.bipush 14, 2) := by decide +kernel
theorem dX1_trait_16 : decode cX1_trait 16 = .ok (.if_icmp .lt 5, 3) := by decide +kernel
theorem dX1_trait_19 : decode cX1_trait 19 = .ok (.iconst 0, 1) := by decide +kernel
theorem dX1_trait_20 : decode cX1_trait 20 = .ok (.ireturn, 1) := by decide +kernel
theorem dX1_trait_21 : decode cX1_trait 21 = .ok (.aload_n 0, 1) := by decide +kernel
theorem dX1_trait_22 : decode cX1_trait 22 = .ok (.getfield 11, 3) := by decide +kernel
theorem dX1_trait_25 : decode cX1_trait 25 = .ok (.iload_n 1, 1) := by decide +kernel
theorem dX1_trait_26 : decode cX1_trait 26 = .ok (.aaload, 1) := by decide +kernel
theorem dX1_trait_27 : decode cX1_trait 27 = .ok (.iload_n 2, 1) := by decide +kernel
theorem dX1_trait_28 : decode cX1_trait 28 = .ok (.iaload, 1) := by decide +kernel
theorem dX1_trait_29 : decode cX1_trait 29 = .ok (.ireturn, 1) := by decide +kernel
theorem dX1_sortOf_0 : decode cX1_sortOf 0 = .ok (.iload_n 1, 1) := by decide +kernel
theorem dX1_sortOf_1 : decode cX1_sortOf 1 = .ok (.ifCond .lt 17, 3) := by decide +kernel
theorem dX1_sortOf_4 : decode cX1_sortOf 4 = .ok (.iload_n 1, 1) := by decide +kernel
theorem dX1_sortOf_5 : decode cX1_sortOf 5 = .ok (.iconst 3, 1) := by decide +kernel
theorem dX1_sortOf_6 : decode cX1_sortOf 6 = .ok (.if_icmp .ge 12, 3) := by decide +kernel
theorem dX1_sortOf_9 : decode cX1_sortOf 9 = .ok (.aload_n 0, 1) := by decide +kernel
theorem dX1_sortOf_10 : decode cX1_sortOf 10 = .ok (.getfield 16, 3) := by decide +kernel
theorem dX1_sortOf_13 : decode cX1_sortOf 13 = .ok (.iload_n 1, 1) := by decide +kernel
theorem dX1_sortOf_14 : decode cX1_sortOf 14 = .ok (.iaload, 1) := by decide +kernel
theorem dX1_sortOf_15 : decode cX1_sortOf 15 = .ok (.goto 4, 3) := by decide +kernel
theorem dX1_sortOf_18 : decode cX1_sortOf 18 = .ok (.iconst 0, 1) := by decide +kernel
theorem dX1_sortOf_19 : decode cX1_sortOf 19 = .ok (.ireturn, 1) := by decide +kernel
theorem dX1_portionsAtFirst_0 : decode cX1_portionsAtFirst 0 = .ok (.iload_n 1, 1) := by decide +kernel
theorem dX1_portionsAtFirst_1 : decode cX1_portionsAtFirst 1 = .ok (.ifCond .lt 17, 3) := by decide +kernel
theorem dX1_portionsAtFirst_4 : decode cX1_portionsAtFirst 4 = .ok (.iload_n 1, 1) := by decide +kernel
theorem dX1_portionsAtFirst_5 : decode cX1_portionsAtFirst 5 = .ok (.iconst 3, 1) := by decide +kernel
theorem dX1_portionsAtFirst_6 : decode cX1_portionsAtFirst 6 = .ok (.if_icmp .ge 12, 3) := by decide +kernel
theorem dX1_portionsAtFirst_9 : decode cX1_portionsAtFirst 9 = .ok (.aload_n 0, 1) := by decide +kernel
theorem dX1_portionsAtFirst_10 : decode cX1_portionsAtFirst 10 = .ok (.getfield 20, 3) := by decide +kernel
theorem dX1_portionsAtFirst_13 : decode cX1_portionsAtFirst 13 = .ok (.iload_n 1, 1) := by decide +kernel
theorem dX1_portionsAtFirst_14 : decode cX1_portionsAtFirst 14 = .ok (.iaload, 1) := by decide +kernel
theorem dX1_portionsAtFirst_15 : decode cX1_portionsAtFirst 15 = .ok (.goto 4, 3) := by decide +kernel
theorem dX1_portionsAtFirst_18 : decode cX1_portionsAtFirst 18 = .ok (.iconst 0, 1) := by decide +kernel
theorem dX1_portionsAtFirst_19 : decode cX1_portionsAtFirst 19 = .ok (.ireturn, 1) := by decide +kernel
theorem dX1_warmthOf_0 : decode cX1_warmthOf 0 = .ok (.iload_n 1, 1) := by decide +kernel
theorem dX1_warmthOf_1 : decode cX1_warmthOf 1 = .ok (.ifCond .lt 18, 3) := by decide +kernel
theorem dX1_warmthOf_4 : decode cX1_warmthOf 4 = .ok (.iload_n 1, 1) := by decide +kernel
theorem dX1_warmthOf_5 : decode cX1_warmthOf 5 = .ok (.bipush 8, 2) := by decide +kernel
theorem dX1_warmthOf_7 : decode cX1_warmthOf 7 = .ok (.if_icmp .ge 12, 3) := by decide +kernel
theorem dX1_warmthOf_10 : decode cX1_warmthOf 10 = .ok (.aload_n 0, 1) := by decide +kernel
theorem dX1_warmthOf_11 : decode cX1_warmthOf 11 = .ok (.getfield 23, 3) := by decide +kernel
theorem dX1_warmthOf_14 : decode cX1_warmthOf 14 = .ok (.iload_n 1, 1) := by decide +kernel
theorem dX1_warmthOf_15 : decode cX1_warmthOf 15 = .ok (.iaload, 1) := by decide +kernel
theorem dX1_warmthOf_16 : decode cX1_warmthOf 16 = .ok (.goto 4, 3) := by decide +kernel
theorem dX1_warmthOf_19 : decode cX1_warmthOf 19 = .ok (.iconst 0, 1) := by decide +kernel
theorem dX1_warmthOf_20 : decode cX1_warmthOf 20 = .ok (.ireturn, 1) := by decide +kernel
theorem dX1_priceOf_0 : decode cX1_priceOf 0 = .ok (.iload_n 1, 1) := by decide +kernel
theorem dX1_priceOf_1 : decode cX1_priceOf 1 = .ok (.ifCond .lt 18, 3) := by decide +kernel
theorem dX1_priceOf_4 : decode cX1_priceOf 4 = .ok (.iload_n 1, 1) := by decide +kernel
theorem dX1_priceOf_5 : decode cX1_priceOf 5 = .ok (.bipush 8, 2) := by decide +kernel
theorem dX1_priceOf_7 : decode cX1_priceOf 7 = .ok (.if_icmp .ge 12, 3) := by decide +kernel
theorem dX1_priceOf_10 : decode cX1_priceOf 10 = .ok (.aload_n 0, 1) := by decide +kernel
theorem dX1_priceOf_11 : decode cX1_priceOf 11 = .ok (.getfield 26, 3) := by decide +kernel
theorem dX1_priceOf_14 : decode cX1_priceOf 14 = .ok (.iload_n 1, 1) := by decide +kernel
theorem dX1_priceOf_15 : decode cX1_priceOf 15 = .ok (.iaload, 1) := by decide +kernel
theorem dX1_priceOf_16 : decode cX1_priceOf 16 = .ok (.goto 4, 3) := by decide +kernel
theorem dX1_priceOf_19 : decode cX1_priceOf 19 = .ok (.iconst 0, 1) := by decide +kernel
theorem dX1_priceOf_20 : decode cX1_priceOf 20 = .ok (.ireturn, 1) := by decide +kernel
theorem dX1_startStand_0 : decode cX1_startStand 0 = .ok (.iconst 0, 1) := by decide +kernel
theorem dX1_startStand_1 : decode cX1_startStand 1 = .ok (.istore_n 1, 1) := by decide +kernel
theorem dX1_startStand_2 : decode cX1_startStand 2 = .ok (.iconst 0, 1) := by decide +kernel
theorem dX1_startStand_3 : decode cX1_startStand 3 = .ok (.istore_n 2, 1) := by decide +kernel
theorem dX1_startStand_4 : decode cX1_startStand 4 = .ok (.iload_n 2, 1) := by decide +kernel
theorem dX1_startStand_5 : decode cX1_startStand 5 = .ok (.iconst 3, 1) := by decide +kernel
theorem dX1_startStand_6 : decode cX1_startStand 6 = .ok (.if_icmp .ge 22, 3) := by decide +kernel
theorem dX1_startStand_9 : decode cX1_startStand 9 = .ok (.iload_n 1, 1) := by decide +kernel
theorem dX1_startStand_10 : decode cX1_startStand 10 = .ok (.iload_n 2, 1) := by decide +kernel
theorem dX1_startStand_11 : decode cX1_startStand 11 = .ok (.iconst 0, 1) := by decide +kernel
theorem dX1_startStand_12 : decode cX1_startStand 12 = .ok (.aload_n 0, 1) := by decide +kernel
theorem dX1_startStand_13 : decode cX1_startStand 13 = .ok (.iload_n 2, 1) := by decide +kernel
theorem dX1_startStand_14 : decode cX1_startStand 14 = .ok (.invokevirtual 54, 3) := by decide +kernel
theorem dX1_startStand_17 : decode cX1_startStand 17 = .ok (.invokestatic 58, 3) := by decide +kernel
theorem dX1_startStand_20 : decode cX1_startStand 20 = .ok (.ior, 1) := by decide +kernel
theorem dX1_startStand_21 : decode cX1_startStand 21 = .ok (.istore_n 1, 1) := by decide +kernel
theorem dX1_startStand_22 : decode cX1_startStand 22 = .ok (.iinc 2 1, 3) := by decide +kernel
theorem dX1_startStand_25 : decode cX1_startStand 25 = .ok (.goto (-21), 3) := by decide +kernel
theorem dX1_startStand_28 : decode cX1_startStand 28 = .ok (.iload_n 1, 1) := by decide +kernel
theorem dX1_startStand_29 : decode cX1_startStand 29 = .ok (.ireturn, 1) := by decide +kernel
theorem dX1_isWhole_0 : decode cX1_isWhole 0 = .ok (.iload_n 2, 1) := by decide +kernel
theorem dX1_isWhole_1 : decode cX1_isWhole 1 = .ok (.ifCond .lt 26, 3) := by decide +kernel
theorem dX1_isWhole_4 : decode cX1_isWhole 4 = .ok (.iload_n 2, 1) := by decide +kernel
theorem dX1_isWhole_5 : decode cX1_isWhole 5 = .ok (.iconst 3, 1) := by decide +kernel
theorem dX1_isWhole_6 : decode cX1_isWhole 6 = .ok (.if_icmp .ge 21, 3) := by decide +kernel
theorem dX1_isWhole_9 : decode cX1_isWhole 9 = .ok (.iload_n 1, 1) := by decide +kernel
theorem dX1_isWhole_10 : decode cX1_isWhole 10 = .ok (.iload_n 2, 1) := by decide +kernel
theorem dX1_isWhole_11 : decode cX1_isWhole 11 = .ok (.invokestatic 62, 3) := by decide +kernel
theorem dX1_isWhole_14 : decode cX1_isWhole 14 = .ok (.aload_n 0, 1) := by decide +kernel
theorem dX1_isWhole_15 : decode cX1_isWhole 15 = .ok (.getfield 20, 3) := by decide +kernel
theorem dX1_isWhole_18 : decode cX1_isWhole 18 = .ok (.iload_n 2, 1) := by decide +kernel
theorem dX1_isWhole_19 : decode cX1_isWhole 19 = .ok (.iaload, 1) := by decide +kernel
theorem dX1_isWhole_20 : decode cX1_isWhole 20 = .ok (.if_icmp .ne 7, 3) := by decide +kernel
theorem dX1_isWhole_23 : decode cX1_isWhole 23 = .ok (.iconst 1, 1) := by decide +kernel
theorem dX1_isWhole_24 : decode cX1_isWhole 24 = .ok (.goto 4, 3) := by decide +kernel
theorem dX1_isWhole_27 : decode cX1_isWhole 27 = .ok (.iconst 0, 1) := by decide +kernel
theorem dX1_isWhole_28 : decode cX1_isWhole 28 = .ok (.ireturn, 1) := by decide +kernel
theorem dX1_isOpen_0 : decode cX1_isOpen 0 = .ok (.iload_n 1, 1) := by decide +kernel
theorem dX1_isOpen_1 : decode cX1_isOpen 1 = .ok (.iload_n 2, 1) := by decide +kernel
theorem dX1_isOpen_2 : decode cX1_isOpen 2 = .ok (.invokestatic 62, 3) := by decide +kernel
theorem dX1_isOpen_5 : decode cX1_isOpen 5 = .ok (.ifCond .le 16, 3) := by decide +kernel
theorem dX1_isOpen_8 : decode cX1_isOpen 8 = .ok (.aload_n 0, 1) := by decide +kernel
theorem dX1_isOpen_9 : decode cX1_isOpen 9 = .ok (.iload_n 1, 1) := by decide +kernel
theorem dX1_isOpen_10 : decode cX1_isOpen 10 = .ok (.iload_n 2, 1) := by decide +kernel
theorem dX1_isOpen_11 : decode cX1_isOpen 11 = .ok (.invokevirtual 66, 3) := by decide +kernel
theorem dX1_isOpen_14 : decode cX1_isOpen 14 = .ok (.ifCond .ne 7, 3) := by decide +kernel
theorem dX1_isOpen_17 : decode cX1_isOpen 17 = .ok (.iconst 1, 1) := by decide +kernel
theorem dX1_isOpen_18 : decode cX1_isOpen 18 = .ok (.goto 4, 3) := by decide +kernel
theorem dX1_isOpen_21 : decode cX1_isOpen 21 = .ok (.iconst 0, 1) := by decide +kernel
theorem dX1_isOpen_22 : decode cX1_isOpen 22 = .ok (.ireturn, 1) := by decide +kernel
theorem dX1_countOpen_0 : decode cX1_countOpen 0 = .ok (.iconst 0, 1) := by decide +kernel
theorem dX1_countOpen_1 : decode cX1_countOpen 1 = .ok (.istore_n 2, 1) := by decide +kernel
theorem dX1_countOpen_2 : decode cX1_countOpen 2 = .ok (.iconst 0, 1) := by decide +kernel
theorem dX1_countOpen_3 : decode cX1_countOpen 3 = .ok (.istore_n 3, 1) := by decide +kernel
theorem dX1_countOpen_4 : decode cX1_countOpen 4 = .ok (.iload_n 3, 1) := by decide +kernel
theorem dX1_countOpen_5 : decode cX1_countOpen 5 = .ok (.iconst 3, 1) := by decide +kernel
theorem dX1_countOpen_6 : decode cX1_countOpen 6 = .ok (.if_icmp .ge 40, 3) := by decide +kernel
theorem dX1_countOpen_9 : decode cX1_countOpen 9 = .ok (.iload_n 1, 1) := by decide +kernel
theorem dX1_countOpen_10 : decode cX1_countOpen 10 = .ok (.iload_n 3, 1) := by decide +kernel
theorem dX1_countOpen_11 : decode cX1_countOpen 11 = .ok (.invokestatic 62, 3) := by decide +kernel
theorem dX1_countOpen_14 : decode cX1_countOpen 14 = .ok (.istore 4, 2) := by decide +kernel
theorem dX1_countOpen_16 : decode cX1_countOpen 16 = .ok (.iload_n 2, 1) := by decide +kernel
theorem dX1_countOpen_17 : decode cX1_countOpen 17 = .ok (.iload 4, 2) := by decide +kernel
theorem dX1_countOpen_19 : decode cX1_countOpen 19 = .ok (.ifCond .le 18, 3) := by decide +kernel
theorem dX1_countOpen_22 : decode cX1_countOpen 22 = .ok (.iload 4, 2) := by decide +kernel
theorem dX1_countOpen_24 : decode cX1_countOpen 24 = .ok (.aload_n 0, 1) := by decide +kernel
theorem dX1_countOpen_25 : decode cX1_countOpen 25 = .ok (.getfield 20, 3) := by decide +kernel
theorem dX1_countOpen_28 : decode cX1_countOpen 28 = .ok (.iload_n 3, 1) := by decide +kernel
theorem dX1_countOpen_29 : decode cX1_countOpen 29 = .ok (.iaload, 1) := by decide +kernel
theorem dX1_countOpen_30 : decode cX1_countOpen 30 = .ok (.if_icmp .ge 7, 3) := by decide +kernel
theorem dX1_countOpen_33 : decode cX1_countOpen 33 = .ok (.iconst 1, 1) := by decide +kernel
theorem dX1_countOpen_34 : decode cX1_countOpen 34 = .ok (.goto 4, 3) := by decide +kernel
theorem dX1_countOpen_37 : decode cX1_countOpen 37 = .ok (.iconst 0, 1) := by decide +kernel
theorem dX1_countOpen_38 : decode cX1_countOpen 38 = .ok (.iadd, 1) := by decide +kernel
theorem dX1_countOpen_39 : decode cX1_countOpen 39 = .ok (.istore_n 2, 1) := by decide +kernel
theorem dX1_countOpen_40 : decode cX1_countOpen 40 = .ok (.iinc 3 1, 3) := by decide +kernel
theorem dX1_countOpen_43 : decode cX1_countOpen 43 = .ok (.goto (-39), 3) := by decide +kernel
theorem dX1_countOpen_46 : decode cX1_countOpen 46 = .ok (.iload_n 2, 1) := by decide +kernel
theorem dX1_countOpen_47 : decode cX1_countOpen 47 = .ok (.ireturn, 1) := by decide +kernel
theorem dX1_goodNow_0 : decode cX1_goodNow 0 = .ok (.aload_n 0, 1) := by decide +kernel
theorem dX1_goodNow_1 : decode cX1_goodNow 1 = .ok (.aload_n 0, 1) := by decide +kernel
theorem dX1_goodNow_2 : decode cX1_goodNow 2 = .ok (.iload_n 2, 1) := by decide +kernel
theorem dX1_goodNow_3 : decode cX1_goodNow 3 = .ok (.invokevirtual 70, 3) := by decide +kernel
theorem dX1_goodNow_6 : decode cX1_goodNow 6 = .ok (.iconst 0, 1) := by decide +kernel
theorem dX1_goodNow_7 : decode cX1_goodNow 7 = .ok (.iload_n 1, 1) := by decide +kernel
theorem dX1_goodNow_8 : decode cX1_goodNow 8 = .ok (.iload_n 2, 1) := by decide +kernel
theorem dX1_goodNow_9 : decode cX1_goodNow 9 = .ok (.invokestatic 73, 3) := by decide +kernel
theorem dX1_goodNow_12 : decode cX1_goodNow 12 = .ok (.iadd, 1) := by decide +kernel
theorem dX1_goodNow_13 : decode cX1_goodNow 13 = .ok (.invokevirtual 76, 3) := by decide +kernel
theorem dX1_goodNow_16 : decode cX1_goodNow 16 = .ok (.ireturn, 1) := by decide +kernel
theorem dX1_mayEat_0 : decode cX1_mayEat 0 = .ok (.aload_n 0, 1) := by decide +kernel
theorem dX1_mayEat_1 : decode cX1_mayEat 1 = .ok (.iload_n 2, 1) := by decide +kernel
theorem dX1_mayEat_2 : decode cX1_mayEat 2 = .ok (.invokevirtual 79, 3) := by decide +kernel
theorem dX1_mayEat_5 : decode cX1_mayEat 5 = .ok (.ifCond .eq 11, 3) := by decide +kernel
theorem dX1_mayEat_8 : decode cX1_mayEat 8 = .ok (.iload_n 1, 1) := by decide +kernel
theorem dX1_mayEat_9 : decode cX1_mayEat 9 = .ok (.iload_n 2, 1) := by decide +kernel
theorem dX1_mayEat_10 : decode cX1_mayEat 10 = .ok (.invokestatic 62, 3) := by decide +kernel
theorem dX1_mayEat_13 : decode cX1_mayEat 13 = .ok (.ifCond .ne 5, 3) := by decide +kernel
theorem dX1_mayEat_16 : decode cX1_mayEat 16 = .ok (.iconst 0, 1) := by decide +kernel
theorem dX1_mayEat_17 : decode cX1_mayEat 17 = .ok (.ireturn, 1) := by decide +kernel
theorem dX1_mayEat_18 : decode cX1_mayEat 18 = .ok (.aload_n 0, 1) := by decide +kernel
theorem dX1_mayEat_19 : decode cX1_mayEat 19 = .ok (.iload_n 1, 1) := by decide +kernel
theorem dX1_mayEat_20 : decode cX1_mayEat 20 = .ok (.iload_n 2, 1) := by decide +kernel
theorem dX1_mayEat_21 : decode cX1_mayEat 21 = .ok (.invokevirtual 66, 3) := by decide +kernel
theorem dX1_mayEat_24 : decode cX1_mayEat 24 = .ok (.ifCond .eq 15, 3) := by decide +kernel
theorem dX1_mayEat_27 : decode cX1_mayEat 27 = .ok (.aload_n 0, 1) := by decide +kernel
theorem dX1_mayEat_28 : decode cX1_mayEat 28 = .ok (.iload_n 1, 1) := by decide +kernel
theorem dX1_mayEat_29 : decode cX1_mayEat 29 = .ok (.invokevirtual 83, 3) := by decide +kernel
theorem dX1_mayEat_32 : decode cX1_mayEat 32 = .ok (.aload_n 0, 1) := by decide +kernel
theorem dX1_mayEat_33 : decode cX1_mayEat 33 = .ok (.getfield 39, 3) := by decide +kernel
theorem dX1_mayEat_36 : decode cX1_mayEat 36 = .ok (.if_icmp .ge 7, 3) := by decide +kernel
theorem dX1_mayEat_39 : decode cX1_mayEat 39 = .ok (.iconst 1, 1) := by decide +kernel
theorem dX1_mayEat_40 : decode cX1_mayEat 40 = .ok (.goto 4, 3) := by decide +kernel
theorem dX1_mayEat_43 : decode cX1_mayEat 43 = .ok (.iconst 0, 1) := by decide +kernel
theorem dX1_mayEat_44 : decode cX1_mayEat 44 = .ok (.ireturn, 1) := by decide +kernel
theorem dX1_maySell_0 : decode cX1_maySell 0 = .ok (.aload_n 0, 1) := by decide +kernel
theorem dX1_maySell_1 : decode cX1_maySell 1 = .ok (.iload_n 2, 1) := by decide +kernel
theorem dX1_maySell_2 : decode cX1_maySell 2 = .ok (.invokevirtual 79, 3) := by decide +kernel
theorem dX1_maySell_5 : decode cX1_maySell 5 = .ok (.ifCond .eq 25, 3) := by decide +kernel
theorem dX1_maySell_8 : decode cX1_maySell 8 = .ok (.aload_n 0, 1) := by decide +kernel
theorem dX1_maySell_9 : decode cX1_maySell 9 = .ok (.iload_n 1, 1) := by decide +kernel
theorem dX1_maySell_10 : decode cX1_maySell 10 = .ok (.iload_n 2, 1) := by decide +kernel
theorem dX1_maySell_11 : decode cX1_maySell 11 = .ok (.invokevirtual 66, 3) := by decide +kernel
theorem dX1_maySell_14 : decode cX1_maySell 14 = .ok (.ifCond .eq 16, 3) := by decide +kernel
theorem dX1_maySell_17 : decode cX1_maySell 17 = .ok (.iload_n 1, 1) := by decide +kernel
theorem dX1_maySell_18 : decode cX1_maySell 18 = .ok (.iload_n 2, 1) := by decide +kernel
theorem dX1_maySell_19 : decode cX1_maySell 19 = .ok (.invokestatic 73, 3) := by decide +kernel
theorem dX1_maySell_22 : decode cX1_maySell 22 = .ok (.iconst 1, 1) := by decide +kernel
theorem dX1_maySell_23 : decode cX1_maySell 23 = .ok (.if_icmp .gt 7, 3) := by decide +kernel
theorem dX1_maySell_26 : decode cX1_maySell 26 = .ok (.iconst 1, 1) := by decide +kernel
theorem dX1_maySell_27 : decode cX1_maySell 27 = .ok (.goto 4, 3) := by decide +kernel
theorem dX1_maySell_30 : decode cX1_maySell 30 = .ok (.iconst 0, 1) := by decide +kernel
theorem dX1_maySell_31 : decode cX1_maySell 31 = .ok (.ireturn, 1) := by decide +kernel
theorem dX1_mayBe_0 : decode cX1_mayBe 0 = .ok (.iload_n 2, 1) := by decide +kernel
theorem dX1_mayBe_1 : decode cX1_mayBe 1 = .ok (.iconst 3, 1) := by decide +kernel
theorem dX1_mayBe_2 : decode cX1_mayBe 2 = .ok (.if_icmp .ge 10, 3) := by decide +kernel
theorem dX1_mayBe_5 : decode cX1_mayBe 5 = .ok (.aload_n 0, 1) := by decide +kernel
theorem dX1_mayBe_6 : decode cX1_mayBe 6 = .ok (.iload_n 1, 1) := by decide +kernel
theorem dX1_mayBe_7 : decode cX1_mayBe 7 = .ok (.iload_n 2, 1) := by decide +kernel
theorem dX1_mayBe_8 : decode cX1_mayBe 8 = .ok (.invokevirtual 86, 3) := by decide +kernel
theorem dX1_mayBe_11 : decode cX1_mayBe 11 = .ok (.ireturn, 1) := by decide +kernel
theorem dX1_mayBe_12 : decode cX1_mayBe 12 = .ok (.iload_n 2, 1) := by decide +kernel
theorem dX1_mayBe_13 : decode cX1_mayBe 13 = .ok (.bipush 6, 2) := by decide +kernel
theorem dX1_mayBe_15 : decode cX1_mayBe 15 = .ok (.if_icmp .eq 14, 3) := by decide +kernel
theorem dX1_mayBe_18 : decode cX1_mayBe 18 = .ok (.aload_n 0, 1) := by decide +kernel
theorem dX1_mayBe_19 : decode cX1_mayBe 19 = .ok (.iload_n 1, 1) := by decide +kernel
theorem dX1_mayBe_20 : decode cX1_mayBe 20 = .ok (.iload_n 2, 1) := by decide +kernel
theorem dX1_mayBe_21 : decode cX1_mayBe 21 = .ok (.iconst 3, 1) := by decide +kernel
theorem dX1_mayBe_22 : decode cX1_mayBe 22 = .ok (.isub, 1) := by decide +kernel
theorem dX1_mayBe_23 : decode cX1_mayBe 23 = .ok (.invokevirtual 89, 3) := by decide +kernel
theorem dX1_mayBe_26 : decode cX1_mayBe 26 = .ok (.ifCond .eq 7, 3) := by decide +kernel
theorem dX1_mayBe_29 : decode cX1_mayBe 29 = .ok (.iconst 1, 1) := by decide +kernel
theorem dX1_mayBe_30 : decode cX1_mayBe 30 = .ok (.goto 4, 3) := by decide +kernel
theorem dX1_mayBe_33 : decode cX1_mayBe 33 = .ok (.iconst 0, 1) := by decide +kernel
theorem dX1_mayBe_34 : decode cX1_mayBe 34 = .ok (.ireturn, 1) := by decide +kernel
theorem dX1_hadBy_0 : decode cX1_hadBy 0 = .ok (.iload_n 2, 1) := by decide +kernel
theorem dX1_hadBy_1 : decode cX1_hadBy 1 = .ok (.bipush 6, 2) := by decide +kernel
theorem dX1_hadBy_3 : decode cX1_hadBy 3 = .ok (.if_icmp .ne 5, 3) := by decide +kernel
theorem dX1_hadBy_6 : decode cX1_hadBy 6 = .ok (.iconst 0, 1) := by decide +kernel
theorem dX1_hadBy_7 : decode cX1_hadBy 7 = .ok (.ireturn, 1) := by decide +kernel
theorem dX1_hadBy_8 : decode cX1_hadBy 8 = .ok (.iload_n 2, 1) := by decide +kernel
theorem dX1_hadBy_9 : decode cX1_hadBy 9 = .ok (.iconst 3, 1) := by decide +kernel
theorem dX1_hadBy_10 : decode cX1_hadBy 10 = .ok (.if_icmp .ge 10, 3) := by decide +kernel
theorem dX1_hadBy_13 : decode cX1_hadBy 13 = .ok (.aload_n 0, 1) := by decide +kernel
theorem dX1_hadBy_14 : decode cX1_hadBy 14 = .ok (.iload_n 1, 1) := by decide +kernel
theorem dX1_hadBy_15 : decode cX1_hadBy 15 = .ok (.iload_n 2, 1) := by decide +kernel
theorem dX1_hadBy_16 : decode cX1_hadBy 16 = .ok (.invokevirtual 92, 3) := by decide +kernel
theorem dX1_hadBy_19 : decode cX1_hadBy 19 = .ok (.ireturn, 1) := by decide +kernel
theorem dX1_hadBy_20 : decode cX1_hadBy 20 = .ok (.iload_n 1, 1) := by decide +kernel
theorem dX1_hadBy_21 : decode cX1_hadBy 21 = .ok (.iload_n 2, 1) := by decide +kernel
theorem dX1_hadBy_22 : decode cX1_hadBy 22 = .ok (.iconst 3, 1) := by decide +kernel
theorem dX1_hadBy_23 : decode cX1_hadBy 23 = .ok (.isub, 1) := by decide +kernel
theorem dX1_hadBy_24 : decode cX1_hadBy 24 = .ok (.invokestatic 62, 3) := by decide +kernel
theorem dX1_hadBy_27 : decode cX1_hadBy 27 = .ok (.aload_n 0, 1) := by decide +kernel
theorem dX1_hadBy_28 : decode cX1_hadBy 28 = .ok (.iload_n 3, 1) := by decide +kernel
theorem dX1_hadBy_29 : decode cX1_hadBy 29 = .ok (.invokevirtual 95, 3) := by decide +kernel
theorem dX1_hadBy_32 : decode cX1_hadBy 32 = .ok (.imul, 1) := by decide +kernel
theorem dX1_hadBy_33 : decode cX1_hadBy 33 = .ok (.ireturn, 1) := by decide +kernel
theorem dX1_standAfter_0 : decode cX1_standAfter 0 = .ok (.iload_n 2, 1) := by decide +kernel
theorem dX1_standAfter_1 : decode cX1_standAfter 1 = .ok (.bipush 6, 2) := by decide +kernel
theorem dX1_standAfter_3 : decode cX1_standAfter 3 = .ok (.if_icmp .ne 5, 3) := by decide +kernel
theorem dX1_standAfter_6 : decode cX1_standAfter 6 = .ok (.iload_n 1, 1) := by decide +kernel
theorem dX1_standAfter_7 : decode cX1_standAfter 7 = .ok (.ireturn, 1) := by decide +kernel
theorem dX1_standAfter_8 : decode cX1_standAfter 8 = .ok (.iload_n 2, 1) := by decide +kernel
theorem dX1_standAfter_9 : decode cX1_standAfter 9 = .ok (.iconst 3, 1) := by decide +kernel
theorem dX1_standAfter_10 : decode cX1_standAfter 10 = .ok (.if_icmp .ge 12, 3) := by decide +kernel
theorem dX1_standAfter_13 : decode cX1_standAfter 13 = .ok (.iload_n 1, 1) := by decide +kernel
theorem dX1_standAfter_14 : decode cX1_standAfter 14 = .ok (.iload_n 2, 1) := by decide +kernel
theorem dX1_standAfter_15 : decode cX1_standAfter 15 = .ok (.iconst 0, 1) := by decide +kernel
theorem dX1_standAfter_16 : decode cX1_standAfter 16 = .ok (.iconst 1, 1) := by decide +kernel
theorem dX1_standAfter_17 : decode cX1_standAfter 17 = .ok (.invokestatic 58, 3) := by decide +kernel
theorem dX1_standAfter_20 : decode cX1_standAfter 20 = .ok (.isub, 1) := by decide +kernel
theorem dX1_standAfter_21 : decode cX1_standAfter 21 = .ok (.ireturn, 1) := by decide +kernel
theorem dX1_standAfter_22 : decode cX1_standAfter 22 = .ok (.iload_n 2, 1) := by decide +kernel
theorem dX1_standAfter_23 : decode cX1_standAfter 23 = .ok (.iconst 3, 1) := by decide +kernel
theorem dX1_standAfter_24 : decode cX1_standAfter 24 = .ok (.isub, 1) := by decide +kernel
theorem dX1_standAfter_25 : decode cX1_standAfter 25 = .ok (.istore_n 3, 1) := by decide +kernel
theorem dX1_standAfter_26 : decode cX1_standAfter 26 = .ok (.iload_n 1, 1) := by decide +kernel
theorem dX1_standAfter_27 : decode cX1_standAfter 27 = .ok (.iload_n 3, 1) := by decide +kernel
theorem dX1_standAfter_28 : decode cX1_standAfter 28 = .ok (.iconst 0, 1) := by decide +kernel
theorem dX1_standAfter_29 : decode cX1_standAfter 29 = .ok (.iload_n 1, 1) := by decide +kernel
theorem dX1_standAfter_30 : decode cX1_standAfter 30 = .ok (.iload_n 3, 1) := by decide +kernel
theorem dX1_standAfter_31 : decode cX1_standAfter 31 = .ok (.invokestatic 62, 3) := by decide +kernel
theorem dX1_standAfter_34 : decode cX1_standAfter 34 = .ok (.invokestatic 58, 3) := by decide +kernel
theorem dX1_standAfter_37 : decode cX1_standAfter 37 = .ok (.isub, 1) := by decide +kernel
theorem dX1_standAfter_38 : decode cX1_standAfter 38 = .ok (.ireturn, 1) := by decide +kernel
theorem dX1_mayGoOn_0 : decode cX1_mayGoOn 0 = .ok (.iload_n 1, 1) := by decide +kernel
theorem dX1_mayGoOn_1 : decode cX1_mayGoOn 1 = .ok (.iload_n 3, 1) := by decide +kernel
theorem dX1_mayGoOn_2 : decode cX1_mayGoOn 2 = .ok (.invokestatic 62, 3) := by decide +kernel
theorem dX1_mayGoOn_5 : decode cX1_mayGoOn 5 = .ok (.ifCond .le 24, 3) := by decide +kernel
theorem dX1_mayGoOn_8 : decode cX1_mayGoOn 8 = .ok (.iload_n 2, 1) := by decide +kernel
theorem dX1_mayGoOn_9 : decode cX1_mayGoOn 9 = .ok (.iload_n 3, 1) := by decide +kernel
theorem dX1_mayGoOn_10 : decode cX1_mayGoOn 10 = .ok (.invokestatic 98, 3) := by decide +kernel
theorem dX1_mayGoOn_13 : decode cX1_mayGoOn 13 = .ok (.ifCond .ne 16, 3) := by decide +kernel
theorem dX1_mayGoOn_16 : decode cX1_mayGoOn 16 = .ok (.iload_n 1, 1) := by decide +kernel
theorem dX1_mayGoOn_17 : decode cX1_mayGoOn 17 = .ok (.iload_n 3, 1) := by decide +kernel
theorem dX1_mayGoOn_18 : decode cX1_mayGoOn 18 = .ok (.invokestatic 73, 3) := by decide +kernel
theorem dX1_mayGoOn_21 : decode cX1_mayGoOn 21 = .ok (.iconst 3, 1) := by decide +kernel
theorem dX1_mayGoOn_22 : decode cX1_mayGoOn 22 = .ok (.if_icmp .ge 7, 3) := by decide +kernel
theorem dX1_mayGoOn_25 : decode cX1_mayGoOn 25 = .ok (.iconst 1, 1) := by decide +kernel
theorem dX1_mayGoOn_26 : decode cX1_mayGoOn 26 = .ok (.goto 4, 3) := by decide +kernel
theorem dX1_mayGoOn_29 : decode cX1_mayGoOn 29 = .ok (.iconst 0, 1) := by decide +kernel
theorem dX1_mayGoOn_30 : decode cX1_mayGoOn 30 = .ok (.ireturn, 1) := by decide +kernel
theorem dX1_tenthsNow_0 : decode cX1_tenthsNow 0 = .ok (.aload_n 0, 1) := by decide +kernel
theorem dX1_tenthsNow_1 : decode cX1_tenthsNow 1 = .ok (.iload_n 1, 1) := by decide +kernel
theorem dX1_tenthsNow_2 : decode cX1_tenthsNow 2 = .ok (.iload_n 2, 1) := by decide +kernel
theorem dX1_tenthsNow_3 : decode cX1_tenthsNow 3 = .ok (.iload_n 3, 1) := by decide +kernel
theorem dX1_tenthsNow_4 : decode cX1_tenthsNow 4 = .ok (.invokevirtual 101, 3) := by decide +kernel
theorem dX1_tenthsNow_7 : decode cX1_tenthsNow 7 = .ok (.ifCond .ne 5, 3) := by decide +kernel
theorem dX1_tenthsNow_10 : decode cX1_tenthsNow 10 = .ok (.iconst 0, 1) := by decide +kernel
theorem dX1_tenthsNow_11 : decode cX1_tenthsNow 11 = .ok (.ireturn, 1) := by decide +kernel
theorem dX1_tenthsNow_12 : decode cX1_tenthsNow 12 = .ok (.aload_n 0, 1) := by decide +kernel
theorem dX1_tenthsNow_13 : decode cX1_tenthsNow 13 = .ok (.aload_n 0, 1) := by decide +kernel
theorem dX1_tenthsNow_14 : decode cX1_tenthsNow 14 = .ok (.iload_n 3, 1) := by decide +kernel
theorem dX1_tenthsNow_15 : decode cX1_tenthsNow 15 = .ok (.invokevirtual 70, 3) := by decide +kernel
theorem dX1_tenthsNow_18 : decode cX1_tenthsNow 18 = .ok (.iload_n 1, 1) := by decide +kernel
theorem dX1_tenthsNow_19 : decode cX1_tenthsNow 19 = .ok (.iload_n 3, 1) := by decide +kernel
theorem dX1_tenthsNow_20 : decode cX1_tenthsNow 20 = .ok (.invokestatic 73, 3) := by decide +kernel
theorem dX1_tenthsNow_23 : decode cX1_tenthsNow 23 = .ok (.aload_n 0, 1) := by decide +kernel
theorem dX1_tenthsNow_24 : decode cX1_tenthsNow 24 = .ok (.iload_n 1, 1) := by decide +kernel
theorem dX1_tenthsNow_25 : decode cX1_tenthsNow 25 = .ok (.iload_n 3, 1) := by decide +kernel
theorem dX1_tenthsNow_26 : decode cX1_tenthsNow 26 = .ok (.invokevirtual 66, 3) := by decide +kernel
theorem dX1_tenthsNow_29 : decode cX1_tenthsNow 29 = .ok (.ifCond .ne 7, 3) := by decide +kernel
theorem dX1_tenthsNow_32 : decode cX1_tenthsNow 32 = .ok (.iconst 1, 1) := by decide +kernel
theorem dX1_tenthsNow_33 : decode cX1_tenthsNow 33 = .ok (.goto 4, 3) := by decide +kernel
theorem dX1_tenthsNow_36 : decode cX1_tenthsNow 36 = .ok (.iconst 0, 1) := by decide +kernel
theorem dX1_tenthsNow_37 : decode cX1_tenthsNow 37 = .ok (.iload 4, 2) := by decide +kernel
theorem dX1_tenthsNow_39 : decode cX1_tenthsNow 39 = .ok (.invokevirtual 105, 3) := by decide +kernel
theorem dX1_tenthsNow_42 : decode cX1_tenthsNow 42 = .ok (.ireturn, 1) := by decide +kernel
theorem dX1_tenths_0 : decode cX1_tenths 0 = .ok (.iload_n 2, 1) := by decide +kernel
theorem dX1_tenths_1 : decode cX1_tenths 1 = .ok (.ifCond .lt 8, 3) := by decide +kernel
theorem dX1_tenths_4 : decode cX1_tenths 4 = .ok (.iload_n 2, 1) := by decide +kernel
theorem dX1_tenths_5 : decode cX1_tenths 5 = .ok (.iconst 3, 1) := by decide +kernel
theorem dX1_tenths_6 : decode cX1_tenths 6 = .ok (.if_icmp .lt 5, 3) := by decide +kernel
theorem dX1_tenths_9 : decode cX1_tenths 9 = .ok (.iconst 0, 1) := by decide +kernel
theorem dX1_tenths_10 : decode cX1_tenths 10 = .ok (.ireturn, 1) := by decide +kernel
theorem dX1_tenths_11 : decode cX1_tenths 11 = .ok (.aload_n 0, 1) := by decide +kernel
theorem dX1_tenths_12 : decode cX1_tenths 12 = .ok (.iload_n 1, 1) := by decide +kernel
theorem dX1_tenths_13 : decode cX1_tenths 13 = .ok (.iload_n 3, 1) := by decide +kernel
theorem dX1_tenths_14 : decode cX1_tenths 14 = .ok (.ifCond .eq 8, 3) := by decide +kernel
theorem dX1_tenths_17 : decode cX1_tenths 17 = .ok (.bipush 7, 2) := by decide +kernel
theorem dX1_tenths_19 : decode cX1_tenths 19 = .ok (.goto 4, 3) := by decide +kernel
theorem dX1_tenths_22 : decode cX1_tenths 22 = .ok (.iconst 4, 1) := by decide +kernel
theorem dX1_tenths_23 : decode cX1_tenths 23 = .ok (.iload_n 2, 1) := by decide +kernel
theorem dX1_tenths_24 : decode cX1_tenths 24 = .ok (.iadd, 1) := by decide +kernel
theorem dX1_tenths_25 : decode cX1_tenths 25 = .ok (.invokevirtual 76, 3) := by decide +kernel
theorem dX1_tenths_28 : decode cX1_tenths 28 = .ok (.istore 5, 2) := by decide +kernel
theorem dX1_tenths_30 : decode cX1_tenths 30 = .ok (.iload 5, 2) := by decide +kernel
theorem dX1_tenths_32 : decode cX1_tenths 32 = .ok (.ifCond .ne 7, 3) := by decide +kernel
theorem dX1_tenths_35 : decode cX1_tenths 35 = .ok (.iconst 0, 1) := by decide +kernel
theorem dX1_tenths_36 : decode cX1_tenths 36 = .ok (.goto 17, 3) := by decide +kernel
theorem dX1_tenths_39 : decode cX1_tenths 39 = .ok (.bipush 10, 2) := by decide +kernel
theorem dX1_tenths_41 : decode cX1_tenths 41 = .ok (.iload 5, 2) := by decide +kernel
theorem dX1_tenths_43 : decode cX1_tenths 43 = .ok (.aload_n 0, 1) := by decide +kernel
theorem dX1_tenths_44 : decode cX1_tenths 44 = .ok (.iload 4, 2) := by decide +kernel
theorem dX1_tenths_46 : decode cX1_tenths 46 = .ok (.invokevirtual 109, 3) := by decide +kernel
theorem dX1_tenths_49 : decode cX1_tenths 49 = .ok (.iadd, 1) := by decide +kernel
theorem dX1_tenths_50 : decode cX1_tenths 50 = .ok (.invokestatic 112, 3) := by decide +kernel
theorem dX1_tenths_53 : decode cX1_tenths 53 = .ok (.ireturn, 1) := by decide +kernel
theorem dX2_init_0 : decode cX2_init 0 = .ok (.aload_n 0, 1) := by decide +kernel
theorem dX2_init_1 : decode cX2_init 1 = .ok (.invokespecial 3, 3) := by decide +kernel
theorem dX2_init_4 : decode cX2_init 4 = .ok (.aload_n 0, 1) := by decide +kernel
theorem dX2_init_5 : decode cX2_init 5 = .ok (.lconst 0, 1) := by decide +kernel
theorem dX2_init_6 : decode cX2_init 6 = .ok (.putfield 9, 3) := by decide +kernel
theorem dX2_init_9 : decode cX2_init 9 = .ok (.aload_n 0, 1) := by decide +kernel
theorem dX2_init_10 : decode cX2_init 10 = .ok (.aload_n 1, 1) := by decide +kernel
theorem dX2_init_11 : decode cX2_init 11 = .ok (.putfield 15, 3) := by decide +kernel
theorem dX2_init_14 : decode cX2_init 14 = .ok (.return_, 1) := by decide +kernel
theorem dX2_byKind_0 : decode cX2_byKind 0 = .ok (.iload_n 1, 1) := by decide +kernel
theorem dX2_byKind_1 : decode cX2_byKind 1 = .ok (.tableswitch 81 0 5 #[39, 46, 53, 60, 67, 74], 39) := by decide +kernel
theorem dX2_byKind_40 : decode cX2_byKind 40 = .ok (.aload_n 0, 1) := by decide +kernel
theorem dX2_byKind_41 : decode cX2_byKind 41 = .ok (.iload_n 2, 1) := by decide +kernel
theorem dX2_byKind_42 : decode cX2_byKind 42 = .ok (.iload_n 3, 1) := by decide +kernel
theorem dX2_byKind_43 : decode cX2_byKind 43 = .ok (.invokevirtual 19, 3) := by decide +kernel
theorem dX2_byKind_46 : decode cX2_byKind 46 = .ok (.ireturn, 1) := by decide +kernel
theorem dX2_byKind_47 : decode cX2_byKind 47 = .ok (.aload_n 0, 1) := by decide +kernel
theorem dX2_byKind_48 : decode cX2_byKind 48 = .ok (.iload_n 2, 1) := by decide +kernel
theorem dX2_byKind_49 : decode cX2_byKind 49 = .ok (.iload_n 3, 1) := by decide +kernel
theorem dX2_byKind_50 : decode cX2_byKind 50 = .ok (.invokevirtual 23, 3) := by decide +kernel
theorem dX2_byKind_53 : decode cX2_byKind 53 = .ok (.ireturn, 1) := by decide +kernel
theorem dX2_byKind_54 : decode cX2_byKind 54 = .ok (.aload_n 0, 1) := by decide +kernel
theorem dX2_byKind_55 : decode cX2_byKind 55 = .ok (.iload_n 2, 1) := by decide +kernel
theorem dX2_byKind_56 : decode cX2_byKind 56 = .ok (.iload_n 3, 1) := by decide +kernel
theorem dX2_byKind_57 : decode cX2_byKind 57 = .ok (.invokevirtual 26, 3) := by decide +kernel
theorem dX2_byKind_60 : decode cX2_byKind 60 = .ok (.ireturn, 1) := by decide +kernel
theorem dX2_byKind_61 : decode cX2_byKind 61 = .ok (.aload_n 0, 1) := by decide +kernel
theorem dX2_byKind_62 : decode cX2_byKind 62 = .ok (.iload_n 2, 1) := by decide +kernel
theorem dX2_byKind_63 : decode cX2_byKind 63 = .ok (.iload_n 3, 1) := by decide +kernel
theorem dX2_byKind_64 : decode cX2_byKind 64 = .ok (.invokevirtual 29, 3) := by decide +kernel
theorem dX2_byKind_67 : decode cX2_byKind 67 = .ok (.ireturn, 1) := by decide +kernel
theorem dX2_byKind_68 : decode cX2_byKind 68 = .ok (.aload_n 0, 1) := by decide +kernel
theorem dX2_byKind_69 : decode cX2_byKind 69 = .ok (.iload_n 2, 1) := by decide +kernel
theorem dX2_byKind_70 : decode cX2_byKind 70 = .ok (.iload_n 3, 1) := by decide +kernel
theorem dX2_byKind_71 : decode cX2_byKind 71 = .ok (.invokevirtual 32, 3) := by decide +kernel
theorem dX2_byKind_74 : decode cX2_byKind 74 = .ok (.ireturn, 1) := by decide +kernel
theorem dX2_byKind_75 : decode cX2_byKind 75 = .ok (.aload_n 0, 1) := by decide +kernel
theorem dX2_byKind_76 : decode cX2_byKind 76 = .ok (.iload_n 2, 1) := by decide +kernel
theorem dX2_byKind_77 : decode cX2_byKind 77 = .ok (.iload_n 3, 1) := by decide +kernel
theorem dX2_byKind_78 : decode cX2_byKind 78 = .ok (.invokevirtual 35, 3) := by decide +kernel
theorem dX2_byKind_81 : decode cX2_byKind 81 = .ok (.ireturn, 1) := by decide +kernel
theorem dX2_byKind_82 : decode cX2_byKind 82 = .ok (.ldc 38, 2) := by decide +kernel
theorem dX2_byKind_84 : decode cX2_byKind 84 = .ok (.ireturn, 1) := by decide +kernel
theorem dX2_asRule_0 : decode cX2_asRule 0 = .ok (.aload_n 0, 1) := by decide +kernel
theorem dX2_asRule_1 : decode cX2_asRule 1 = .ok (.dup, 1) := by decide +kernel
theorem dX2_asRule_2 : decode cX2_asRule 2 = .ok (.getfield 9, 3) := by decide +kernel
theorem dX2_asRule_5 : decode cX2_asRule 5 = .ok (.lconst 1, 1) := by decide +kernel
theorem dX2_asRule_6 : decode cX2_asRule 6 = .ok (.ladd, 1) := by decide +kernel
theorem dX2_asRule_7 : decode cX2_asRule 7 = .ok (.putfield 9, 3) := by decide +kernel
theorem dX2_asRule_10 : decode cX2_asRule 10 = .ok (.iload_n 1, 1) := by decide +kernel
theorem dX2_asRule_11 : decode cX2_asRule 11 = .ok (.iload_n 2, 1) := by decide +kernel
theorem dX2_asRule_12 : decode cX2_asRule 12 = .ok (.invokestatic 39, 3) := by decide +kernel
theorem dX2_asRule_15 : decode cX2_asRule 15 = .ok (.ireturn, 1) := by decide +kernel
theorem dX2_asOld_0 : decode cX2_asOld 0 = .ok (.aload_n 0, 1) := by decide +kernel
theorem dX2_asOld_1 : decode cX2_asOld 1 = .ok (.dup, 1) := by decide +kernel
theorem dX2_asOld_2 : decode cX2_asOld 2 = .ok (.getfield 9, 3) := by decide +kernel
theorem dX2_asOld_5 : decode cX2_asOld 5 = .ok (.ldc2_w 42, 3) := by decide +kernel
theorem dX2_asOld_8 : decode cX2_asOld 8 = .ok (.ladd, 1) := by decide +kernel
theorem dX2_asOld_9 : decode cX2_asOld 9 = .ok (.putfield 9, 3) := by decide +kernel
theorem dX2_asOld_12 : decode cX2_asOld 12 = .ok (.aload_n 0, 1) := by decide +kernel
theorem dX2_asOld_13 : decode cX2_asOld 13 = .ok (.iload_n 1, 1) := by decide +kernel
theorem dX2_asOld_14 : decode cX2_asOld 14 = .ok (.iload_n 2, 1) := by decide +kernel
theorem dX2_asOld_15 : decode cX2_asOld 15 = .ok (.invokevirtual 19, 3) := by decide +kernel
theorem dX2_asOld_18 : decode cX2_asOld 18 = .ok (.iload_n 1, 1) := by decide +kernel
theorem dX2_asOld_19 : decode cX2_asOld 19 = .ok (.iload_n 2, 1) := by decide +kernel
theorem dX2_asOld_20 : decode cX2_asOld 20 = .ok (.invokestatic 44, 3) := by decide +kernel
theorem dX2_asOld_23 : decode cX2_asOld 23 = .ok (.iadd, 1) := by decide +kernel
theorem dX2_asOld_24 : decode cX2_asOld 24 = .ok (.ireturn, 1) := by decide +kernel
theorem dX2_asBest_0 : decode cX2_asBest 0 = .ok (.aload_n 0, 1) := by decide +kernel
theorem dX2_asBest_1 : decode cX2_asBest 1 = .ok (.dup, 1) := by decide +kernel
theorem dX2_asBest_2 : decode cX2_asBest 2 = .ok (.getfield 9, 3) := by decide +kernel
theorem dX2_asBest_5 : decode cX2_asBest 5 = .ok (.ldc2_w 47, 3) := by decide +kernel
theorem dX2_asBest_8 : decode cX2_asBest 8 = .ok (.ladd, 1) := by decide +kernel
theorem dX2_asBest_9 : decode cX2_asBest 9 = .ok (.putfield 9, 3) := by decide +kernel
theorem dX2_asBest_12 : decode cX2_asBest 12 = .ok (.aload_n 0, 1) := by decide +kernel
theorem dX2_asBest_13 : decode cX2_asBest 13 = .ok (.iload_n 1, 1) := by decide +kernel
theorem dX2_asBest_14 : decode cX2_asBest 14 = .ok (.iload_n 2, 1) := by decide +kernel
theorem dX2_asBest_15 : decode cX2_asBest 15 = .ok (.invokevirtual 19, 3) := by decide +kernel
theorem dX2_asBest_18 : decode cX2_asBest 18 = .ok (.aload_n 0, 1) := by decide +kernel
theorem dX2_asBest_19 : decode cX2_asBest 19 = .ok (.getfield 15, 3) := by decide +kernel
theorem dX2_asBest_22 : decode cX2_asBest 22 = .ok (.iload_n 1, 1) := by decide +kernel
theorem dX2_asBest_23 : decode cX2_asBest 23 = .ok (.iload_n 2, 1) := by decide +kernel
theorem dX2_asBest_24 : decode cX2_asBest 24 = .ok (.invokevirtual 49, 3) := by decide +kernel
theorem dX2_asBest_27 : decode cX2_asBest 27 = .ok (.imul, 1) := by decide +kernel
theorem dX2_asBest_28 : decode cX2_asBest 28 = .ok (.ireturn, 1) := by decide +kernel
