theorem dX8_cellar_16 : decode cX8_cellar 16 = .ok (.iload_n 1, 1) := by decide +kernel
theorem dX8_cellar_17 : decode cX8_cellar 17 = .ok (.ireturn, 1) := by decide +kernel
theorem dX8_cellar_18 : decode cX8_cellar 18 = .ok (.aload_n 0, 1) := by decide +kernel
theorem dX8_cellar_19 : decode cX8_cellar 19 = .ok (.iconst 0, 1) := by decide +kernel
theorem dX8_cellar_20 : decode cX8_cellar 20 = .ok (.putfield 13, 3) := by decide +kernel
theorem dX8_cellar_23 : decode cX8_cellar 23 = .ok (.aload_n 0, 1) := by decide +kernel
theorem dX8_cellar_24 : decode cX8_cellar 24 = .ok (.getfield 20, 3) := by decide +kernel
theorem dX8_cellar_27 : decode cX8_cellar 27 = .ok (.aload_n 0, 1) := by decide +kernel
theorem dX8_cellar_28 : decode cX8_cellar 28 = .ok (.getfield 24, 3) := by decide +kernel
theorem dX8_cellar_31 : decode cX8_cellar 31 = .ok (.invokevirtual 96, 3) := by decide +kernel
theorem dX8_cellar_34 : decode cX8_cellar 34 = .ok (.aload_n 0, 1) := by decide +kernel
theorem dX8_cellar_35 : decode cX8_cellar 35 = .ok (.getfield 39, 3) := by decide +kernel
theorem dX8_cellar_38 : decode cX8_cellar 38 = .ok (.aload_n 0, 1) := by decide +kernel
theorem dX8_cellar_39 : decode cX8_cellar 39 = .ok (.getfield 20, 3) := by decide +kernel
theorem dX8_cellar_42 : decode cX8_cellar 42 = .ok (.invokevirtual 99, 3) := by decide +kernel
theorem dX8_cellar_45 : decode cX8_cellar 45 = .ok (.invokevirtual 103, 3) := by decide +kernel
theorem dX8_cellar_48 : decode cX8_cellar 48 = .ok (.aload_n 0, 1) := by decide +kernel
theorem dX8_cellar_49 : decode cX8_cellar 49 = .ok (.getfield 43, 3) := by decide +kernel
theorem dX8_cellar_52 : decode cX8_cellar 52 = .ok (.iconst 0, 1) := by decide +kernel
theorem dX8_cellar_53 : decode cX8_cellar 53 = .ok (.putfield 107, 3) := by decide +kernel
theorem dX8_cellar_56 : decode cX8_cellar 56 = .ok (.aload_n 0, 1) := by decide +kernel
theorem dX8_cellar_57 : decode cX8_cellar 57 = .ok (.getfield 46, 3) := by decide +kernel
theorem dX8_cellar_60 : decode cX8_cellar 60 = .ok (.iconst 0, 1) := by decide +kernel
theorem dX8_cellar_61 : decode cX8_cellar 61 = .ok (.putfield 107, 3) := by decide +kernel
theorem dX8_cellar_64 : decode cX8_cellar 64 = .ok (.aload_n 0, 1) := by decide +kernel
theorem dX8_cellar_65 : decode cX8_cellar 65 = .ok (.getfield 78, 3) := by decide +kernel
theorem dX8_cellar_68 : decode cX8_cellar 68 = .ok (.iconst 0, 1) := by decide +kernel
theorem dX8_cellar_69 : decode cX8_cellar 69 = .ok (.invokevirtual 111, 3) := by decide +kernel
theorem dX8_cellar_72 : decode cX8_cellar 72 = .ok (.aload_n 0, 1) := by decide +kernel
theorem dX8_cellar_73 : decode cX8_cellar 73 = .ok (.getfield 54, 3) := by decide +kernel
theorem dX8_cellar_76 : decode cX8_cellar 76 = .ok (.invokevirtual 112, 3) := by decide +kernel
theorem dX8_cellar_79 : decode cX8_cellar 79 = .ok (.aload_n 0, 1) := by decide +kernel
theorem dX8_cellar_80 : decode cX8_cellar 80 = .ok (.getfield 58, 3) := by decide +kernel
theorem dX8_cellar_83 : decode cX8_cellar 83 = .ok (.invokevirtual 112, 3) := by decide +kernel
theorem dX8_cellar_86 : decode cX8_cellar 86 = .ok (.aload_n 0, 1) := by decide +kernel
theorem dX8_cellar_87 : decode cX8_cellar 87 = .ok (.getfield 64, 3) := by decide +kernel
theorem dX8_cellar_90 : decode cX8_cellar 90 = .ok (.invokevirtual 115, 3) := by decide +kernel
theorem dX8_cellar_93 : decode cX8_cellar 93 = .ok (.iload_n 1, 1) := by decide +kernel
theorem dX8_cellar_94 : decode cX8_cellar 94 = .ok (.ireturn, 1) := by decide +kernel
theorem dX8_sort_0 : decode cX8_sort 0 = .ok (.aload_n 0, 1) := by decide +kernel
theorem dX8_sort_1 : decode cX8_sort 1 = .ok (.getfield 20, 3) := by decide +kernel
theorem dX8_sort_4 : decode cX8_sort 4 = .ok (.iload_n 1, 1) := by decide +kernel
theorem dX8_sort_5 : decode cX8_sort 5 = .ok (.invokevirtual 116, 3) := by decide +kernel
theorem dX8_sort_8 : decode cX8_sort 8 = .ok (.ifCond .eq 13, 3) := by decide +kernel
theorem dX8_sort_11 : decode cX8_sort 11 = .ok (.iload_n 2, 1) := by decide +kernel
theorem dX8_sort_12 : decode cX8_sort 12 = .ok (.ifCond .lt 9, 3) := by decide +kernel
theorem dX8_sort_15 : decode cX8_sort 15 = .ok (.iload_n 2, 1) := by decide +kernel
theorem dX8_sort_16 : decode cX8_sort 16 = .ok (.bipush 14, 2) := by decide +kernel
theorem dX8_sort_18 : decode cX8_sort 18 = .ok (.if_icmp .lt 5, 3) := by decide +kernel
theorem dX8_sort_21 : decode cX8_sort 21 = .ok (.iconst (-1), 1) := by decide +kernel
theorem dX8_sort_22 : decode cX8_sort 22 = .ok (.ireturn, 1) := by decide +kernel
theorem dX8_sort_23 : decode cX8_sort 23 = .ok (.aload_n 0, 1) := by decide +kernel
theorem dX8_sort_24 : decode cX8_sort 24 = .ok (.getfield 20, 3) := by decide +kernel
theorem dX8_sort_27 : decode cX8_sort 27 = .ok (.iload_n 1, 1) := by decide +kernel
theorem dX8_sort_28 : decode cX8_sort 28 = .ok (.iload_n 2, 1) := by decide +kernel
theorem dX8_sort_29 : decode cX8_sort 29 = .ok (.invokevirtual 120, 3) := by decide +kernel
theorem dX8_sort_32 : decode cX8_sort 32 = .ok (.ireturn, 1) := by decide +kernel
theorem dX8_wheel_0 : decode cX8_wheel 0 = .ok (.aload_n 0, 1) := by decide +kernel
theorem dX8_wheel_1 : decode cX8_wheel 1 = .ok (.getfield 20, 3) := by decide +kernel
theorem dX8_wheel_4 : decode cX8_wheel 4 = .ok (.iload_n 1, 1) := by decide +kernel
theorem dX8_wheel_5 : decode cX8_wheel 5 = .ok (.invokevirtual 124, 3) := by decide +kernel
theorem dX8_wheel_8 : decode cX8_wheel 8 = .ok (.ifCond .ne 5, 3) := by decide +kernel
theorem dX8_wheel_11 : decode cX8_wheel 11 = .ok (.iconst (-1), 1) := by decide +kernel
theorem dX8_wheel_12 : decode cX8_wheel 12 = .ok (.ireturn, 1) := by decide +kernel
theorem dX8_wheel_13 : decode cX8_wheel 13 = .ok (.iload_n 2, 1) := by decide +kernel
theorem dX8_wheel_14 : decode cX8_wheel 14 = .ok (.tableswitch 178 0 7 #[46, 55, 64, 76, 88, 112, 132, 148], 46) := by decide +kernel
theorem dX8_wheel_60 : decode cX8_wheel 60 = .ok (.aload_n 0, 1) := by decide +kernel
theorem dX8_wheel_61 : decode cX8_wheel 61 = .ok (.getfield 20, 3) := by decide +kernel
theorem dX8_wheel_64 : decode cX8_wheel 64 = .ok (.iload_n 1, 1) := by decide +kernel
theorem dX8_wheel_65 : decode cX8_wheel 65 = .ok (.invokevirtual 127, 3) := by decide +kernel
theorem dX8_wheel_68 : decode cX8_wheel 68 = .ok (.ireturn, 1) := by decide +kernel
theorem dX8_wheel_69 : decode cX8_wheel 69 = .ok (.aload_n 0, 1) := by decide +kernel
theorem dX8_wheel_70 : decode cX8_wheel 70 = .ok (.getfield 20, 3) := by decide +kernel
theorem dX8_wheel_73 : decode cX8_wheel 73 = .ok (.iload_n 1, 1) := by decide +kernel
theorem dX8_wheel_74 : decode cX8_wheel 74 = .ok (.invokevirtual 130, 3) := by decide +kernel
theorem dX8_wheel_77 : decode cX8_wheel 77 = .ok (.ireturn, 1) := by decide +kernel
theorem dX8_wheel_78 : decode cX8_wheel 78 = .ok (.aload_n 0, 1) := by decide +kernel
theorem dX8_wheel_79 : decode cX8_wheel 79 = .ok (.getfield 39, 3) := by decide +kernel
theorem dX8_wheel_82 : decode cX8_wheel 82 = .ok (.getfield 133, 3) := by decide +kernel
theorem dX8_wheel_85 : decode cX8_wheel 85 = .ok (.iload_n 1, 1) := by decide +kernel
theorem dX8_wheel_86 : decode cX8_wheel 86 = .ok (.invokestatic 136, 3) := by decide +kernel
theorem dX8_wheel_89 : decode cX8_wheel 89 = .ok (.ireturn, 1) := by decide +kernel
theorem dX8_wheel_90 : decode cX8_wheel 90 = .ok (.aload_n 0, 1) := by decide +kernel
theorem dX8_wheel_91 : decode cX8_wheel 91 = .ok (.getfield 39, 3) := by decide +kernel
theorem dX8_wheel_94 : decode cX8_wheel 94 = .ok (.getfield 133, 3) := by decide +kernel
theorem dX8_wheel_97 : decode cX8_wheel 97 = .ok (.iload_n 1, 1) := by decide +kernel
theorem dX8_wheel_98 : decode cX8_wheel 98 = .ok (.invokestatic 139, 3) := by decide +kernel
theorem dX8_wheel_101 : decode cX8_wheel 101 = .ok (.ireturn, 1) := by decide +kernel
theorem dX8_wheel_102 : decode cX8_wheel 102 = .ok (.aload_n 0, 1) := by decide +kernel
theorem dX8_wheel_103 : decode cX8_wheel 103 = .ok (.getfield 20, 3) := by decide +kernel
theorem dX8_wheel_106 : decode cX8_wheel 106 = .ok (.aload_n 0, 1) := by decide +kernel
theorem dX8_wheel_107 : decode cX8_wheel 107 = .ok (.getfield 39, 3) := by decide +kernel
theorem dX8_wheel_110 : decode cX8_wheel 110 = .ok (.getfield 133, 3) := by decide +kernel
theorem dX8_wheel_113 : decode cX8_wheel 113 = .ok (.iload_n 1, 1) := by decide +kernel
theorem dX8_wheel_114 : decode cX8_wheel 114 = .ok (.invokevirtual 142, 3) := by decide +kernel
theorem dX8_wheel_117 : decode cX8_wheel 117 = .ok (.ifCond .eq 7, 3) := by decide +kernel
theorem dX8_wheel_120 : decode cX8_wheel 120 = .ok (.iconst 1, 1) := by decide +kernel
theorem dX8_wheel_121 : decode cX8_wheel 121 = .ok (.goto 4, 3) := by decide +kernel
theorem dX8_wheel_124 : decode cX8_wheel 124 = .ok (.iconst 0, 1) := by decide +kernel
theorem dX8_wheel_125 : decode cX8_wheel 125 = .ok (.ireturn, 1) := by decide +kernel
theorem dX8_wheel_126 : decode cX8_wheel 126 = .ok (.aload_n 0, 1) := by decide +kernel
theorem dX8_wheel_127 : decode cX8_wheel 127 = .ok (.getfield 39, 3) := by decide +kernel
theorem dX8_wheel_130 : decode cX8_wheel 130 = .ok (.getfield 146, 3) := by decide +kernel
theorem dX8_wheel_133 : decode cX8_wheel 133 = .ok (.iload_n 1, 1) := by decide +kernel
theorem dX8_wheel_134 : decode cX8_wheel 134 = .ok (.invokestatic 149, 3) := by decide +kernel
theorem dX8_wheel_137 : decode cX8_wheel 137 = .ok (.ifCond .eq 7, 3) := by decide +kernel
theorem dX8_wheel_140 : decode cX8_wheel 140 = .ok (.iconst 1, 1) := by decide +kernel
theorem dX8_wheel_141 : decode cX8_wheel 141 = .ok (.goto 4, 3) := by decide +kernel
theorem dX8_wheel_144 : decode cX8_wheel 144 = .ok (.iconst 0, 1) := by decide +kernel
theorem dX8_wheel_145 : decode cX8_wheel 145 = .ok (.ireturn, 1) := by decide +kernel
theorem dX8_wheel_146 : decode cX8_wheel 146 = .ok (.aload_n 0, 1) := by decide +kernel
theorem dX8_wheel_147 : decode cX8_wheel 147 = .ok (.getfield 20, 3) := by decide +kernel
theorem dX8_wheel_150 : decode cX8_wheel 150 = .ok (.aload_n 0, 1) := by decide +kernel
theorem dX8_wheel_151 : decode cX8_wheel 151 = .ok (.getfield 39, 3) := by decide +kernel
theorem dX8_wheel_154 : decode cX8_wheel 154 = .ok (.getfield 133, 3) := by decide +kernel
theorem dX8_wheel_157 : decode cX8_wheel 157 = .ok (.iload_n 1, 1) := by decide +kernel
theorem dX8_wheel_158 : decode cX8_wheel 158 = .ok (.invokevirtual 152, 3) := by decide +kernel
theorem dX8_wheel_161 : decode cX8_wheel 161 = .ok (.ireturn, 1) := by decide +kernel
theorem dX8_wheel_162 : decode cX8_wheel 162 = .ok (.aload_n 0, 1) := by decide +kernel
theorem dX8_wheel_163 : decode cX8_wheel 163 = .ok (.getfield 20, 3) := by decide +kernel
theorem dX8_wheel_166 : decode cX8_wheel 166 = .ok (.aload_n 0, 1) := by decide +kernel
theorem dX8_wheel_167 : decode cX8_wheel 167 = .ok (.getfield 39, 3) := by decide +kernel
theorem dX8_wheel_170 : decode cX8_wheel 170 = .ok (.getfield 133, 3) := by decide +kernel
theorem dX8_wheel_173 : decode cX8_wheel 173 = .ok (.aload_n 0, 1) := by decide +kernel
theorem dX8_wheel_174 : decode cX8_wheel 174 = .ok (.getfield 39, 3) := by decide +kernel
theorem dX8_wheel_177 : decode cX8_wheel 177 = .ok (.getfield 146, 3) := by decide +kernel
theorem dX8_wheel_180 : decode cX8_wheel 180 = .ok (.iload_n 1, 1) := by decide +kernel
theorem dX8_wheel_181 : decode cX8_wheel 181 = .ok (.aload_n 0, 1) := by decide +kernel
theorem dX8_wheel_182 : decode cX8_wheel 182 = .ok (.getfield 39, 3) := by decide +kernel
theorem dX8_wheel_185 : decode cX8_wheel 185 = .ok (.getfield 155, 3) := by decide +kernel
theorem dX8_wheel_188 : decode cX8_wheel 188 = .ok (.invokevirtual 158, 3) := by decide +kernel
theorem dX8_wheel_191 : decode cX8_wheel 191 = .ok (.ireturn, 1) := by decide +kernel
theorem dX8_wheel_192 : decode cX8_wheel 192 = .ok (.iconst (-1), 1) := by decide +kernel
theorem dX8_wheel_193 : decode cX8_wheel 193 = .ok (.ireturn, 1) := by decide +kernel
theorem dX8_week_0 : decode cX8_week 0 = .ok (.iload_n 1, 1) := by decide +kernel
theorem dX8_week_1 : decode cX8_week 1 = .ok (.ifCond .lt 18, 3) := by decide +kernel
theorem dX8_week_4 : decode cX8_week 4 = .ok (.iload_n 1, 1) := by decide +kernel
theorem dX8_week_5 : decode cX8_week 5 = .ok (.bipush 8, 2) := by decide +kernel
theorem dX8_week_7 : decode cX8_week 7 = .ok (.if_icmp .ge 12, 3) := by decide +kernel
theorem dX8_week_10 : decode cX8_week 10 = .ok (.iload_n 2, 1) := by decide +kernel
theorem dX8_week_11 : decode cX8_week 11 = .ok (.ifCond .lt 8, 3) := by decide +kernel
theorem dX8_week_14 : decode cX8_week 14 = .ok (.iload_n 2, 1) := by decide +kernel
theorem dX8_week_15 : decode cX8_week 15 = .ok (.iconst 1, 1) := by decide +kernel
theorem dX8_week_16 : decode cX8_week 16 = .ok (.if_icmp .le 5, 3) := by decide +kernel
theorem dX8_week_19 : decode cX8_week 19 = .ok (.iconst (-1), 1) := by decide +kernel
theorem dX8_week_20 : decode cX8_week 20 = .ok (.ireturn, 1) := by decide +kernel
theorem dX8_week_21 : decode cX8_week 21 = .ok (.iload_n 2, 1) := by decide +kernel
theorem dX8_week_22 : decode cX8_week 22 = .ok (.ifCond .ne 14, 3) := by decide +kernel
theorem dX8_week_25 : decode cX8_week 25 = .ok (.aload_n 0, 1) := by decide +kernel
theorem dX8_week_26 : decode cX8_week 26 = .ok (.getfield 20, 3) := by decide +kernel
theorem dX8_week_29 : decode cX8_week 29 = .ok (.iload_n 1, 1) := by decide +kernel
theorem dX8_week_30 : decode cX8_week 30 = .ok (.invokevirtual 162, 3) := by decide +kernel
theorem dX8_week_33 : decode cX8_week 33 = .ok (.goto 11, 3) := by decide +kernel
theorem dX8_week_36 : decode cX8_week 36 = .ok (.aload_n 0, 1) := by decide +kernel
theorem dX8_week_37 : decode cX8_week 37 = .ok (.getfield 20, 3) := by decide +kernel
theorem dX8_week_40 : decode cX8_week 40 = .ok (.iload_n 1, 1) := by decide +kernel
theorem dX8_week_41 : decode cX8_week 41 = .ok (.invokevirtual 165, 3) := by decide +kernel
theorem dX8_week_44 : decode cX8_week 44 = .ok (.ireturn, 1) := by decide +kernel
theorem dX8_place_0 : decode cX8_place 0 = .ok (.aload_n 0, 1) := by decide +kernel
theorem dX8_place_1 : decode cX8_place 1 = .ok (.getfield 20, 3) := by decide +kernel
theorem dX8_place_4 : decode cX8_place 4 = .ok (.iload_n 1, 1) := by decide +kernel
theorem dX8_place_5 : decode cX8_place 5 = .ok (.invokevirtual 124, 3) := by decide +kernel
theorem dX8_place_8 : decode cX8_place 8 = .ok (.ifCond .eq 12, 3) := by decide +kernel
theorem dX8_place_11 : decode cX8_place 11 = .ok (.iload_n 2, 1) := by decide +kernel
theorem dX8_place_12 : decode cX8_place 12 = .ok (.ifCond .lt 8, 3) := by decide +kernel
theorem dX8_place_15 : decode cX8_place 15 = .ok (.iload_n 2, 1) := by decide +kernel
theorem dX8_place_16 : decode cX8_place 16 = .ok (.iconst 3, 1) := by decide +kernel
theorem dX8_place_17 : decode cX8_place 17 = .ok (.if_icmp .le 5, 3) := by decide +kernel
theorem dX8_place_20 : decode cX8_place 20 = .ok (.iconst (-1), 1) := by decide +kernel
theorem dX8_place_21 : decode cX8_place 21 = .ok (.ireturn, 1) := by decide +kernel
theorem dX8_place_22 : decode cX8_place 22 = .ok (.iload_n 3, 1) := by decide +kernel
theorem dX8_place_23 : decode cX8_place 23 = .ok (.ifCond .lt 15, 3) := by decide +kernel
theorem dX8_place_26 : decode cX8_place 26 = .ok (.iload_n 3, 1) := by decide +kernel
theorem dX8_place_27 : decode cX8_place 27 = .ok (.aload_n 0, 1) := by decide +kernel
theorem dX8_place_28 : decode cX8_place 28 = .ok (.getfield 20, 3) := by decide +kernel
theorem dX8_place_31 : decode cX8_place 31 = .ok (.iload_n 1, 1) := by decide +kernel
theorem dX8_place_32 : decode cX8_place 32 = .ok (.invokevirtual 130, 3) := by decide +kernel
theorem dX8_place_35 : decode cX8_place 35 = .ok (.if_icmp .le 5, 3) := by decide +kernel
theorem dX8_place_38 : decode cX8_place 38 = .ok (.iconst (-1), 1) := by decide +kernel
theorem dX8_place_39 : decode cX8_place 39 = .ok (.ireturn, 1) := by decide +kernel
theorem dX8_place_40 : decode cX8_place 40 = .ok (.bipush 10, 2) := by decide +kernel
theorem dX8_place_42 : decode cX8_place 42 = .ok (.aload_n 0, 1) := by decide +kernel
theorem dX8_place_43 : decode cX8_place 43 = .ok (.getfield 39, 3) := by decide +kernel
theorem dX8_place_46 : decode cX8_place 46 = .ok (.getfield 133, 3) := by decide +kernel
theorem dX8_place_49 : decode cX8_place 49 = .ok (.iload_n 1, 1) := by decide +kernel
theorem dX8_place_50 : decode cX8_place 50 = .ok (.invokestatic 136, 3) := by decide +kernel
theorem dX8_place_53 : decode cX8_place 53 = .ok (.imul, 1) := by decide +kernel
theorem dX8_place_54 : decode cX8_place 54 = .ok (.aload_n 0, 1) := by decide +kernel
theorem dX8_place_55 : decode cX8_place 55 = .ok (.getfield 39, 3) := by decide +kernel
theorem dX8_place_58 : decode cX8_place 58 = .ok (.getfield 133, 3) := by decide +kernel
theorem dX8_place_61 : decode cX8_place 61 = .ok (.iload_n 1, 1) := by decide +kernel
theorem dX8_place_62 : decode cX8_place 62 = .ok (.invokestatic 139, 3) := by decide +kernel
theorem dX8_place_65 : decode cX8_place 65 = .ok (.iadd, 1) := by decide +kernel
theorem dX8_place_66 : decode cX8_place 66 = .ok (.istore 4, 2) := by decide +kernel
theorem dX8_place_68 : decode cX8_place 68 = .ok (.aload_n 0, 1) := by decide +kernel
theorem dX8_place_69 : decode cX8_place 69 = .ok (.getfield 39, 3) := by decide +kernel
theorem dX8_place_72 : decode cX8_place 72 = .ok (.aload_n 0, 1) := by decide +kernel
theorem dX8_place_73 : decode cX8_place 73 = .ok (.getfield 39, 3) := by decide +kernel
theorem dX8_place_76 : decode cX8_place 76 = .ok (.getfield 133, 3) := by decide +kernel
theorem dX8_place_79 : decode cX8_place 79 = .ok (.iload_n 1, 1) := by decide +kernel
theorem dX8_place_80 : decode cX8_place 80 = .ok (.invokestatic 168, 3) := by decide +kernel
theorem dX8_place_83 : decode cX8_place 83 = .ok (.iload_n 1, 1) := by decide +kernel
theorem dX8_place_84 : decode cX8_place 84 = .ok (.iload_n 2, 1) := by decide +kernel
theorem dX8_place_85 : decode cX8_place 85 = .ok (.iload_n 3, 1) := by decide +kernel
theorem dX8_place_86 : decode cX8_place 86 = .ok (.invokestatic 171, 3) := by decide +kernel
theorem dX8_place_89 : decode cX8_place 89 = .ok (.ior, 1) := by decide +kernel
theorem dX8_place_90 : decode cX8_place 90 = .ok (.putfield 133, 3) := by decide +kernel
theorem dX8_place_93 : decode cX8_place 93 = .ok (.iload 4, 2) := by decide +kernel
theorem dX8_place_95 : decode cX8_place 95 = .ok (.ireturn, 1) := by decide +kernel
theorem dX8_eat_0 : decode cX8_eat 0 = .ok (.aload_n 0, 1) := by decide +kernel
theorem dX8_eat_1 : decode cX8_eat 1 = .ok (.getfield 20, 3) := by decide +kernel
theorem dX8_eat_4 : decode cX8_eat 4 = .ok (.iload_n 1, 1) := by decide +kernel
theorem dX8_eat_5 : decode cX8_eat 5 = .ok (.invokevirtual 124, 3) := by decide +kernel
theorem dX8_eat_8 : decode cX8_eat 8 = .ok (.ifCond .eq 11, 3) := by decide +kernel
theorem dX8_eat_11 : decode cX8_eat 11 = .ok (.aload_n 0, 1) := by decide +kernel
theorem dX8_eat_12 : decode cX8_eat 12 = .ok (.iload_n 1, 1) := by decide +kernel
theorem dX8_eat_13 : decode cX8_eat 13 = .ok (.invokevirtual 175, 3) := by decide +kernel
theorem dX8_eat_16 : decode cX8_eat 16 = .ok (.goto 4, 3) := by decide +kernel
theorem dX8_eat_19 : decode cX8_eat 19 = .ok (.iconst (-1), 1) := by decide +kernel
theorem dX8_eat_20 : decode cX8_eat 20 = .ok (.ireturn, 1) := by decide +kernel
theorem dX8_sell_0 : decode cX8_sell 0 = .ok (.aload_n 0, 1) := by decide +kernel
theorem dX8_sell_1 : decode cX8_sell 1 = .ok (.getfield 20, 3) := by decide +kernel
theorem dX8_sell_4 : decode cX8_sell 4 = .ok (.iload_n 1, 1) := by decide +kernel
theorem dX8_sell_5 : decode cX8_sell 5 = .ok (.invokevirtual 124, 3) := by decide +kernel
theorem dX8_sell_8 : decode cX8_sell 8 = .ok (.ifCond .eq 13, 3) := by decide +kernel
theorem dX8_sell_11 : decode cX8_sell 11 = .ok (.aload_n 0, 1) := by decide +kernel
theorem dX8_sell_12 : decode cX8_sell 12 = .ok (.iconst 3, 1) := by decide +kernel
theorem dX8_sell_13 : decode cX8_sell 13 = .ok (.iload_n 1, 1) := by decide +kernel
theorem dX8_sell_14 : decode cX8_sell 14 = .ok (.iadd, 1) := by decide +kernel
theorem dX8_sell_15 : decode cX8_sell 15 = .ok (.invokevirtual 175, 3) := by decide +kernel
theorem dX8_sell_18 : decode cX8_sell 18 = .ok (.goto 4, 3) := by decide +kernel
theorem dX8_sell_21 : decode cX8_sell 21 = .ok (.iconst (-1), 1) := by decide +kernel
theorem dX8_sell_22 : decode cX8_sell 22 = .ok (.ireturn, 1) := by decide +kernel
theorem dX8_actIfMay_0 : decode cX8_actIfMay 0 = .ok (.aload_n 0, 1) := by decide +kernel
theorem dX8_actIfMay_1 : decode cX8_actIfMay 1 = .ok (.invokevirtual 178, 3) := by decide +kernel
theorem dX8_actIfMay_4 : decode cX8_actIfMay 4 = .ok (.ifCond .eq 21, 3) := by decide +kernel
theorem dX8_actIfMay_7 : decode cX8_actIfMay 7 = .ok (.aload_n 0, 1) := by decide +kernel
theorem dX8_actIfMay_8 : decode cX8_actIfMay 8 = .ok (.getfield 20, 3) := by decide +kernel
theorem dX8_actIfMay_11 : decode cX8_actIfMay 11 = .ok (.aload_n 0, 1) := by decide +kernel
theorem dX8_actIfMay_12 : decode cX8_actIfMay 12 = .ok (.getfield 39, 3) := by decide +kernel
theorem dX8_actIfMay_15 : decode cX8_actIfMay 15 = .ok (.getfield 133, 3) := by decide +kernel
theorem dX8_actIfMay_18 : decode cX8_actIfMay 18 = .ok (.iload_n 1, 1) := by decide +kernel
theorem dX8_actIfMay_19 : decode cX8_actIfMay 19 = .ok (.invokevirtual 182, 3) := by decide +kernel
theorem dX8_actIfMay_22 : decode cX8_actIfMay 22 = .ok (.ifCond .ne 6, 3) := by decide +kernel
theorem dX8_actIfMay_25 : decode cX8_actIfMay 25 = .ok (.bipush (-2), 2) := by decide +kernel
theorem dX8_actIfMay_27 : decode cX8_actIfMay 27 = .ok (.ireturn, 1) := by decide +kernel
theorem dX8_actIfMay_28 : decode cX8_actIfMay 28 = .ok (.aload_n 0, 1) := by decide +kernel
theorem dX8_actIfMay_29 : decode cX8_actIfMay 29 = .ok (.getfield 39, 3) := by decide +kernel
theorem dX8_actIfMay_32 : decode cX8_actIfMay 32 = .ok (.aload_n 0, 1) := by decide +kernel
theorem dX8_actIfMay_33 : decode cX8_actIfMay 33 = .ok (.getfield 20, 3) := by decide +kernel
theorem dX8_actIfMay_36 : decode cX8_actIfMay 36 = .ok (.iload_n 1, 1) := by decide +kernel
theorem dX8_actIfMay_37 : decode cX8_actIfMay 37 = .ok (.invokevirtual 185, 3) := by decide +kernel
theorem dX8_actIfMay_40 : decode cX8_actIfMay 40 = .ok (.ireturn, 1) := by decide +kernel
theorem dX8_isOver_0 : decode cX8_isOver 0 = .ok (.aload_n 0, 1) := by decide +kernel
theorem dX8_isOver_1 : decode cX8_isOver 1 = .ok (.getfield 39, 3) := by decide +kernel
theorem dX8_isOver_4 : decode cX8_isOver 4 = .ok (.getfield 155, 3) := by decide +kernel
theorem dX8_isOver_7 : decode cX8_isOver 7 = .ok (.aload_n 0, 1) := by decide +kernel
theorem dX8_isOver_8 : decode cX8_isOver 8 = .ok (.getfield 20, 3) := by decide +kernel
theorem dX8_isOver_11 : decode cX8_isOver 11 = .ok (.getfield 189, 3) := by decide +kernel
theorem dX8_isOver_14 : decode cX8_isOver 14 = .ok (.if_icmp .lt 7, 3) := by decide +kernel
theorem dX8_isOver_17 : decode cX8_isOver 17 = .ok (.iconst 1, 1) := by decide +kernel
theorem dX8_isOver_18 : decode cX8_isOver 18 = .ok (.goto 4, 3) := by decide +kernel
theorem dX8_isOver_21 : decode cX8_isOver 21 = .ok (.iconst 0, 1) := by decide +kernel
theorem dX8_isOver_22 : decode cX8_isOver 22 = .ok (.ireturn, 1) := by decide +kernel
theorem dX8_mayActNow_0 : decode cX8_mayActNow 0 = .ok (.aload_n 0, 1) := by decide +kernel
theorem dX8_mayActNow_1 : decode cX8_mayActNow 1 = .ok (.getfield 39, 3) := by decide +kernel
theorem dX8_mayActNow_4 : decode cX8_mayActNow 4 = .ok (.getfield 192, 3) := by decide +kernel
theorem dX8_mayActNow_7 : decode cX8_mayActNow 7 = .ok (.ifCond .ne 14, 3) := by decide +kernel
theorem dX8_mayActNow_10 : decode cX8_mayActNow 10 = .ok (.aload_n 0, 1) := by decide +kernel
theorem dX8_mayActNow_11 : decode cX8_mayActNow 11 = .ok (.invokevirtual 195, 3) := by decide +kernel
theorem dX8_mayActNow_14 : decode cX8_mayActNow 14 = .ok (.ifCond .ne 7, 3) := by decide +kernel
theorem dX8_mayActNow_17 : decode cX8_mayActNow 17 = .ok (.iconst 1, 1) := by decide +kernel
theorem dX8_mayActNow_18 : decode cX8_mayActNow 18 = .ok (.goto 4, 3) := by decide +kernel
theorem dX8_mayActNow_21 : decode cX8_mayActNow 21 = .ok (.iconst 0, 1) := by decide +kernel
theorem dX8_mayActNow_22 : decode cX8_mayActNow 22 = .ok (.ireturn, 1) := by decide +kernel
theorem dX8_stop_0 : decode cX8_stop 0 = .ok (.aload_n 0, 1) := by decide +kernel
theorem dX8_stop_1 : decode cX8_stop 1 = .ok (.getfield 20, 3) := by decide +kernel
theorem dX8_stop_4 : decode cX8_stop 4 = .ok (.iload_n 1, 1) := by decide +kernel
theorem dX8_stop_5 : decode cX8_stop 5 = .ok (.invokevirtual 124, 3) := by decide +kernel
theorem dX8_stop_8 : decode cX8_stop 8 = .ok (.ifCond .ne 5, 3) := by decide +kernel
theorem dX8_stop_11 : decode cX8_stop 11 = .ok (.iconst (-1), 1) := by decide +kernel
theorem dX8_stop_12 : decode cX8_stop 12 = .ok (.ireturn, 1) := by decide +kernel
theorem dX8_stop_13 : decode cX8_stop 13 = .ok (.aload_n 0, 1) := by decide +kernel
theorem dX8_stop_14 : decode cX8_stop 14 = .ok (.getfield 39, 3) := by decide +kernel
theorem dX8_stop_17 : decode cX8_stop 17 = .ok (.getfield 146, 3) := by decide +kernel
theorem dX8_stop_20 : decode cX8_stop 20 = .ok (.iload_n 1, 1) := by decide +kernel
theorem dX8_stop_21 : decode cX8_stop 21 = .ok (.invokestatic 149, 3) := by decide +kernel
theorem dX8_stop_24 : decode cX8_stop 24 = .ok (.ifCond .eq 7, 3) := by decide +kernel
theorem dX8_stop_27 : decode cX8_stop 27 = .ok (.iconst 0, 1) := by decide +kernel
theorem dX8_stop_28 : decode cX8_stop 28 = .ok (.goto 4, 3) := by decide +kernel
theorem dX8_stop_31 : decode cX8_stop 31 = .ok (.iconst 1, 1) := by decide +kernel
theorem dX8_stop_32 : decode cX8_stop 32 = .ok (.istore_n 2, 1) := by decide +kernel
theorem dX8_stop_33 : decode cX8_stop 33 = .ok (.aload_n 0, 1) := by decide +kernel
theorem dX8_stop_34 : decode cX8_stop 34 = .ok (.getfield 39, 3) := by decide +kernel
theorem dX8_stop_37 : decode cX8_stop 37 = .ok (.dup, 1) := by decide +kernel
theorem dX8_stop_38 : decode cX8_stop 38 = .ok (.getfield 146, 3) := by decide +kernel
theorem dX8_stop_41 : decode cX8_stop 41 = .ok (.iconst 1, 1) := by decide +kernel
theorem dX8_stop_42 : decode cX8_stop 42 = .ok (.iload_n 1, 1) := by decide +kernel
theorem dX8_stop_43 : decode cX8_stop 43 = .ok (.ishl, 1) := by decide +kernel
theorem dX8_stop_44 : decode cX8_stop 44 = .ok (.ior, 1) := by decide +kernel
theorem dX8_stop_45 : decode cX8_stop 45 = .ok (.putfield 146, 3) := by decide +kernel
theorem dX8_stop_48 : decode cX8_stop 48 = .ok (.iload_n 2, 1) := by decide +kernel
theorem dX8_stop_49 : decode cX8_stop 49 = .ok (.ireturn, 1) := by decide +kernel
theorem dX8_next_0 : decode cX8_next 0 = .ok (.aload_n 0, 1) := by decide +kernel
theorem dX8_next_1 : decode cX8_next 1 = .ok (.invokevirtual 195, 3) := by decide +kernel
theorem dX8_next_4 : decode cX8_next 4 = .ok (.ifCond .eq 8, 3) := by decide +kernel
theorem dX8_next_7 : decode cX8_next 7 = .ok (.bipush (-2), 2) := by decide +kernel
theorem dX8_next_9 : decode cX8_next 9 = .ok (.goto 14, 3) := by decide +kernel
theorem dX8_next_12 : decode cX8_next 12 = .ok (.aload_n 0, 1) := by decide +kernel
theorem dX8_next_13 : decode cX8_next 13 = .ok (.getfield 39, 3) := by decide +kernel
theorem dX8_next_16 : decode cX8_next 16 = .ok (.aload_n 0, 1) := by decide +kernel
theorem dX8_next_17 : decode cX8_next 17 = .ok (.getfield 20, 3) := by decide +kernel
theorem dX8_next_20 : decode cX8_next 20 = .ok (.invokevirtual 198, 3) := by decide +kernel
theorem dX8_next_23 : decode cX8_next 23 = .ok (.ireturn, 1) := by decide +kernel
theorem dX8_now_0 : decode cX8_now 0 = .ok (.iload_n 1, 1) := by decide +kernel
theorem dX8_now_1 : decode cX8_now 1 = .ok (.tableswitch 122 0 6 #[43, 51, 67, 75, 83, 94, 107], 43) := by decide +kernel
theorem dX8_now_44 : decode cX8_now 44 = .ok (.aload_n 0, 1) := by decide +kernel
theorem dX8_now_45 : decode cX8_now 45 = .ok (.getfield 39, 3) := by decide +kernel
theorem dX8_now_48 : decode cX8_now 48 = .ok (.getfield 155, 3) := by decide +kernel
theorem dX8_now_51 : decode cX8_now 51 = .ok (.ireturn, 1) := by decide +kernel
theorem dX8_now_52 : decode cX8_now 52 = .ok (.aload_n 0, 1) := by decide +kernel
theorem dX8_now_53 : decode cX8_now 53 = .ok (.getfield 39, 3) := by decide +kernel
theorem dX8_now_56 : decode cX8_now 56 = .ok (.getfield 192, 3) := by decide +kernel
theorem dX8_now_59 : decode cX8_now 59 = .ok (.ifCond .eq 7, 3) := by decide +kernel
theorem dX8_now_62 : decode cX8_now 62 = .ok (.iconst 1, 1) := by decide +kernel
theorem dX8_now_63 : decode cX8_now 63 = .ok (.goto 4, 3) := by decide +kernel
theorem dX8_now_66 : decode cX8_now 66 = .ok (.iconst 0, 1) := by decide +kernel
theorem dX8_now_67 : decode cX8_now 67 = .ok (.ireturn, 1) := by decide +kernel
theorem dX8_now_68 : decode cX8_now 68 = .ok (.aload_n 0, 1) := by decide +kernel
theorem dX8_now_69 : decode cX8_now 69 = .ok (.getfield 39, 3) := by decide +kernel
theorem dX8_now_72 : decode cX8_now 72 = .ok (.getfield 202, 3) := by decide +kernel
theorem dX8_now_75 : decode cX8_now 75 = .ok (.ireturn, 1) := by decide +kernel
theorem dX8_now_76 : decode cX8_now 76 = .ok (.aload_n 0, 1) := by decide +kernel
theorem dX8_now_77 : decode cX8_now 77 = .ok (.getfield 39, 3) := by decide +kernel
theorem dX8_now_80 : decode cX8_now 80 = .ok (.getfield 205, 3) := by decide +kernel
theorem dX8_now_83 : decode cX8_now 83 = .ok (.ireturn, 1) := by decide +kernel
theorem dX8_now_84 : decode cX8_now 84 = .ok (.aload_n 0, 1) := by decide +kernel
theorem dX8_now_85 : decode cX8_now 85 = .ok (.getfield 39, 3) := by decide +kernel
theorem dX8_now_88 : decode cX8_now 88 = .ok (.getfield 133, 3) := by decide +kernel
theorem dX8_now_91 : decode cX8_now 91 = .ok (.invokestatic 208, 3) := by decide +kernel
theorem dX8_now_94 : decode cX8_now 94 = .ok (.ireturn, 1) := by decide +kernel
theorem dX8_now_95 : decode cX8_now 95 = .ok (.aload_n 0, 1) := by decide +kernel
theorem dX8_now_96 : decode cX8_now 96 = .ok (.invokevirtual 195, 3) := by decide +kernel
theorem dX8_now_99 : decode cX8_now 99 = .ok (.ifCond .eq 7, 3) := by decide +kernel
theorem dX8_now_102 : decode cX8_now 102 = .ok (.iconst 1, 1) := by decide +kernel
theorem dX8_now_103 : decode cX8_now 103 = .ok (.goto 4, 3) := by decide +kernel
theorem dX8_now_106 : decode cX8_now 106 = .ok (.iconst 0, 1) := by decide +kernel
theorem dX8_now_107 : decode cX8_now 107 = .ok (.ireturn, 1) := by decide +kernel
theorem dX8_now_108 : decode cX8_now 108 = .ok (.aload_n 0, 1) := by decide +kernel
theorem dX8_now_109 : decode cX8_now 109 = .ok (.getfield 20, 3) := by decide +kernel
theorem dX8_now_112 : decode cX8_now 112 = .ok (.aload_n 0, 1) := by decide +kernel
theorem dX8_now_113 : decode cX8_now 113 = .ok (.getfield 39, 3) := by decide +kernel
theorem dX8_now_116 : decode cX8_now 116 = .ok (.getfield 133, 3) := by decide +kernel
theorem dX8_now_119 : decode cX8_now 119 = .ok (.invokevirtual 211, 3) := by decide +kernel
theorem dX8_now_122 : decode cX8_now 122 = .ok (.ireturn, 1) := by decide +kernel
theorem dX8_now_123 : decode cX8_now 123 = .ok (.iconst (-1), 1) := by decide +kernel
theorem dX8_now_124 : decode cX8_now 124 = .ok (.ireturn, 1) := by decide +kernel
theorem dX8_lot_0 : decode cX8_lot 0 = .ok (.aload_n 0, 1) := by decide +kernel
theorem dX8_lot_1 : decode cX8_lot 1 = .ok (.getfield 39, 3) := by decide +kernel
theorem dX8_lot_4 : decode cX8_lot 4 = .ok (.getfield 89, 3) := by decide +kernel
theorem dX8_lot_7 : decode cX8_lot 7 = .ok (.istore_n 2, 1) := by decide +kernel
theorem dX8_lot_8 : decode cX8_lot 8 = .ok (.aload_n 0, 1) := by decide +kernel
theorem dX8_lot_9 : decode cX8_lot 9 = .ok (.getfield 39, 3) := by decide +kernel
theorem dX8_lot_12 : decode cX8_lot 12 = .ok (.iload_n 1, 1) := by decide +kernel
theorem dX8_lot_13 : decode cX8_lot 13 = .ok (.putfield 89, 3) := by decide +kernel
theorem dX8_lot_16 : decode cX8_lot 16 = .ok (.iload_n 2, 1) := by decide +kernel
theorem dX8_lot_17 : decode cX8_lot 17 = .ok (.ireturn, 1) := by decide +kernel
theorem dX8_isRule_0 : decode cX8_isRule 0 = .ok (.iload_n 0, 1) := by decide +kernel
theorem dX8_isRule_1 : decode cX8_isRule 1 = .ok (.ifCond .lt 12, 3) := by decide +kernel
theorem dX8_isRule_4 : decode cX8_isRule 4 = .ok (.iload_n 0, 1) := by decide +kernel
theorem dX8_isRule_5 : decode cX8_isRule 5 = .ok (.iconst 4, 1) := by decide +kernel
theorem dX8_isRule_6 : decode cX8_isRule 6 = .ok (.if_icmp .gt 7, 3) := by decide +kernel
theorem dX8_isRule_9 : decode cX8_isRule 9 = .ok (.iconst 1, 1) := by decide +kernel
theorem dX8_isRule_10 : decode cX8_isRule 10 = .ok (.goto 4, 3) := by decide +kernel
theorem dX8_isRule_13 : decode cX8_isRule 13 = .ok (.iconst 0, 1) := by decide +kernel
theorem dX8_isRule_14 : decode cX8_isRule 14 = .ok (.ireturn, 1) := by decide +kernel
theorem dX8_outlookBy_0 : decode cX8_outlookBy 0 = .ok (.iload_n 1, 1) := by decide +kernel
theorem dX8_outlookBy_1 : decode cX8_outlookBy 1 = .ok (.iconst 4, 1) := by decide +kernel
theorem dX8_outlookBy_2 : decode cX8_outlookBy 2 = .ok (.if_icmp .ne 10, 3) := by decide +kernel
theorem dX8_outlookBy_5 : decode cX8_outlookBy 5 = .ok (.aload_n 0, 1) := by decide +kernel
theorem dX8_outlookBy_6 : decode cX8_outlookBy 6 = .ok (.getfield 54, 3) := by decide +kernel
theorem dX8_outlookBy_9 : decode cX8_outlookBy 9 = .ok (.goto 7, 3) := by decide +kernel
theorem dX8_outlookBy_12 : decode cX8_outlookBy 12 = .ok (.aload_n 0, 1) := by decide +kernel
theorem dX8_outlookBy_13 : decode cX8_outlookBy 13 = .ok (.getfield 58, 3) := by decide +kernel
theorem dX8_outlookBy_16 : decode cX8_outlookBy 16 = .ok (.astore_n 2, 1) := by decide +kernel
theorem dX8_outlookBy_17 : decode cX8_outlookBy 17 = .ok (.aload_n 2, 1) := by decide +kernel
theorem dX8_outlookBy_18 : decode cX8_outlookBy 18 = .ok (.iload_n 1, 1) := by decide +kernel
theorem dX8_outlookBy_19 : decode cX8_outlookBy 19 = .ok (.aload_n 0, 1) := by decide +kernel
theorem dX8_outlookBy_20 : decode cX8_outlookBy 20 = .ok (.getfield 39, 3) := by decide +kernel
theorem dX8_outlookBy_23 : decode cX8_outlookBy 23 = .ok (.getfield 146, 3) := by decide +kernel
theorem dX8_outlookBy_26 : decode cX8_outlookBy 26 = .ok (.invokevirtual 214, 3) := by decide +kernel
theorem dX8_outlookBy_29 : decode cX8_outlookBy 29 = .ok (.aload_n 2, 1) := by decide +kernel
theorem dX8_outlookBy_30 : decode cX8_outlookBy 30 = .ok (.areturn, 1) := by decide +kernel
theorem dX8_value_0 : decode cX8_value 0 = .ok (.iload_n 1, 1) := by decide +kernel
theorem dX8_value_1 : decode cX8_value 1 = .ok (.invokestatic 218, 3) := by decide +kernel
theorem dX8_value_4 : decode cX8_value 4 = .ok (.ifCond .eq 15, 3) := by decide +kernel
theorem dX8_value_7 : decode cX8_value 7 = .ok (.aload_n 0, 1) := by decide +kernel
theorem dX8_value_8 : decode cX8_value 8 = .ok (.aload_n 0, 1) := by decide +kernel
theorem dX8_value_9 : decode cX8_value 9 = .ok (.iload_n 1, 1) := by decide +kernel
theorem dX8_value_10 : decode cX8_value 10 = .ok (.invokevirtual 221, 3) := by decide +kernel
theorem dX8_value_13 : decode cX8_value 13 = .ok (.invokevirtual 225, 3) := by decide +kernel
theorem dX8_value_16 : decode cX8_value 16 = .ok (.goto 4, 3) := by decide +kernel
theorem dX8_value_19 : decode cX8_value 19 = .ok (.iconst (-1), 1) := by decide +kernel
theorem dX8_value_20 : decode cX8_value 20 = .ok (.ireturn, 1) := by decide +kernel
theorem dX8_valueNow_0 : decode cX8_valueNow 0 = .ok (.aload_n 0, 1) := by decide +kernel
theorem dX8_valueNow_1 : decode cX8_valueNow 1 = .ok (.getfield 39, 3) := by decide +kernel
theorem dX8_valueNow_4 : decode cX8_valueNow 4 = .ok (.getfield 192, 3) := by decide +kernel
theorem dX8_valueNow_7 : decode cX8_valueNow 7 = .ok (.ifCond .eq 22, 3) := by decide +kernel
theorem dX8_valueNow_10 : decode cX8_valueNow 10 = .ok (.aload_n 1, 1) := by decide +kernel
theorem dX8_valueNow_11 : decode cX8_valueNow 11 = .ok (.aload_n 0, 1) := by decide +kernel
theorem dX8_valueNow_12 : decode cX8_valueNow 12 = .ok (.getfield 39, 3) := by decide +kernel
theorem dX8_valueNow_15 : decode cX8_valueNow 15 = .ok (.getfield 155, 3) := by decide +kernel
theorem dX8_valueNow_18 : decode cX8_valueNow 18 = .ok (.aload_n 0, 1) := by decide +kernel
theorem dX8_valueNow_19 : decode cX8_valueNow 19 = .ok (.getfield 39, 3) := by decide +kernel
theorem dX8_valueNow_22 : decode cX8_valueNow 22 = .ok (.getfield 133, 3) := by decide +kernel
theorem dX8_valueNow_25 : decode cX8_valueNow 25 = .ok (.invokevirtual 229, 3) := by decide +kernel
theorem dX8_valueNow_28 : decode cX8_valueNow 28 = .ok (.ireturn, 1) := by decide +kernel
theorem dX8_valueNow_29 : decode cX8_valueNow 29 = .ok (.aload_n 1, 1) := by decide +kernel
theorem dX8_valueNow_30 : decode cX8_valueNow 30 = .ok (.aload_n 0, 1) := by decide +kernel
theorem dX8_valueNow_31 : decode cX8_valueNow 31 = .ok (.getfield 39, 3) := by decide +kernel
theorem dX8_valueNow_34 : decode cX8_valueNow 34 = .ok (.getfield 155, 3) := by decide +kernel
theorem dX8_valueNow_37 : decode cX8_valueNow 37 = .ok (.aload_n 0, 1) := by decide +kernel
theorem dX8_valueNow_38 : decode cX8_valueNow 38 = .ok (.getfield 39, 3) := by decide +kernel
theorem dX8_valueNow_41 : decode cX8_valueNow 41 = .ok (.getfield 133, 3) := by decide +kernel
theorem dX8_valueNow_44 : decode cX8_valueNow 44 = .ok (.invokevirtual 232, 3) := by decide +kernel
theorem dX8_valueNow_47 : decode cX8_valueNow 47 = .ok (.ireturn, 1) := by decide +kernel
theorem dX8_left_0 : decode cX8_left 0 = .ok (.iload_n 1, 1) := by decide +kernel
theorem dX8_left_1 : decode cX8_left 1 = .ok (.invokestatic 218, 3) := by decide +kernel
theorem dX8_left_4 : decode cX8_left 4 = .ok (.ifCond .ne 5, 3) := by decide +kernel
theorem dX8_left_7 : decode cX8_left 7 = .ok (.iconst (-1), 1) := by decide +kernel
theorem dX8_left_8 : decode cX8_left 8 = .ok (.ireturn, 1) := by decide +kernel
theorem dX8_left_9 : decode cX8_left 9 = .ok (.aload_n 0, 1) := by decide +kernel
theorem dX8_left_10 : decode cX8_left 10 = .ok (.getfield 39, 3) := by decide +kernel
theorem dX8_left_13 : decode cX8_left 13 = .ok (.getfield 192, 3) := by decide +kernel
theorem dX8_left_16 : decode cX8_left 16 = .ok (.ifCond .eq 26, 3) := by decide +kernel
theorem dX8_left_19 : decode cX8_left 19 = .ok (.aload_n 0, 1) := by decide +kernel
theorem dX8_left_20 : decode cX8_left 20 = .ok (.iload_n 1, 1) := by decide +kernel
theorem dX8_left_21 : decode cX8_left 21 = .ok (.invokevirtual 221, 3) := by decide +kernel
theorem dX8_left_24 : decode cX8_left 24 = .ok (.aload_n 0, 1) := by decide +kernel
theorem dX8_left_25 : decode cX8_left 25 = .ok (.getfield 39, 3) := by decide +kernel
theorem dX8_left_28 : decode cX8_left 28 = .ok (.getfield 155, 3) := by decide +kernel
theorem dX8_left_31 : decode cX8_left 31 = .ok (.aload_n 0, 1) := by decide +kernel
theorem dX8_left_32 : decode cX8_left 32 = .ok (.getfield 39, 3) := by decide +kernel
theorem dX8_left_35 : decode cX8_left 35 = .ok (.getfield 133, 3) := by decide +kernel
theorem dX8_left_38 : decode cX8_left 38 = .ok (.invokevirtual 235, 3) := by decide +kernel
theorem dX8_left_41 : decode cX8_left 41 = .ok (.ireturn, 1) := by decide +kernel
theorem dX8_left_42 : decode cX8_left 42 = .ok (.aload_n 0, 1) := by decide +kernel
theorem dX8_left_43 : decode cX8_left 43 = .ok (.iload_n 1, 1) := by decide +kernel
theorem dX8_left_44 : decode cX8_left 44 = .ok (.invokevirtual 221, 3) := by decide +kernel
theorem dX8_left_47 : decode cX8_left 47 = .ok (.aload_n 0, 1) := by decide +kernel
theorem dX8_left_48 : decode cX8_left 48 = .ok (.getfield 39, 3) := by decide +kernel
theorem dX8_left_51 : decode cX8_left 51 = .ok (.getfield 155, 3) := by decide +kernel
theorem dX8_left_54 : decode cX8_left 54 = .ok (.aload_n 0, 1) := by decide +kernel
theorem dX8_left_55 : decode cX8_left 55 = .ok (.getfield 39, 3) := by decide +kernel
theorem dX8_left_58 : decode cX8_left 58 = .ok (.getfield 133, 3) := by decide +kernel
theorem dX8_left_61 : decode cX8_left 61 = .ok (.invokevirtual 238, 3) := by decide +kernel
theorem dX8_left_64 : decode cX8_left 64 = .ok (.ireturn, 1) := by decide +kernel
theorem dX8_choice_0 : decode cX8_choice 0 = .ok (.iload_n 1, 1) := by decide +kernel
theorem dX8_choice_1 : decode cX8_choice 1 = .ok (.invokestatic 218, 3) := by decide +kernel
theorem dX8_choice_4 : decode cX8_choice 4 = .ok (.ifCond .eq 11, 3) := by decide +kernel
theorem dX8_choice_7 : decode cX8_choice 7 = .ok (.aload_n 0, 1) := by decide +kernel
theorem dX8_choice_8 : decode cX8_choice 8 = .ok (.iload_n 1, 1) := by decide +kernel
theorem dX8_choice_9 : decode cX8_choice 9 = .ok (.invokevirtual 241, 3) := by decide +kernel
theorem dX8_choice_12 : decode cX8_choice 12 = .ok (.goto 4, 3) := by decide +kernel
theorem dX8_choice_15 : decode cX8_choice 15 = .ok (.iconst (-1), 1) := by decide +kernel
theorem dX8_choice_16 : decode cX8_choice 16 = .ok (.ireturn, 1) := by decide +kernel
theorem dX8_choiceNow_0 : decode cX8_choiceNow 0 = .ok (.aload_n 0, 1) := by decide +kernel
theorem dX8_choiceNow_1 : decode cX8_choiceNow 1 = .ok (.invokevirtual 178, 3) := by decide +kernel
theorem dX8_choiceNow_4 : decode cX8_choiceNow 4 = .ok (.ifCond .eq 28, 3) := by decide +kernel
theorem dX8_choiceNow_7 : decode cX8_choiceNow 7 = .ok (.aload_n 0, 1) := by decide +kernel
theorem dX8_choiceNow_8 : decode cX8_choiceNow 8 = .ok (.iload_n 1, 1) := by decide +kernel
theorem dX8_choiceNow_9 : decode cX8_choiceNow 9 = .ok (.invokevirtual 221, 3) := by decide +kernel
theorem dX8_choiceNow_12 : decode cX8_choiceNow 12 = .ok (.aload_n 0, 1) := by decide +kernel
theorem dX8_choiceNow_13 : decode cX8_choiceNow 13 = .ok (.getfield 39, 3) := by decide +kernel
theorem dX8_choiceNow_16 : decode cX8_choiceNow 16 = .ok (.getfield 155, 3) := by decide +kernel
theorem dX8_choiceNow_19 : decode cX8_choiceNow 19 = .ok (.aload_n 0, 1) := by decide +kernel
theorem dX8_choiceNow_20 : decode cX8_choiceNow 20 = .ok (.getfield 39, 3) := by decide +kernel
theorem dX8_choiceNow_23 : decode cX8_choiceNow 23 = .ok (.getfield 133, 3) := by decide +kernel
theorem dX8_choiceNow_26 : decode cX8_choiceNow 26 = .ok (.invokevirtual 244, 3) := by decide +kernel
theorem dX8_choiceNow_29 : decode cX8_choiceNow 29 = .ok (.goto 5, 3) := by decide +kernel
theorem dX8_choiceNow_32 : decode cX8_choiceNow 32 = .ok (.bipush 6, 2) := by decide +kernel
theorem dX8_choiceNow_34 : decode cX8_choiceNow 34 = .ok (.ireturn, 1) := by decide +kernel
theorem dX8_brings_0 : decode cX8_brings 0 = .ok (.iload_n 1, 1) := by decide +kernel
theorem dX8_brings_1 : decode cX8_brings 1 = .ok (.ifCond .lt 9, 3) := by decide +kernel
theorem dX8_brings_4 : decode cX8_brings 4 = .ok (.iload_n 1, 1) := by decide +kernel
theorem dX8_brings_5 : decode cX8_brings 5 = .ok (.bipush 6, 2) := by decide +kernel
theorem dX8_brings_7 : decode cX8_brings 7 = .ok (.if_icmp .le 6, 3) := by decide +kernel
theorem dX8_brings_10 : decode cX8_brings 10 = .ok (.ldc 247, 2) := by decide +kernel
theorem dX8_brings_12 : decode cX8_brings 12 = .ok (.ireturn, 1) := by decide +kernel
theorem dX8_brings_13 : decode cX8_brings 13 = .ok (.iload_n 1, 1) := by decide +kernel
theorem dX8_brings_14 : decode cX8_brings 14 = .ok (.bipush 6, 2) := by decide +kernel
theorem dX8_brings_16 : decode cX8_brings 16 = .ok (.if_icmp .eq 31, 3) := by decide +kernel
theorem dX8_brings_19 : decode cX8_brings 19 = .ok (.aload_n 0, 1) := by decide +kernel
theorem dX8_brings_20 : decode cX8_brings 20 = .ok (.invokevirtual 178, 3) := by decide +kernel
theorem dX8_brings_23 : decode cX8_brings 23 = .ok (.ifCond .eq 21, 3) := by decide +kernel
theorem dX8_brings_26 : decode cX8_brings 26 = .ok (.aload_n 0, 1) := by decide +kernel
theorem dX8_brings_27 : decode cX8_brings 27 = .ok (.getfield 20, 3) := by decide +kernel
theorem dX8_brings_30 : decode cX8_brings 30 = .ok (.aload_n 0, 1) := by decide +kernel
theorem dX8_brings_31 : decode cX8_brings 31 = .ok (.getfield 39, 3) := by decide +kernel
theorem dX8_brings_34 : decode cX8_brings 34 = .ok (.getfield 133, 3) := by decide +kernel
theorem dX8_brings_37 : decode cX8_brings 37 = .ok (.iload_n 1, 1) := by decide +kernel
theorem dX8_brings_38 : decode cX8_brings 38 = .ok (.invokevirtual 182, 3) := by decide +kernel
theorem dX8_brings_41 : decode cX8_brings 41 = .ok (.ifCond .ne 6, 3) := by decide +kernel
theorem dX8_brings_44 : decode cX8_brings 44 = .ok (.ldc 247, 2) := by decide +kernel
theorem dX8_brings_46 : decode cX8_brings 46 = .ok (.ireturn, 1) := by decide +kernel
theorem dX8_brings_47 : decode cX8_brings 47 = .ok (.aload_n 0, 1) := by decide +kernel
theorem dX8_brings_48 : decode cX8_brings 48 = .ok (.iconst 4, 1) := by decide +kernel
theorem dX8_brings_49 : decode cX8_brings 49 = .ok (.invokevirtual 221, 3) := by decide +kernel
theorem dX8_brings_52 : decode cX8_brings 52 = .ok (.aload_n 0, 1) := by decide +kernel
theorem dX8_brings_53 : decode cX8_brings 53 = .ok (.getfield 39, 3) := by decide +kernel
theorem dX8_brings_56 : decode cX8_brings 56 = .ok (.getfield 155, 3) := by decide +kernel
theorem dX8_brings_59 : decode cX8_brings 59 = .ok (.aload_n 0, 1) := by decide +kernel
theorem dX8_brings_60 : decode cX8_brings 60 = .ok (.getfield 39, 3) := by decide +kernel
theorem dX8_brings_63 : decode cX8_brings 63 = .ok (.getfield 133, 3) := by decide +kernel
theorem dX8_brings_66 : decode cX8_brings 66 = .ok (.iload_n 1, 1) := by decide +kernel
theorem dX8_brings_67 : decode cX8_brings 67 = .ok (.invokevirtual 248, 3) := by decide +kernel
theorem dX8_brings_70 : decode cX8_brings 70 = .ok (.ireturn, 1) := by decide +kernel
theorem dX8_play_0 : decode cX8_play 0 = .ok (.iload_n 1, 1) := by decide +kernel
theorem dX8_play_1 : decode cX8_play 1 = .ok (.invokestatic 218, 3) := by decide +kernel
theorem dX8_play_4 : decode cX8_play 4 = .ok (.ifCond .ne 5, 3) := by decide +kernel
theorem dX8_play_7 : decode cX8_play 7 = .ok (.iconst (-1), 1) := by decide +kernel
theorem dX8_play_8 : decode cX8_play 8 = .ok (.ireturn, 1) := by decide +kernel
theorem dX8_play_9 : decode cX8_play 9 = .ok (.iconst 0, 1) := by decide +kernel
theorem dX8_play_10 : decode cX8_play 10 = .ok (.istore_n 2, 1) := by decide +kernel
theorem dX8_play_11 : decode cX8_play 11 = .ok (.iconst 0, 1) := by decide +kernel
theorem dX8_play_12 : decode cX8_play 12 = .ok (.istore_n 3, 1) := by decide +kernel
theorem dX8_play_13 : decode cX8_play 13 = .ok (.iload_n 3, 1) := by decide +kernel
theorem dX8_play_14 : decode cX8_play 14 = .ok (.bipush 8, 2) := by decide +kernel
theorem dX8_play_16 : decode cX8_play 16 = .ok (.if_icmp .ge 47, 3) := by decide +kernel
theorem dX8_play_19 : decode cX8_play 19 = .ok (.aload_n 0, 1) := by decide +kernel
theorem dX8_play_20 : decode cX8_play 20 = .ok (.invokevirtual 195, 3) := by decide +kernel
theorem dX8_play_23 : decode cX8_play 23 = .ok (.ifCond .ne 40, 3) := by decide +kernel
theorem dX8_play_26 : decode cX8_play 26 = .ok (.iload_n 2, 1) := by decide +kernel
theorem dX8_play_27 : decode cX8_play 27 = .ok (.aload_n 0, 1) := by decide +kernel
theorem dX8_play_28 : decode cX8_play 28 = .ok (.getfield 39, 3) := by decide +kernel
theorem dX8_play_31 : decode cX8_play 31 = .ok (.aload_n 0, 1) := by decide +kernel
theorem dX8_play_32 : decode cX8_play 32 = .ok (.getfield 20, 3) := by decide +kernel
theorem dX8_play_35 : decode cX8_play 35 = .ok (.aload_n 0, 1) := by decide +kernel
theorem dX8_play_36 : decode cX8_play 36 = .ok (.iload_n 1, 1) := by decide +kernel
theorem dX8_play_37 : decode cX8_play 37 = .ok (.invokevirtual 241, 3) := by decide +kernel
theorem dX8_play_40 : decode cX8_play 40 = .ok (.invokevirtual 185, 3) := by decide +kernel
theorem dX8_play_43 : decode cX8_play 43 = .ok (.iadd, 1) := by decide +kernel
theorem dX8_play_44 : decode cX8_play 44 = .ok (.istore_n 2, 1) := by decide +kernel
theorem dX8_play_45 : decode cX8_play 45 = .ok (.aload_n 0, 1) := by decide +kernel
theorem dX8_play_46 : decode cX8_play 46 = .ok (.getfield 39, 3) := by decide +kernel
theorem dX8_play_49 : decode cX8_play 49 = .ok (.aload_n 0, 1) := by decide +kernel
theorem dX8_play_50 : decode cX8_play 50 = .ok (.getfield 20, 3) := by decide +kernel
theorem dX8_play_53 : decode cX8_play 53 = .ok (.invokevirtual 198, 3) := by decide +kernel
theorem dX8_play_56 : decode cX8_play 56 = .ok (.pop, 1) := by decide +kernel
theorem dX8_play_57 : decode cX8_play 57 = .ok (.iinc 3 1, 3) := by decide +kernel
theorem dX8_play_60 : decode cX8_play 60 = .ok (.goto (-47), 3) := by decide +kernel
theorem dX8_play_63 : decode cX8_play 63 = .ok (.iload_n 2, 1) := by decide +kernel
theorem dX8_play_64 : decode cX8_play 64 = .ok (.ireturn, 1) := by decide +kernel
theorem dX8_blind_0 : decode cX8_blind 0 = .ok (.iload_n 1, 1) := by decide +kernel
theorem dX8_blind_1 : decode cX8_blind 1 = .ok (.bipush (-2), 2) := by decide +kernel
theorem dX8_blind_3 : decode cX8_blind 3 = .ok (.if_icmp .ge 6, 3) := by decide +kernel
theorem dX8_blind_6 : decode cX8_blind 6 = .ok (.ldc 247, 2) := by decide +kernel
theorem dX8_blind_8 : decode cX8_blind 8 = .ok (.ireturn, 1) := by decide +kernel
theorem dX8_blind_9 : decode cX8_blind 9 = .ok (.aload_n 0, 1) := by decide +kernel
theorem dX8_blind_10 : decode cX8_blind 10 = .ok (.getfield 64, 3) := by decide +kernel
theorem dX8_blind_13 : decode cX8_blind 13 = .ok (.aload_n 0, 1) := by decide +kernel
theorem dX8_blind_14 : decode cX8_blind 14 = .ok (.getfield 39, 3) := by decide +kernel
theorem dX8_blind_17 : decode cX8_blind 17 = .ok (.invokevirtual 251, 3) := by decide +kernel
theorem dX8_blind_20 : decode cX8_blind 20 = .ok (.iload_n 1, 1) := by decide +kernel
theorem dX8_blind_21 : decode cX8_blind 21 = .ok (.iconst (-1), 1) := by decide +kernel
theorem dX8_blind_22 : decode cX8_blind 22 = .ok (.if_icmp .ne 11, 3) := by decide +kernel
theorem dX8_blind_25 : decode cX8_blind 25 = .ok (.aload_n 0, 1) := by decide +kernel
theorem dX8_blind_26 : decode cX8_blind 26 = .ok (.getfield 64, 3) := by decide +kernel
theorem dX8_blind_29 : decode cX8_blind 29 = .ok (.getfield 255, 3) := by decide +kernel
theorem dX8_blind_32 : decode cX8_blind 32 = .ok (.ireturn, 1) := by decide +kernel
theorem dX8_blind_33 : decode cX8_blind 33 = .ok (.iload_n 1, 1) := by decide +kernel
theorem dX8_blind_34 : decode cX8_blind 34 = .ok (.bipush (-2), 2) := by decide +kernel
theorem dX8_blind_36 : decode cX8_blind 36 = .ok (.if_icmp .ne 11, 3) := by decide +kernel
theorem dX8_blind_39 : decode cX8_blind 39 = .ok (.aload_n 0, 1) := by decide +kernel
theorem dX8_blind_40 : decode cX8_blind 40 = .ok (.getfield 64, 3) := by decide +kernel
theorem dX8_blind_43 : decode cX8_blind 43 = .ok (.getfield 257, 3) := by decide +kernel
theorem dX8_blind_46 : decode cX8_blind 46 = .ok (.ireturn, 1) := by decide +kernel
theorem dX8_blind_47 : decode cX8_blind 47 = .ok (.iload_n 1, 1) := by decide +kernel
theorem dX8_blind_48 : decode cX8_blind 48 = .ok (.aload_n 0, 1) := by decide +kernel
theorem dX8_blind_49 : decode cX8_blind 49 = .ok (.getfield 64, 3) := by decide +kernel
theorem dX8_blind_52 : decode cX8_blind 52 = .ok (.getfield 257, 3) := by decide +kernel
theorem dX8_blind_55 : decode cX8_blind 55 = .ok (.if_icmp .ge 14, 3) := by decide +kernel
theorem dX8_blind_58 : decode cX8_blind 58 = .ok (.aload_n 0, 1) := by decide +kernel
theorem dX8_blind_59 : decode cX8_blind 59 = .ok (.getfield 64, 3) := by decide +kernel
theorem dX8_blind_62 : decode cX8_blind 62 = .ok (.iload_n 1, 1) := by decide +kernel
theorem dX8_blind_63 : decode cX8_blind 63 = .ok (.invokevirtual 260, 3) := by decide +kernel
theorem dX8_blind_66 : decode cX8_blind 66 = .ok (.goto 5, 3) := by decide +kernel
theorem dX8_blind_69 : decode cX8_blind 69 = .ok (.ldc 247, 2) := by decide +kernel
theorem dX8_blind_71 : decode cX8_blind 71 = .ok (.ireturn, 1) := by decide +kernel
theorem dX8_know_0 : decode cX8_know 0 = .ok (.aload_n 0, 1) := by decide +kernel
theorem dX8_know_1 : decode cX8_know 1 = .ok (.getfield 64, 3) := by decide +kernel
theorem dX8_know_4 : decode cX8_know 4 = .ok (.aload_n 0, 1) := by decide +kernel
theorem dX8_know_5 : decode cX8_know 5 = .ok (.getfield 39, 3) := by decide +kernel
theorem dX8_know_8 : decode cX8_know 8 = .ok (.invokevirtual 251, 3) := by decide +kernel
theorem dX8_know_11 : decode cX8_know 11 = .ok (.aload_n 0, 1) := by decide +kernel
theorem dX8_know_12 : decode cX8_know 12 = .ok (.aload_n 0, 1) := by decide +kernel
theorem dX8_know_13 : decode cX8_know 13 = .ok (.iconst 4, 1) := by decide +kernel
theorem dX8_know_14 : decode cX8_know 14 = .ok (.invokevirtual 221, 3) := by decide +kernel
theorem dX8_know_17 : decode cX8_know 17 = .ok (.invokevirtual 225, 3) := by decide +kernel
theorem dX8_know_20 : decode cX8_know 20 = .ok (.aload_n 0, 1) := by decide +kernel
theorem dX8_know_21 : decode cX8_know 21 = .ok (.getfield 64, 3) := by decide +kernel
theorem dX8_know_24 : decode cX8_know 24 = .ok (.getfield 255, 3) := by decide +kernel
theorem dX8_know_27 : decode cX8_know 27 = .ok (.isub, 1) := by decide +kernel
theorem dX8_know_28 : decode cX8_know 28 = .ok (.ireturn, 1) := by decide +kernel
theorem dX8_spare_0 : decode cX8_spare 0 = .ok (.aload_n 0, 1) := by decide +kernel
theorem dX8_spare_1 : decode cX8_spare 1 = .ok (.getfield 20, 3) := by decide +kernel
theorem dX8_spare_4 : decode cX8_spare 4 = .ok (.iload_n 1, 1) := by decide +kernel
theorem dX8_spare_5 : decode cX8_spare 5 = .ok (.invokevirtual 124, 3) := by decide +kernel
theorem dX8_spare_8 : decode cX8_spare 8 = .ok (.ifCond .ne 6, 3) := by decide +kernel
theorem dX8_spare_11 : decode cX8_spare 11 = .ok (.ldc 247, 2) := by decide +kernel
theorem dX8_spare_13 : decode cX8_spare 13 = .ok (.ireturn, 1) := by decide +kernel
theorem dX8_spare_14 : decode cX8_spare 14 = .ok (.aload_n 0, 1) := by decide +kernel
theorem dX8_spare_15 : decode cX8_spare 15 = .ok (.getfield 58, 3) := by decide +kernel
theorem dX8_spare_18 : decode cX8_spare 18 = .ok (.iconst 4, 1) := by decide +kernel
theorem dX8_spare_19 : decode cX8_spare 19 = .ok (.aload_n 0, 1) := by decide +kernel
theorem dX8_spare_20 : decode cX8_spare 20 = .ok (.getfield 39, 3) := by decide +kernel
theorem dX8_spare_23 : decode cX8_spare 23 = .ok (.getfield 146, 3) := by decide +kernel
theorem dX8_spare_26 : decode cX8_spare 26 = .ok (.iconst 1, 1) := by decide +kernel
theorem dX8_spare_27 : decode cX8_spare 27 = .ok (.iload_n 1, 1) := by decide +kernel
theorem dX8_spare_28 : decode cX8_spare 28 = .ok (.ishl, 1) := by decide +kernel
theorem dX8_spare_29 : decode cX8_spare 29 = .ok (.ior, 1) := by decide +kernel
theorem dX8_spare_30 : decode cX8_spare 30 = .ok (.invokevirtual 214, 3) := by decide +kernel
theorem dX8_spare_33 : decode cX8_spare 33 = .ok (.aload_n 0, 1) := by decide +kernel
theorem dX8_spare_34 : decode cX8_spare 34 = .ok (.aload_n 0, 1) := by decide +kernel
theorem dX8_spare_35 : decode cX8_spare 35 = .ok (.getfield 58, 3) := by decide +kernel
theorem dX8_spare_38 : decode cX8_spare 38 = .ok (.invokevirtual 225, 3) := by decide +kernel
theorem dX8_spare_41 : decode cX8_spare 41 = .ok (.aload_n 0, 1) := by decide +kernel
theorem dX8_spare_42 : decode cX8_spare 42 = .ok (.aload_n 0, 1) := by decide +kernel
theorem dX8_spare_43 : decode cX8_spare 43 = .ok (.iconst 4, 1) := by decide +kernel
theorem dX8_spare_44 : decode cX8_spare 44 = .ok (.invokevirtual 221, 3) := by decide +kernel
theorem dX8_spare_47 : decode cX8_spare 47 = .ok (.invokevirtual 225, 3) := by decide +kernel
theorem dX8_spare_50 : decode cX8_spare 50 = .ok (.isub, 1) := by decide +kernel
theorem dX8_spare_51 : decode cX8_spare 51 = .ok (.ireturn, 1) := by decide +kernel
theorem dX8_stands_0 : decode cX8_stands 0 = .ok (.aload_n 0, 1) := by decide +kernel
theorem dX8_stands_1 : decode cX8_stands 1 = .ok (.getfield 20, 3) := by decide +kernel
theorem dX8_stands_4 : decode cX8_stands 4 = .ok (.iload_n 1, 1) := by decide +kernel
theorem dX8_stands_5 : decode cX8_stands 5 = .ok (.invokevirtual 124, 3) := by decide +kernel
theorem dX8_stands_8 : decode cX8_stands 8 = .ok (.ifCond .eq 13, 3) := by decide +kernel
theorem dX8_stands_11 : decode cX8_stands 11 = .ok (.iload_n 2, 1) := by decide +kernel
theorem dX8_stands_12 : decode cX8_stands 12 = .ok (.ifCond .lt 9, 3) := by decide +kernel
theorem dX8_stands_15 : decode cX8_stands 15 = .ok (.iload_n 2, 1) := by decide +kernel
theorem dX8_stands_16 : decode cX8_stands 16 = .ok (.bipush 8, 2) := by decide +kernel
theorem dX8_stands_18 : decode cX8_stands 18 = .ok (.if_icmp .le 7, 3) := by decide +kernel
theorem dX8_stands_21 : decode cX8_stands 21 = .ok (.ldc2_w 263, 3) := by decide +kernel
theorem dX8_stands_24 : decode cX8_stands 24 = .ok (.lreturn, 1) := by decide +kernel
theorem dX8_stands_25 : decode cX8_stands 25 = .ok (.iload_n 3, 1) := by decide +kernel
theorem dX8_stands_26 : decode cX8_stands 26 = .ok (.ifCond .lt 19, 3) := by decide +kernel
theorem dX8_stands_29 : decode cX8_stands 29 = .ok (.iload_n 3, 1) := by decide +kernel
theorem dX8_stands_30 : decode cX8_stands 30 = .ok (.iconst 3, 1) := by decide +kernel
theorem dX8_stands_31 : decode cX8_stands 31 = .ok (.if_icmp .gt 14, 3) := by decide +kernel
theorem dX8_stands_34 : decode cX8_stands 34 = .ok (.iload 4, 2) := by decide +kernel
theorem dX8_stands_36 : decode cX8_stands 36 = .ok (.ifCond .lt 9, 3) := by decide +kernel
theorem dX8_stands_39 : decode cX8_stands 39 = .ok (.iload 4, 2) := by decide +kernel
theorem dX8_stands_41 : decode cX8_stands 41 = .ok (.iconst 1, 1) := by decide +kernel
theorem dX8_stands_42 : decode cX8_stands 42 = .ok (.if_icmp .le 7, 3) := by decide +kernel
theorem dX8_stands_45 : decode cX8_stands 45 = .ok (.ldc2_w 263, 3) := by decide +kernel
theorem dX8_stands_48 : decode cX8_stands 48 = .ok (.lreturn, 1) := by decide +kernel
theorem dX8_stands_49 : decode cX8_stands 49 = .ok (.aload_n 0, 1) := by decide +kernel
theorem dX8_stands_50 : decode cX8_stands 50 = .ok (.getfield 71, 3) := by decide +kernel
theorem dX8_stands_53 : decode cX8_stands 53 = .ok (.aload_n 0, 1) := by decide +kernel
theorem dX8_stands_54 : decode cX8_stands 54 = .ok (.getfield 39, 3) := by decide +kernel
theorem dX8_stands_57 : decode cX8_stands 57 = .ok (.getfield 133, 3) := by decide +kernel
theorem dX8_stands_60 : decode cX8_stands 60 = .ok (.iload_n 1, 1) := by decide +kernel
theorem dX8_stands_61 : decode cX8_stands 61 = .ok (.invokestatic 136, 3) := by decide +kernel
theorem dX8_stands_64 : decode cX8_stands 64 = .ok (.invokevirtual 265, 3) := by decide +kernel
theorem dX8_stands_67 : decode cX8_stands 67 = .ok (.aload_n 0, 1) := by decide +kernel
theorem dX8_stands_68 : decode cX8_stands 68 = .ok (.getfield 20, 3) := by decide +kernel
theorem dX8_stands_71 : decode cX8_stands 71 = .ok (.aload_n 0, 1) := by decide +kernel
theorem dX8_stands_72 : decode cX8_stands 72 = .ok (.getfield 39, 3) := by decide +kernel
theorem dX8_stands_75 : decode cX8_stands 75 = .ok (.getfield 133, 3) := by decide +kernel
theorem dX8_stands_78 : decode cX8_stands 78 = .ok (.aload_n 0, 1) := by decide +kernel
theorem dX8_stands_79 : decode cX8_stands 79 = .ok (.getfield 39, 3) := by decide +kernel
theorem dX8_stands_82 : decode cX8_stands 82 = .ok (.getfield 146, 3) := by decide +kernel
theorem dX8_stands_85 : decode cX8_stands 85 = .ok (.iload_n 1, 1) := by decide +kernel
theorem dX8_stands_86 : decode cX8_stands 86 = .ok (.invokevirtual 268, 3) := by decide +kernel
theorem dX8_stands_89 : decode cX8_stands 89 = .ok (.ifCond .eq 74, 3) := by decide +kernel
theorem dX8_stands_92 : decode cX8_stands 92 = .ok (.aload_n 0, 1) := by decide +kernel
theorem dX8_stands_93 : decode cX8_stands 93 = .ok (.getfield 20, 3) := by decide +kernel
theorem dX8_stands_96 : decode cX8_stands 96 = .ok (.aload_n 0, 1) := by decide +kernel
theorem dX8_stands_97 : decode cX8_stands 97 = .ok (.getfield 39, 3) := by decide +kernel
theorem dX8_stands_100 : decode cX8_stands 100 = .ok (.getfield 133, 3) := by decide +kernel
theorem dX8_stands_103 : decode cX8_stands 103 = .ok (.iload_n 1, 1) := by decide +kernel
theorem dX8_stands_104 : decode cX8_stands 104 = .ok (.invokevirtual 272, 3) := by decide +kernel
theorem dX8_stands_107 : decode cX8_stands 107 = .ok (.ifCond .ne 7, 3) := by decide +kernel
theorem dX8_stands_110 : decode cX8_stands 110 = .ok (.iconst 1, 1) := by decide +kernel
theorem dX8_stands_111 : decode cX8_stands 111 = .ok (.goto 4, 3) := by decide +kernel
theorem dX8_stands_114 : decode cX8_stands 114 = .ok (.iconst 0, 1) := by decide +kernel
theorem dX8_stands_115 : decode cX8_stands 115 = .ok (.istore 5, 2) := by decide +kernel
theorem dX8_stands_117 : decode cX8_stands 117 = .ok (.iconst 0, 1) := by decide +kernel
theorem dX8_stands_118 : decode cX8_stands 118 = .ok (.istore 6, 2) := by decide +kernel
theorem dX8_stands_120 : decode cX8_stands 120 = .ok (.iload 6, 2) := by decide +kernel
theorem dX8_stands_122 : decode cX8_stands 122 = .ok (.iload_n 2, 1) := by decide +kernel
theorem dX8_stands_123 : decode cX8_stands 123 = .ok (.if_icmp .ge 40, 3) := by decide +kernel
theorem dX8_stands_126 : decode cX8_stands 126 = .ok (.aload_n 0, 1) := by decide +kernel
theorem dX8_stands_127 : decode cX8_stands 127 = .ok (.getfield 71, 3) := by decide +kernel
theorem dX8_stands_130 : decode cX8_stands 130 = .ok (.aload_n 0, 1) := by decide +kernel
theorem dX8_stands_131 : decode cX8_stands 131 = .ok (.getfield 20, 3) := by decide +kernel
theorem dX8_stands_134 : decode cX8_stands 134 = .ok (.aload_n 0, 1) := by decide +kernel
theorem dX8_stands_135 : decode cX8_stands 135 = .ok (.getfield 20, 3) := by decide +kernel
theorem dX8_stands_138 : decode cX8_stands 138 = .ok (.iload_n 1, 1) := by decide +kernel
theorem dX8_stands_139 : decode cX8_stands 139 = .ok (.invokevirtual 127, 3) := by decide +kernel
theorem dX8_stands_142 : decode cX8_stands 142 = .ok (.iload 5, 2) := by decide +kernel
theorem dX8_stands_144 : decode cX8_stands 144 = .ok (.aload_n 0, 1) := by decide +kernel
theorem dX8_stands_145 : decode cX8_stands 145 = .ok (.getfield 39, 3) := by decide +kernel
theorem dX8_stands_148 : decode cX8_stands 148 = .ok (.getfield 155, 3) := by decide +kernel
theorem dX8_stands_151 : decode cX8_stands 151 = .ok (.iload 6, 2) := by decide +kernel
theorem dX8_stands_153 : decode cX8_stands 153 = .ok (.iadd, 1) := by decide +kernel
theorem dX8_stands_154 : decode cX8_stands 154 = .ok (.invokevirtual 275, 3) := by decide +kernel
theorem dX8_stands_157 : decode cX8_stands 157 = .ok (.iinc 6 1, 3) := by decide +kernel
theorem dX8_stands_160 : decode cX8_stands 160 = .ok (.goto (-40), 3) := by decide +kernel
theorem dX8_stands_163 : decode cX8_stands 163 = .ok (.aload_n 0, 1) := by decide +kernel
theorem dX8_stands_164 : decode cX8_stands 164 = .ok (.getfield 71, 3) := by decide +kernel
theorem dX8_stands_167 : decode cX8_stands 167 = .ok (.iload_n 3, 1) := by decide +kernel
theorem dX8_stands_168 : decode cX8_stands 168 = .ok (.invokevirtual 279, 3) := by decide +kernel
theorem dX8_stands_171 : decode cX8_stands 171 = .ok (.aload_n 0, 1) := by decide +kernel
theorem dX8_stands_172 : decode cX8_stands 172 = .ok (.getfield 71, 3) := by decide +kernel
theorem dX8_stands_175 : decode cX8_stands 175 = .ok (.invokevirtual 283, 3) := by decide +kernel
theorem dX8_stands_178 : decode cX8_stands 178 = .ok (.iload 4, 2) := by decide +kernel
theorem dX8_stands_180 : decode cX8_stands 180 = .ok (.invokestatic 287, 3) := by decide +kernel
theorem dX8_stands_183 : decode cX8_stands 183 = .ok (.lreturn, 1) := by decide +kernel
theorem dX8_thought_0 : decode cX8_thought 0 = .ok (.aload_n 0, 1) := by decide +kernel
theorem dX8_thought_1 : decode cX8_thought 1 = .ok (.getfield 20, 3) := by decide +kernel
theorem dX8_thought_4 : decode cX8_thought 4 = .ok (.iload_n 1, 1) := by decide +kernel
theorem dX8_thought_5 : decode cX8_thought 5 = .ok (.invokevirtual 116, 3) := by decide +kernel
theorem dX8_thought_8 : decode cX8_thought 8 = .ok (.ifCond .ne 5, 3) := by decide +kernel
theorem dX8_thought_11 : decode cX8_thought 11 = .ok (.iconst (-1), 1) := by decide +kernel
theorem dX8_thought_12 : decode cX8_thought 12 = .ok (.ireturn, 1) := by decide +kernel
theorem dX8_thought_13 : decode cX8_thought 13 = .ok (.aload_n 0, 1) := by decide +kernel
theorem dX8_thought_14 : decode cX8_thought 14 = .ok (.getfield 78, 3) := by decide +kernel
theorem dX8_thought_17 : decode cX8_thought 17 = .ok (.iload_n 1, 1) := by decide +kernel
theorem dX8_thought_18 : decode cX8_thought 18 = .ok (.invokevirtual 111, 3) := by decide +kernel
theorem dX8_thought_21 : decode cX8_thought 21 = .ok (.iconst 1, 1) := by decide +kernel
theorem dX8_thought_22 : decode cX8_thought 22 = .ok (.ireturn, 1) := by decide +kernel
theorem dX8_aged_0 : decode cX8_aged 0 = .ok (.aload_n 0, 1) := by decide +kernel
theorem dX8_aged_1 : decode cX8_aged 1 = .ok (.getfield 78, 3) := by decide +kernel
theorem dX8_aged_4 : decode cX8_aged 4 = .ok (.invokevirtual 291, 3) := by decide +kernel
theorem dX8_aged_7 : decode cX8_aged 7 = .ok (.ireturn, 1) := by decide +kernel
theorem dX8_shown_0 : decode cX8_shown 0 = .ok (.iload_n 1, 1) := by decide +kernel
theorem dX8_shown_1 : decode cX8_shown 1 = .ok (.ifCond .lt 8, 3) := by decide +kernel
theorem dX8_shown_4 : decode cX8_shown 4 = .ok (.iload_n 1, 1) := by decide +kernel
theorem dX8_shown_5 : decode cX8_shown 5 = .ok (.iconst 1, 1) := by decide +kernel
theorem dX8_shown_6 : decode cX8_shown 6 = .ok (.if_icmp .le 7, 3) := by decide +kernel
theorem dX8_shown_9 : decode cX8_shown 9 = .ok (.iconst (-1), 1) := by decide +kernel
theorem dX8_shown_10 : decode cX8_shown 10 = .ok (.goto 20, 3) := by decide +kernel
theorem dX8_shown_13 : decode cX8_shown 13 = .ok (.aload_n 0, 1) := by decide +kernel
theorem dX8_shown_14 : decode cX8_shown 14 = .ok (.getfield 78, 3) := by decide +kernel
theorem dX8_shown_17 : decode cX8_shown 17 = .ok (.iload_n 1, 1) := by decide +kernel
theorem dX8_shown_18 : decode cX8_shown 18 = .ok (.iconst 1, 1) := by decide +kernel
theorem dX8_shown_19 : decode cX8_shown 19 = .ok (.if_icmp .ne 7, 3) := by decide +kernel
theorem dX8_shown_22 : decode cX8_shown 22 = .ok (.iconst 1, 1) := by decide +kernel
theorem dX8_shown_23 : decode cX8_shown 23 = .ok (.goto 4, 3) := by decide +kernel
theorem dX8_shown_26 : decode cX8_shown 26 = .ok (.iconst 0, 1) := by decide +kernel
theorem dX8_shown_27 : decode cX8_shown 27 = .ok (.invokevirtual 294, 3) := by decide +kernel
theorem dX8_shown_30 : decode cX8_shown 30 = .ok (.ireturn, 1) := by decide +kernel
theorem dX8_thinks_0 : decode cX8_thinks 0 = .ok (.iload_n 1, 1) := by decide +kernel
theorem dX8_thinks_1 : decode cX8_thinks 1 = .ok (.ifCond .lt 17, 3) := by decide +kernel
theorem dX8_thinks_4 : decode cX8_thinks 4 = .ok (.iload_n 1, 1) := by decide +kernel
theorem dX8_thinks_5 : decode cX8_thinks 5 = .ok (.iconst 4, 1) := by decide +kernel
theorem dX8_thinks_6 : decode cX8_thinks 6 = .ok (.if_icmp .gt 12, 3) := by decide +kernel
theorem dX8_thinks_9 : decode cX8_thinks 9 = .ok (.iload_n 2, 1) := by decide +kernel
theorem dX8_thinks_10 : decode cX8_thinks 10 = .ok (.ifCond .lt 8, 3) := by decide +kernel
theorem dX8_thinks_13 : decode cX8_thinks 13 = .ok (.iload_n 2, 1) := by decide +kernel
theorem dX8_thinks_14 : decode cX8_thinks 14 = .ok (.iconst 1, 1) := by decide +kernel
theorem dX8_thinks_15 : decode cX8_thinks 15 = .ok (.if_icmp .le 7, 3) := by decide +kernel
theorem dX8_thinks_18 : decode cX8_thinks 18 = .ok (.ldc2_w 263, 3) := by decide +kernel
theorem dX8_thinks_21 : decode cX8_thinks 21 = .ok (.lreturn, 1) := by decide +kernel
theorem dX8_thinks_22 : decode cX8_thinks 22 = .ok (.aload_n 0, 1) := by decide +kernel
theorem dX8_thinks_23 : decode cX8_thinks 23 = .ok (.getfield 78, 3) := by decide +kernel
theorem dX8_thinks_26 : decode cX8_thinks 26 = .ok (.iload_n 1, 1) := by decide +kernel
theorem dX8_thinks_27 : decode cX8_thinks 27 = .ok (.iload_n 2, 1) := by decide +kernel
theorem dX8_thinks_28 : decode cX8_thinks 28 = .ok (.invokevirtual 298, 3) := by decide +kernel
theorem dX8_thinks_31 : decode cX8_thinks 31 = .ok (.lreturn, 1) := by decide +kernel
theorem dX8_note_0 : decode cX8_note 0 = .ok (.aload_n 0, 1) := by decide +kernel
theorem dX8_note_1 : decode cX8_note 1 = .ok (.getfield 20, 3) := by decide +kernel
theorem dX8_note_4 : decode cX8_note 4 = .ok (.iload_n 2, 1) := by decide +kernel
theorem dX8_note_5 : decode cX8_note 5 = .ok (.invokevirtual 124, 3) := by decide +kernel
theorem dX8_note_8 : decode cX8_note 8 = .ok (.ifCond .eq 22, 3) := by decide +kernel
theorem dX8_note_11 : decode cX8_note 11 = .ok (.aload_n 0, 1) := by decide +kernel
theorem dX8_note_12 : decode cX8_note 12 = .ok (.getfield 85, 3) := by decide +kernel
theorem dX8_note_15 : decode cX8_note 15 = .ok (.iload_n 1, 1) := by decide +kernel
theorem dX8_note_16 : decode cX8_note 16 = .ok (.aload_n 0, 1) := by decide +kernel
theorem dX8_note_17 : decode cX8_note 17 = .ok (.getfield 39, 3) := by decide +kernel
theorem dX8_note_20 : decode cX8_note 20 = .ok (.getfield 133, 3) := by decide +kernel
theorem dX8_note_23 : decode cX8_note 23 = .ok (.iload_n 2, 1) := by decide +kernel
theorem dX8_note_24 : decode cX8_note 24 = .ok (.invokevirtual 302, 3) := by decide +kernel
theorem dX8_note_27 : decode cX8_note 27 = .ok (.goto 5, 3) := by decide +kernel
theorem dX8_note_30 : decode cX8_note 30 = .ok (.ldc 247, 2) := by decide +kernel
theorem dX8_note_32 : decode cX8_note 32 = .ok (.ireturn, 1) := by decide +kernel
theorem dX8_imageOf_0 : decode cX8_imageOf 0 = .ok (.iload_n 1, 1) := by decide +kernel
theorem dX8_imageOf_1 : decode cX8_imageOf 1 = .ok (.ifCond .ne 10, 3) := by decide +kernel
theorem dX8_imageOf_4 : decode cX8_imageOf 4 = .ok (.aload_n 0, 1) := by decide +kernel
theorem dX8_imageOf_5 : decode cX8_imageOf 5 = .ok (.getfield 43, 3) := by decide +kernel
theorem dX8_imageOf_8 : decode cX8_imageOf 8 = .ok (.goto 7, 3) := by decide +kernel
theorem dX8_imageOf_11 : decode cX8_imageOf 11 = .ok (.aload_n 0, 1) := by decide +kernel
theorem dX8_imageOf_12 : decode cX8_imageOf 12 = .ok (.getfield 46, 3) := by decide +kernel
theorem dX8_imageOf_15 : decode cX8_imageOf 15 = .ok (.areturn, 1) := by decide +kernel
theorem dX8_keep_0 : decode cX8_keep 0 = .ok (.iload_n 1, 1) := by decide +kernel
theorem dX8_keep_1 : decode cX8_keep 1 = .ok (.ifCond .lt 8, 3) := by decide +kernel
theorem dX8_keep_4 : decode cX8_keep 4 = .ok (.iload_n 1, 1) := by decide +kernel
theorem dX8_keep_5 : decode cX8_keep 5 = .ok (.iconst 2, 1) := by decide +kernel
theorem dX8_keep_6 : decode cX8_keep 6 = .ok (.if_icmp .lt 5, 3) := by decide +kernel
theorem dX8_keep_9 : decode cX8_keep 9 = .ok (.iconst (-1), 1) := by decide +kernel
theorem dX8_keep_10 : decode cX8_keep 10 = .ok (.ireturn, 1) := by decide +kernel
theorem dX8_keep_11 : decode cX8_keep 11 = .ok (.aload_n 0, 1) := by decide +kernel
theorem dX8_keep_12 : decode cX8_keep 12 = .ok (.iload_n 1, 1) := by decide +kernel
theorem dX8_keep_13 : decode cX8_keep 13 = .ok (.invokevirtual 305, 3) := by decide +kernel
theorem dX8_keep_16 : decode cX8_keep 16 = .ok (.astore_n 2, 1) := by decide +kernel
theorem dX8_keep_17 : decode cX8_keep 17 = .ok (.aload_n 2, 1) := by decide +kernel
theorem dX8_keep_18 : decode cX8_keep 18 = .ok (.aload_n 0, 1) := by decide +kernel
theorem dX8_keep_19 : decode cX8_keep 19 = .ok (.getfield 39, 3) := by decide +kernel
theorem dX8_keep_22 : decode cX8_keep 22 = .ok (.invokevirtual 309, 3) := by decide +kernel
theorem dX8_keep_25 : decode cX8_keep 25 = .ok (.aload_n 2, 1) := by decide +kernel
theorem dX8_keep_26 : decode cX8_keep 26 = .ok (.iconst 1, 1) := by decide +kernel
theorem dX8_keep_27 : decode cX8_keep 27 = .ok (.putfield 107, 3) := by decide +kernel
theorem dX8_keep_30 : decode cX8_keep 30 = .ok (.aload_n 0, 1) := by decide +kernel
theorem dX8_keep_31 : decode cX8_keep 31 = .ok (.getfield 39, 3) := by decide +kernel
theorem dX8_keep_34 : decode cX8_keep 34 = .ok (.getfield 155, 3) := by decide +kernel
theorem dX8_keep_37 : decode cX8_keep 37 = .ok (.ireturn, 1) := by decide +kernel
theorem dX8_back_0 : decode cX8_back 0 = .ok (.iload_n 1, 1) := by decide +kernel
theorem dX8_back_1 : decode cX8_back 1 = .ok (.ifCond .lt 8, 3) := by decide +kernel
theorem dX8_back_4 : decode cX8_back 4 = .ok (.iload_n 1, 1) := by decide +kernel
theorem dX8_back_5 : decode cX8_back 5 = .ok (.iconst 2, 1) := by decide +kernel
theorem dX8_back_6 : decode cX8_back 6 = .ok (.if_icmp .lt 5, 3) := by decide +kernel
theorem dX8_back_9 : decode cX8_back 9 = .ok (.iconst (-1), 1) := by decide +kernel
theorem dX8_back_10 : decode cX8_back 10 = .ok (.ireturn, 1) := by decide +kernel
theorem dX8_back_11 : decode cX8_back 11 = .ok (.aload_n 0, 1) := by decide +kernel
theorem dX8_back_12 : decode cX8_back 12 = .ok (.iload_n 1, 1) := by decide +kernel
theorem dX8_back_13 : decode cX8_back 13 = .ok (.invokevirtual 305, 3) := by decide +kernel
theorem dX8_back_16 : decode cX8_back 16 = .ok (.astore_n 2, 1) := by decide +kernel
theorem dX8_back_17 : decode cX8_back 17 = .ok (.aload_n 2, 1) := by decide +kernel
theorem dX8_back_18 : decode cX8_back 18 = .ok (.getfield 107, 3) := by decide +kernel
theorem dX8_back_21 : decode cX8_back 21 = .ok (.ifCond .ne 6, 3) := by decide +kernel
theorem dX8_back_24 : decode cX8_back 24 = .ok (.bipush (-2), 2) := by decide +kernel
theorem dX8_back_26 : decode cX8_back 26 = .ok (.ireturn, 1) := by decide +kernel
theorem dX8_back_27 : decode cX8_back 27 = .ok (.aload_n 0, 1) := by decide +kernel
theorem dX8_back_28 : decode cX8_back 28 = .ok (.getfield 39, 3) := by decide +kernel
theorem dX8_back_31 : decode cX8_back 31 = .ok (.aload_n 2, 1) := by decide +kernel
theorem dX8_back_32 : decode cX8_back 32 = .ok (.invokevirtual 309, 3) := by decide +kernel
theorem dX8_back_35 : decode cX8_back 35 = .ok (.aload_n 0, 1) := by decide +kernel
theorem dX8_back_36 : decode cX8_back 36 = .ok (.getfield 39, 3) := by decide +kernel
theorem dX8_back_39 : decode cX8_back 39 = .ok (.getfield 155, 3) := by decide +kernel
theorem dX8_back_42 : decode cX8_back 42 = .ok (.ireturn, 1) := by decide +kernel
theorem dX8_count_0 : decode cX8_count 0 = .ok (.iload_n 1, 1) := by decide +kernel
theorem dX8_count_1 : decode cX8_count 1 = .ok (.tableswitch 84 0 5 #[39, 47, 55, 63, 71, 76], 39) := by decide +kernel
theorem dX8_count_40 : decode cX8_count 40 = .ok (.aload_n 0, 1) := by decide +kernel
theorem dX8_count_41 : decode cX8_count 41 = .ok (.getfield 20, 3) := by decide +kernel
theorem dX8_count_44 : decode cX8_count 44 = .ok (.getfield 311, 3) := by decide +kernel
theorem dX8_count_47 : decode cX8_count 47 = .ok (.ireturn, 1) := by decide +kernel
theorem dX8_count_48 : decode cX8_count 48 = .ok (.aload_n 0, 1) := by decide +kernel
theorem dX8_count_49 : decode cX8_count 49 = .ok (.getfield 20, 3) := by decide +kernel
theorem dX8_count_52 : decode cX8_count 52 = .ok (.getfield 314, 3) := by decide +kernel
theorem dX8_count_55 : decode cX8_count 55 = .ok (.ireturn, 1) := by decide +kernel
theorem dX8_count_56 : decode cX8_count 56 = .ok (.aload_n 0, 1) := by decide +kernel
theorem dX8_count_57 : decode cX8_count 57 = .ok (.getfield 20, 3) := by decide +kernel
theorem dX8_count_60 : decode cX8_count 60 = .ok (.getfield 189, 3) := by decide +kernel
theorem dX8_count_63 : decode cX8_count 63 = .ok (.ireturn, 1) := by decide +kernel
theorem dX8_count_64 : decode cX8_count 64 = .ok (.aload_n 0, 1) := by decide +kernel
theorem dX8_count_65 : decode cX8_count 65 = .ok (.getfield 20, 3) := by decide +kernel
theorem dX8_count_68 : decode cX8_count 68 = .ok (.getfield 317, 3) := by decide +kernel
theorem dX8_count_71 : decode cX8_count 71 = .ok (.ireturn, 1) := by decide +kernel
theorem dX8_count_72 : decode cX8_count 72 = .ok (.aload_n 0, 1) := by decide +kernel
theorem dX8_count_73 : decode cX8_count 73 = .ok (.getfield 13, 3) := by decide +kernel
theorem dX8_count_76 : decode cX8_count 76 = .ok (.ireturn, 1) := by decide +kernel
theorem dX8_count_77 : decode cX8_count 77 = .ok (.aload_n 0, 1) := by decide +kernel
theorem dX8_count_78 : decode cX8_count 78 = .ok (.getfield 78, 3) := by decide +kernel
theorem dX8_count_81 : decode cX8_count 81 = .ok (.getfield 320, 3) := by decide +kernel
theorem dX8_count_84 : decode cX8_count 84 = .ok (.ireturn, 1) := by decide +kernel
theorem dX8_count_85 : decode cX8_count 85 = .ok (.iconst (-1), 1) := by decide +kernel
theorem dX8_count_86 : decode cX8_count 86 = .ok (.ireturn, 1) := by decide +kernel
theorem dX8_trace_0 : decode cX8_trace 0 = .ok (.aload_n 0, 1) := by decide +kernel
theorem dX8_trace_1 : decode cX8_trace 1 = .ok (.getfield 85, 3) := by decide +kernel
theorem dX8_trace_4 : decode cX8_trace 4 = .ok (.getfield 323, 3) := by decide +kernel
theorem dX8_trace_7 : decode cX8_trace 7 = .ok (.lreturn, 1) := by decide +kernel
theorem dX8_portionsOf_0 : decode cX8_portionsOf 0 = .ok (.iload_n 0, 1) := by decide +kernel
theorem dX8_portionsOf_1 : decode cX8_portionsOf 1 = .ok (.iconst 4, 1) := by decide +kernel
theorem dX8_portionsOf_2 : decode cX8_portionsOf 2 = .ok (.iload_n 1, 1) := by decide +kernel
theorem dX8_portionsOf_3 : decode cX8_portionsOf 3 = .ok (.imul, 1) := by decide +kernel
theorem dX8_portionsOf_4 : decode cX8_portionsOf 4 = .ok (.ishr, 1) := by decide +kernel
theorem dX8_portionsOf_5 : decode cX8_portionsOf 5 = .ok (.iconst 3, 1) := by decide +kernel
theorem dX8_portionsOf_6 : decode cX8_portionsOf 6 = .ok (.iand, 1) := by decide +kernel
theorem dX8_portionsOf_7 : decode cX8_portionsOf 7 = .ok (.ireturn, 1) := by decide +kernel
theorem dX8_stepOf_0 : decode cX8_stepOf 0 = .ok (.iload_n 0, 1) := by decide +kernel
theorem dX8_stepOf_1 : decode cX8_stepOf 1 = .ok (.iconst 4, 1) := by decide +kernel
theorem dX8_stepOf_2 : decode cX8_stepOf 2 = .ok (.iload_n 1, 1) := by decide +kernel
theorem dX8_stepOf_3 : decode cX8_stepOf 3 = .ok (.imul, 1) := by decide +kernel
theorem dX8_stepOf_4 : decode cX8_stepOf 4 = .ok (.iconst 2, 1) := by decide +kernel
theorem dX8_stepOf_5 : decode cX8_stepOf 5 = .ok (.iadd, 1) := by decide +kernel
theorem dX8_stepOf_6 : decode cX8_stepOf 6 = .ok (.ishr, 1) := by decide +kernel
theorem dX8_stepOf_7 : decode cX8_stepOf 7 = .ok (.iconst 3, 1) := by decide +kernel
theorem dX8_stepOf_8 : decode cX8_stepOf 8 = .ok (.iand, 1) := by decide +kernel
theorem dX8_stepOf_9 : decode cX8_stepOf 9 = .ok (.ireturn, 1) := by decide +kernel
theorem dX8_field_0 : decode cX8_field 0 = .ok (.iconst 4, 1) := by decide +kernel
theorem dX8_field_1 : decode cX8_field 1 = .ok (.iload_n 1, 1) := by decide +kernel
theorem dX8_field_2 : decode cX8_field 2 = .ok (.imul, 1) := by decide +kernel
theorem dX8_field_3 : decode cX8_field 3 = .ok (.iload_n 2, 1) := by decide +kernel
theorem dX8_field_4 : decode cX8_field 4 = .ok (.iadd, 1) := by decide +kernel
theorem dX8_field_5 : decode cX8_field 5 = .ok (.iconst 4, 1) := by decide +kernel
theorem dX8_field_6 : decode cX8_field 6 = .ok (.iload_n 0, 1) := by decide +kernel
theorem dX8_field_7 : decode cX8_field 7 = .ok (.imul, 1) := by decide +kernel
theorem dX8_field_8 : decode cX8_field 8 = .ok (.ishl, 1) := by decide +kernel
theorem dX8_field_9 : decode cX8_field 9 = .ok (.ireturn, 1) := by decide +kernel
theorem dX8_without_0 : decode cX8_without 0 = .ok (.iload_n 0, 1) := by decide +kernel
theorem dX8_without_1 : decode cX8_without 1 = .ok (.bipush 15, 2) := by decide +kernel
theorem dX8_without_3 : decode cX8_without 3 = .ok (.iconst 4, 1) := by decide +kernel
theorem dX8_without_4 : decode cX8_without 4 = .ok (.iload_n 1, 1) := by decide +kernel
theorem dX8_without_5 : decode cX8_without 5 = .ok (.imul, 1) := by decide +kernel
theorem dX8_without_6 : decode cX8_without 6 = .ok (.ishl, 1) := by decide +kernel
theorem dX8_without_7 : decode cX8_without 7 = .ok (.iconst (-1), 1) := by decide +kernel
theorem dX8_without_8 : decode cX8_without 8 = .ok (.ixor, 1) := by decide +kernel
theorem dX8_without_9 : decode cX8_without 9 = .ok (.iand, 1) := by decide +kernel
theorem dX8_without_10 : decode cX8_without 10 = .ok (.ireturn, 1) := by decide +kernel
theorem dX8_allPortions_0 : decode cX8_allPortions 0 = .ok (.iload_n 0, 1) := by decide +kernel
theorem dX8_allPortions_1 : decode cX8_allPortions 1 = .ok (.iconst 0, 1) := by decide +kernel
theorem dX8_allPortions_2 : decode cX8_allPortions 2 = .ok (.invokestatic 139, 3) := by decide +kernel
theorem dX8_allPortions_5 : decode cX8_allPortions 5 = .ok (.iload_n 0, 1) := by decide +kernel
theorem dX8_allPortions_6 : decode cX8_allPortions 6 = .ok (.iconst 1, 1) := by decide +kernel
theorem dX8_allPortions_7 : decode cX8_allPortions 7 = .ok (.invokestatic 139, 3) := by decide +kernel
theorem dX8_allPortions_10 : decode cX8_allPortions 10 = .ok (.iadd, 1) := by decide +kernel
theorem dX8_allPortions_11 : decode cX8_allPortions 11 = .ok (.iload_n 0, 1) := by decide +kernel
theorem dX8_allPortions_12 : decode cX8_allPortions 12 = .ok (.iconst 2, 1) := by decide +kernel
theorem dX8_allPortions_13 : decode cX8_allPortions 13 = .ok (.invokestatic 139, 3) := by decide +kernel
theorem dX8_allPortions_16 : decode cX8_allPortions 16 = .ok (.iadd, 1) := by decide +kernel
theorem dX8_allPortions_17 : decode cX8_allPortions 17 = .ok (.ireturn, 1) := by decide +kernel
theorem dX8_has_0 : decode cX8_has 0 = .ok (.iload_n 0, 1) := by decide +kernel
theorem dX8_has_1 : decode cX8_has 1 = .ok (.iload_n 1, 1) := by decide +kernel
theorem dX8_has_2 : decode cX8_has 2 = .ok (.ishr, 1) := by decide +kernel
theorem dX8_has_3 : decode cX8_has 3 = .ok (.iconst 1, 1) := by decide +kernel
theorem dX8_has_4 : decode cX8_has 4 = .ok (.iand, 1) := by decide +kernel
theorem dX8_has_5 : decode cX8_has 5 = .ok (.iconst 1, 1) := by decide +kernel
theorem dX8_has_6 : decode cX8_has 6 = .ok (.if_icmp .ne 7, 3) := by decide +kernel
theorem dX8_has_9 : decode cX8_has 9 = .ok (.iconst 1, 1) := by decide +kernel
theorem dX8_has_10 : decode cX8_has 10 = .ok (.goto 4, 3) := by decide +kernel
theorem dX8_has_13 : decode cX8_has 13 = .ok (.iconst 0, 1) := by decide +kernel
theorem dX8_has_14 : decode cX8_has 14 = .ok (.ireturn, 1) := by decide +kernel
theorem dX8_commonPart_0 : decode cX8_commonPart 0 = .ok (.lload_n 0, 1) := by decide +kernel
theorem dX8_commonPart_1 : decode cX8_commonPart 1 = .ok (.lstore 4, 2) := by decide +kernel
theorem dX8_commonPart_3 : decode cX8_commonPart 3 = .ok (.lload_n 2, 1) := by decide +kernel
theorem dX8_commonPart_4 : decode cX8_commonPart 4 = .ok (.lstore 6, 2) := by decide +kernel
theorem dX8_commonPart_6 : decode cX8_commonPart 6 = .ok (.iconst 0, 1) := by decide +kernel
theorem dX8_commonPart_7 : decode cX8_commonPart 7 = .ok (.istore 8, 2) := by decide +kernel
theorem dX8_commonPart_9 : decode cX8_commonPart 9 = .ok (.iload 8, 2) := by decide +kernel
theorem dX8_commonPart_11 : decode cX8_commonPart 11 = .ok (.sipush 200, 3) := by decide +kernel
theorem dX8_commonPart_14 : decode cX8_commonPart 14 = .ok (.if_icmp .ge 31, 3) := by decide +kernel
theorem dX8_commonPart_17 : decode cX8_commonPart 17 = .ok (.lload 6, 2) := by decide +kernel
theorem dX8_commonPart_19 : decode cX8_commonPart 19 = .ok (.lconst 0, 1) := by decide +kernel
theorem dX8_commonPart_20 : decode cX8_commonPart 20 = .ok (.lcmp, 1) := by decide +kernel
theorem dX8_commonPart_21 : decode cX8_commonPart 21 = .ok (.ifCond .eq 24, 3) := by decide +kernel
theorem dX8_commonPart_24 : decode cX8_commonPart 24 = .ok (.lload 4, 2) := by decide +kernel
theorem dX8_commonPart_26 : decode cX8_commonPart 26 = .ok (.lload 6, 2) := by decide +kernel
theorem dX8_commonPart_28 : decode cX8_commonPart 28 = .ok (.lrem, 1) := by decide +kernel
theorem dX8_commonPart_29 : decode cX8_commonPart 29 = .ok (.lstore 9, 2) := by decide +kernel
theorem dX8_commonPart_31 : decode cX8_commonPart 31 = .ok (.lload 6, 2) := by decide +kernel
theorem dX8_commonPart_33 : decode cX8_commonPart 33 = .ok (.lstore 4, 2) := by decide +kernel
theorem dX8_commonPart_35 : decode cX8_commonPart 35 = .ok (.lload 9, 2) := by decide +kernel
theorem dX8_commonPart_37 : decode cX8_commonPart 37 = .ok (.lstore 6, 2) := by decide +kernel
theorem dX8_commonPart_39 : decode cX8_commonPart 39 = .ok (.iinc 8 1, 3) := by decide +kernel
theorem dX8_commonPart_42 : decode cX8_commonPart 42 = .ok (.goto (-33), 3) := by decide +kernel
theorem dX8_commonPart_45 : decode cX8_commonPart 45 = .ok (.lload 4, 2) := by decide +kernel
theorem dX8_commonPart_47 : decode cX8_commonPart 47 = .ok (.lreturn, 1) := by decide +kernel
theorem dX8_partOfLeast_0 : decode cX8_partOfLeast 0 = .ok (.lload_n 0, 1) := by decide +kernel
theorem dX8_partOfLeast_1 : decode cX8_partOfLeast 1 = .ok (.lload_n 2, 1) := by decide +kernel
theorem dX8_partOfLeast_2 : decode cX8_partOfLeast 2 = .ok (.invokestatic 327, 3) := by decide +kernel
theorem dX8_partOfLeast_5 : decode cX8_partOfLeast 5 = .ok (.lstore 5, 2) := by decide +kernel
theorem dX8_partOfLeast_7 : decode cX8_partOfLeast 7 = .ok (.iload 4, 2) := by decide +kernel
theorem dX8_partOfLeast_9 : decode cX8_partOfLeast 9 = .ok (.ifCond .ne 7, 3) := by decide +kernel
theorem dX8_partOfLeast_12 : decode cX8_partOfLeast 12 = .ok (.lload_n 0, 1) := by decide +kernel
theorem dX8_partOfLeast_13 : decode cX8_partOfLeast 13 = .ok (.goto 4, 3) := by decide +kernel
theorem dX8_partOfLeast_16 : decode cX8_partOfLeast 16 = .ok (.lload_n 2, 1) := by decide +kernel
theorem dX8_partOfLeast_17 : decode cX8_partOfLeast 17 = .ok (.lstore 7, 2) := by decide +kernel
theorem dX8_partOfLeast_19 : decode cX8_partOfLeast 19 = .ok (.lload 5, 2) := by decide +kernel
theorem dX8_partOfLeast_21 : decode cX8_partOfLeast 21 = .ok (.lconst 0, 1) := by decide +kernel
theorem dX8_partOfLeast_22 : decode cX8_partOfLeast 22 = .ok (.lcmp, 1) := by decide +kernel
theorem dX8_partOfLeast_23 : decode cX8_partOfLeast 23 = .ok (.ifCond .ne 8, 3) := by decide +kernel
theorem dX8_partOfLeast_26 : decode cX8_partOfLeast 26 = .ok (.lload 7, 2) := by decide +kernel
theorem dX8_partOfLeast_28 : decode cX8_partOfLeast 28 = .ok (.goto 8, 3) := by decide +kernel
theorem dX8_partOfLeast_31 : decode cX8_partOfLeast 31 = .ok (.lload 7, 2) := by decide +kernel
theorem dX8_partOfLeast_33 : decode cX8_partOfLeast 33 = .ok (.lload 5, 2) := by decide +kernel
theorem dX8_partOfLeast_35 : decode cX8_partOfLeast 35 = .ok (.ldiv, 1) := by decide +kernel
theorem dX8_partOfLeast_36 : decode cX8_partOfLeast 36 = .ok (.lreturn, 1) := by decide +kernel
theorem dX9_init_0 : decode cX9_init 0 = .ok (.aload_n 0, 1) := by decide +kernel
theorem dX9_init_1 : decode cX9_init 1 = .ok (.invokespecial 1, 3) := by decide +kernel
theorem dX9_init_4 : decode cX9_init 4 = .ok (.aload_n 0, 1) := by decide +kernel
theorem dX9_init_5 : decode cX9_init 5 = .ok (.sipush 400, 3) := by decide +kernel
theorem dX9_init_8 : decode cX9_init 8 = .ok (.newarray .byte, 2) := by decide +kernel
theorem dX9_init_10 : decode cX9_init 10 = .ok (.putfield 7, 3) := by decide +kernel
theorem dX9_init_13 : decode cX9_init 13 = .ok (.aload_n 0, 1) := by decide +kernel
theorem dX9_init_14 : decode cX9_init 14 = .ok (.iconst 2, 1) := by decide +kernel
theorem dX9_init_15 : decode cX9_init 15 = .ok (.newarray .int, 2) := by decide +kernel
theorem dX9_init_17 : decode cX9_init 17 = .ok (.putfield 13, 3) := by decide +kernel
theorem dX9_init_20 : decode cX9_init 20 = .ok (.aload_n 0, 1) := by decide +kernel
theorem dX9_init_21 : decode cX9_init 21 = .ok (.iconst 2, 1) := by decide +kernel
theorem dX9_init_22 : decode cX9_init 22 = .ok (.newarray .int, 2) := by decide +kernel
theorem dX9_init_24 : decode cX9_init 24 = .ok (.putfield 17, 3) := by decide +kernel
theorem dX9_init_27 : decode cX9_init 27 = .ok (.aload_n 0, 1) := by decide +kernel
theorem dX9_init_28 : decode cX9_init 28 = .ok (.iconst 2, 1) := by decide +kernel
theorem dX9_init_29 : decode cX9_init 29 = .ok (.newarray .int, 2) := by decide +kernel
theorem dX9_init_31 : decode cX9_init 31 = .ok (.putfield 20, 3) := by decide +kernel
theorem dX9_init_34 : decode cX9_init 34 = .ok (.aload_n 0, 1) := by decide +kernel
theorem dX9_init_35 : decode cX9_init 35 = .ok (.iconst 2, 1) := by decide +kernel
theorem dX9_init_36 : decode cX9_init 36 = .ok (.newarray .int, 2) := by decide +kernel
theorem dX9_init_38 : decode cX9_init 38 = .ok (.putfield 23, 3) := by decide +kernel
theorem dX9_init_41 : decode cX9_init 41 = .ok (.aload_n 0, 1) := by decide +kernel
theorem dX9_init_42 : decode cX9_init 42 = .ok (.bipush 112, 2) := by decide +kernel
theorem dX9_init_44 : decode cX9_init 44 = .ok (.newarray .int, 2) := by decide +kernel
theorem dX9_init_46 : decode cX9_init 46 = .ok (.putfield 26, 3) := by decide +kernel
theorem dX9_init_49 : decode cX9_init 49 = .ok (.aload_n 0, 1) := by decide +kernel
theorem dX9_init_50 : decode cX9_init 50 = .ok (.bipush 6, 2) := by decide +kernel
theorem dX9_init_52 : decode cX9_init 52 = .ok (.newarray .int, 2) := by decide +kernel
theorem dX9_init_54 : decode cX9_init 54 = .ok (.putfield 29, 3) := by decide +kernel
theorem dX9_init_57 : decode cX9_init 57 = .ok (.aload_n 0, 1) := by decide +kernel
theorem dX9_init_58 : decode cX9_init 58 = .ok (.bipush 6, 2) := by decide +kernel
theorem dX9_init_60 : decode cX9_init 60 = .ok (.newarray .int, 2) := by decide +kernel
theorem dX9_init_62 : decode cX9_init 62 = .ok (.putfield 32, 3) := by decide +kernel
theorem dX9_init_65 : decode cX9_init 65 = .ok (.aload_n 0, 1) := by decide +kernel
theorem dX9_init_66 : decode cX9_init 66 = .ok (.bipush 16, 2) := by decide +kernel
theorem dX9_init_68 : decode cX9_init 68 = .ok (.newarray .int, 2) := by decide +kernel
theorem dX9_init_70 : decode cX9_init 70 = .ok (.putfield 35, 3) := by decide +kernel
theorem dX9_init_73 : decode cX9_init 73 = .ok (.aload_n 0, 1) := by decide +kernel
theorem dX9_init_74 : decode cX9_init 74 = .ok (.bipush 16, 2) := by decide +kernel
theorem dX9_init_76 : decode cX9_init 76 = .ok (.newarray .int, 2) := by decide +kernel
theorem dX9_init_78 : decode cX9_init 78 = .ok (.putfield 38, 3) := by decide +kernel
theorem dX9_init_81 : decode cX9_init 81 = .ok (.aload_n 0, 1) := by decide +kernel
theorem dX9_init_82 : decode cX9_init 82 = .ok (.iconst 3, 1) := by decide +kernel
theorem dX9_init_83 : decode cX9_init 83 = .ok (.newarray .int, 2) := by decide +kernel
theorem dX9_init_85 : decode cX9_init 85 = .ok (.putfield 41, 3) := by decide +kernel
theorem dX9_init_88 : decode cX9_init 88 = .ok (.aload_n 0, 1) := by decide +kernel
theorem dX9_init_89 : decode cX9_init 89 = .ok (.iconst 3, 1) := by decide +kernel
theorem dX9_init_90 : decode cX9_init 90 = .ok (.newarray .boolean, 2) := by decide +kernel
theorem dX9_init_92 : decode cX9_init 92 = .ok (.putfield 44, 3) := by decide +kernel
theorem dX9_init_95 : decode cX9_init 95 = .ok (.aload_n 0, 1) := by decide +kernel
theorem dX9_init_96 : decode cX9_init 96 = .ok (.iconst 3, 1) := by decide +kernel
theorem dX9_init_97 : decode cX9_init 97 = .ok (.newarray .int, 2) := by decide +kernel
theorem dX9_init_99 : decode cX9_init 99 = .ok (.putfield 48, 3) := by decide +kernel
theorem dX9_init_102 : decode cX9_init 102 = .ok (.aload_n 0, 1) := by decide +kernel
theorem dX9_init_103 : decode cX9_init 103 = .ok (.iconst 3, 1) := by decide +kernel
theorem dX9_init_104 : decode cX9_init 104 = .ok (.newarray .int, 2) := by decide +kernel
theorem dX9_init_106 : decode cX9_init 106 = .ok (.putfield 51, 3) := by decide +kernel
theorem dX9_init_109 : decode cX9_init 109 = .ok (.aload_n 0, 1) := by decide +kernel
theorem dX9_init_110 : decode cX9_init 110 = .ok (.iconst 3, 1) := by decide +kernel
theorem dX9_init_111 : decode cX9_init 111 = .ok (.newarray .int, 2) := by decide +kernel
theorem dX9_init_113 : decode cX9_init 113 = .ok (.putfield 54, 3) := by decide +kernel
theorem dX9_init_116 : decode cX9_init 116 = .ok (.aload_n 0, 1) := by decide +kernel
theorem dX9_init_117 : decode cX9_init 117 = .ok (.bipush 9, 2) := by decide +kernel
theorem dX9_init_119 : decode cX9_init 119 = .ok (.newarray .int, 2) := by decide +kernel
theorem dX9_init_121 : decode cX9_init 121 = .ok (.putfield 57, 3) := by decide +kernel
theorem dX9_init_124 : decode cX9_init 124 = .ok (.aload_n 0, 1) := by decide +kernel
theorem dX9_init_125 : decode cX9_init 125 = .ok (.bipush 9, 2) := by decide +kernel
theorem dX9_init_127 : decode cX9_init 127 = .ok (.newarray .int, 2) := by decide +kernel
theorem dX9_init_129 : decode cX9_init 129 = .ok (.putfield 60, 3) := by decide +kernel
theorem dX9_init_132 : decode cX9_init 132 = .ok (.aload_n 0, 1) := by decide +kernel
theorem dX9_init_133 : decode cX9_init 133 = .ok (.bipush 9, 2) := by decide +kernel
theorem dX9_init_135 : decode cX9_init 135 = .ok (.newarray .boolean, 2) := by decide +kernel
theorem dX9_init_137 : decode cX9_init 137 = .ok (.putfield 63, 3) := by decide +kernel
theorem dX9_init_140 : decode cX9_init 140 = .ok (.aload_n 0, 1) := by decide +kernel
theorem dX9_init_141 : decode cX9_init 141 = .ok (.iconst 2, 1) := by decide +kernel
theorem dX9_init_142 : decode cX9_init 142 = .ok (.newarray .boolean, 2) := by decide +kernel
theorem dX9_init_144 : decode cX9_init 144 = .ok (.putfield 66, 3) := by decide +kernel
theorem dX9_init_147 : decode cX9_init 147 = .ok (.aload_n 0, 1) := by decide +kernel
theorem dX9_init_148 : decode cX9_init 148 = .ok (.sipush 4096, 3) := by decide +kernel
theorem dX9_init_151 : decode cX9_init 151 = .ok (.newarray .int, 2) := by decide +kernel
theorem dX9_init_153 : decode cX9_init 153 = .ok (.putfield 69, 3) := by decide +kernel
theorem dX9_init_156 : decode cX9_init 156 = .ok (.aload_n 0, 1) := by decide +kernel
theorem dX9_init_157 : decode cX9_init 157 = .ok (.sipush 4096, 3) := by decide +kernel
theorem dX9_init_160 : decode cX9_init 160 = .ok (.newarray .int, 2) := by decide +kernel
theorem dX9_init_162 : decode cX9_init 162 = .ok (.putfield 72, 3) := by decide +kernel
theorem dX9_init_165 : decode cX9_init 165 = .ok (.aload_n 0, 1) := by decide +kernel
theorem dX9_init_166 : decode cX9_init 166 = .ok (.sipush 4096, 3) := by decide +kernel
theorem dX9_init_169 : decode cX9_init 169 = .ok (.newarray .int, 2) := by decide +kernel
theorem dX9_init_171 : decode cX9_init 171 = .ok (.putfield 75, 3) := by decide +kernel
theorem dX9_init_174 : decode cX9_init 174 = .ok (.aload_n 0, 1) := by decide +kernel
theorem dX9_init_175 : decode cX9_init 175 = .ok (.sipush 4096, 3) := by decide +kernel
theorem dX9_init_178 : decode cX9_init 178 = .ok (.newarray .int, 2) := by decide +kernel
theorem dX9_init_180 : decode cX9_init 180 = .ok (.putfield 78, 3) := by decide +kernel
theorem dX9_init_183 : decode cX9_init 183 = .ok (.aload_n 0, 1) := by decide +kernel
theorem dX9_init_184 : decode cX9_init 184 = .ok (.sipush 216, 3) := by decide +kernel
theorem dX9_init_187 : decode cX9_init 187 = .ok (.newarray .int, 2) := by decide +kernel
theorem dX9_init_189 : decode cX9_init 189 = .ok (.putfield 81, 3) := by decide +kernel
theorem dX9_init_192 : decode cX9_init 192 = .ok (.aload_n 0, 1) := by decide +kernel
theorem dX9_init_193 : decode cX9_init 193 = .ok (.bipush 8, 2) := by decide +kernel
theorem dX9_init_195 : decode cX9_init 195 = .ok (.newarray .int, 2) := by decide +kernel
theorem dX9_init_197 : decode cX9_init 197 = .ok (.putfield 84, 3) := by decide +kernel
theorem dX9_init_200 : decode cX9_init 200 = .ok (.aload_n 0, 1) := by decide +kernel
theorem dX9_init_201 : decode cX9_init 201 = .ok (.bipush 8, 2) := by decide +kernel
theorem dX9_init_203 : decode cX9_init 203 = .ok (.newarray .int, 2) := by decide +kernel
theorem dX9_init_205 : decode cX9_init 205 = .ok (.putfield 87, 3) := by decide +kernel
theorem dX9_init_208 : decode cX9_init 208 = .ok (.aload_n 0, 1) := by decide +kernel
theorem dX9_init_209 : decode cX9_init 209 = .ok (.iconst 3, 1) := by decide +kernel
theorem dX9_init_210 : decode cX9_init 210 = .ok (.newarray .int, 2) := by decide +kernel
theorem dX9_init_212 : decode cX9_init 212 = .ok (.putfield 90, 3) := by decide +kernel
theorem dX9_init_215 : decode cX9_init 215 = .ok (.aload_n 0, 1) := by decide +kernel
theorem dX9_init_216 : decode cX9_init 216 = .ok (.iconst 3, 1) := by decide +kernel
theorem dX9_init_217 : decode cX9_init 217 = .ok (.newarray .int, 2) := by decide +kernel
theorem dX9_init_219 : decode cX9_init 219 = .ok (.putfield 93, 3) := by decide +kernel
theorem dX9_init_222 : decode cX9_init 222 = .ok (.aload_n 0, 1) := by decide +kernel
theorem dX9_init_223 : decode cX9_init 223 = .ok (.iconst 4, 1) := by decide +kernel
theorem dX9_init_224 : decode cX9_init 224 = .ok (.newarray .long, 2) := by decide +kernel
theorem dX9_init_226 : decode cX9_init 226 = .ok (.putfield 96, 3) := by decide +kernel
theorem dX9_init_229 : decode cX9_init 229 = .ok (.aload_n 0, 1) := by decide +kernel
theorem dX9_init_230 : decode cX9_init 230 = .ok (.bipush 8, 2) := by decide +kernel
theorem dX9_init_232 : decode cX9_init 232 = .ok (.newarray .long, 2) := by decide +kernel
