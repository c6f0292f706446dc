theorem dX7_init_0 : decode cX7_init 0 = .ok (.aload_n 0, 1) := by decide +kernel
theorem dX7_init_1 : decode cX7_init 1 = .ok (.invokespecial 3, 3) := by decide +kernel
theorem dX7_init_4 : decode cX7_init 4 = .ok (.aload_n 0, 1) := by decide +kernel
theorem dX7_init_5 : decode cX7_init 5 = .ok (.iconst 1, 1) := by decide +kernel
theorem dX7_init_6 : decode cX7_init 6 = .ok (.bipush 8, 2) := by decide +kernel
theorem dX7_init_8 : decode cX7_init 8 = .ok (.iload_n 1, 1) := by decide +kernel
theorem dX7_init_9 : decode cX7_init 9 = .ok (.invokestatic 9, 3) := by decide +kernel
theorem dX7_init_12 : decode cX7_init 12 = .ok (.invokestatic 15, 3) := by decide +kernel
theorem dX7_init_15 : decode cX7_init 15 = .ok (.putfield 18, 3) := by decide +kernel
theorem dX7_init_18 : decode cX7_init 18 = .ok (.aload_n 0, 1) := by decide +kernel
theorem dX7_init_19 : decode cX7_init 19 = .ok (.new 22, 3) := by decide +kernel
theorem dX7_init_22 : decode cX7_init 22 = .ok (.dup, 1) := by decide +kernel
theorem dX7_init_23 : decode cX7_init 23 = .ok (.sipush 3000, 3) := by decide +kernel
theorem dX7_init_26 : decode cX7_init 26 = .ok (.invokespecial 24, 3) := by decide +kernel
theorem dX7_init_29 : decode cX7_init 29 = .ok (.putfield 27, 3) := by decide +kernel
theorem dX7_init_32 : decode cX7_init 32 = .ok (.aload_n 0, 1) := by decide +kernel
theorem dX7_init_33 : decode cX7_init 33 = .ok (.new 22, 3) := by decide +kernel
theorem dX7_init_36 : decode cX7_init 36 = .ok (.dup, 1) := by decide +kernel
theorem dX7_init_37 : decode cX7_init 37 = .ok (.sipush 1000, 3) := by decide +kernel
theorem dX7_init_40 : decode cX7_init 40 = .ok (.invokespecial 24, 3) := by decide +kernel
theorem dX7_init_43 : decode cX7_init 43 = .ok (.putfield 31, 3) := by decide +kernel
theorem dX7_init_46 : decode cX7_init 46 = .ok (.aload_n 0, 1) := by decide +kernel
theorem dX7_init_47 : decode cX7_init 47 = .ok (.new 22, 3) := by decide +kernel
theorem dX7_init_50 : decode cX7_init 50 = .ok (.dup, 1) := by decide +kernel
theorem dX7_init_51 : decode cX7_init 51 = .ok (.bipush 96, 2) := by decide +kernel
theorem dX7_init_53 : decode cX7_init 53 = .ok (.invokespecial 24, 3) := by decide +kernel
theorem dX7_init_56 : decode cX7_init 56 = .ok (.putfield 34, 3) := by decide +kernel
theorem dX7_init_59 : decode cX7_init 59 = .ok (.iconst 0, 1) := by decide +kernel
theorem dX7_init_60 : decode cX7_init 60 = .ok (.istore_n 2, 1) := by decide +kernel
theorem dX7_init_61 : decode cX7_init 61 = .ok (.iload_n 2, 1) := by decide +kernel
theorem dX7_init_62 : decode cX7_init 62 = .ok (.bipush 96, 2) := by decide +kernel
theorem dX7_init_64 : decode cX7_init 64 = .ok (.if_icmp .ge 18, 3) := by decide +kernel
theorem dX7_init_67 : decode cX7_init 67 = .ok (.aload_n 0, 1) := by decide +kernel
theorem dX7_init_68 : decode cX7_init 68 = .ok (.getfield 34, 3) := by decide +kernel
theorem dX7_init_71 : decode cX7_init 71 = .ok (.iconst (-1), 1) := by decide +kernel
theorem dX7_init_72 : decode cX7_init 72 = .ok (.invokevirtual 37, 3) := by decide +kernel
theorem dX7_init_75 : decode cX7_init 75 = .ok (.pop, 1) := by decide +kernel
theorem dX7_init_76 : decode cX7_init 76 = .ok (.iinc 2 1, 3) := by decide +kernel
theorem dX7_init_79 : decode cX7_init 79 = .ok (.goto (-18), 3) := by decide +kernel
theorem dX7_init_82 : decode cX7_init 82 = .ok (.aload_n 0, 1) := by decide +kernel
theorem dX7_init_83 : decode cX7_init 83 = .ok (.new 22, 3) := by decide +kernel
theorem dX7_init_86 : decode cX7_init 86 = .ok (.dup, 1) := by decide +kernel
theorem dX7_init_87 : decode cX7_init 87 = .ok (.sipush 1000, 3) := by decide +kernel
theorem dX7_init_90 : decode cX7_init 90 = .ok (.invokespecial 24, 3) := by decide +kernel
theorem dX7_init_93 : decode cX7_init 93 = .ok (.putfield 41, 3) := by decide +kernel
theorem dX7_init_96 : decode cX7_init 96 = .ok (.aload_n 0, 1) := by decide +kernel
theorem dX7_init_97 : decode cX7_init 97 = .ok (.new 22, 3) := by decide +kernel
theorem dX7_init_100 : decode cX7_init 100 = .ok (.dup, 1) := by decide +kernel
theorem dX7_init_101 : decode cX7_init 101 = .ok (.sipush 4002, 3) := by decide +kernel
theorem dX7_init_104 : decode cX7_init 104 = .ok (.invokespecial 24, 3) := by decide +kernel
theorem dX7_init_107 : decode cX7_init 107 = .ok (.putfield 44, 3) := by decide +kernel
theorem dX7_init_110 : decode cX7_init 110 = .ok (.aload_n 0, 1) := by decide +kernel
theorem dX7_init_111 : decode cX7_init 111 = .ok (.new 47, 3) := by decide +kernel
theorem dX7_init_114 : decode cX7_init 114 = .ok (.dup, 1) := by decide +kernel
theorem dX7_init_115 : decode cX7_init 115 = .ok (.aload_n 0, 1) := by decide +kernel
theorem dX7_init_116 : decode cX7_init 116 = .ok (.getfield 18, 3) := by decide +kernel
theorem dX7_init_119 : decode cX7_init 119 = .ok (.invokespecial 49, 3) := by decide +kernel
theorem dX7_init_122 : decode cX7_init 122 = .ok (.putfield 50, 3) := by decide +kernel
theorem dX7_init_125 : decode cX7_init 125 = .ok (.aload_n 0, 1) := by decide +kernel
theorem dX7_init_126 : decode cX7_init 126 = .ok (.new 54, 3) := by decide +kernel
theorem dX7_init_129 : decode cX7_init 129 = .ok (.dup, 1) := by decide +kernel
theorem dX7_init_130 : decode cX7_init 130 = .ok (.aload_n 0, 1) := by decide +kernel
theorem dX7_init_131 : decode cX7_init 131 = .ok (.getfield 18, 3) := by decide +kernel
theorem dX7_init_134 : decode cX7_init 134 = .ok (.aload_n 0, 1) := by decide +kernel
theorem dX7_init_135 : decode cX7_init 135 = .ok (.getfield 50, 3) := by decide +kernel
theorem dX7_init_138 : decode cX7_init 138 = .ok (.aload_n 0, 1) := by decide +kernel
theorem dX7_init_139 : decode cX7_init 139 = .ok (.getfield 27, 3) := by decide +kernel
theorem dX7_init_142 : decode cX7_init 142 = .ok (.aload_n 0, 1) := by decide +kernel
theorem dX7_init_143 : decode cX7_init 143 = .ok (.getfield 34, 3) := by decide +kernel
theorem dX7_init_146 : decode cX7_init 146 = .ok (.aload_n 0, 1) := by decide +kernel
theorem dX7_init_147 : decode cX7_init 147 = .ok (.getfield 41, 3) := by decide +kernel
theorem dX7_init_150 : decode cX7_init 150 = .ok (.invokespecial 56, 3) := by decide +kernel
theorem dX7_init_153 : decode cX7_init 153 = .ok (.putfield 59, 3) := by decide +kernel
theorem dX7_init_156 : decode cX7_init 156 = .ok (.aload_n 0, 1) := by decide +kernel
theorem dX7_init_157 : decode cX7_init 157 = .ok (.new 63, 3) := by decide +kernel
theorem dX7_init_160 : decode cX7_init 160 = .ok (.dup, 1) := by decide +kernel
theorem dX7_init_161 : decode cX7_init 161 = .ok (.aload_n 0, 1) := by decide +kernel
theorem dX7_init_162 : decode cX7_init 162 = .ok (.getfield 18, 3) := by decide +kernel
theorem dX7_init_165 : decode cX7_init 165 = .ok (.aload_n 0, 1) := by decide +kernel
theorem dX7_init_166 : decode cX7_init 166 = .ok (.getfield 50, 3) := by decide +kernel
theorem dX7_init_169 : decode cX7_init 169 = .ok (.aload_n 0, 1) := by decide +kernel
theorem dX7_init_170 : decode cX7_init 170 = .ok (.getfield 34, 3) := by decide +kernel
theorem dX7_init_173 : decode cX7_init 173 = .ok (.aload_n 0, 1) := by decide +kernel
theorem dX7_init_174 : decode cX7_init 174 = .ok (.getfield 59, 3) := by decide +kernel
theorem dX7_init_177 : decode cX7_init 177 = .ok (.aload_n 0, 1) := by decide +kernel
theorem dX7_init_178 : decode cX7_init 178 = .ok (.getfield 41, 3) := by decide +kernel
theorem dX7_init_181 : decode cX7_init 181 = .ok (.invokespecial 65, 3) := by decide +kernel
theorem dX7_init_184 : decode cX7_init 184 = .ok (.putfield 68, 3) := by decide +kernel
theorem dX7_init_187 : decode cX7_init 187 = .ok (.aload_n 0, 1) := by decide +kernel
theorem dX7_init_188 : decode cX7_init 188 = .ok (.new 72, 3) := by decide +kernel
theorem dX7_init_191 : decode cX7_init 191 = .ok (.dup, 1) := by decide +kernel
theorem dX7_init_192 : decode cX7_init 192 = .ok (.aload_n 0, 1) := by decide +kernel
theorem dX7_init_193 : decode cX7_init 193 = .ok (.getfield 18, 3) := by decide +kernel
theorem dX7_init_196 : decode cX7_init 196 = .ok (.aload_n 0, 1) := by decide +kernel
theorem dX7_init_197 : decode cX7_init 197 = .ok (.getfield 50, 3) := by decide +kernel
theorem dX7_init_200 : decode cX7_init 200 = .ok (.invokespecial 74, 3) := by decide +kernel
theorem dX7_init_203 : decode cX7_init 203 = .ok (.putfield 77, 3) := by decide +kernel
theorem dX7_init_206 : decode cX7_init 206 = .ok (.aload_n 0, 1) := by decide +kernel
theorem dX7_init_207 : decode cX7_init 207 = .ok (.new 81, 3) := by decide +kernel
theorem dX7_init_210 : decode cX7_init 210 = .ok (.dup, 1) := by decide +kernel
theorem dX7_init_211 : decode cX7_init 211 = .ok (.aload_n 0, 1) := by decide +kernel
theorem dX7_init_212 : decode cX7_init 212 = .ok (.getfield 77, 3) := by decide +kernel
theorem dX7_init_215 : decode cX7_init 215 = .ok (.invokespecial 83, 3) := by decide +kernel
theorem dX7_init_218 : decode cX7_init 218 = .ok (.putfield 86, 3) := by decide +kernel
theorem dX7_init_221 : decode cX7_init 221 = .ok (.aload_n 0, 1) := by decide +kernel
theorem dX7_init_222 : decode cX7_init 222 = .ok (.iconst 0, 1) := by decide +kernel
theorem dX7_init_223 : decode cX7_init 223 = .ok (.putfield 90, 3) := by decide +kernel
theorem dX7_init_226 : decode cX7_init 226 = .ok (.return_, 1) := by decide +kernel
theorem dX5_init_0 : decode cX5_init 0 = .ok (.aload_n 0, 1) := by decide +kernel
theorem dX5_init_1 : decode cX5_init 1 = .ok (.invokespecial 3, 3) := by decide +kernel
theorem dX5_init_4 : decode cX5_init 4 = .ok (.aload_n 0, 1) := by decide +kernel
theorem dX5_init_5 : decode cX5_init 5 = .ok (.iconst 0, 1) := by decide +kernel
theorem dX5_init_6 : decode cX5_init 6 = .ok (.iload_n 1, 1) := by decide +kernel
theorem dX5_init_7 : decode cX5_init 7 = .ok (.invokestatic 9, 3) := by decide +kernel
theorem dX5_init_10 : decode cX5_init 10 = .ok (.newarray .int, 2) := by decide +kernel
theorem dX5_init_12 : decode cX5_init 12 = .ok (.putfield 15, 3) := by decide +kernel
theorem dX5_init_15 : decode cX5_init 15 = .ok (.aload_n 0, 1) := by decide +kernel
theorem dX5_init_16 : decode cX5_init 16 = .ok (.iconst 0, 1) := by decide +kernel
theorem dX5_init_17 : decode cX5_init 17 = .ok (.putfield 21, 3) := by decide +kernel
theorem dX5_init_20 : decode cX5_init 20 = .ok (.return_, 1) := by decide +kernel
theorem dX5_add_0 : decode cX5_add 0 = .ok (.aload_n 0, 1) := by decide +kernel
theorem dX5_add_1 : decode cX5_add 1 = .ok (.getfield 21, 3) := by decide +kernel
theorem dX5_add_4 : decode cX5_add 4 = .ok (.aload_n 0, 1) := by decide +kernel
theorem dX5_add_5 : decode cX5_add 5 = .ok (.getfield 15, 3) := by decide +kernel
theorem dX5_add_8 : decode cX5_add 8 = .ok (.arraylength, 1) := by decide +kernel
theorem dX5_add_9 : decode cX5_add 9 = .ok (.if_icmp .lt 5, 3) := by decide +kernel
theorem dX5_add_12 : decode cX5_add 12 = .ok (.iconst 0, 1) := by decide +kernel
theorem dX5_add_13 : decode cX5_add 13 = .ok (.ireturn, 1) := by decide +kernel
theorem dX5_add_14 : decode cX5_add 14 = .ok (.aload_n 0, 1) := by decide +kernel
theorem dX5_add_15 : decode cX5_add 15 = .ok (.getfield 15, 3) := by decide +kernel
theorem dX5_add_18 : decode cX5_add 18 = .ok (.aload_n 0, 1) := by decide +kernel
theorem dX5_add_19 : decode cX5_add 19 = .ok (.getfield 21, 3) := by decide +kernel
theorem dX5_add_22 : decode cX5_add 22 = .ok (.iload_n 1, 1) := by decide +kernel
theorem dX5_add_23 : decode cX5_add 23 = .ok (.iastore, 1) := by decide +kernel
theorem dX5_add_24 : decode cX5_add 24 = .ok (.aload_n 0, 1) := by decide +kernel
theorem dX5_add_25 : decode cX5_add 25 = .ok (.dup, 1) := by decide +kernel
theorem dX5_add_26 : decode cX5_add 26 = .ok (.getfield 21, 3) := by decide +kernel
theorem dX5_add_29 : decode cX5_add 29 = .ok (.iconst 1, 1) := by decide +kernel
theorem dX5_add_30 : decode cX5_add 30 = .ok (.iadd, 1) := by decide +kernel
theorem dX5_add_31 : decode cX5_add 31 = .ok (.putfield 21, 3) := by decide +kernel
theorem dX5_add_34 : decode cX5_add 34 = .ok (.iconst 1, 1) := by decide +kernel
theorem dX5_add_35 : decode cX5_add 35 = .ok (.ireturn, 1) := by decide +kernel
theorem dX1_init_0 : decode cX1_init 0 = .ok (.aload_n 0, 1) := by decide +kernel
theorem dX1_init_1 : decode cX1_init 1 = .ok (.invokespecial 3, 3) := by decide +kernel
theorem dX1_init_4 : decode cX1_init 4 = .ok (.aload_n 0, 1) := by decide +kernel
theorem dX1_init_5 : decode cX1_init 5 = .ok (.iload_n 1, 1) := by decide +kernel
theorem dX1_init_6 : decode cX1_init 6 = .ok (.putfield 9, 3) := by decide +kernel
theorem dX1_init_9 : decode cX1_init 9 = .ok (.aload_n 0, 1) := by decide +kernel
theorem dX1_init_10 : decode cX1_init 10 = .ok (.bipush 78, 2) := by decide +kernel
theorem dX1_init_12 : decode cX1_init 12 = .ok (.newarray .int, 2) := by decide +kernel
theorem dX1_init_14 : decode cX1_init 14 = .ok (.putfield 15, 3) := by decide +kernel
theorem dX1_init_17 : decode cX1_init 17 = .ok (.iconst 0, 1) := by decide +kernel
theorem dX1_init_18 : decode cX1_init 18 = .ok (.istore_n 2, 1) := by decide +kernel
theorem dX1_init_19 : decode cX1_init 19 = .ok (.iload_n 2, 1) := by decide +kernel
theorem dX1_init_20 : decode cX1_init 20 = .ok (.bipush 26, 2) := by decide +kernel
theorem dX1_init_22 : decode cX1_init 22 = .ok (.if_icmp .ge 32, 3) := by decide +kernel
theorem dX1_init_25 : decode cX1_init 25 = .ok (.aload_n 0, 1) := by decide +kernel
theorem dX1_init_26 : decode cX1_init 26 = .ok (.getfield 15, 3) := by decide +kernel
theorem dX1_init_29 : decode cX1_init 29 = .ok (.iload_n 2, 1) := by decide +kernel
theorem dX1_init_30 : decode cX1_init 30 = .ok (.bipush 97, 2) := by decide +kernel
theorem dX1_init_32 : decode cX1_init 32 = .ok (.iload_n 2, 1) := by decide +kernel
theorem dX1_init_33 : decode cX1_init 33 = .ok (.iadd, 1) := by decide +kernel
theorem dX1_init_34 : decode cX1_init 34 = .ok (.iastore, 1) := by decide +kernel
theorem dX1_init_35 : decode cX1_init 35 = .ok (.aload_n 0, 1) := by decide +kernel
theorem dX1_init_36 : decode cX1_init 36 = .ok (.getfield 15, 3) := by decide +kernel
theorem dX1_init_39 : decode cX1_init 39 = .ok (.bipush 26, 2) := by decide +kernel
theorem dX1_init_41 : decode cX1_init 41 = .ok (.iload_n 2, 1) := by decide +kernel
theorem dX1_init_42 : decode cX1_init 42 = .ok (.iadd, 1) := by decide +kernel
theorem dX1_init_43 : decode cX1_init 43 = .ok (.bipush 65, 2) := by decide +kernel
theorem dX1_init_45 : decode cX1_init 45 = .ok (.iload_n 2, 1) := by decide +kernel
theorem dX1_init_46 : decode cX1_init 46 = .ok (.iadd, 1) := by decide +kernel
theorem dX1_init_47 : decode cX1_init 47 = .ok (.iastore, 1) := by decide +kernel
theorem dX1_init_48 : decode cX1_init 48 = .ok (.iinc 2 1, 3) := by decide +kernel
theorem dX1_init_51 : decode cX1_init 51 = .ok (.goto (-32), 3) := by decide +kernel
theorem dX1_init_54 : decode cX1_init 54 = .ok (.iload_n 1, 1) := by decide +kernel
theorem dX1_init_55 : decode cX1_init 55 = .ok (.iconst 1, 1) := by decide +kernel
theorem dX1_init_56 : decode cX1_init 56 = .ok (.if_icmp .ne 9, 3) := by decide +kernel
theorem dX1_init_59 : decode cX1_init 59 = .ok (.getstatic 19, 3) := by decide +kernel
theorem dX1_init_62 : decode cX1_init 62 = .ok (.goto 6, 3) := by decide +kernel
theorem dX1_init_65 : decode cX1_init 65 = .ok (.getstatic 22, 3) := by decide +kernel
theorem dX1_init_68 : decode cX1_init 68 = .ok (.iconst 0, 1) := by decide +kernel
theorem dX1_init_69 : decode cX1_init 69 = .ok (.aload_n 0, 1) := by decide +kernel
theorem dX1_init_70 : decode cX1_init 70 = .ok (.getfield 15, 3) := by decide +kernel
theorem dX1_init_73 : decode cX1_init 73 = .ok (.bipush 52, 2) := by decide +kernel
theorem dX1_init_75 : decode cX1_init 75 = .ok (.bipush 26, 2) := by decide +kernel
theorem dX1_init_77 : decode cX1_init 77 = .ok (.invokestatic 25, 3) := by decide +kernel
theorem dX1_init_80 : decode cX1_init 80 = .ok (.return_, 1) := by decide +kernel
theorem dX6_init_0 : decode cX6_init 0 = .ok (.aload_n 0, 1) := by decide +kernel
theorem dX6_init_1 : decode cX6_init 1 = .ok (.invokespecial 3, 3) := by decide +kernel
theorem dX6_init_4 : decode cX6_init 4 = .ok (.aload_n 0, 1) := by decide +kernel
theorem dX6_init_5 : decode cX6_init 5 = .ok (.aload_n 3, 1) := by decide +kernel
theorem dX6_init_6 : decode cX6_init 6 = .ok (.putfield 9, 3) := by decide +kernel
theorem dX6_init_9 : decode cX6_init 9 = .ok (.aload_n 0, 1) := by decide +kernel
theorem dX6_init_10 : decode cX6_init 10 = .ok (.aload 4, 2) := by decide +kernel
theorem dX6_init_12 : decode cX6_init 12 = .ok (.putfield 15, 3) := by decide +kernel
theorem dX6_init_15 : decode cX6_init 15 = .ok (.aload_n 0, 1) := by decide +kernel
theorem dX6_init_16 : decode cX6_init 16 = .ok (.aload 5, 2) := by decide +kernel
theorem dX6_init_18 : decode cX6_init 18 = .ok (.putfield 18, 3) := by decide +kernel
theorem dX6_init_21 : decode cX6_init 21 = .ok (.aload_n 0, 1) := by decide +kernel
theorem dX6_init_22 : decode cX6_init 22 = .ok (.new 21, 3) := by decide +kernel
theorem dX6_init_25 : decode cX6_init 25 = .ok (.dup, 1) := by decide +kernel
theorem dX6_init_26 : decode cX6_init 26 = .ok (.iload_n 1, 1) := by decide +kernel
theorem dX6_init_27 : decode cX6_init 27 = .ok (.aload_n 2, 1) := by decide +kernel
theorem dX6_init_28 : decode cX6_init 28 = .ok (.invokespecial 23, 3) := by decide +kernel
theorem dX6_init_31 : decode cX6_init 31 = .ok (.putfield 26, 3) := by decide +kernel
theorem dX6_init_34 : decode cX6_init 34 = .ok (.aload_n 0, 1) := by decide +kernel
theorem dX6_init_35 : decode cX6_init 35 = .ok (.new 21, 3) := by decide +kernel
theorem dX6_init_38 : decode cX6_init 38 = .ok (.dup, 1) := by decide +kernel
theorem dX6_init_39 : decode cX6_init 39 = .ok (.iload_n 1, 1) := by decide +kernel
theorem dX6_init_40 : decode cX6_init 40 = .ok (.aload_n 2, 1) := by decide +kernel
theorem dX6_init_41 : decode cX6_init 41 = .ok (.invokespecial 23, 3) := by decide +kernel
theorem dX6_init_44 : decode cX6_init 44 = .ok (.putfield 30, 3) := by decide +kernel
theorem dX6_init_47 : decode cX6_init 47 = .ok (.return_, 1) := by decide +kernel
theorem dX4_init_0 : decode cX4_init 0 = .ok (.aload_n 0, 1) := by decide +kernel
theorem dX4_init_1 : decode cX4_init 1 = .ok (.invokespecial 3, 3) := by decide +kernel
theorem dX4_init_4 : decode cX4_init 4 = .ok (.aload_n 0, 1) := by decide +kernel
theorem dX4_init_5 : decode cX4_init 5 = .ok (.iload_n 1, 1) := by decide +kernel
theorem dX4_init_6 : decode cX4_init 6 = .ok (.putfield 9, 3) := by decide +kernel
theorem dX4_init_9 : decode cX4_init 9 = .ok (.aload_n 0, 1) := by decide +kernel
theorem dX4_init_10 : decode cX4_init 10 = .ok (.aload_n 2, 1) := by decide +kernel
theorem dX4_init_11 : decode cX4_init 11 = .ok (.putfield 15, 3) := by decide +kernel
theorem dX4_init_14 : decode cX4_init 14 = .ok (.aload_n 0, 1) := by decide +kernel
theorem dX4_init_15 : decode cX4_init 15 = .ok (.invokevirtual 19, 3) := by decide +kernel
theorem dX4_init_18 : decode cX4_init 18 = .ok (.return_, 1) := by decide +kernel
theorem dX4_begin_0 : decode cX4_begin 0 = .ok (.aload_n 0, 1) := by decide +kernel
theorem dX4_begin_1 : decode cX4_begin 1 = .ok (.iconst 0, 1) := by decide +kernel
theorem dX4_begin_2 : decode cX4_begin 2 = .ok (.putfield 22, 3) := by decide +kernel
theorem dX4_begin_5 : decode cX4_begin 5 = .ok (.aload_n 0, 1) := by decide +kernel
theorem dX4_begin_6 : decode cX4_begin 6 = .ok (.iconst (-1), 1) := by decide +kernel
theorem dX4_begin_7 : decode cX4_begin 7 = .ok (.putfield 25, 3) := by decide +kernel
theorem dX4_begin_10 : decode cX4_begin 10 = .ok (.aload_n 0, 1) := by decide +kernel
theorem dX4_begin_11 : decode cX4_begin 11 = .ok (.iconst 0, 1) := by decide +kernel
theorem dX4_begin_12 : decode cX4_begin 12 = .ok (.putfield 28, 3) := by decide +kernel
theorem dX4_begin_15 : decode cX4_begin 15 = .ok (.aload_n 0, 1) := by decide +kernel
theorem dX4_begin_16 : decode cX4_begin 16 = .ok (.iconst 0, 1) := by decide +kernel
theorem dX4_begin_17 : decode cX4_begin 17 = .ok (.putfield 31, 3) := by decide +kernel
theorem dX4_begin_20 : decode cX4_begin 20 = .ok (.return_, 1) := by decide +kernel
theorem dX0_init_0 : decode cX0_init 0 = .ok (.aload_n 0, 1) := by decide +kernel
theorem dX0_init_1 : decode cX0_init 1 = .ok (.invokespecial 3, 3) := by decide +kernel
theorem dX0_init_4 : decode cX0_init 4 = .ok (.aload_n 0, 1) := by decide +kernel
theorem dX0_init_5 : decode cX0_init 5 = .ok (.aload_n 2, 1) := by decide +kernel
theorem dX0_init_6 : decode cX0_init 6 = .ok (.putfield 9, 3) := by decide +kernel
theorem dX0_init_9 : decode cX0_init 9 = .ok (.aload_n 0, 1) := by decide +kernel
theorem dX0_init_10 : decode cX0_init 10 = .ok (.aload_n 3, 1) := by decide +kernel
theorem dX0_init_11 : decode cX0_init 11 = .ok (.putfield 15, 3) := by decide +kernel
theorem dX0_init_14 : decode cX0_init 14 = .ok (.aload_n 0, 1) := by decide +kernel
theorem dX0_init_15 : decode cX0_init 15 = .ok (.aload 4, 2) := by decide +kernel
theorem dX0_init_17 : decode cX0_init 17 = .ok (.putfield 19, 3) := by decide +kernel
theorem dX0_init_20 : decode cX0_init 20 = .ok (.aload_n 0, 1) := by decide +kernel
theorem dX0_init_21 : decode cX0_init 21 = .ok (.aload 5, 2) := by decide +kernel
theorem dX0_init_23 : decode cX0_init 23 = .ok (.putfield 23, 3) := by decide +kernel
theorem dX0_init_26 : decode cX0_init 26 = .ok (.aload_n 0, 1) := by decide +kernel
theorem dX0_init_27 : decode cX0_init 27 = .ok (.iload_n 1, 1) := by decide +kernel
theorem dX0_init_28 : decode cX0_init 28 = .ok (.iconst 1, 1) := by decide +kernel
theorem dX0_init_29 : decode cX0_init 29 = .ok (.if_icmp .ne 7, 3) := by decide +kernel
theorem dX0_init_32 : decode cX0_init 32 = .ok (.iconst 0, 1) := by decide +kernel
theorem dX0_init_33 : decode cX0_init 33 = .ok (.goto 15, 3) := by decide +kernel
theorem dX0_init_36 : decode cX0_init 36 = .ok (.iload_n 1, 1) := by decide +kernel
theorem dX0_init_37 : decode cX0_init 37 = .ok (.iconst 2, 1) := by decide +kernel
theorem dX0_init_38 : decode cX0_init 38 = .ok (.if_icmp .ne 8, 3) := by decide +kernel
theorem dX0_init_41 : decode cX0_init 41 = .ok (.bipush 32, 2) := by decide +kernel
theorem dX0_init_43 : decode cX0_init 43 = .ok (.goto 5, 3) := by decide +kernel
theorem dX0_init_46 : decode cX0_init 46 = .ok (.bipush 96, 2) := by decide +kernel
theorem dX0_init_48 : decode cX0_init 48 = .ok (.putfield 26, 3) := by decide +kernel
theorem dX0_init_51 : decode cX0_init 51 = .ok (.aload_n 0, 1) := by decide +kernel
theorem dX0_init_52 : decode cX0_init 52 = .ok (.bipush 96, 2) := by decide +kernel
theorem dX0_init_54 : decode cX0_init 54 = .ok (.newarray .int, 2) := by decide +kernel
theorem dX0_init_56 : decode cX0_init 56 = .ok (.putfield 30, 3) := by decide +kernel
theorem dX0_init_59 : decode cX0_init 59 = .ok (.aload_n 0, 1) := by decide +kernel
theorem dX0_init_60 : decode cX0_init 60 = .ok (.sipush 3000, 3) := by decide +kernel
theorem dX0_init_63 : decode cX0_init 63 = .ok (.newarray .int, 2) := by decide +kernel
theorem dX0_init_65 : decode cX0_init 65 = .ok (.putfield 34, 3) := by decide +kernel
theorem dX0_init_68 : decode cX0_init 68 = .ok (.aload_n 0, 1) := by decide +kernel
theorem dX0_init_69 : decode cX0_init 69 = .ok (.sipush 1001, 3) := by decide +kernel
theorem dX0_init_72 : decode cX0_init 72 = .ok (.newarray .int, 2) := by decide +kernel
theorem dX0_init_74 : decode cX0_init 74 = .ok (.putfield 37, 3) := by decide +kernel
theorem dX0_init_77 : decode cX0_init 77 = .ok (.aload_n 0, 1) := by decide +kernel
theorem dX0_init_78 : decode cX0_init 78 = .ok (.sipush 1000, 3) := by decide +kernel
theorem dX0_init_81 : decode cX0_init 81 = .ok (.newarray .int, 2) := by decide +kernel
theorem dX0_init_83 : decode cX0_init 83 = .ok (.putfield 40, 3) := by decide +kernel
theorem dX0_init_86 : decode cX0_init 86 = .ok (.aload_n 0, 1) := by decide +kernel
theorem dX0_init_87 : decode cX0_init 87 = .ok (.new 43, 3) := by decide +kernel
theorem dX0_init_90 : decode cX0_init 90 = .ok (.dup, 1) := by decide +kernel
theorem dX0_init_91 : decode cX0_init 91 = .ok (.iconst 4, 1) := by decide +kernel
theorem dX0_init_92 : decode cX0_init 92 = .ok (.invokespecial 45, 3) := by decide +kernel
theorem dX0_init_95 : decode cX0_init 95 = .ok (.putfield 48, 3) := by decide +kernel
theorem dX0_init_98 : decode cX0_init 98 = .ok (.return_, 1) := by decide +kernel
theorem dX2_init_0 : decode cX2_init 0 = .ok (.aload_n 0, 1) := by decide +kernel
theorem dX2_init_1 : decode cX2_init 1 = .ok (.invokespecial 3, 3) := by decide +kernel
theorem dX2_init_4 : decode cX2_init 4 = .ok (.aload_n 0, 1) := by decide +kernel
theorem dX2_init_5 : decode cX2_init 5 = .ok (.aload_n 2, 1) := by decide +kernel
theorem dX2_init_6 : decode cX2_init 6 = .ok (.putfield 9, 3) := by decide +kernel
theorem dX2_init_9 : decode cX2_init 9 = .ok (.aload_n 0, 1) := by decide +kernel
theorem dX2_init_10 : decode cX2_init 10 = .ok (.iload_n 1, 1) := by decide +kernel
theorem dX2_init_11 : decode cX2_init 11 = .ok (.iconst 3, 1) := by decide +kernel
theorem dX2_init_12 : decode cX2_init 12 = .ok (.if_icmp .gt 8, 3) := by decide +kernel
theorem dX2_init_15 : decode cX2_init 15 = .ok (.bipush 6, 2) := by decide +kernel
theorem dX2_init_17 : decode cX2_init 17 = .ok (.goto 5, 3) := by decide +kernel
theorem dX2_init_20 : decode cX2_init 20 = .ok (.bipush 9, 2) := by decide +kernel
theorem dX2_init_22 : decode cX2_init 22 = .ok (.putfield 15, 3) := by decide +kernel
theorem dX2_init_25 : decode cX2_init 25 = .ok (.aload_n 0, 1) := by decide +kernel
theorem dX2_init_26 : decode cX2_init 26 = .ok (.bipush 40, 2) := by decide +kernel
theorem dX2_init_28 : decode cX2_init 28 = .ok (.newarray .long, 2) := by decide +kernel
theorem dX2_init_30 : decode cX2_init 30 = .ok (.putfield 19, 3) := by decide +kernel
theorem dX2_init_33 : decode cX2_init 33 = .ok (.aload_n 0, 1) := by decide +kernel
theorem dX2_init_34 : decode cX2_init 34 = .ok (.new 23, 3) := by decide +kernel
theorem dX2_init_37 : decode cX2_init 37 = .ok (.dup, 1) := by decide +kernel
theorem dX2_init_38 : decode cX2_init 38 = .ok (.bipush 12, 2) := by decide +kernel
theorem dX2_init_40 : decode cX2_init 40 = .ok (.invokespecial 25, 3) := by decide +kernel
theorem dX2_init_43 : decode cX2_init 43 = .ok (.putfield 28, 3) := by decide +kernel
theorem dX2_init_46 : decode cX2_init 46 = .ok (.aload_n 0, 1) := by decide +kernel
theorem dX2_init_47 : decode cX2_init 47 = .ok (.iconst 0, 1) := by decide +kernel
theorem dX2_init_48 : decode cX2_init 48 = .ok (.putfield 32, 3) := by decide +kernel
theorem dX2_init_51 : decode cX2_init 51 = .ok (.return_, 1) := by decide +kernel
theorem dX3_init_0 : decode cX3_init 0 = .ok (.aload_n 0, 1) := by decide +kernel
theorem dX3_init_1 : decode cX3_init 1 = .ok (.invokespecial 3, 3) := by decide +kernel
theorem dX3_init_4 : decode cX3_init 4 = .ok (.aload_n 0, 1) := by decide +kernel
theorem dX3_init_5 : decode cX3_init 5 = .ok (.aload_n 1, 1) := by decide +kernel
theorem dX3_init_6 : decode cX3_init 6 = .ok (.putfield 9, 3) := by decide +kernel
theorem dX3_init_9 : decode cX3_init 9 = .ok (.aload_n 0, 1) := by decide +kernel
theorem dX3_init_10 : decode cX3_init 10 = .ok (.sipush 1024, 3) := by decide +kernel
theorem dX3_init_13 : decode cX3_init 13 = .ok (.newarray .boolean, 2) := by decide +kernel
theorem dX3_init_15 : decode cX3_init 15 = .ok (.putfield 15, 3) := by decide +kernel
theorem dX3_init_18 : decode cX3_init 18 = .ok (.aload_n 0, 1) := by decide +kernel
theorem dX3_init_19 : decode cX3_init 19 = .ok (.new 19, 3) := by decide +kernel
theorem dX3_init_22 : decode cX3_init 22 = .ok (.dup, 1) := by decide +kernel
theorem dX3_init_23 : decode cX3_init 23 = .ok (.sipush 1000, 3) := by decide +kernel
theorem dX3_init_26 : decode cX3_init 26 = .ok (.invokespecial 21, 3) := by decide +kernel
theorem dX3_init_29 : decode cX3_init 29 = .ok (.putfield 24, 3) := by decide +kernel
theorem dX3_init_32 : decode cX3_init 32 = .ok (.aload_n 0, 1) := by decide +kernel
theorem dX3_init_33 : decode cX3_init 33 = .ok (.new 19, 3) := by decide +kernel
theorem dX3_init_36 : decode cX3_init 36 = .ok (.dup, 1) := by decide +kernel
theorem dX3_init_37 : decode cX3_init 37 = .ok (.sipush 1000, 3) := by decide +kernel
theorem dX3_init_40 : decode cX3_init 40 = .ok (.invokespecial 21, 3) := by decide +kernel
theorem dX3_init_43 : decode cX3_init 43 = .ok (.putfield 28, 3) := by decide +kernel
theorem dX3_init_46 : decode cX3_init 46 = .ok (.aload_n 0, 1) := by decide +kernel
theorem dX3_init_47 : decode cX3_init 47 = .ok (.new 19, 3) := by decide +kernel
theorem dX3_init_50 : decode cX3_init 50 = .ok (.dup, 1) := by decide +kernel
theorem dX3_init_51 : decode cX3_init 51 = .ok (.sipush 1000, 3) := by decide +kernel
theorem dX3_init_54 : decode cX3_init 54 = .ok (.invokespecial 21, 3) := by decide +kernel
theorem dX3_init_57 : decode cX3_init 57 = .ok (.putfield 31, 3) := by decide +kernel
theorem dX3_init_60 : decode cX3_init 60 = .ok (.return_, 1) := by decide +kernel
theorem dX7_version_0 : decode cX7_version 0 = .ok (.aload_n 0, 1) := by decide +kernel
theorem dX7_version_1 : decode cX7_version 1 = .ok (.getfield 18, 3) := by decide +kernel
theorem dX7_version_4 : decode cX7_version 4 = .ok (.ireturn, 1) := by decide +kernel
theorem dX7_feed_0 : decode cX7_feed 0 = .ok (.aload_n 0, 1) := by decide +kernel
theorem dX7_feed_1 : decode cX7_feed 1 = .ok (.getfield 27, 3) := by decide +kernel
theorem dX7_feed_4 : decode cX7_feed 4 = .ok (.lload_n 1, 1) := by decide +kernel
theorem dX7_feed_5 : decode cX7_feed 5 = .ok (.iload_n 3, 1) := by decide +kernel
theorem dX7_feed_6 : decode cX7_feed 6 = .ok (.invokestatic 93, 3) := by decide +kernel
theorem dX7_feed_9 : decode cX7_feed 9 = .ok (.ireturn, 1) := by decide +kernel
theorem dX7_addBytes_0 : decode cX7_addBytes 0 = .ok (.iload_n 3, 1) := by decide +kernel
theorem dX7_addBytes_1 : decode cX7_addBytes 1 = .ok (.ifCond .lt 9, 3) := by decide +kernel
theorem dX7_addBytes_4 : decode cX7_addBytes 4 = .ok (.iload_n 3, 1) := by decide +kernel
theorem dX7_addBytes_5 : decode cX7_addBytes 5 = .ok (.bipush 8, 2) := by decide +kernel
theorem dX7_addBytes_7 : decode cX7_addBytes 7 = .ok (.if_icmp .le 6, 3) := by decide +kernel
theorem dX7_addBytes_10 : decode cX7_addBytes 10 = .ok (.bipush (-2), 2) := by decide +kernel
theorem dX7_addBytes_12 : decode cX7_addBytes 12 = .ok (.ireturn, 1) := by decide +kernel
theorem dX7_addBytes_13 : decode cX7_addBytes 13 = .ok (.aload_n 0, 1) := by decide +kernel
theorem dX7_addBytes_14 : decode cX7_addBytes 14 = .ok (.iload_n 3, 1) := by decide +kernel
theorem dX7_addBytes_15 : decode cX7_addBytes 15 = .ok (.invokevirtual 138, 3) := by decide +kernel
theorem dX7_addBytes_18 : decode cX7_addBytes 18 = .ok (.ifCond .ne 6, 3) := by decide +kernel
theorem dX7_addBytes_21 : decode cX7_addBytes 21 = .ok (.bipush (-4), 2) := by decide +kernel
theorem dX7_addBytes_23 : decode cX7_addBytes 23 = .ok (.ireturn, 1) := by decide +kernel
theorem dX7_addBytes_24 : decode cX7_addBytes 24 = .ok (.iload_n 3, 1) := by decide +kernel
theorem dX7_addBytes_25 : decode cX7_addBytes 25 = .ok (.iconst 1, 1) := by decide +kernel
theorem dX7_addBytes_26 : decode cX7_addBytes 26 = .ok (.isub, 1) := by decide +kernel
theorem dX7_addBytes_27 : decode cX7_addBytes 27 = .ok (.istore 4, 2) := by decide +kernel
theorem dX7_addBytes_29 : decode cX7_addBytes 29 = .ok (.iload 4, 2) := by decide +kernel
theorem dX7_addBytes_31 : decode cX7_addBytes 31 = .ok (.ifCond .lt 26, 3) := by decide +kernel
theorem dX7_addBytes_34 : decode cX7_addBytes 34 = .ok (.aload_n 0, 1) := by decide +kernel
theorem dX7_addBytes_35 : decode cX7_addBytes 35 = .ok (.lload_n 1, 1) := by decide +kernel
theorem dX7_addBytes_36 : decode cX7_addBytes 36 = .ok (.bipush 8, 2) := by decide +kernel
theorem dX7_addBytes_38 : decode cX7_addBytes 38 = .ok (.iload 4, 2) := by decide +kernel
theorem dX7_addBytes_40 : decode cX7_addBytes 40 = .ok (.imul, 1) := by decide +kernel
theorem dX7_addBytes_41 : decode cX7_addBytes 41 = .ok (.lshr, 1) := by decide +kernel
theorem dX7_addBytes_42 : decode cX7_addBytes 42 = .ok (.l2i, 1) := by decide +kernel
theorem dX7_addBytes_43 : decode cX7_addBytes 43 = .ok (.sipush 255, 3) := by decide +kernel
theorem dX7_addBytes_46 : decode cX7_addBytes 46 = .ok (.iand, 1) := by decide +kernel
theorem dX7_addBytes_47 : decode cX7_addBytes 47 = .ok (.invokevirtual 37, 3) := by decide +kernel
theorem dX7_addBytes_50 : decode cX7_addBytes 50 = .ok (.pop, 1) := by decide +kernel
theorem dX7_addBytes_51 : decode cX7_addBytes 51 = .ok (.iinc 4 (-1), 3) := by decide +kernel
theorem dX7_addBytes_54 : decode cX7_addBytes 54 = .ok (.goto (-25), 3) := by decide +kernel
theorem dX7_addBytes_57 : decode cX7_addBytes 57 = .ok (.aload_n 0, 1) := by decide +kernel
theorem dX7_addBytes_58 : decode cX7_addBytes 58 = .ok (.invokevirtual 107, 3) := by decide +kernel
theorem dX7_addBytes_61 : decode cX7_addBytes 61 = .ok (.ireturn, 1) := by decide +kernel
theorem dX5_hasRoom_0 : decode cX5_hasRoom 0 = .ok (.iload_n 1, 1) := by decide +kernel
theorem dX5_hasRoom_1 : decode cX5_hasRoom 1 = .ok (.aload_n 0, 1) := by decide +kernel
theorem dX5_hasRoom_2 : decode cX5_hasRoom 2 = .ok (.getfield 15, 3) := by decide +kernel
theorem dX5_hasRoom_5 : decode cX5_hasRoom 5 = .ok (.arraylength, 1) := by decide +kernel
theorem dX5_hasRoom_6 : decode cX5_hasRoom 6 = .ok (.aload_n 0, 1) := by decide +kernel
theorem dX5_hasRoom_7 : decode cX5_hasRoom 7 = .ok (.getfield 21, 3) := by decide +kernel
theorem dX5_hasRoom_10 : decode cX5_hasRoom 10 = .ok (.isub, 1) := by decide +kernel
theorem dX5_hasRoom_11 : decode cX5_hasRoom 11 = .ok (.if_icmp .gt 7, 3) := by decide +kernel
theorem dX5_hasRoom_14 : decode cX5_hasRoom 14 = .ok (.iconst 1, 1) := by decide +kernel
theorem dX5_hasRoom_15 : decode cX5_hasRoom 15 = .ok (.goto 4, 3) := by decide +kernel
theorem dX5_hasRoom_18 : decode cX5_hasRoom 18 = .ok (.iconst 0, 1) := by decide +kernel
theorem dX5_hasRoom_19 : decode cX5_hasRoom 19 = .ok (.ireturn, 1) := by decide +kernel
theorem dX5_count_0 : decode cX5_count 0 = .ok (.aload_n 0, 1) := by decide +kernel
theorem dX5_count_1 : decode cX5_count 1 = .ok (.getfield 21, 3) := by decide +kernel
theorem dX5_count_4 : decode cX5_count 4 = .ok (.ireturn, 1) := by decide +kernel
theorem dX7_byteAt_0 : decode cX7_byteAt 0 = .ok (.aload_n 0, 1) := by decide +kernel
theorem dX7_byteAt_1 : decode cX7_byteAt 1 = .ok (.getfield 27, 3) := by decide +kernel
theorem dX7_byteAt_4 : decode cX7_byteAt 4 = .ok (.iload_n 1, 1) := by decide +kernel
theorem dX7_byteAt_5 : decode cX7_byteAt 5 = .ok (.invokevirtual 97, 3) := by decide +kernel
theorem dX7_byteAt_8 : decode cX7_byteAt 8 = .ok (.ifCond .eq 14, 3) := by decide +kernel
theorem dX7_byteAt_11 : decode cX7_byteAt 11 = .ok (.aload_n 0, 1) := by decide +kernel
theorem dX7_byteAt_12 : decode cX7_byteAt 12 = .ok (.getfield 27, 3) := by decide +kernel
theorem dX7_byteAt_15 : decode cX7_byteAt 15 = .ok (.iload_n 1, 1) := by decide +kernel
theorem dX7_byteAt_16 : decode cX7_byteAt 16 = .ok (.invokevirtual 100, 3) := by decide +kernel
theorem dX7_byteAt_19 : decode cX7_byteAt 19 = .ok (.goto 4, 3) := by decide +kernel
theorem dX7_byteAt_22 : decode cX7_byteAt 22 = .ok (.iconst (-1), 1) := by decide +kernel
theorem dX7_byteAt_23 : decode cX7_byteAt 23 = .ok (.ireturn, 1) := by decide +kernel
theorem dX5_has_0 : decode cX5_has 0 = .ok (.iload_n 1, 1) := by decide +kernel
theorem dX5_has_1 : decode cX5_has 1 = .ok (.ifCond .lt 15, 3) := by decide +kernel
theorem dX5_has_4 : decode cX5_has 4 = .ok (.iload_n 1, 1) := by decide +kernel
theorem dX5_has_5 : decode cX5_has 5 = .ok (.aload_n 0, 1) := by decide +kernel
theorem dX5_has_6 : decode cX5_has 6 = .ok (.getfield 21, 3) := by decide +kernel
theorem dX5_has_9 : decode cX5_has 9 = .ok (.if_icmp .ge 7, 3) := by decide +kernel
theorem dX5_has_12 : decode cX5_has 12 = .ok (.iconst 1, 1) := by decide +kernel
theorem dX5_has_13 : decode cX5_has 13 = .ok (.goto 4, 3) := by decide +kernel
theorem dX5_has_16 : decode cX5_has 16 = .ok (.iconst 0, 1) := by decide +kernel
theorem dX5_has_17 : decode cX5_has 17 = .ok (.ireturn, 1) := by decide +kernel
theorem dX5_get_0 : decode cX5_get 0 = .ok (.aload_n 0, 1) := by decide +kernel
theorem dX5_get_1 : decode cX5_get 1 = .ok (.iload_n 1, 1) := by decide +kernel
theorem dX5_get_2 : decode cX5_get 2 = .ok (.invokevirtual 25, 3) := by decide +kernel
theorem dX5_get_5 : decode cX5_get 5 = .ok (.ifCond .eq 12, 3) := by decide +kernel
theorem dX5_get_8 : decode cX5_get 8 = .ok (.aload_n 0, 1) := by decide +kernel
theorem dX5_get_9 : decode cX5_get 9 = .ok (.getfield 15, 3) := by decide +kernel
theorem dX5_get_12 : decode cX5_get 12 = .ok (.iload_n 1, 1) := by decide +kernel
theorem dX5_get_13 : decode cX5_get 13 = .ok (.iaload, 1) := by decide +kernel
theorem dX5_get_14 : decode cX5_get 14 = .ok (.goto 4, 3) := by decide +kernel
theorem dX5_get_17 : decode cX5_get 17 = .ok (.iconst (-1), 1) := by decide +kernel
theorem dX5_get_18 : decode cX5_get 18 = .ok (.ireturn, 1) := by decide +kernel
theorem dX7_poke_0 : decode cX7_poke 0 = .ok (.aload_n 0, 1) := by decide +kernel
theorem dX7_poke_1 : decode cX7_poke 1 = .ok (.getfield 27, 3) := by decide +kernel
theorem dX7_poke_4 : decode cX7_poke 4 = .ok (.iload_n 1, 1) := by decide +kernel
theorem dX7_poke_5 : decode cX7_poke 5 = .ok (.invokevirtual 97, 3) := by decide +kernel
theorem dX7_poke_8 : decode cX7_poke 8 = .ok (.ifCond .ne 5, 3) := by decide +kernel
theorem dX7_poke_11 : decode cX7_poke 11 = .ok (.iconst (-1), 1) := by decide +kernel
theorem dX7_poke_12 : decode cX7_poke 12 = .ok (.ireturn, 1) := by decide +kernel
theorem dX7_poke_13 : decode cX7_poke 13 = .ok (.iload_n 2, 1) := by decide +kernel
theorem dX7_poke_14 : decode cX7_poke 14 = .ok (.ifCond .lt 10, 3) := by decide +kernel
theorem dX7_poke_17 : decode cX7_poke 17 = .ok (.iload_n 2, 1) := by decide +kernel
theorem dX7_poke_18 : decode cX7_poke 18 = .ok (.sipush 255, 3) := by decide +kernel
theorem dX7_poke_21 : decode cX7_poke 21 = .ok (.if_icmp .le 6, 3) := by decide +kernel
theorem dX7_poke_24 : decode cX7_poke 24 = .ok (.bipush (-2), 2) := by decide +kernel
theorem dX7_poke_26 : decode cX7_poke 26 = .ok (.ireturn, 1) := by decide +kernel
theorem dX7_poke_27 : decode cX7_poke 27 = .ok (.aload_n 0, 1) := by decide +kernel
theorem dX7_poke_28 : decode cX7_poke 28 = .ok (.getfield 27, 3) := by decide +kernel
theorem dX7_poke_31 : decode cX7_poke 31 = .ok (.iload_n 1, 1) := by decide +kernel
theorem dX7_poke_32 : decode cX7_poke 32 = .ok (.iload_n 2, 1) := by decide +kernel
theorem dX7_poke_33 : decode cX7_poke 33 = .ok (.invokevirtual 104, 3) := by decide +kernel
theorem dX7_poke_36 : decode cX7_poke 36 = .ok (.ireturn, 1) := by decide +kernel
theorem dX5_replace_0 : decode cX5_replace 0 = .ok (.aload_n 0, 1) := by decide +kernel
theorem dX5_replace_1 : decode cX5_replace 1 = .ok (.iload_n 1, 1) := by decide +kernel
theorem dX5_replace_2 : decode cX5_replace 2 = .ok (.invokevirtual 25, 3) := by decide +kernel
theorem dX5_replace_5 : decode cX5_replace 5 = .ok (.ifCond .ne 5, 3) := by decide +kernel
theorem dX5_replace_8 : decode cX5_replace 8 = .ok (.iconst (-1), 1) := by decide +kernel
theorem dX5_replace_9 : decode cX5_replace 9 = .ok (.ireturn, 1) := by decide +kernel
theorem dX5_replace_10 : decode cX5_replace 10 = .ok (.aload_n 0, 1) := by decide +kernel
theorem dX5_replace_11 : decode cX5_replace 11 = .ok (.getfield 15, 3) := by decide +kernel
theorem dX5_replace_14 : decode cX5_replace 14 = .ok (.iload_n 1, 1) := by decide +kernel
theorem dX5_replace_15 : decode cX5_replace 15 = .ok (.iaload, 1) := by decide +kernel
theorem dX5_replace_16 : decode cX5_replace 16 = .ok (.istore_n 3, 1) := by decide +kernel
theorem dX5_replace_17 : decode cX5_replace 17 = .ok (.aload_n 0, 1) := by decide +kernel
theorem dX5_replace_18 : decode cX5_replace 18 = .ok (.getfield 15, 3) := by decide +kernel
theorem dX5_replace_21 : decode cX5_replace 21 = .ok (.iload_n 1, 1) := by decide +kernel
theorem dX5_replace_22 : decode cX5_replace 22 = .ok (.iload_n 2, 1) := by decide +kernel
theorem dX5_replace_23 : decode cX5_replace 23 = .ok (.iastore, 1) := by decide +kernel
theorem dX5_replace_24 : decode cX5_replace 24 = .ok (.iload_n 3, 1) := by decide +kernel
theorem dX5_replace_25 : decode cX5_replace 25 = .ok (.ireturn, 1) := by decide +kernel
theorem dX7_keep_0 : decode cX7_keep 0 = .ok (.aload_n 0, 1) := by decide +kernel
theorem dX7_keep_1 : decode cX7_keep 1 = .ok (.getfield 27, 3) := by decide +kernel
theorem dX7_keep_4 : decode cX7_keep 4 = .ok (.invokevirtual 107, 3) := by decide +kernel
theorem dX7_keep_7 : decode cX7_keep 7 = .ok (.istore_n 2, 1) := by decide +kernel
theorem dX7_keep_8 : decode cX7_keep 8 = .ok (.iload_n 1, 1) := by decide +kernel
theorem dX7_keep_9 : decode cX7_keep 9 = .ok (.ifCond .lt 8, 3) := by decide +kernel
theorem dX7_keep_12 : decode cX7_keep 12 = .ok (.iload_n 1, 1) := by decide +kernel
theorem dX7_keep_13 : decode cX7_keep 13 = .ok (.iload_n 2, 1) := by decide +kernel
theorem dX7_keep_14 : decode cX7_keep 14 = .ok (.if_icmp .le 6, 3) := by decide +kernel
theorem dX7_keep_17 : decode cX7_keep 17 = .ok (.bipush (-2), 2) := by decide +kernel
theorem dX7_keep_19 : decode cX7_keep 19 = .ok (.ireturn, 1) := by decide +kernel
theorem dX7_keep_20 : decode cX7_keep 20 = .ok (.aload_n 0, 1) := by decide +kernel
theorem dX7_keep_21 : decode cX7_keep 21 = .ok (.getfield 27, 3) := by decide +kernel
theorem dX7_keep_24 : decode cX7_keep 24 = .ok (.iload_n 1, 1) := by decide +kernel
theorem dX7_keep_25 : decode cX7_keep 25 = .ok (.invokevirtual 111, 3) := by decide +kernel
theorem dX7_keep_28 : decode cX7_keep 28 = .ok (.iload_n 2, 1) := by decide +kernel
theorem dX7_keep_29 : decode cX7_keep 29 = .ok (.ireturn, 1) := by decide +kernel
theorem dX5_cut_0 : decode cX5_cut 0 = .ok (.iload_n 1, 1) := by decide +kernel
theorem dX5_cut_1 : decode cX5_cut 1 = .ok (.ifCond .lt 16, 3) := by decide +kernel
theorem dX5_cut_4 : decode cX5_cut 4 = .ok (.iload_n 1, 1) := by decide +kernel
theorem dX5_cut_5 : decode cX5_cut 5 = .ok (.aload_n 0, 1) := by decide +kernel
theorem dX5_cut_6 : decode cX5_cut 6 = .ok (.getfield 21, 3) := by decide +kernel
theorem dX5_cut_9 : decode cX5_cut 9 = .ok (.if_icmp .ge 8, 3) := by decide +kernel
theorem dX5_cut_12 : decode cX5_cut 12 = .ok (.aload_n 0, 1) := by decide +kernel
theorem dX5_cut_13 : decode cX5_cut 13 = .ok (.iload_n 1, 1) := by decide +kernel
theorem dX5_cut_14 : decode cX5_cut 14 = .ok (.putfield 21, 3) := by decide +kernel
theorem dX5_cut_17 : decode cX5_cut 17 = .ok (.return_, 1) := by decide +kernel
theorem dX7_sign_0 : decode cX7_sign 0 = .ok (.iload_n 1, 1) := by decide +kernel
theorem dX7_sign_1 : decode cX7_sign 1 = .ok (.iconst (-1), 1) := by decide +kernel
theorem dX7_sign_2 : decode cX7_sign 2 = .ok (.if_icmp .ne 13, 3) := by decide +kernel
theorem dX7_sign_5 : decode cX7_sign 5 = .ok (.aload_n 0, 1) := by decide +kernel
theorem dX7_sign_6 : decode cX7_sign 6 = .ok (.getfield 31, 3) := by decide +kernel
theorem dX7_sign_9 : decode cX7_sign 9 = .ok (.iconst 0, 1) := by decide +kernel
theorem dX7_sign_10 : decode cX7_sign 10 = .ok (.invokevirtual 111, 3) := by decide +kernel
theorem dX7_sign_13 : decode cX7_sign 13 = .ok (.iconst 0, 1) := by decide +kernel
theorem dX7_sign_14 : decode cX7_sign 14 = .ok (.ireturn, 1) := by decide +kernel
theorem dX7_sign_15 : decode cX7_sign 15 = .ok (.iload_n 1, 1) := by decide +kernel
theorem dX7_sign_16 : decode cX7_sign 16 = .ok (.invokestatic 114, 3) := by decide +kernel
theorem dX7_sign_19 : decode cX7_sign 19 = .ok (.ifCond .ne 6, 3) := by decide +kernel
theorem dX7_sign_22 : decode cX7_sign 22 = .ok (.bipush (-2), 2) := by decide +kernel
theorem dX7_sign_24 : decode cX7_sign 24 = .ok (.ireturn, 1) := by decide +kernel
theorem dX7_sign_25 : decode cX7_sign 25 = .ok (.aload_n 0, 1) := by decide +kernel
theorem dX7_sign_26 : decode cX7_sign 26 = .ok (.getfield 31, 3) := by decide +kernel
theorem dX7_sign_29 : decode cX7_sign 29 = .ok (.iload_n 1, 1) := by decide +kernel
theorem dX7_sign_30 : decode cX7_sign 30 = .ok (.invokevirtual 37, 3) := by decide +kernel
theorem dX7_sign_33 : decode cX7_sign 33 = .ok (.ifCond .eq 13, 3) := by decide +kernel
theorem dX7_sign_36 : decode cX7_sign 36 = .ok (.aload_n 0, 1) := by decide +kernel
theorem dX7_sign_37 : decode cX7_sign 37 = .ok (.getfield 31, 3) := by decide +kernel
theorem dX7_sign_40 : decode cX7_sign 40 = .ok (.invokevirtual 107, 3) := by decide +kernel
theorem dX7_sign_43 : decode cX7_sign 43 = .ok (.goto 5, 3) := by decide +kernel
theorem dX7_sign_46 : decode cX7_sign 46 = .ok (.bipush (-4), 2) := by decide +kernel
theorem dX7_sign_48 : decode cX7_sign 48 = .ok (.ireturn, 1) := by decide +kernel
theorem dX7_isSign_0 : decode cX7_isSign 0 = .ok (.iload_n 0, 1) := by decide +kernel
theorem dX7_isSign_1 : decode cX7_isSign 1 = .ok (.ifCond .lt 14, 3) := by decide +kernel
theorem dX7_isSign_4 : decode cX7_isSign 4 = .ok (.iload_n 0, 1) := by decide +kernel
theorem dX7_isSign_5 : decode cX7_isSign 5 = .ok (.sipush 1024, 3) := by decide +kernel
theorem dX7_isSign_8 : decode cX7_isSign 8 = .ok (.if_icmp .ge 7, 3) := by decide +kernel
theorem dX7_isSign_11 : decode cX7_isSign 11 = .ok (.iconst 1, 1) := by decide +kernel
theorem dX7_isSign_12 : decode cX7_isSign 12 = .ok (.goto 4, 3) := by decide +kernel
theorem dX7_isSign_15 : decode cX7_isSign 15 = .ok (.iconst 0, 1) := by decide +kernel
theorem dX7_isSign_16 : decode cX7_isSign 16 = .ok (.ireturn, 1) := by decide +kernel
theorem dX7_type_0 : decode cX7_type 0 = .ok (.aload_n 0, 1) := by decide +kernel
theorem dX7_type_1 : decode cX7_type 1 = .ok (.getfield 31, 3) := by decide +kernel
theorem dX7_type_4 : decode cX7_type 4 = .ok (.lload_n 1, 1) := by decide +kernel
theorem dX7_type_5 : decode cX7_type 5 = .ok (.iload_n 3, 1) := by decide +kernel
theorem dX7_type_6 : decode cX7_type 6 = .ok (.invokestatic 93, 3) := by decide +kernel
theorem dX7_type_9 : decode cX7_type 9 = .ok (.ireturn, 1) := by decide +kernel
theorem dX7_size_0 : decode cX7_size 0 = .ok (.aload_n 0, 1) := by decide +kernel
theorem dX7_size_1 : decode cX7_size 1 = .ok (.getfield 31, 3) := by decide +kernel
theorem dX7_size_4 : decode cX7_size 4 = .ok (.invokevirtual 107, 3) := by decide +kernel
theorem dX7_size_7 : decode cX7_size 7 = .ok (.ireturn, 1) := by decide +kernel
theorem dX7_at_0 : decode cX7_at 0 = .ok (.aload_n 0, 1) := by decide +kernel
theorem dX7_at_1 : decode cX7_at 1 = .ok (.getfield 31, 3) := by decide +kernel
theorem dX7_at_4 : decode cX7_at 4 = .ok (.iload_n 1, 1) := by decide +kernel
theorem dX7_at_5 : decode cX7_at 5 = .ok (.invokevirtual 97, 3) := by decide +kernel
theorem dX7_at_8 : decode cX7_at 8 = .ok (.ifCond .eq 14, 3) := by decide +kernel
theorem dX7_at_11 : decode cX7_at 11 = .ok (.aload_n 0, 1) := by decide +kernel
theorem dX7_at_12 : decode cX7_at 12 = .ok (.getfield 31, 3) := by decide +kernel
theorem dX7_at_15 : decode cX7_at 15 = .ok (.iload_n 1, 1) := by decide +kernel
theorem dX7_at_16 : decode cX7_at 16 = .ok (.invokevirtual 100, 3) := by decide +kernel
theorem dX7_at_19 : decode cX7_at 19 = .ok (.goto 4, 3) := by decide +kernel
theorem dX7_at_22 : decode cX7_at 22 = .ok (.iconst (-1), 1) := by decide +kernel
theorem dX7_at_23 : decode cX7_at 23 = .ok (.ireturn, 1) := by decide +kernel
theorem dX7_alphabet_0 : decode cX7_alphabet 0 = .ok (.aload_n 0, 1) := by decide +kernel
theorem dX7_alphabet_1 : decode cX7_alphabet 1 = .ok (.getfield 18, 3) := by decide +kernel
theorem dX7_alphabet_4 : decode cX7_alphabet 4 = .ok (.iconst 5, 1) := by decide +kernel
theorem dX7_alphabet_5 : decode cX7_alphabet 5 = .ok (.if_icmp .ge 6, 3) := by decide +kernel
theorem dX7_alphabet_8 : decode cX7_alphabet 8 = .ok (.bipush (-3), 2) := by decide +kernel
theorem dX7_alphabet_10 : decode cX7_alphabet 10 = .ok (.ireturn, 1) := by decide +kernel
theorem dX7_alphabet_11 : decode cX7_alphabet 11 = .ok (.aload_n 0, 1) := by decide +kernel
theorem dX7_alphabet_12 : decode cX7_alphabet 12 = .ok (.getfield 50, 3) := by decide +kernel
theorem dX7_alphabet_15 : decode cX7_alphabet 15 = .ok (.iload_n 1, 1) := by decide +kernel
theorem dX7_alphabet_16 : decode cX7_alphabet 16 = .ok (.iload_n 2, 1) := by decide +kernel
theorem dX7_alphabet_17 : decode cX7_alphabet 17 = .ok (.invokevirtual 117, 3) := by decide +kernel
theorem dX7_alphabet_20 : decode cX7_alphabet 20 = .ok (.ifCond .ne 5, 3) := by decide +kernel
theorem dX7_alphabet_23 : decode cX7_alphabet 23 = .ok (.iconst (-1), 1) := by decide +kernel
theorem dX7_alphabet_24 : decode cX7_alphabet 24 = .ok (.ireturn, 1) := by decide +kernel
theorem dX7_alphabet_25 : decode cX7_alphabet 25 = .ok (.iload_n 3, 1) := by decide +kernel
theorem dX7_alphabet_26 : decode cX7_alphabet 26 = .ok (.invokestatic 114, 3) := by decide +kernel
theorem dX7_alphabet_29 : decode cX7_alphabet 29 = .ok (.ifCond .ne 6, 3) := by decide +kernel
theorem dX7_alphabet_32 : decode cX7_alphabet 32 = .ok (.bipush (-2), 2) := by decide +kernel
theorem dX7_alphabet_34 : decode cX7_alphabet 34 = .ok (.ireturn, 1) := by decide +kernel
theorem dX7_alphabet_35 : decode cX7_alphabet 35 = .ok (.aload_n 0, 1) := by decide +kernel
theorem dX7_alphabet_36 : decode cX7_alphabet 36 = .ok (.getfield 50, 3) := by decide +kernel
theorem dX7_alphabet_39 : decode cX7_alphabet 39 = .ok (.iload_n 1, 1) := by decide +kernel
theorem dX7_alphabet_40 : decode cX7_alphabet 40 = .ok (.iload_n 2, 1) := by decide +kernel
theorem dX7_alphabet_41 : decode cX7_alphabet 41 = .ok (.iload_n 3, 1) := by decide +kernel
theorem dX7_alphabet_42 : decode cX7_alphabet 42 = .ok (.invokevirtual 121, 3) := by decide +kernel
theorem dX7_alphabet_45 : decode cX7_alphabet 45 = .ok (.ireturn, 1) := by decide +kernel
theorem dX1_mayChange_0 : decode cX1_mayChange 0 = .ok (.iload_n 1, 1) := by decide +kernel
theorem dX1_mayChange_1 : decode cX1_mayChange 1 = .ok (.iload_n 2, 1) := by decide +kernel
theorem dX1_mayChange_2 : decode cX1_mayChange 2 = .ok (.invokestatic 31, 3) := by decide +kernel
theorem dX1_mayChange_5 : decode cX1_mayChange 5 = .ok (.ifCond .eq 18, 3) := by decide +kernel
theorem dX1_mayChange_8 : decode cX1_mayChange 8 = .ok (.iload_n 1, 1) := by decide +kernel
theorem dX1_mayChange_9 : decode cX1_mayChange 9 = .ok (.iconst 2, 1) := by decide +kernel
theorem dX1_mayChange_10 : decode cX1_mayChange 10 = .ok (.if_icmp .ne 9, 3) := by decide +kernel
theorem dX1_mayChange_13 : decode cX1_mayChange 13 = .ok (.iload_n 2, 1) := by decide +kernel
theorem dX1_mayChange_14 : decode cX1_mayChange 14 = .ok (.bipush 7, 2) := by decide +kernel
theorem dX1_mayChange_16 : decode cX1_mayChange 16 = .ok (.if_icmp .le 7, 3) := by decide +kernel
theorem dX1_mayChange_19 : decode cX1_mayChange 19 = .ok (.iconst 1, 1) := by decide +kernel
theorem dX1_mayChange_20 : decode cX1_mayChange 20 = .ok (.goto 4, 3) := by decide +kernel
theorem dX1_mayChange_23 : decode cX1_mayChange 23 = .ok (.iconst 0, 1) := by decide +kernel
theorem dX1_mayChange_24 : decode cX1_mayChange 24 = .ok (.ireturn, 1) := by decide +kernel
theorem dX1_isLetter_0 : decode cX1_isLetter 0 = .ok (.iload_n 0, 1) := by decide +kernel
theorem dX1_isLetter_1 : decode cX1_isLetter 1 = .ok (.ifCond .lt 24, 3) := by decide +kernel
theorem dX1_isLetter_4 : decode cX1_isLetter 4 = .ok (.iload_n 0, 1) := by decide +kernel
theorem dX1_isLetter_5 : decode cX1_isLetter 5 = .ok (.iconst 2, 1) := by decide +kernel
theorem dX1_isLetter_6 : decode cX1_isLetter 6 = .ok (.if_icmp .gt 19, 3) := by decide +kernel
theorem dX1_isLetter_9 : decode cX1_isLetter 9 = .ok (.iload_n 1, 1) := by decide +kernel
theorem dX1_isLetter_10 : decode cX1_isLetter 10 = .ok (.bipush 6, 2) := by decide +kernel
theorem dX1_isLetter_12 : decode cX1_isLetter 12 = .ok (.if_icmp .lt 13, 3) := by decide +kernel
theorem dX1_isLetter_15 : decode cX1_isLetter 15 = .ok (.iload_n 1, 1) := by decide +kernel
theorem dX1_isLetter_16 : decode cX1_isLetter 16 = .ok (.bipush 31, 2) := by decide +kernel
theorem dX1_isLetter_18 : decode cX1_isLetter 18 = .ok (.if_icmp .gt 7, 3) := by decide +kernel
theorem dX1_isLetter_21 : decode cX1_isLetter 21 = .ok (.iconst 1, 1) := by decide +kernel
theorem dX1_isLetter_22 : decode cX1_isLetter 22 = .ok (.goto 4, 3) := by decide +kernel
theorem dX1_isLetter_25 : decode cX1_isLetter 25 = .ok (.iconst 0, 1) := by decide +kernel
theorem dX1_isLetter_26 : decode cX1_isLetter 26 = .ok (.ireturn, 1) := by decide +kernel
theorem dX1_change_0 : decode cX1_change 0 = .ok (.aload_n 0, 1) := by decide +kernel
theorem dX1_change_1 : decode cX1_change 1 = .ok (.iload_n 1, 1) := by decide +kernel
theorem dX1_change_2 : decode cX1_change 2 = .ok (.iload_n 2, 1) := by decide +kernel
theorem dX1_change_3 : decode cX1_change 3 = .ok (.invokevirtual 35, 3) := by decide +kernel
theorem dX1_change_6 : decode cX1_change 6 = .ok (.ifCond .ne 5, 3) := by decide +kernel
theorem dX1_change_9 : decode cX1_change 9 = .ok (.iconst (-1), 1) := by decide +kernel
theorem dX1_change_10 : decode cX1_change 10 = .ok (.ireturn, 1) := by decide +kernel
theorem dX1_change_11 : decode cX1_change 11 = .ok (.bipush 26, 2) := by decide +kernel
theorem dX1_change_13 : decode cX1_change 13 = .ok (.iload_n 1, 1) := by decide +kernel
theorem dX1_change_14 : decode cX1_change 14 = .ok (.imul, 1) := by decide +kernel
theorem dX1_change_15 : decode cX1_change 15 = .ok (.iload_n 2, 1) := by decide +kernel
theorem dX1_change_16 : decode cX1_change 16 = .ok (.iadd, 1) := by decide +kernel
theorem dX1_change_17 : decode cX1_change 17 = .ok (.bipush 6, 2) := by decide +kernel
theorem dX1_change_19 : decode cX1_change 19 = .ok (.isub, 1) := by decide +kernel
theorem dX1_change_20 : decode cX1_change 20 = .ok (.istore 4, 2) := by decide +kernel
theorem dX1_change_22 : decode cX1_change 22 = .ok (.aload_n 0, 1) := by decide +kernel
theorem dX1_change_23 : decode cX1_change 23 = .ok (.getfield 15, 3) := by decide +kernel
theorem dX1_change_26 : decode cX1_change 26 = .ok (.iload 4, 2) := by decide +kernel
theorem dX1_change_28 : decode cX1_change 28 = .ok (.iaload, 1) := by decide +kernel
theorem dX1_change_29 : decode cX1_change 29 = .ok (.istore 5, 2) := by decide +kernel
theorem dX1_change_31 : decode cX1_change 31 = .ok (.aload_n 0, 1) := by decide +kernel
theorem dX1_change_32 : decode cX1_change 32 = .ok (.getfield 15, 3) := by decide +kernel
theorem dX1_change_35 : decode cX1_change 35 = .ok (.iload 4, 2) := by decide +kernel
theorem dX1_change_37 : decode cX1_change 37 = .ok (.iload_n 3, 1) := by decide +kernel
theorem dX1_change_38 : decode cX1_change 38 = .ok (.iastore, 1) := by decide +kernel
theorem dX1_change_39 : decode cX1_change 39 = .ok (.iload 5, 2) := by decide +kernel
theorem dX1_change_41 : decode cX1_change 41 = .ok (.ireturn, 1) := by decide +kernel
theorem dX7_entry_0 : decode cX7_entry 0 = .ok (.aload_n 0, 1) := by decide +kernel
theorem dX7_entry_1 : decode cX7_entry 1 = .ok (.getfield 34, 3) := by decide +kernel
theorem dX7_entry_4 : decode cX7_entry 4 = .ok (.iload_n 1, 1) := by decide +kernel
theorem dX7_entry_5 : decode cX7_entry 5 = .ok (.invokevirtual 97, 3) := by decide +kernel
theorem dX7_entry_8 : decode cX7_entry 8 = .ok (.ifCond .ne 5, 3) := by decide +kernel
theorem dX7_entry_11 : decode cX7_entry 11 = .ok (.iconst (-1), 1) := by decide +kernel
theorem dX7_entry_12 : decode cX7_entry 12 = .ok (.ireturn, 1) := by decide +kernel
theorem dX7_entry_13 : decode cX7_entry 13 = .ok (.iload_n 2, 1) := by decide +kernel
theorem dX7_entry_14 : decode cX7_entry 14 = .ok (.iconst (-1), 1) := by decide +kernel
theorem dX7_entry_15 : decode cX7_entry 15 = .ok (.if_icmp .lt 10, 3) := by decide +kernel
theorem dX7_entry_18 : decode cX7_entry 18 = .ok (.iload_n 2, 1) := by decide +kernel
theorem dX7_entry_19 : decode cX7_entry 19 = .ok (.sipush 3000, 3) := by decide +kernel
theorem dX7_entry_22 : decode cX7_entry 22 = .ok (.if_icmp .le 6, 3) := by decide +kernel
theorem dX7_entry_25 : decode cX7_entry 25 = .ok (.bipush (-2), 2) := by decide +kernel
theorem dX7_entry_27 : decode cX7_entry 27 = .ok (.ireturn, 1) := by decide +kernel
theorem dX7_entry_28 : decode cX7_entry 28 = .ok (.aload_n 0, 1) := by decide +kernel
theorem dX7_entry_29 : decode cX7_entry 29 = .ok (.getfield 34, 3) := by decide +kernel
theorem dX7_entry_32 : decode cX7_entry 32 = .ok (.iload_n 1, 1) := by decide +kernel
theorem dX7_entry_33 : decode cX7_entry 33 = .ok (.iload_n 2, 1) := by decide +kernel
theorem dX7_entry_34 : decode cX7_entry 34 = .ok (.invokevirtual 104, 3) := by decide +kernel
theorem dX7_entry_37 : decode cX7_entry 37 = .ok (.ireturn, 1) := by decide +kernel
theorem dX7_tell_0 : decode cX7_tell 0 = .ok (.iload_n 1, 1) := by decide +kernel
theorem dX7_tell_1 : decode cX7_tell 1 = .ok (.ifCond .lt 10, 3) := by decide +kernel
theorem dX7_tell_4 : decode cX7_tell 4 = .ok (.iload_n 1, 1) := by decide +kernel
theorem dX7_tell_5 : decode cX7_tell 5 = .ok (.sipush 3000, 3) := by decide +kernel
theorem dX7_tell_8 : decode cX7_tell 8 = .ok (.if_icmp .le 6, 3) := by decide +kernel
theorem dX7_tell_11 : decode cX7_tell 11 = .ok (.bipush (-2), 2) := by decide +kernel
theorem dX7_tell_13 : decode cX7_tell 13 = .ok (.ireturn, 1) := by decide +kernel
theorem dX7_tell_14 : decode cX7_tell 14 = .ok (.aload_n 0, 1) := by decide +kernel
theorem dX7_tell_15 : decode cX7_tell 15 = .ok (.getfield 41, 3) := by decide +kernel
theorem dX7_tell_18 : decode cX7_tell 18 = .ok (.iconst 0, 1) := by decide +kernel
theorem dX7_tell_19 : decode cX7_tell 19 = .ok (.invokevirtual 111, 3) := by decide +kernel
theorem dX7_tell_22 : decode cX7_tell 22 = .ok (.aload_n 0, 1) := by decide +kernel
theorem dX7_tell_23 : decode cX7_tell 23 = .ok (.getfield 59, 3) := by decide +kernel
theorem dX7_tell_26 : decode cX7_tell 26 = .ok (.iload_n 1, 1) := by decide +kernel
theorem dX7_tell_27 : decode cX7_tell 27 = .ok (.invokevirtual 125, 3) := by decide +kernel
theorem dX7_tell_30 : decode cX7_tell 30 = .ok (.istore_n 2, 1) := by decide +kernel
theorem dX7_tell_31 : decode cX7_tell 31 = .ok (.iload_n 2, 1) := by decide +kernel
theorem dX7_tell_32 : decode cX7_tell 32 = .ok (.ifCond .ge 13, 3) := by decide +kernel
theorem dX7_tell_35 : decode cX7_tell 35 = .ok (.aload_n 0, 1) := by decide +kernel
theorem dX7_tell_36 : decode cX7_tell 36 = .ok (.iconst 0, 1) := by decide +kernel
theorem dX7_tell_37 : decode cX7_tell 37 = .ok (.putfield 90, 3) := by decide +kernel
theorem dX7_tell_40 : decode cX7_tell 40 = .ok (.bipush (-10), 2) := by decide +kernel
theorem dX7_tell_42 : decode cX7_tell 42 = .ok (.iload_n 2, 1) := by decide +kernel
theorem dX7_tell_43 : decode cX7_tell 43 = .ok (.iadd, 1) := by decide +kernel
theorem dX7_tell_44 : decode cX7_tell 44 = .ok (.ireturn, 1) := by decide +kernel
theorem dX7_tell_45 : decode cX7_tell 45 = .ok (.aload_n 0, 1) := by decide +kernel
theorem dX7_tell_46 : decode cX7_tell 46 = .ok (.iload_n 2, 1) := by decide +kernel
theorem dX7_tell_47 : decode cX7_tell 47 = .ok (.putfield 90, 3) := by decide +kernel
theorem dX7_tell_50 : decode cX7_tell 50 = .ok (.aload_n 0, 1) := by decide +kernel
theorem dX7_tell_51 : decode cX7_tell 51 = .ok (.getfield 31, 3) := by decide +kernel
theorem dX7_tell_54 : decode cX7_tell 54 = .ok (.aload_n 0, 1) := by decide +kernel
theorem dX7_tell_55 : decode cX7_tell 55 = .ok (.getfield 41, 3) := by decide +kernel
theorem dX7_tell_58 : decode cX7_tell 58 = .ok (.invokevirtual 128, 3) := by decide +kernel
theorem dX7_tell_61 : decode cX7_tell 61 = .ok (.aload_n 0, 1) := by decide +kernel
theorem dX7_tell_62 : decode cX7_tell 62 = .ok (.getfield 31, 3) := by decide +kernel
theorem dX7_tell_65 : decode cX7_tell 65 = .ok (.invokevirtual 107, 3) := by decide +kernel
theorem dX7_tell_68 : decode cX7_tell 68 = .ok (.ireturn, 1) := by decide +kernel
theorem dX6_tellText_0 : decode cX6_tellText 0 = .ok (.aload_n 0, 1) := by decide +kernel
theorem dX6_tellText_1 : decode cX6_tellText 1 = .ok (.iload_n 1, 1) := by decide +kernel
theorem dX6_tellText_2 : decode cX6_tellText 2 = .ok (.iconst 0, 1) := by decide +kernel
theorem dX6_tellText_3 : decode cX6_tellText 3 = .ok (.invokevirtual 33, 3) := by decide +kernel
theorem dX6_tellText_6 : decode cX6_tellText 6 = .ok (.ireturn, 1) := by decide +kernel
theorem dX6_tellFrom_0 : decode cX6_tellFrom 0 = .ok (.iload_n 2, 1) := by decide +kernel
theorem dX6_tellFrom_1 : decode cX6_tellFrom 1 = .ok (.ifCond .ne 10, 3) := by decide +kernel
theorem dX6_tellFrom_4 : decode cX6_tellFrom 4 = .ok (.aload_n 0, 1) := by decide +kernel
theorem dX6_tellFrom_5 : decode cX6_tellFrom 5 = .ok (.getfield 26, 3) := by decide +kernel
theorem dX6_tellFrom_8 : decode cX6_tellFrom 8 = .ok (.goto 7, 3) := by decide +kernel
theorem dX6_tellFrom_11 : decode cX6_tellFrom 11 = .ok (.aload_n 0, 1) := by decide +kernel
theorem dX6_tellFrom_12 : decode cX6_tellFrom 12 = .ok (.getfield 30, 3) := by decide +kernel
theorem dX6_tellFrom_15 : decode cX6_tellFrom 15 = .ok (.astore_n 3, 1) := by decide +kernel
theorem dX6_tellFrom_16 : decode cX6_tellFrom 16 = .ok (.aload_n 3, 1) := by decide +kernel
theorem dX6_tellFrom_17 : decode cX6_tellFrom 17 = .ok (.invokevirtual 37, 3) := by decide +kernel
theorem dX6_tellFrom_20 : decode cX6_tellFrom 20 = .ok (.iload_n 1, 1) := by decide +kernel
theorem dX6_tellFrom_21 : decode cX6_tellFrom 21 = .ok (.istore 4, 2) := by decide +kernel
theorem dX6_tellFrom_23 : decode cX6_tellFrom 23 = .ok (.iload 4, 2) := by decide +kernel
theorem dX6_tellFrom_25 : decode cX6_tellFrom 25 = .ok (.iconst 1, 1) := by decide +kernel
theorem dX6_tellFrom_26 : decode cX6_tellFrom 26 = .ok (.iadd, 1) := by decide +kernel
theorem dX6_tellFrom_27 : decode cX6_tellFrom 27 = .ok (.aload_n 0, 1) := by decide +kernel
theorem dX6_tellFrom_28 : decode cX6_tellFrom 28 = .ok (.getfield 9, 3) := by decide +kernel
theorem dX6_tellFrom_31 : decode cX6_tellFrom 31 = .ok (.invokevirtual 40, 3) := by decide +kernel
theorem dX6_tellFrom_34 : decode cX6_tellFrom 34 = .ok (.if_icmp .ge 90, 3) := by decide +kernel
theorem dX6_tellFrom_37 : decode cX6_tellFrom 37 = .ok (.aload_n 0, 1) := by decide +kernel
theorem dX6_tellFrom_38 : decode cX6_tellFrom 38 = .ok (.getfield 9, 3) := by decide +kernel
theorem dX6_tellFrom_41 : decode cX6_tellFrom 41 = .ok (.iload 4, 2) := by decide +kernel
theorem dX6_tellFrom_43 : decode cX6_tellFrom 43 = .ok (.invokevirtual 46, 3) := by decide +kernel
theorem dX6_tellFrom_46 : decode cX6_tellFrom 46 = .ok (.bipush 8, 2) := by decide +kernel
theorem dX6_tellFrom_48 : decode cX6_tellFrom 48 = .ok (.ishl, 1) := by decide +kernel
theorem dX6_tellFrom_49 : decode cX6_tellFrom 49 = .ok (.aload_n 0, 1) := by decide +kernel
theorem dX6_tellFrom_50 : decode cX6_tellFrom 50 = .ok (.getfield 9, 3) := by decide +kernel
theorem dX6_tellFrom_53 : decode cX6_tellFrom 53 = .ok (.iload 4, 2) := by decide +kernel
theorem dX6_tellFrom_55 : decode cX6_tellFrom 55 = .ok (.iconst 1, 1) := by decide +kernel
theorem dX6_tellFrom_56 : decode cX6_tellFrom 56 = .ok (.iadd, 1) := by decide +kernel
theorem dX6_tellFrom_57 : decode cX6_tellFrom 57 = .ok (.invokevirtual 46, 3) := by decide +kernel
theorem dX6_tellFrom_60 : decode cX6_tellFrom 60 = .ok (.ior, 1) := by decide +kernel
theorem dX6_tellFrom_61 : decode cX6_tellFrom 61 = .ok (.istore 5, 2) := by decide +kernel
theorem dX6_tellFrom_63 : decode cX6_tellFrom 63 = .ok (.bipush 10, 2) := by decide +kernel
theorem dX6_tellFrom_65 : decode cX6_tellFrom 65 = .ok (.istore 6, 2) := by decide +kernel
theorem dX6_tellFrom_67 : decode cX6_tellFrom 67 = .ok (.iload 6, 2) := by decide +kernel
theorem dX6_tellFrom_69 : decode cX6_tellFrom 69 = .ok (.ifCond .lt 37, 3) := by decide +kernel
theorem dX6_tellFrom_72 : decode cX6_tellFrom 72 = .ok (.aload_n 0, 1) := by decide +kernel
theorem dX6_tellFrom_73 : decode cX6_tellFrom 73 = .ok (.aload_n 3, 1) := by decide +kernel
theorem dX6_tellFrom_74 : decode cX6_tellFrom 74 = .ok (.iload 5, 2) := by decide +kernel
theorem dX6_tellFrom_76 : decode cX6_tellFrom 76 = .ok (.iload 6, 2) := by decide +kernel
theorem dX6_tellFrom_78 : decode cX6_tellFrom 78 = .ok (.ishr, 1) := by decide +kernel
theorem dX6_tellFrom_79 : decode cX6_tellFrom 79 = .ok (.bipush 31, 2) := by decide +kernel
theorem dX6_tellFrom_81 : decode cX6_tellFrom 81 = .ok (.iand, 1) := by decide +kernel
theorem dX6_tellFrom_82 : decode cX6_tellFrom 82 = .ok (.invokevirtual 50, 3) := by decide +kernel
theorem dX6_tellFrom_85 : decode cX6_tellFrom 85 = .ok (.iload_n 2, 1) := by decide +kernel
theorem dX6_tellFrom_86 : decode cX6_tellFrom 86 = .ok (.invokevirtual 53, 3) := by decide +kernel
theorem dX6_tellFrom_89 : decode cX6_tellFrom 89 = .ok (.istore 7, 2) := by decide +kernel
theorem dX6_tellFrom_91 : decode cX6_tellFrom 91 = .ok (.iload 7, 2) := by decide +kernel
theorem dX6_tellFrom_93 : decode cX6_tellFrom 93 = .ok (.ifCond .eq 7, 3) := by decide +kernel
theorem dX6_tellFrom_96 : decode cX6_tellFrom 96 = .ok (.iload 7, 2) := by decide +kernel
theorem dX6_tellFrom_98 : decode cX6_tellFrom 98 = .ok (.ineg, 1) := by decide +kernel
theorem dX6_tellFrom_99 : decode cX6_tellFrom 99 = .ok (.ireturn, 1) := by decide +kernel
theorem dX6_tellFrom_100 : decode cX6_tellFrom 100 = .ok (.iinc 6 (-5), 3) := by decide +kernel
theorem dX6_tellFrom_103 : decode cX6_tellFrom 103 = .ok (.goto (-36), 3) := by decide +kernel
theorem dX6_tellFrom_106 : decode cX6_tellFrom 106 = .ok (.iload 5, 2) := by decide +kernel
theorem dX6_tellFrom_108 : decode cX6_tellFrom 108 = .ok (.ldc 56, 2) := by decide +kernel
theorem dX6_tellFrom_110 : decode cX6_tellFrom 110 = .ok (.if_icmp .lt 8, 3) := by decide +kernel
theorem dX6_tellFrom_113 : decode cX6_tellFrom 113 = .ok (.iload 4, 2) := by decide +kernel
theorem dX6_tellFrom_115 : decode cX6_tellFrom 115 = .ok (.iconst 2, 1) := by decide +kernel
theorem dX6_tellFrom_116 : decode cX6_tellFrom 116 = .ok (.iadd, 1) := by decide +kernel
theorem dX6_tellFrom_117 : decode cX6_tellFrom 117 = .ok (.ireturn, 1) := by decide +kernel
theorem dX6_tellFrom_118 : decode cX6_tellFrom 118 = .ok (.iinc 4 2, 3) := by decide +kernel
theorem dX6_tellFrom_121 : decode cX6_tellFrom 121 = .ok (.goto (-98), 3) := by decide +kernel
theorem dX6_tellFrom_124 : decode cX6_tellFrom 124 = .ok (.bipush (-2), 2) := by decide +kernel
theorem dX6_tellFrom_126 : decode cX6_tellFrom 126 = .ok (.ireturn, 1) := by decide +kernel
theorem dX4_take_0 : decode cX4_take 0 = .ok (.aload_n 0, 1) := by decide +kernel
theorem dX4_take_1 : decode cX4_take 1 = .ok (.getfield 28, 3) := by decide +kernel
theorem dX4_take_4 : decode cX4_take 4 = .ok (.tableswitch 71 1 3 #[28, 44, 59], 28) := by decide +kernel
theorem dX4_take_32 : decode cX4_take 32 = .ok (.aload_n 0, 1) := by decide +kernel
theorem dX4_take_33 : decode cX4_take 33 = .ok (.iconst 0, 1) := by decide +kernel
theorem dX4_take_34 : decode cX4_take 34 = .ok (.putfield 28, 3) := by decide +kernel
theorem dX4_take_37 : decode cX4_take 37 = .ok (.sipush 1024, 3) := by decide +kernel
theorem dX4_take_40 : decode cX4_take 40 = .ok (.aload_n 0, 1) := by decide +kernel
theorem dX4_take_41 : decode cX4_take 41 = .ok (.getfield 31, 3) := by decide +kernel
theorem dX4_take_44 : decode cX4_take 44 = .ok (.iadd, 1) := by decide +kernel
theorem dX4_take_45 : decode cX4_take 45 = .ok (.iload_n 1, 1) := by decide +kernel
theorem dX4_take_46 : decode cX4_take 46 = .ok (.iadd, 1) := by decide +kernel
theorem dX4_take_47 : decode cX4_take 47 = .ok (.ireturn, 1) := by decide +kernel
theorem dX4_take_48 : decode cX4_take 48 = .ok (.aload_n 0, 1) := by decide +kernel
theorem dX4_take_49 : decode cX4_take 49 = .ok (.iconst 3, 1) := by decide +kernel
theorem dX4_take_50 : decode cX4_take 50 = .ok (.putfield 28, 3) := by decide +kernel
theorem dX4_take_53 : decode cX4_take 53 = .ok (.aload_n 0, 1) := by decide +kernel
theorem dX4_take_54 : decode cX4_take 54 = .ok (.bipush 32, 2) := by decide +kernel
theorem dX4_take_56 : decode cX4_take 56 = .ok (.iload_n 1, 1) := by decide +kernel
theorem dX4_take_57 : decode cX4_take 57 = .ok (.imul, 1) := by decide +kernel
theorem dX4_take_58 : decode cX4_take 58 = .ok (.putfield 31, 3) := by decide +kernel
theorem dX4_take_61 : decode cX4_take 61 = .ok (.iconst (-1), 1) := by decide +kernel
theorem dX4_take_62 : decode cX4_take 62 = .ok (.ireturn, 1) := by decide +kernel
theorem dX4_take_63 : decode cX4_take 63 = .ok (.aload_n 0, 1) := by decide +kernel
theorem dX4_take_64 : decode cX4_take 64 = .ok (.iconst 0, 1) := by decide +kernel
theorem dX4_take_65 : decode cX4_take 65 = .ok (.putfield 28, 3) := by decide +kernel
theorem dX4_take_68 : decode cX4_take 68 = .ok (.aload_n 0, 1) := by decide +kernel
theorem dX4_take_69 : decode cX4_take 69 = .ok (.getfield 31, 3) := by decide +kernel
theorem dX4_take_72 : decode cX4_take 72 = .ok (.iload_n 1, 1) := by decide +kernel
theorem dX4_take_73 : decode cX4_take 73 = .ok (.iadd, 1) := by decide +kernel
theorem dX4_take_74 : decode cX4_take 74 = .ok (.ireturn, 1) := by decide +kernel
theorem dX4_take_75 : decode cX4_take 75 = .ok (.aload_n 0, 1) := by decide +kernel
theorem dX4_take_76 : decode cX4_take 76 = .ok (.iload_n 1, 1) := by decide +kernel
theorem dX4_take_77 : decode cX4_take 77 = .ok (.invokevirtual 34, 3) := by decide +kernel
theorem dX4_take_80 : decode cX4_take 80 = .ok (.ireturn, 1) := by decide +kernel
theorem dX4_takeFree_0 : decode cX4_takeFree 0 = .ok (.aload_n 0, 1) := by decide +kernel
theorem dX4_takeFree_1 : decode cX4_takeFree 1 = .ok (.getfield 25, 3) := by decide +kernel
theorem dX4_takeFree_4 : decode cX4_takeFree 4 = .ok (.iconst (-1), 1) := by decide +kernel
theorem dX4_takeFree_5 : decode cX4_takeFree 5 = .ok (.if_icmp .ne 10, 3) := by decide +kernel
theorem dX4_takeFree_8 : decode cX4_takeFree 8 = .ok (.aload_n 0, 1) := by decide +kernel
theorem dX4_takeFree_9 : decode cX4_takeFree 9 = .ok (.getfield 22, 3) := by decide +kernel
theorem dX4_takeFree_12 : decode cX4_takeFree 12 = .ok (.goto 7, 3) := by decide +kernel
theorem dX4_takeFree_15 : decode cX4_takeFree 15 = .ok (.aload_n 0, 1) := by decide +kernel
theorem dX4_takeFree_16 : decode cX4_takeFree 16 = .ok (.getfield 25, 3) := by decide +kernel
theorem dX4_takeFree_19 : decode cX4_takeFree 19 = .ok (.istore_n 2, 1) := by decide +kernel
theorem dX4_takeFree_20 : decode cX4_takeFree 20 = .ok (.aload_n 0, 1) := by decide +kernel
theorem dX4_takeFree_21 : decode cX4_takeFree 21 = .ok (.iconst (-1), 1) := by decide +kernel
theorem dX4_takeFree_22 : decode cX4_takeFree 22 = .ok (.putfield 25, 3) := by decide +kernel
theorem dX4_takeFree_25 : decode cX4_takeFree 25 = .ok (.iload_n 1, 1) := by decide +kernel
theorem dX4_takeFree_26 : decode cX4_takeFree 26 = .ok (.ifCond .ne 6, 3) := by decide +kernel
theorem dX4_takeFree_29 : decode cX4_takeFree 29 = .ok (.bipush 32, 2) := by decide +kernel
theorem dX4_takeFree_31 : decode cX4_takeFree 31 = .ok (.ireturn, 1) := by decide +kernel
theorem dX4_takeFree_32 : decode cX4_takeFree 32 = .ok (.iload_n 1, 1) := by decide +kernel
theorem dX4_takeFree_33 : decode cX4_takeFree 33 = .ok (.bipush 6, 2) := by decide +kernel
theorem dX4_takeFree_35 : decode cX4_takeFree 35 = .ok (.if_icmp .lt 38, 3) := by decide +kernel
theorem dX4_takeFree_38 : decode cX4_takeFree 38 = .ok (.aload_n 0, 1) := by decide +kernel
theorem dX4_takeFree_39 : decode cX4_takeFree 39 = .ok (.getfield 15, 3) := by decide +kernel
theorem dX4_takeFree_42 : decode cX4_takeFree 42 = .ok (.iload_n 2, 1) := by decide +kernel
theorem dX4_takeFree_43 : decode cX4_takeFree 43 = .ok (.iload_n 1, 1) := by decide +kernel
theorem dX4_takeFree_44 : decode cX4_takeFree 44 = .ok (.invokevirtual 38, 3) := by decide +kernel
theorem dX4_takeFree_47 : decode cX4_takeFree 47 = .ok (.istore_n 3, 1) := by decide +kernel
theorem dX4_takeFree_48 : decode cX4_takeFree 48 = .ok (.aload_n 0, 1) := by decide +kernel
theorem dX4_takeFree_49 : decode cX4_takeFree 49 = .ok (.iload_n 3, 1) := by decide +kernel
theorem dX4_takeFree_50 : decode cX4_takeFree 50 = .ok (.iconst (-1), 1) := by decide +kernel
theorem dX4_takeFree_51 : decode cX4_takeFree 51 = .ok (.if_icmp .ne 7, 3) := by decide +kernel
theorem dX4_takeFree_54 : decode cX4_takeFree 54 = .ok (.iconst 2, 1) := by decide +kernel
theorem dX4_takeFree_55 : decode cX4_takeFree 55 = .ok (.goto 4, 3) := by decide +kernel
theorem dX4_takeFree_58 : decode cX4_takeFree 58 = .ok (.iconst 0, 1) := by decide +kernel
theorem dX4_takeFree_59 : decode cX4_takeFree 59 = .ok (.putfield 28, 3) := by decide +kernel
theorem dX4_takeFree_62 : decode cX4_takeFree 62 = .ok (.iload_n 3, 1) := by decide +kernel
theorem dX4_takeFree_63 : decode cX4_takeFree 63 = .ok (.iconst (-1), 1) := by decide +kernel
theorem dX4_takeFree_64 : decode cX4_takeFree 64 = .ok (.if_icmp .ne 7, 3) := by decide +kernel
theorem dX4_takeFree_67 : decode cX4_takeFree 67 = .ok (.iconst (-1), 1) := by decide +kernel
theorem dX4_takeFree_68 : decode cX4_takeFree 68 = .ok (.goto 4, 3) := by decide +kernel
theorem dX4_takeFree_71 : decode cX4_takeFree 71 = .ok (.iload_n 3, 1) := by decide +kernel
theorem dX4_takeFree_72 : decode cX4_takeFree 72 = .ok (.ireturn, 1) := by decide +kernel
theorem dX4_takeFree_73 : decode cX4_takeFree 73 = .ok (.iload_n 1, 1) := by decide +kernel
theorem dX4_takeFree_74 : decode cX4_takeFree 74 = .ok (.iconst 1, 1) := by decide +kernel
theorem dX4_takeFree_75 : decode cX4_takeFree 75 = .ok (.if_icmp .ne 14, 3) := by decide +kernel
theorem dX4_takeFree_78 : decode cX4_takeFree 78 = .ok (.aload_n 0, 1) := by decide +kernel
theorem dX4_takeFree_79 : decode cX4_takeFree 79 = .ok (.getfield 9, 3) := by decide +kernel
theorem dX4_takeFree_82 : decode cX4_takeFree 82 = .ok (.iconst 1, 1) := by decide +kernel
theorem dX4_takeFree_83 : decode cX4_takeFree 83 = .ok (.if_icmp .ne 6, 3) := by decide +kernel
theorem dX4_takeFree_86 : decode cX4_takeFree 86 = .ok (.bipush 13, 2) := by decide +kernel
theorem dX4_takeFree_88 : decode cX4_takeFree 88 = .ok (.ireturn, 1) := by decide +kernel
theorem dX4_takeFree_89 : decode cX4_takeFree 89 = .ok (.iload_n 1, 1) := by decide +kernel
theorem dX4_takeFree_90 : decode cX4_takeFree 90 = .ok (.iconst 1, 1) := by decide +kernel
theorem dX4_takeFree_91 : decode cX4_takeFree 91 = .ok (.if_icmp .eq 16, 3) := by decide +kernel
theorem dX4_takeFree_94 : decode cX4_takeFree 94 = .ok (.iload_n 1, 1) := by decide +kernel
theorem dX4_takeFree_95 : decode cX4_takeFree 95 = .ok (.iconst 3, 1) := by decide +kernel
theorem dX4_takeFree_96 : decode cX4_takeFree 96 = .ok (.if_icmp .gt 29, 3) := by decide +kernel
theorem dX4_takeFree_99 : decode cX4_takeFree 99 = .ok (.aload_n 0, 1) := by decide +kernel
theorem dX4_takeFree_100 : decode cX4_takeFree 100 = .ok (.getfield 9, 3) := by decide +kernel
theorem dX4_takeFree_103 : decode cX4_takeFree 103 = .ok (.iconst 3, 1) := by decide +kernel
theorem dX4_takeFree_104 : decode cX4_takeFree 104 = .ok (.if_icmp .lt 21, 3) := by decide +kernel
theorem dX4_takeFree_107 : decode cX4_takeFree 107 = .ok (.aload_n 0, 1) := by decide +kernel
theorem dX4_takeFree_108 : decode cX4_takeFree 108 = .ok (.iconst 1, 1) := by decide +kernel
theorem dX4_takeFree_109 : decode cX4_takeFree 109 = .ok (.putfield 28, 3) := by decide +kernel
theorem dX4_takeFree_112 : decode cX4_takeFree 112 = .ok (.aload_n 0, 1) := by decide +kernel
theorem dX4_takeFree_113 : decode cX4_takeFree 113 = .ok (.bipush 32, 2) := by decide +kernel
theorem dX4_takeFree_115 : decode cX4_takeFree 115 = .ok (.iload_n 1, 1) := by decide +kernel
theorem dX4_takeFree_116 : decode cX4_takeFree 116 = .ok (.iconst 1, 1) := by decide +kernel
theorem dX4_takeFree_117 : decode cX4_takeFree 117 = .ok (.isub, 1) := by decide +kernel
theorem dX4_takeFree_118 : decode cX4_takeFree 118 = .ok (.imul, 1) := by decide +kernel
theorem dX4_takeFree_119 : decode cX4_takeFree 119 = .ok (.putfield 31, 3) := by decide +kernel
theorem dX4_takeFree_122 : decode cX4_takeFree 122 = .ok (.bipush (-2), 2) := by decide +kernel
theorem dX4_takeFree_124 : decode cX4_takeFree 124 = .ok (.ireturn, 1) := by decide +kernel
theorem dX4_takeFree_125 : decode cX4_takeFree 125 = .ok (.aload_n 0, 1) := by decide +kernel
theorem dX4_takeFree_126 : decode cX4_takeFree 126 = .ok (.iload_n 1, 1) := by decide +kernel
theorem dX4_takeFree_127 : decode cX4_takeFree 127 = .ok (.invokevirtual 44, 3) := by decide +kernel
theorem dX4_takeFree_130 : decode cX4_takeFree 130 = .ok (.iconst (-1), 1) := by decide +kernel
theorem dX4_takeFree_131 : decode cX4_takeFree 131 = .ok (.ireturn, 1) := by decide +kernel
theorem dX1_letterFor_0 : decode cX1_letterFor 0 = .ok (.bipush 26, 2) := by decide +kernel
theorem dX1_letterFor_2 : decode cX1_letterFor 2 = .ok (.iload_n 1, 1) := by decide +kernel
theorem dX1_letterFor_3 : decode cX1_letterFor 3 = .ok (.imul, 1) := by decide +kernel
theorem dX1_letterFor_4 : decode cX1_letterFor 4 = .ok (.iload_n 2, 1) := by decide +kernel
theorem dX1_letterFor_5 : decode cX1_letterFor 5 = .ok (.iadd, 1) := by decide +kernel
theorem dX1_letterFor_6 : decode cX1_letterFor 6 = .ok (.bipush 6, 2) := by decide +kernel
theorem dX1_letterFor_8 : decode cX1_letterFor 8 = .ok (.isub, 1) := by decide +kernel
theorem dX1_letterFor_9 : decode cX1_letterFor 9 = .ok (.istore_n 3, 1) := by decide +kernel
theorem dX1_letterFor_10 : decode cX1_letterFor 10 = .ok (.iload_n 3, 1) := by decide +kernel
theorem dX1_letterFor_11 : decode cX1_letterFor 11 = .ok (.ifCond .lt 21, 3) := by decide +kernel
theorem dX1_letterFor_14 : decode cX1_letterFor 14 = .ok (.iload_n 3, 1) := by decide +kernel
theorem dX1_letterFor_15 : decode cX1_letterFor 15 = .ok (.aload_n 0, 1) := by decide +kernel
theorem dX1_letterFor_16 : decode cX1_letterFor 16 = .ok (.getfield 15, 3) := by decide +kernel
theorem dX1_letterFor_19 : decode cX1_letterFor 19 = .ok (.arraylength, 1) := by decide +kernel
theorem dX1_letterFor_20 : decode cX1_letterFor 20 = .ok (.if_icmp .ge 12, 3) := by decide +kernel
theorem dX1_letterFor_23 : decode cX1_letterFor 23 = .ok (.aload_n 0, 1) := by decide +kernel
theorem dX1_letterFor_24 : decode cX1_letterFor 24 = .ok (.getfield 15, 3) := by decide +kernel
theorem dX1_letterFor_27 : decode cX1_letterFor 27 = .ok (.iload_n 3, 1) := by decide +kernel
theorem dX1_letterFor_28 : decode cX1_letterFor 28 = .ok (.iaload, 1) := by decide +kernel
theorem dX1_letterFor_29 : decode cX1_letterFor 29 = .ok (.goto 4, 3) := by decide +kernel
theorem dX1_letterFor_32 : decode cX1_letterFor 32 = .ok (.iconst (-1), 1) := by decide +kernel
theorem dX1_letterFor_33 : decode cX1_letterFor 33 = .ok (.ireturn, 1) := by decide +kernel
theorem dX4_shift_0 : decode cX4_shift 0 = .ok (.aload_n 0, 1) := by decide +kernel
theorem dX4_shift_1 : decode cX4_shift 1 = .ok (.getfield 9, 3) := by decide +kernel
theorem dX4_shift_4 : decode cX4_shift 4 = .ok (.iconst 3, 1) := by decide +kernel
theorem dX4_shift_5 : decode cX4_shift 5 = .ok (.if_icmp .lt 13, 3) := by decide +kernel
theorem dX4_shift_8 : decode cX4_shift 8 = .ok (.aload_n 0, 1) := by decide +kernel
theorem dX4_shift_9 : decode cX4_shift 9 = .ok (.iload_n 1, 1) := by decide +kernel
theorem dX4_shift_10 : decode cX4_shift 10 = .ok (.iconst 3, 1) := by decide +kernel
theorem dX4_shift_11 : decode cX4_shift 11 = .ok (.isub, 1) := by decide +kernel
theorem dX4_shift_12 : decode cX4_shift 12 = .ok (.putfield 25, 3) := by decide +kernel
theorem dX4_shift_15 : decode cX4_shift 15 = .ok (.goto 39, 3) := by decide +kernel
theorem dX4_shift_18 : decode cX4_shift 18 = .ok (.iload_n 1, 1) := by decide +kernel
theorem dX4_shift_19 : decode cX4_shift 19 = .ok (.iconst 3, 1) := by decide +kernel
theorem dX4_shift_20 : decode cX4_shift 20 = .ok (.if_icmp .gt 20, 3) := by decide +kernel
theorem dX4_shift_23 : decode cX4_shift 23 = .ok (.aload_n 0, 1) := by decide +kernel
theorem dX4_shift_24 : decode cX4_shift 24 = .ok (.aload_n 0, 1) := by decide +kernel
theorem dX4_shift_25 : decode cX4_shift 25 = .ok (.getfield 22, 3) := by decide +kernel
theorem dX4_shift_28 : decode cX4_shift 28 = .ok (.iload_n 1, 1) := by decide +kernel
theorem dX4_shift_29 : decode cX4_shift 29 = .ok (.iadd, 1) := by decide +kernel
theorem dX4_shift_30 : decode cX4_shift 30 = .ok (.iconst 1, 1) := by decide +kernel
theorem dX4_shift_31 : decode cX4_shift 31 = .ok (.isub, 1) := by decide +kernel
theorem dX4_shift_32 : decode cX4_shift 32 = .ok (.iconst 3, 1) := by decide +kernel
theorem dX4_shift_33 : decode cX4_shift 33 = .ok (.irem, 1) := by decide +kernel
theorem dX4_shift_34 : decode cX4_shift 34 = .ok (.putfield 25, 3) := by decide +kernel
theorem dX4_shift_37 : decode cX4_shift 37 = .ok (.goto 17, 3) := by decide +kernel
theorem dX4_shift_40 : decode cX4_shift 40 = .ok (.aload_n 0, 1) := by decide +kernel
theorem dX4_shift_41 : decode cX4_shift 41 = .ok (.aload_n 0, 1) := by decide +kernel
theorem dX4_shift_42 : decode cX4_shift 42 = .ok (.getfield 22, 3) := by decide +kernel
theorem dX4_shift_45 : decode cX4_shift 45 = .ok (.iload_n 1, 1) := by decide +kernel
theorem dX4_shift_46 : decode cX4_shift 46 = .ok (.iadd, 1) := by decide +kernel
theorem dX4_shift_47 : decode cX4_shift 47 = .ok (.iconst 3, 1) := by decide +kernel
theorem dX4_shift_48 : decode cX4_shift 48 = .ok (.isub, 1) := by decide +kernel
theorem dX4_shift_49 : decode cX4_shift 49 = .ok (.iconst 3, 1) := by decide +kernel
theorem dX4_shift_50 : decode cX4_shift 50 = .ok (.irem, 1) := by decide +kernel
theorem dX4_shift_51 : decode cX4_shift 51 = .ok (.putfield 22, 3) := by decide +kernel
theorem dX4_shift_54 : decode cX4_shift 54 = .ok (.return_, 1) := by decide +kernel
theorem dX6_follow_0 : decode cX6_follow 0 = .ok (.iload_n 1, 1) := by decide +kernel
theorem dX6_follow_1 : decode cX6_follow 1 = .ok (.iconst (-1), 1) := by decide +kernel
theorem dX6_follow_2 : decode cX6_follow 2 = .ok (.if_icmp .ne 5, 3) := by decide +kernel
theorem dX6_follow_5 : decode cX6_follow 5 = .ok (.iconst 0, 1) := by decide +kernel
theorem dX6_follow_6 : decode cX6_follow 6 = .ok (.ireturn, 1) := by decide +kernel
theorem dX6_follow_7 : decode cX6_follow 7 = .ok (.iload_n 1, 1) := by decide +kernel
theorem dX6_follow_8 : decode cX6_follow 8 = .ok (.ifCond .lt 27, 3) := by decide +kernel
theorem dX6_follow_11 : decode cX6_follow 11 = .ok (.iload_n 1, 1) := by decide +kernel
theorem dX6_follow_12 : decode cX6_follow 12 = .ok (.sipush 1024, 3) := by decide +kernel
theorem dX6_follow_15 : decode cX6_follow 15 = .ok (.if_icmp .ge 20, 3) := by decide +kernel
theorem dX6_follow_18 : decode cX6_follow 18 = .ok (.aload_n 0, 1) := by decide +kernel
theorem dX6_follow_19 : decode cX6_follow 19 = .ok (.getfield 18, 3) := by decide +kernel
theorem dX6_follow_22 : decode cX6_follow 22 = .ok (.iload_n 1, 1) := by decide +kernel
theorem dX6_follow_23 : decode cX6_follow 23 = .ok (.invokevirtual 57, 3) := by decide +kernel
theorem dX6_follow_26 : decode cX6_follow 26 = .ok (.ifCond .eq 7, 3) := by decide +kernel
theorem dX6_follow_29 : decode cX6_follow 29 = .ok (.iconst 0, 1) := by decide +kernel
theorem dX6_follow_30 : decode cX6_follow 30 = .ok (.goto 4, 3) := by decide +kernel
theorem dX6_follow_33 : decode cX6_follow 33 = .ok (.iconst 4, 1) := by decide +kernel
theorem dX6_follow_34 : decode cX6_follow 34 = .ok (.ireturn, 1) := by decide +kernel
theorem dX6_follow_35 : decode cX6_follow 35 = .ok (.iload_n 2, 1) := by decide +kernel
theorem dX6_follow_36 : decode cX6_follow 36 = .ok (.ifCond .le 5, 3) := by decide +kernel
theorem dX6_follow_39 : decode cX6_follow 39 = .ok (.iconst 1, 1) := by decide +kernel
theorem dX6_follow_40 : decode cX6_follow 40 = .ok (.ireturn, 1) := by decide +kernel
theorem dX6_follow_41 : decode cX6_follow 41 = .ok (.iload_n 1, 1) := by decide +kernel
theorem dX6_follow_42 : decode cX6_follow 42 = .ok (.bipush (-2), 2) := by decide +kernel
theorem dX6_follow_44 : decode cX6_follow 44 = .ok (.if_icmp .ne 5, 3) := by decide +kernel
theorem dX6_follow_47 : decode cX6_follow 47 = .ok (.iconst 0, 1) := by decide +kernel
theorem dX6_follow_48 : decode cX6_follow 48 = .ok (.ireturn, 1) := by decide +kernel
theorem dX6_follow_49 : decode cX6_follow 49 = .ok (.aload_n 0, 1) := by decide +kernel
theorem dX6_follow_50 : decode cX6_follow 50 = .ok (.getfield 15, 3) := by decide +kernel
theorem dX6_follow_53 : decode cX6_follow 53 = .ok (.iload_n 1, 1) := by decide +kernel
theorem dX6_follow_54 : decode cX6_follow 54 = .ok (.sipush 1024, 3) := by decide +kernel
theorem dX6_follow_57 : decode cX6_follow 57 = .ok (.isub, 1) := by decide +kernel
theorem dX6_follow_58 : decode cX6_follow 58 = .ok (.invokevirtual 46, 3) := by decide +kernel
theorem dX6_follow_61 : decode cX6_follow 61 = .ok (.istore_n 3, 1) := by decide +kernel
theorem dX6_follow_62 : decode cX6_follow 62 = .ok (.iload_n 3, 1) := by decide +kernel
theorem dX6_follow_63 : decode cX6_follow 63 = .ok (.ifCond .ge 5, 3) := by decide +kernel
theorem dX6_follow_66 : decode cX6_follow 66 = .ok (.iconst 3, 1) := by decide +kernel
theorem dX6_follow_67 : decode cX6_follow 67 = .ok (.ireturn, 1) := by decide +kernel
theorem dX6_follow_68 : decode cX6_follow 68 = .ok (.iconst 0, 1) := by decide +kernel
theorem dX6_follow_69 : decode cX6_follow 69 = .ok (.aload_n 0, 1) := by decide +kernel
theorem dX6_follow_70 : decode cX6_follow 70 = .ok (.iload_n 3, 1) := by decide +kernel
theorem dX6_follow_71 : decode cX6_follow 71 = .ok (.iload_n 2, 1) := by decide +kernel
theorem dX6_follow_72 : decode cX6_follow 72 = .ok (.iconst 1, 1) := by decide +kernel
theorem dX6_follow_73 : decode cX6_follow 73 = .ok (.iadd, 1) := by decide +kernel
theorem dX6_follow_74 : decode cX6_follow 74 = .ok (.invokevirtual 33, 3) := by decide +kernel
theorem dX6_follow_77 : decode cX6_follow 77 = .ok (.ineg, 1) := by decide +kernel
theorem dX6_follow_78 : decode cX6_follow 78 = .ok (.invokestatic 61, 3) := by decide +kernel
theorem dX6_follow_81 : decode cX6_follow 81 = .ok (.ireturn, 1) := by decide +kernel
theorem dX5_become_0 : decode cX5_become 0 = .ok (.aload_n 0, 1) := by decide +kernel
theorem dX5_become_1 : decode cX5_become 1 = .ok (.aload_n 1, 1) := by decide +kernel
theorem dX5_become_2 : decode cX5_become 2 = .ok (.getfield 21, 3) := by decide +kernel
theorem dX5_become_5 : decode cX5_become 5 = .ok (.aload_n 0, 1) := by decide +kernel
theorem dX5_become_6 : decode cX5_become 6 = .ok (.getfield 15, 3) := by decide +kernel
theorem dX5_become_9 : decode cX5_become 9 = .ok (.arraylength, 1) := by decide +kernel
theorem dX5_become_10 : decode cX5_become 10 = .ok (.invokestatic 29, 3) := by decide +kernel
theorem dX5_become_13 : decode cX5_become 13 = .ok (.putfield 21, 3) := by decide +kernel
theorem dX5_become_16 : decode cX5_become 16 = .ok (.aload_n 1, 1) := by decide +kernel
theorem dX5_become_17 : decode cX5_become 17 = .ok (.getfield 15, 3) := by decide +kernel
theorem dX5_become_20 : decode cX5_become 20 = .ok (.iconst 0, 1) := by decide +kernel
theorem dX5_become_21 : decode cX5_become 21 = .ok (.aload_n 0, 1) := by decide +kernel
theorem dX5_become_22 : decode cX5_become 22 = .ok (.getfield 15, 3) := by decide +kernel
theorem dX5_become_25 : decode cX5_become 25 = .ok (.iconst 0, 1) := by decide +kernel
theorem dX5_become_26 : decode cX5_become 26 = .ok (.aload_n 0, 1) := by decide +kernel
theorem dX5_become_27 : decode cX5_become 27 = .ok (.getfield 21, 3) := by decide +kernel
theorem dX5_become_30 : decode cX5_become 30 = .ok (.invokestatic 32, 3) := by decide +kernel
theorem dX5_become_33 : decode cX5_become 33 = .ok (.return_, 1) := by decide +kernel
theorem dX7_behind_0 : decode cX7_behind 0 = .ok (.aload_n 0, 1) := by decide +kernel
theorem dX7_behind_1 : decode cX7_behind 1 = .ok (.getfield 90, 3) := by decide +kernel
theorem dX7_behind_4 : decode cX7_behind 4 = .ok (.ireturn, 1) := by decide +kernel
theorem dX7_numbers_0 : decode cX7_numbers 0 = .ok (.iload_n 1, 1) := by decide +kernel
theorem dX7_numbers_1 : decode cX7_numbers 1 = .ok (.ifCond .eq 11, 3) := by decide +kernel
theorem dX7_numbers_4 : decode cX7_numbers 4 = .ok (.iload_n 1, 1) := by decide +kernel
theorem dX7_numbers_5 : decode cX7_numbers 5 = .ok (.iconst 1, 1) := by decide +kernel
theorem dX7_numbers_6 : decode cX7_numbers 6 = .ok (.if_icmp .eq 6, 3) := by decide +kernel
theorem dX7_numbers_9 : decode cX7_numbers 9 = .ok (.bipush (-2), 2) := by decide +kernel
theorem dX7_numbers_11 : decode cX7_numbers 11 = .ok (.ireturn, 1) := by decide +kernel
theorem dX7_numbers_12 : decode cX7_numbers 12 = .ok (.aload_n 0, 1) := by decide +kernel
theorem dX7_numbers_13 : decode cX7_numbers 13 = .ok (.iload_n 1, 1) := by decide +kernel
theorem dX7_numbers_14 : decode cX7_numbers 14 = .ok (.invokevirtual 132, 3) := by decide +kernel
theorem dX7_numbers_17 : decode cX7_numbers 17 = .ok (.aload_n 0, 1) := by decide +kernel
theorem dX7_numbers_18 : decode cX7_numbers 18 = .ok (.getfield 44, 3) := by decide +kernel
theorem dX7_numbers_21 : decode cX7_numbers 21 = .ok (.invokevirtual 107, 3) := by decide +kernel
theorem dX7_numbers_24 : decode cX7_numbers 24 = .ok (.ireturn, 1) := by decide +kernel
theorem dX7_spellRow_0 : decode cX7_spellRow 0 = .ok (.aload_n 0, 1) := by decide +kernel
theorem dX7_spellRow_1 : decode cX7_spellRow 1 = .ok (.getfield 44, 3) := by decide +kernel
theorem dX7_spellRow_4 : decode cX7_spellRow 4 = .ok (.iconst 0, 1) := by decide +kernel
theorem dX7_spellRow_5 : decode cX7_spellRow 5 = .ok (.invokevirtual 111, 3) := by decide +kernel
theorem dX7_spellRow_8 : decode cX7_spellRow 8 = .ok (.iload_n 1, 1) := by decide +kernel
theorem dX7_spellRow_9 : decode cX7_spellRow 9 = .ok (.iconst 1, 1) := by decide +kernel
theorem dX7_spellRow_10 : decode cX7_spellRow 10 = .ok (.if_icmp .ne 41, 3) := by decide +kernel
theorem dX7_spellRow_13 : decode cX7_spellRow 13 = .ok (.aload_n 0, 1) := by decide +kernel
theorem dX7_spellRow_14 : decode cX7_spellRow 14 = .ok (.getfield 68, 3) := by decide +kernel
theorem dX7_spellRow_17 : decode cX7_spellRow 17 = .ok (.aload_n 0, 1) := by decide +kernel
theorem dX7_spellRow_18 : decode cX7_spellRow 18 = .ok (.getfield 31, 3) := by decide +kernel
theorem dX7_spellRow_21 : decode cX7_spellRow 21 = .ok (.invokevirtual 167, 3) := by decide +kernel
theorem dX7_spellRow_24 : decode cX7_spellRow 24 = .ok (.aload_n 0, 1) := by decide +kernel
theorem dX7_spellRow_25 : decode cX7_spellRow 25 = .ok (.getfield 68, 3) := by decide +kernel
theorem dX7_spellRow_28 : decode cX7_spellRow 28 = .ok (.aload_n 0, 1) := by decide +kernel
theorem dX7_spellRow_29 : decode cX7_spellRow 29 = .ok (.getfield 31, 3) := by decide +kernel
theorem dX7_spellRow_32 : decode cX7_spellRow 32 = .ok (.invokevirtual 170, 3) := by decide +kernel
theorem dX7_spellRow_35 : decode cX7_spellRow 35 = .ok (.aload_n 0, 1) := by decide +kernel
theorem dX7_spellRow_36 : decode cX7_spellRow 36 = .ok (.getfield 68, 3) := by decide +kernel
theorem dX7_spellRow_39 : decode cX7_spellRow 39 = .ok (.aload_n 0, 1) := by decide +kernel
theorem dX7_spellRow_40 : decode cX7_spellRow 40 = .ok (.getfield 31, 3) := by decide +kernel
theorem dX7_spellRow_43 : decode cX7_spellRow 43 = .ok (.aload_n 0, 1) := by decide +kernel
theorem dX7_spellRow_44 : decode cX7_spellRow 44 = .ok (.getfield 44, 3) := by decide +kernel
theorem dX7_spellRow_47 : decode cX7_spellRow 47 = .ok (.invokevirtual 173, 3) := by decide +kernel
theorem dX7_spellRow_50 : decode cX7_spellRow 50 = .ok (.return_, 1) := by decide +kernel
theorem dX7_spellRow_51 : decode cX7_spellRow 51 = .ok (.iconst 0, 1) := by decide +kernel
theorem dX7_spellRow_52 : decode cX7_spellRow 52 = .ok (.istore_n 2, 1) := by decide +kernel
theorem dX7_spellRow_53 : decode cX7_spellRow 53 = .ok (.iload_n 2, 1) := by decide +kernel
theorem dX7_spellRow_54 : decode cX7_spellRow 54 = .ok (.aload_n 0, 1) := by decide +kernel
theorem dX7_spellRow_55 : decode cX7_spellRow 55 = .ok (.getfield 31, 3) := by decide +kernel
theorem dX7_spellRow_58 : decode cX7_spellRow 58 = .ok (.invokevirtual 107, 3) := by decide +kernel
theorem dX7_spellRow_61 : decode cX7_spellRow 61 = .ok (.if_icmp .ge 28, 3) := by decide +kernel
theorem dX7_spellRow_64 : decode cX7_spellRow 64 = .ok (.aload_n 0, 1) := by decide +kernel
theorem dX7_spellRow_65 : decode cX7_spellRow 65 = .ok (.getfield 50, 3) := by decide +kernel
theorem dX7_spellRow_68 : decode cX7_spellRow 68 = .ok (.aload_n 0, 1) := by decide +kernel
theorem dX7_spellRow_69 : decode cX7_spellRow 69 = .ok (.getfield 31, 3) := by decide +kernel
theorem dX7_spellRow_72 : decode cX7_spellRow 72 = .ok (.iload_n 2, 1) := by decide +kernel
theorem dX7_spellRow_73 : decode cX7_spellRow 73 = .ok (.invokevirtual 100, 3) := by decide +kernel
theorem dX7_spellRow_76 : decode cX7_spellRow 76 = .ok (.aload_n 0, 1) := by decide +kernel
theorem dX7_spellRow_77 : decode cX7_spellRow 77 = .ok (.getfield 44, 3) := by decide +kernel
theorem dX7_spellRow_80 : decode cX7_spellRow 80 = .ok (.invokevirtual 177, 3) := by decide +kernel
theorem dX7_spellRow_83 : decode cX7_spellRow 83 = .ok (.iinc 2 1, 3) := by decide +kernel
theorem dX7_spellRow_86 : decode cX7_spellRow 86 = .ok (.goto (-33), 3) := by decide +kernel
theorem dX7_spellRow_89 : decode cX7_spellRow 89 = .ok (.return_, 1) := by decide +kernel
theorem dX0_findEntries_0 : decode cX0_findEntries 0 = .ok (.aload_n 0, 1) := by decide +kernel
theorem dX0_findEntries_1 : decode cX0_findEntries 1 = .ok (.getfield 34, 3) := by decide +kernel
theorem dX0_findEntries_4 : decode cX0_findEntries 4 = .ok (.iconst 0, 1) := by decide +kernel
theorem dX0_findEntries_5 : decode cX0_findEntries 5 = .ok (.invokestatic 51, 3) := by decide +kernel
theorem dX0_findEntries_8 : decode cX0_findEntries 8 = .ok (.iconst 0, 1) := by decide +kernel
theorem dX0_findEntries_9 : decode cX0_findEntries 9 = .ok (.istore_n 2, 1) := by decide +kernel
theorem dX0_findEntries_10 : decode cX0_findEntries 10 = .ok (.iload_n 2, 1) := by decide +kernel
theorem dX0_findEntries_11 : decode cX0_findEntries 11 = .ok (.aload_n 0, 1) := by decide +kernel
theorem dX0_findEntries_12 : decode cX0_findEntries 12 = .ok (.getfield 26, 3) := by decide +kernel
theorem dX0_findEntries_15 : decode cX0_findEntries 15 = .ok (.if_icmp .ge 70, 3) := by decide +kernel
theorem dX0_findEntries_18 : decode cX0_findEntries 18 = .ok (.aload_n 0, 1) := by decide +kernel
theorem dX0_findEntries_19 : decode cX0_findEntries 19 = .ok (.getfield 23, 3) := by decide +kernel
theorem dX0_findEntries_22 : decode cX0_findEntries 22 = .ok (.iconst 0, 1) := by decide +kernel
theorem dX0_findEntries_23 : decode cX0_findEntries 23 = .ok (.invokevirtual 57, 3) := by decide +kernel
theorem dX0_findEntries_26 : decode cX0_findEntries 26 = .ok (.aload_n 0, 1) := by decide +kernel
theorem dX0_findEntries_27 : decode cX0_findEntries 27 = .ok (.getfield 15, 3) := by decide +kernel
theorem dX0_findEntries_30 : decode cX0_findEntries 30 = .ok (.iload_n 2, 1) := by decide +kernel
theorem dX0_findEntries_31 : decode cX0_findEntries 31 = .ok (.invokevirtual 60, 3) := by decide +kernel
theorem dX0_findEntries_34 : decode cX0_findEntries 34 = .ok (.istore_n 3, 1) := by decide +kernel
theorem dX0_findEntries_35 : decode cX0_findEntries 35 = .ok (.iload_n 3, 1) := by decide +kernel
theorem dX0_findEntries_36 : decode cX0_findEntries 36 = .ok (.ifCond .lt 43, 3) := by decide +kernel
theorem dX0_findEntries_39 : decode cX0_findEntries 39 = .ok (.aload_n 0, 1) := by decide +kernel
theorem dX0_findEntries_40 : decode cX0_findEntries 40 = .ok (.getfield 19, 3) := by decide +kernel
theorem dX0_findEntries_43 : decode cX0_findEntries 43 = .ok (.iload_n 3, 1) := by decide +kernel
theorem dX0_findEntries_44 : decode cX0_findEntries 44 = .ok (.invokevirtual 64, 3) := by decide +kernel
theorem dX0_findEntries_47 : decode cX0_findEntries 47 = .ok (.ifCond .lt 32, 3) := by decide +kernel
theorem dX0_findEntries_50 : decode cX0_findEntries 50 = .ok (.aload_n 0, 1) := by decide +kernel
theorem dX0_findEntries_51 : decode cX0_findEntries 51 = .ok (.getfield 23, 3) := by decide +kernel
theorem dX0_findEntries_54 : decode cX0_findEntries 54 = .ok (.invokevirtual 69, 3) := by decide +kernel
theorem dX0_findEntries_57 : decode cX0_findEntries 57 = .ok (.ifCond .le 22, 3) := by decide +kernel
theorem dX0_findEntries_60 : decode cX0_findEntries 60 = .ok (.aload_n 0, 1) := by decide +kernel
theorem dX0_findEntries_61 : decode cX0_findEntries 61 = .ok (.getfield 30, 3) := by decide +kernel
theorem dX0_findEntries_64 : decode cX0_findEntries 64 = .ok (.iload_n 2, 1) := by decide +kernel
theorem dX0_findEntries_65 : decode cX0_findEntries 65 = .ok (.aload_n 0, 1) := by decide +kernel
theorem dX0_findEntries_66 : decode cX0_findEntries 66 = .ok (.getfield 23, 3) := by decide +kernel
theorem dX0_findEntries_69 : decode cX0_findEntries 69 = .ok (.invokevirtual 69, 3) := by decide +kernel
theorem dX0_findEntries_72 : decode cX0_findEntries 72 = .ok (.iastore, 1) := by decide +kernel
theorem dX0_findEntries_73 : decode cX0_findEntries 73 = .ok (.aload_n 0, 1) := by decide +kernel
theorem dX0_findEntries_74 : decode cX0_findEntries 74 = .ok (.iload_n 2, 1) := by decide +kernel
theorem dX0_findEntries_75 : decode cX0_findEntries 75 = .ok (.aload_n 1, 1) := by decide +kernel
theorem dX0_findEntries_76 : decode cX0_findEntries 76 = .ok (.invokevirtual 73, 3) := by decide +kernel
theorem dX0_findEntries_79 : decode cX0_findEntries 79 = .ok (.iinc 2 1, 3) := by decide +kernel
theorem dX0_findEntries_82 : decode cX0_findEntries 82 = .ok (.goto (-72), 3) := by decide +kernel
theorem dX0_findEntries_85 : decode cX0_findEntries 85 = .ok (.return_, 1) := by decide +kernel
theorem dXA_fill_0 : decode cXA_fill 0 = .ok (.iconst 0, 1) := by decide +kernel
theorem dXA_fill_1 : decode cXA_fill 1 = .ok (.istore_n 2, 1) := by decide +kernel
theorem dXA_fill_2 : decode cXA_fill 2 = .ok (.aload_n 0, 1) := by decide +kernel
theorem dXA_fill_3 : decode cXA_fill 3 = .ok (.arraylength, 1) := by decide +kernel
theorem dXA_fill_4 : decode cXA_fill 4 = .ok (.istore_n 3, 1) := by decide +kernel
theorem dXA_fill_5 : decode cXA_fill 5 = .ok (.iload_n 2, 1) := by decide +kernel
theorem dXA_fill_6 : decode cXA_fill 6 = .ok (.iload_n 3, 1) := by decide +kernel
theorem dXA_fill_7 : decode cXA_fill 7 = .ok (.if_icmp .ge 13, 3) := by decide +kernel
theorem dXA_fill_10 : decode cXA_fill 10 = .ok (.aload_n 0, 1) := by decide +kernel
theorem dXA_fill_11 : decode cXA_fill 11 = .ok (.iload_n 2, 1) := by decide +kernel
theorem dXA_fill_12 : decode cXA_fill 12 = .ok (.iload_n 1, 1) := by decide +kernel
theorem dXA_fill_13 : decode cXA_fill 13 = .ok (.iastore, 1) := by decide +kernel
theorem dXA_fill_14 : decode cXA_fill 14 = .ok (.iinc 2 1, 3) := by decide +kernel
theorem dXA_fill_17 : decode cXA_fill 17 = .ok (.goto (-12), 3) := by decide +kernel
theorem dXA_fill_20 : decode cXA_fill 20 = .ok (.return_, 1) := by decide +kernel
theorem dX6_tellAbbreviation_0 : decode cX6_tellAbbreviation 0 = .ok (.aload_n 0, 1) := by decide +kernel
theorem dX6_tellAbbreviation_1 : decode cX6_tellAbbreviation 1 = .ok (.iload_n 1, 1) := by decide +kernel
theorem dX6_tellAbbreviation_2 : decode cX6_tellAbbreviation 2 = .ok (.iconst 1, 1) := by decide +kernel
theorem dX6_tellAbbreviation_3 : decode cX6_tellAbbreviation 3 = .ok (.invokevirtual 33, 3) := by decide +kernel
theorem dX6_tellAbbreviation_6 : decode cX6_tellAbbreviation 6 = .ok (.ireturn, 1) := by decide +kernel
theorem dX0_mark_0 : decode cX0_mark 0 = .ok (.aload_n 2, 1) := by decide +kernel
theorem dX0_mark_1 : decode cX0_mark 1 = .ok (.invokevirtual 69, 3) := by decide +kernel
theorem dX0_mark_4 : decode cX0_mark 4 = .ok (.sipush 1000, 3) := by decide +kernel
theorem dX0_mark_7 : decode cX0_mark 7 = .ok (.invokestatic 77, 3) := by decide +kernel
theorem dX0_mark_10 : decode cX0_mark 10 = .ok (.istore_n 3, 1) := by decide +kernel
theorem dX0_mark_11 : decode cX0_mark 11 = .ok (.iconst 0, 1) := by decide +kernel
theorem dX0_mark_12 : decode cX0_mark 12 = .ok (.istore 4, 2) := by decide +kernel
theorem dX0_mark_14 : decode cX0_mark 14 = .ok (.iload 4, 2) := by decide +kernel
theorem dX0_mark_16 : decode cX0_mark 16 = .ok (.iload_n 3, 1) := by decide +kernel
theorem dX0_mark_17 : decode cX0_mark 17 = .ok (.if_icmp .ge 45, 3) := by decide +kernel
theorem dX0_mark_20 : decode cX0_mark 20 = .ok (.aload_n 2, 1) := by decide +kernel
theorem dX0_mark_21 : decode cX0_mark 21 = .ok (.iload 4, 2) := by decide +kernel
theorem dX0_mark_23 : decode cX0_mark 23 = .ok (.aload_n 0, 1) := by decide +kernel
theorem dX0_mark_24 : decode cX0_mark 24 = .ok (.getfield 23, 3) := by decide +kernel
theorem dX0_mark_27 : decode cX0_mark 27 = .ok (.invokevirtual 96, 3) := by decide +kernel
theorem dX0_mark_30 : decode cX0_mark 30 = .ok (.ifCond .eq 26, 3) := by decide +kernel
theorem dX0_mark_33 : decode cX0_mark 33 = .ok (.aload_n 0, 1) := by decide +kernel
theorem dX0_mark_34 : decode cX0_mark 34 = .ok (.getfield 34, 3) := by decide +kernel
theorem dX0_mark_37 : decode cX0_mark 37 = .ok (.iconst 3, 1) := by decide +kernel
theorem dX0_mark_38 : decode cX0_mark 38 = .ok (.iload 4, 2) := by decide +kernel
theorem dX0_mark_40 : decode cX0_mark 40 = .ok (.imul, 1) := by decide +kernel
theorem dX0_mark_41 : decode cX0_mark 41 = .ok (.iload_n 1, 1) := by decide +kernel
theorem dX0_mark_42 : decode cX0_mark 42 = .ok (.bipush 32, 2) := by decide +kernel
theorem dX0_mark_44 : decode cX0_mark 44 = .ok (.idiv, 1) := by decide +kernel
theorem dX0_mark_45 : decode cX0_mark 45 = .ok (.iadd, 1) := by decide +kernel
theorem dX0_mark_46 : decode cX0_mark 46 = .ok (.dup2, 1) := by decide +kernel
theorem dX0_mark_47 : decode cX0_mark 47 = .ok (.iaload, 1) := by decide +kernel
theorem dX0_mark_48 : decode cX0_mark 48 = .ok (.iconst 1, 1) := by decide +kernel
theorem dX0_mark_49 : decode cX0_mark 49 = .ok (.iload_n 1, 1) := by decide +kernel
theorem dX0_mark_50 : decode cX0_mark 50 = .ok (.bipush 32, 2) := by decide +kernel
theorem dX0_mark_52 : decode cX0_mark 52 = .ok (.irem, 1) := by decide +kernel
theorem dX0_mark_53 : decode cX0_mark 53 = .ok (.ishl, 1) := by decide +kernel
theorem dX0_mark_54 : decode cX0_mark 54 = .ok (.ior, 1) := by decide +kernel
theorem dX0_mark_55 : decode cX0_mark 55 = .ok (.iastore, 1) := by decide +kernel
theorem dX0_mark_56 : decode cX0_mark 56 = .ok (.iinc 4 1, 3) := by decide +kernel
theorem dX0_mark_59 : decode cX0_mark 59 = .ok (.goto (-45), 3) := by decide +kernel
theorem dX0_mark_62 : decode cX0_mark 62 = .ok (.return_, 1) := by decide +kernel
theorem dX5_showsAt_0 : decode cX5_showsAt 0 = .ok (.iload_n 1, 1) := by decide +kernel
theorem dX5_showsAt_1 : decode cX5_showsAt 1 = .ok (.ifCond .lt 16, 3) := by decide +kernel
theorem dX5_showsAt_4 : decode cX5_showsAt 4 = .ok (.iload_n 1, 1) := by decide +kernel
theorem dX5_showsAt_5 : decode cX5_showsAt 5 = .ok (.aload_n 0, 1) := by decide +kernel
theorem dX5_showsAt_6 : decode cX5_showsAt 6 = .ok (.getfield 21, 3) := by decide +kernel
theorem dX5_showsAt_9 : decode cX5_showsAt 9 = .ok (.aload_n 2, 1) := by decide +kernel
theorem dX5_showsAt_10 : decode cX5_showsAt 10 = .ok (.getfield 21, 3) := by decide +kernel
theorem dX5_showsAt_13 : decode cX5_showsAt 13 = .ok (.isub, 1) := by decide +kernel
theorem dX5_showsAt_14 : decode cX5_showsAt 14 = .ok (.if_icmp .le 5, 3) := by decide +kernel
theorem dX5_showsAt_17 : decode cX5_showsAt 17 = .ok (.iconst 0, 1) := by decide +kernel
theorem dX5_showsAt_18 : decode cX5_showsAt 18 = .ok (.ireturn, 1) := by decide +kernel
theorem dX5_showsAt_19 : decode cX5_showsAt 19 = .ok (.iconst 0, 1) := by decide +kernel
theorem dX5_showsAt_20 : decode cX5_showsAt 20 = .ok (.istore_n 3, 1) := by decide +kernel
theorem dX5_showsAt_21 : decode cX5_showsAt 21 = .ok (.iload_n 3, 1) := by decide +kernel
theorem dX5_showsAt_22 : decode cX5_showsAt 22 = .ok (.aload_n 2, 1) := by decide +kernel
theorem dX5_showsAt_23 : decode cX5_showsAt 23 = .ok (.getfield 21, 3) := by decide +kernel
theorem dX5_showsAt_26 : decode cX5_showsAt 26 = .ok (.if_icmp .ge 28, 3) := by decide +kernel
theorem dX5_showsAt_29 : decode cX5_showsAt 29 = .ok (.aload_n 0, 1) := by decide +kernel
theorem dX5_showsAt_30 : decode cX5_showsAt 30 = .ok (.getfield 15, 3) := by decide +kernel
theorem dX5_showsAt_33 : decode cX5_showsAt 33 = .ok (.iload_n 1, 1) := by decide +kernel
theorem dX5_showsAt_34 : decode cX5_showsAt 34 = .ok (.iload_n 3, 1) := by decide +kernel
theorem dX5_showsAt_35 : decode cX5_showsAt 35 = .ok (.iadd, 1) := by decide +kernel
theorem dX5_showsAt_36 : decode cX5_showsAt 36 = .ok (.iaload, 1) := by decide +kernel
theorem dX5_showsAt_37 : decode cX5_showsAt 37 = .ok (.aload_n 2, 1) := by decide +kernel
theorem dX5_showsAt_38 : decode cX5_showsAt 38 = .ok (.getfield 15, 3) := by decide +kernel
theorem dX5_showsAt_41 : decode cX5_showsAt 41 = .ok (.iload_n 3, 1) := by decide +kernel
theorem dX5_showsAt_42 : decode cX5_showsAt 42 = .ok (.iaload, 1) := by decide +kernel
theorem dX5_showsAt_43 : decode cX5_showsAt 43 = .ok (.if_icmp .eq 5, 3) := by decide +kernel
theorem dX5_showsAt_46 : decode cX5_showsAt 46 = .ok (.iconst 0, 1) := by decide +kernel
theorem dX5_showsAt_47 : decode cX5_showsAt 47 = .ok (.ireturn, 1) := by decide +kernel
theorem dX5_showsAt_48 : decode cX5_showsAt 48 = .ok (.iinc 3 1, 3) := by decide +kernel
theorem dX5_showsAt_51 : decode cX5_showsAt 51 = .ok (.goto (-30), 3) := by decide +kernel
theorem dX5_showsAt_54 : decode cX5_showsAt 54 = .ok (.iconst 1, 1) := by decide +kernel
theorem dX5_showsAt_55 : decode cX5_showsAt 55 = .ok (.ireturn, 1) := by decide +kernel
theorem dX0_choose_0 : decode cX0_choose 0 = .ok (.aload_n 1, 1) := by decide +kernel
theorem dX0_choose_1 : decode cX0_choose 1 = .ok (.invokevirtual 69, 3) := by decide +kernel
theorem dX0_choose_4 : decode cX0_choose 4 = .ok (.sipush 1000, 3) := by decide +kernel
theorem dX0_choose_7 : decode cX0_choose 7 = .ok (.invokestatic 77, 3) := by decide +kernel
theorem dX0_choose_10 : decode cX0_choose 10 = .ok (.istore_n 2, 1) := by decide +kernel
theorem dX0_choose_11 : decode cX0_choose 11 = .ok (.aload_n 0, 1) := by decide +kernel
theorem dX0_choose_12 : decode cX0_choose 12 = .ok (.getfield 37, 3) := by decide +kernel
theorem dX0_choose_15 : decode cX0_choose 15 = .ok (.iload_n 2, 1) := by decide +kernel
theorem dX0_choose_16 : decode cX0_choose 16 = .ok (.iconst 0, 1) := by decide +kernel
theorem dX0_choose_17 : decode cX0_choose 17 = .ok (.iastore, 1) := by decide +kernel
theorem dX0_choose_18 : decode cX0_choose 18 = .ok (.iload_n 2, 1) := by decide +kernel
theorem dX0_choose_19 : decode cX0_choose 19 = .ok (.iconst 1, 1) := by decide +kernel
theorem dX0_choose_20 : decode cX0_choose 20 = .ok (.isub, 1) := by decide +kernel
theorem dX0_choose_21 : decode cX0_choose 21 = .ok (.istore_n 3, 1) := by decide +kernel
theorem dX0_choose_22 : decode cX0_choose 22 = .ok (.iload_n 3, 1) := by decide +kernel
theorem dX0_choose_23 : decode cX0_choose 23 = .ok (.ifCond .lt 83, 3) := by decide +kernel
theorem dX0_choose_26 : decode cX0_choose 26 = .ok (.aload_n 0, 1) := by decide +kernel
theorem dX0_choose_27 : decode cX0_choose 27 = .ok (.getfield 48, 3) := by decide +kernel
theorem dX0_choose_30 : decode cX0_choose 30 = .ok (.iconst 0, 1) := by decide +kernel
theorem dX0_choose_31 : decode cX0_choose 31 = .ok (.invokevirtual 57, 3) := by decide +kernel
theorem dX0_choose_34 : decode cX0_choose 34 = .ok (.aload_n 0, 1) := by decide +kernel
theorem dX0_choose_35 : decode cX0_choose 35 = .ok (.getfield 9, 3) := by decide +kernel
theorem dX0_choose_38 : decode cX0_choose 38 = .ok (.aload_n 1, 1) := by decide +kernel
theorem dX0_choose_39 : decode cX0_choose 39 = .ok (.iload_n 3, 1) := by decide +kernel
theorem dX0_choose_40 : decode cX0_choose 40 = .ok (.invokevirtual 60, 3) := by decide +kernel
theorem dX0_choose_43 : decode cX0_choose 43 = .ok (.aload_n 0, 1) := by decide +kernel
theorem dX0_choose_44 : decode cX0_choose 44 = .ok (.getfield 48, 3) := by decide +kernel
theorem dX0_choose_47 : decode cX0_choose 47 = .ok (.invokevirtual 83, 3) := by decide +kernel
theorem dX0_choose_50 : decode cX0_choose 50 = .ok (.aload_n 0, 1) := by decide +kernel
theorem dX0_choose_51 : decode cX0_choose 51 = .ok (.getfield 37, 3) := by decide +kernel
theorem dX0_choose_54 : decode cX0_choose 54 = .ok (.iload_n 3, 1) := by decide +kernel
theorem dX0_choose_55 : decode cX0_choose 55 = .ok (.aload_n 0, 1) := by decide +kernel
theorem dX0_choose_56 : decode cX0_choose 56 = .ok (.getfield 48, 3) := by decide +kernel
theorem dX0_choose_59 : decode cX0_choose 59 = .ok (.invokevirtual 69, 3) := by decide +kernel
theorem dX0_choose_62 : decode cX0_choose 62 = .ok (.aload_n 0, 1) := by decide +kernel
theorem dX0_choose_63 : decode cX0_choose 63 = .ok (.getfield 37, 3) := by decide +kernel
theorem dX0_choose_66 : decode cX0_choose 66 = .ok (.iload_n 3, 1) := by decide +kernel
theorem dX0_choose_67 : decode cX0_choose 67 = .ok (.iconst 1, 1) := by decide +kernel
theorem dX0_choose_68 : decode cX0_choose 68 = .ok (.iadd, 1) := by decide +kernel
theorem dX0_choose_69 : decode cX0_choose 69 = .ok (.iaload, 1) := by decide +kernel
theorem dX0_choose_70 : decode cX0_choose 70 = .ok (.iadd, 1) := by decide +kernel
theorem dX0_choose_71 : decode cX0_choose 71 = .ok (.iastore, 1) := by decide +kernel
theorem dX0_choose_72 : decode cX0_choose 72 = .ok (.aload_n 0, 1) := by decide +kernel
theorem dX0_choose_73 : decode cX0_choose 73 = .ok (.getfield 40, 3) := by decide +kernel
theorem dX0_choose_76 : decode cX0_choose 76 = .ok (.iload_n 3, 1) := by decide +kernel
theorem dX0_choose_77 : decode cX0_choose 77 = .ok (.iconst (-1), 1) := by decide +kernel
theorem dX0_choose_78 : decode cX0_choose 78 = .ok (.iastore, 1) := by decide +kernel
theorem dX0_choose_79 : decode cX0_choose 79 = .ok (.aload_n 0, 1) := by decide +kernel
theorem dX0_choose_80 : decode cX0_choose 80 = .ok (.iload_n 3, 1) := by decide +kernel
theorem dX0_choose_81 : decode cX0_choose 81 = .ok (.iload_n 2, 1) := by decide +kernel
theorem dX0_choose_82 : decode cX0_choose 82 = .ok (.aload_n 1, 1) := by decide +kernel
theorem dX0_choose_83 : decode cX0_choose 83 = .ok (.iload_n 3, 1) := by decide +kernel
theorem dX0_choose_84 : decode cX0_choose 84 = .ok (.invokevirtual 60, 3) := by decide +kernel
theorem dX0_choose_87 : decode cX0_choose 87 = .ok (.bipush 32, 2) := by decide +kernel
theorem dX0_choose_89 : decode cX0_choose 89 = .ok (.if_icmp .ne 7, 3) := by decide +kernel
theorem dX0_choose_92 : decode cX0_choose 92 = .ok (.iconst 1, 1) := by decide +kernel
theorem dX0_choose_93 : decode cX0_choose 93 = .ok (.goto 4, 3) := by decide +kernel
theorem dX0_choose_96 : decode cX0_choose 96 = .ok (.iconst 0, 1) := by decide +kernel
theorem dX0_choose_97 : decode cX0_choose 97 = .ok (.invokevirtual 88, 3) := by decide +kernel
theorem dX0_choose_100 : decode cX0_choose 100 = .ok (.iinc 3 (-1), 3) := by decide +kernel
theorem dX0_choose_103 : decode cX0_choose 103 = .ok (.goto (-81), 3) := by decide +kernel
theorem dX0_choose_106 : decode cX0_choose 106 = .ok (.return_, 1) := by decide +kernel
theorem dX1_spell_0 : decode cX1_spell 0 = .ok (.iload_n 1, 1) := by decide +kernel
theorem dX1_spell_1 : decode cX1_spell 1 = .ok (.bipush 32, 2) := by decide +kernel
theorem dX1_spell_3 : decode cX1_spell 3 = .ok (.if_icmp .ne 10, 3) := by decide +kernel
theorem dX1_spell_6 : decode cX1_spell 6 = .ok (.aload_n 2, 1) := by decide +kernel
theorem dX1_spell_7 : decode cX1_spell 7 = .ok (.iconst 0, 1) := by decide +kernel
theorem dX1_spell_8 : decode cX1_spell 8 = .ok (.invokevirtual 38, 3) := by decide +kernel
theorem dX1_spell_11 : decode cX1_spell 11 = .ok (.pop, 1) := by decide +kernel
theorem dX1_spell_12 : decode cX1_spell 12 = .ok (.return_, 1) := by decide +kernel
theorem dX1_spell_13 : decode cX1_spell 13 = .ok (.iload_n 1, 1) := by decide +kernel
theorem dX1_spell_14 : decode cX1_spell 14 = .ok (.bipush 13, 2) := by decide +kernel
theorem dX1_spell_16 : decode cX1_spell 16 = .ok (.if_icmp .ne 18, 3) := by decide +kernel
theorem dX1_spell_19 : decode cX1_spell 19 = .ok (.aload_n 0, 1) := by decide +kernel
theorem dX1_spell_20 : decode cX1_spell 20 = .ok (.getfield 9, 3) := by decide +kernel
theorem dX1_spell_23 : decode cX1_spell 23 = .ok (.iconst 1, 1) := by decide +kernel
theorem dX1_spell_24 : decode cX1_spell 24 = .ok (.if_icmp .ne 10, 3) := by decide +kernel
theorem dX1_spell_27 : decode cX1_spell 27 = .ok (.aload_n 2, 1) := by decide +kernel
theorem dX1_spell_28 : decode cX1_spell 28 = .ok (.iconst 1, 1) := by decide +kernel
theorem dX1_spell_29 : decode cX1_spell 29 = .ok (.invokevirtual 38, 3) := by decide +kernel
theorem dX1_spell_32 : decode cX1_spell 32 = .ok (.pop, 1) := by decide +kernel
theorem dX1_spell_33 : decode cX1_spell 33 = .ok (.return_, 1) := by decide +kernel
theorem dX1_spell_34 : decode cX1_spell 34 = .ok (.aload_n 0, 1) := by decide +kernel
theorem dX1_spell_35 : decode cX1_spell 35 = .ok (.iload_n 1, 1) := by decide +kernel
theorem dX1_spell_36 : decode cX1_spell 36 = .ok (.invokevirtual 44, 3) := by decide +kernel
theorem dX1_spell_39 : decode cX1_spell 39 = .ok (.istore_n 3, 1) := by decide +kernel
theorem dX1_spell_40 : decode cX1_spell 40 = .ok (.iload_n 3, 1) := by decide +kernel
theorem dX1_spell_41 : decode cX1_spell 41 = .ok (.ifCond .ge 10, 3) := by decide +kernel
theorem dX1_spell_44 : decode cX1_spell 44 = .ok (.aload_n 0, 1) := by decide +kernel
theorem dX1_spell_45 : decode cX1_spell 45 = .ok (.iload_n 1, 1) := by decide +kernel
theorem dX1_spell_46 : decode cX1_spell 46 = .ok (.aload_n 2, 1) := by decide +kernel
theorem dX1_spell_47 : decode cX1_spell 47 = .ok (.invokevirtual 48, 3) := by decide +kernel
theorem dX1_spell_50 : decode cX1_spell 50 = .ok (.return_, 1) := by decide +kernel
theorem dX1_spell_51 : decode cX1_spell 51 = .ok (.iload_n 3, 1) := by decide +kernel
theorem dX1_spell_52 : decode cX1_spell 52 = .ok (.bipush 26, 2) := by decide +kernel
theorem dX1_spell_54 : decode cX1_spell 54 = .ok (.if_icmp .lt 16, 3) := by decide +kernel
theorem dX1_spell_57 : decode cX1_spell 57 = .ok (.aload_n 2, 1) := by decide +kernel
theorem dX1_spell_58 : decode cX1_spell 58 = .ok (.aload_n 0, 1) := by decide +kernel
theorem dX1_spell_59 : decode cX1_spell 59 = .ok (.iload_n 3, 1) := by decide +kernel
theorem dX1_spell_60 : decode cX1_spell 60 = .ok (.bipush 26, 2) := by decide +kernel
theorem dX1_spell_62 : decode cX1_spell 62 = .ok (.idiv, 1) := by decide +kernel
theorem dX1_spell_63 : decode cX1_spell 63 = .ok (.invokevirtual 52, 3) := by decide +kernel
theorem dX1_spell_66 : decode cX1_spell 66 = .ok (.invokevirtual 38, 3) := by decide +kernel
theorem dX1_spell_69 : decode cX1_spell 69 = .ok (.pop, 1) := by decide +kernel
theorem dX1_spell_70 : decode cX1_spell 70 = .ok (.aload_n 2, 1) := by decide +kernel
theorem dX1_spell_71 : decode cX1_spell 71 = .ok (.bipush 6, 2) := by decide +kernel
theorem dX1_spell_73 : decode cX1_spell 73 = .ok (.iload_n 3, 1) := by decide +kernel
theorem dX1_spell_74 : decode cX1_spell 74 = .ok (.bipush 26, 2) := by decide +kernel
theorem dX1_spell_76 : decode cX1_spell 76 = .ok (.irem, 1) := by decide +kernel
theorem dX1_spell_77 : decode cX1_spell 77 = .ok (.iadd, 1) := by decide +kernel
theorem dX1_spell_78 : decode cX1_spell 78 = .ok (.invokevirtual 38, 3) := by decide +kernel
theorem dX1_spell_81 : decode cX1_spell 81 = .ok (.pop, 1) := by decide +kernel
theorem dX1_spell_82 : decode cX1_spell 82 = .ok (.return_, 1) := by decide +kernel
theorem dX1_firstLetter_0 : decode cX1_firstLetter 0 = .ok (.iconst 0, 1) := by decide +kernel
theorem dX1_firstLetter_1 : decode cX1_firstLetter 1 = .ok (.istore_n 2, 1) := by decide +kernel
theorem dX1_firstLetter_2 : decode cX1_firstLetter 2 = .ok (.iload_n 2, 1) := by decide +kernel
theorem dX1_firstLetter_3 : decode cX1_firstLetter 3 = .ok (.aload_n 0, 1) := by decide +kernel
theorem dX1_firstLetter_4 : decode cX1_firstLetter 4 = .ok (.getfield 15, 3) := by decide +kernel
theorem dX1_firstLetter_7 : decode cX1_firstLetter 7 = .ok (.arraylength, 1) := by decide +kernel
theorem dX1_firstLetter_8 : decode cX1_firstLetter 8 = .ok (.if_icmp .ge 21, 3) := by decide +kernel
theorem dX1_firstLetter_11 : decode cX1_firstLetter 11 = .ok (.aload_n 0, 1) := by decide +kernel
theorem dX1_firstLetter_12 : decode cX1_firstLetter 12 = .ok (.getfield 15, 3) := by decide +kernel
theorem dX1_firstLetter_15 : decode cX1_firstLetter 15 = .ok (.iload_n 2, 1) := by decide +kernel
theorem dX1_firstLetter_16 : decode cX1_firstLetter 16 = .ok (.iaload, 1) := by decide +kernel
theorem dX1_firstLetter_17 : decode cX1_firstLetter 17 = .ok (.iload_n 1, 1) := by decide +kernel
theorem dX1_firstLetter_18 : decode cX1_firstLetter 18 = .ok (.if_icmp .ne 5, 3) := by decide +kernel
theorem dX1_firstLetter_21 : decode cX1_firstLetter 21 = .ok (.iload_n 2, 1) := by decide +kernel
theorem dX1_firstLetter_22 : decode cX1_firstLetter 22 = .ok (.ireturn, 1) := by decide +kernel
theorem dX1_firstLetter_23 : decode cX1_firstLetter 23 = .ok (.iinc 2 1, 3) := by decide +kernel
theorem dX1_firstLetter_26 : decode cX1_firstLetter 26 = .ok (.goto (-24), 3) := by decide +kernel
theorem dX1_firstLetter_29 : decode cX1_firstLetter 29 = .ok (.iconst (-1), 1) := by decide +kernel
theorem dX1_firstLetter_30 : decode cX1_firstLetter 30 = .ok (.ireturn, 1) := by decide +kernel
theorem dX1_spellCode_0 : decode cX1_spellCode 0 = .ok (.aload_n 2, 1) := by decide +kernel
theorem dX1_spellCode_1 : decode cX1_spellCode 1 = .ok (.aload_n 0, 1) := by decide +kernel
theorem dX1_spellCode_2 : decode cX1_spellCode 2 = .ok (.iconst 2, 1) := by decide +kernel
theorem dX1_spellCode_3 : decode cX1_spellCode 3 = .ok (.invokevirtual 52, 3) := by decide +kernel
theorem dX1_spellCode_6 : decode cX1_spellCode 6 = .ok (.invokevirtual 38, 3) := by decide +kernel
theorem dX1_spellCode_9 : decode cX1_spellCode 9 = .ok (.pop, 1) := by decide +kernel
theorem dX1_spellCode_10 : decode cX1_spellCode 10 = .ok (.aload_n 2, 1) := by decide +kernel
theorem dX1_spellCode_11 : decode cX1_spellCode 11 = .ok (.bipush 6, 2) := by decide +kernel
theorem dX1_spellCode_13 : decode cX1_spellCode 13 = .ok (.invokevirtual 38, 3) := by decide +kernel
theorem dX1_spellCode_16 : decode cX1_spellCode 16 = .ok (.pop, 1) := by decide +kernel
theorem dX1_spellCode_17 : decode cX1_spellCode 17 = .ok (.aload_n 2, 1) := by decide +kernel
theorem dX1_spellCode_18 : decode cX1_spellCode 18 = .ok (.iload_n 1, 1) := by decide +kernel
theorem dX1_spellCode_19 : decode cX1_spellCode 19 = .ok (.bipush 32, 2) := by decide +kernel
theorem dX1_spellCode_21 : decode cX1_spellCode 21 = .ok (.idiv, 1) := by decide +kernel
theorem dX1_spellCode_22 : decode cX1_spellCode 22 = .ok (.invokevirtual 38, 3) := by decide +kernel
theorem dX1_spellCode_25 : decode cX1_spellCode 25 = .ok (.pop, 1) := by decide +kernel
theorem dX1_spellCode_26 : decode cX1_spellCode 26 = .ok (.aload_n 2, 1) := by decide +kernel
theorem dX1_spellCode_27 : decode cX1_spellCode 27 = .ok (.iload_n 1, 1) := by decide +kernel
theorem dX1_spellCode_28 : decode cX1_spellCode 28 = .ok (.bipush 32, 2) := by decide +kernel
theorem dX1_spellCode_30 : decode cX1_spellCode 30 = .ok (.irem, 1) := by decide +kernel
theorem dX1_spellCode_31 : decode cX1_spellCode 31 = .ok (.invokevirtual 38, 3) := by decide +kernel
theorem dX1_spellCode_34 : decode cX1_spellCode 34 = .ok (.pop, 1) := by decide +kernel
theorem dX1_spellCode_35 : decode cX1_spellCode 35 = .ok (.return_, 1) := by decide +kernel
theorem dX1_shiftTo_0 : decode cX1_shiftTo 0 = .ok (.aload_n 0, 1) := by decide +kernel
theorem dX1_shiftTo_1 : decode cX1_shiftTo 1 = .ok (.getfield 9, 3) := by decide +kernel
theorem dX1_shiftTo_4 : decode cX1_shiftTo 4 = .ok (.iconst 2, 1) := by decide +kernel
theorem dX1_shiftTo_5 : decode cX1_shiftTo 5 = .ok (.if_icmp .gt 9, 3) := by decide +kernel
theorem dX1_shiftTo_8 : decode cX1_shiftTo 8 = .ok (.iconst 1, 1) := by decide +kernel
theorem dX1_shiftTo_9 : decode cX1_shiftTo 9 = .ok (.iload_n 1, 1) := by decide +kernel
theorem dX1_shiftTo_10 : decode cX1_shiftTo 10 = .ok (.iadd, 1) := by decide +kernel
theorem dX1_shiftTo_11 : decode cX1_shiftTo 11 = .ok (.goto 6, 3) := by decide +kernel
theorem dX1_shiftTo_14 : decode cX1_shiftTo 14 = .ok (.iconst 3, 1) := by decide +kernel
theorem dX1_shiftTo_15 : decode cX1_shiftTo 15 = .ok (.iload_n 1, 1) := by decide +kernel
theorem dX1_shiftTo_16 : decode cX1_shiftTo 16 = .ok (.iadd, 1) := by decide +kernel
theorem dX1_shiftTo_17 : decode cX1_shiftTo 17 = .ok (.ireturn, 1) := by decide +kernel
theorem dX0_chooseEntry_0 : decode cX0_chooseEntry 0 = .ok (.iconst 0, 1) := by decide +kernel
theorem dX0_chooseEntry_1 : decode cX0_chooseEntry 1 = .ok (.istore 4, 2) := by decide +kernel
theorem dX0_chooseEntry_3 : decode cX0_chooseEntry 3 = .ok (.iload 4, 2) := by decide +kernel
theorem dX0_chooseEntry_5 : decode cX0_chooseEntry 5 = .ok (.aload_n 0, 1) := by decide +kernel
theorem dX0_chooseEntry_6 : decode cX0_chooseEntry 6 = .ok (.getfield 26, 3) := by decide +kernel
theorem dX0_chooseEntry_9 : decode cX0_chooseEntry 9 = .ok (.if_icmp .ge 129, 3) := by decide +kernel
theorem dX0_chooseEntry_12 : decode cX0_chooseEntry 12 = .ok (.iload_n 1, 1) := by decide +kernel
theorem dX0_chooseEntry_13 : decode cX0_chooseEntry 13 = .ok (.aload_n 0, 1) := by decide +kernel
theorem dX0_chooseEntry_14 : decode cX0_chooseEntry 14 = .ok (.getfield 30, 3) := by decide +kernel
theorem dX0_chooseEntry_17 : decode cX0_chooseEntry 17 = .ok (.iload 4, 2) := by decide +kernel
theorem dX0_chooseEntry_19 : decode cX0_chooseEntry 19 = .ok (.iaload, 1) := by decide +kernel
theorem dX0_chooseEntry_20 : decode cX0_chooseEntry 20 = .ok (.iadd, 1) := by decide +kernel
theorem dX0_chooseEntry_21 : decode cX0_chooseEntry 21 = .ok (.istore 5, 2) := by decide +kernel
theorem dX0_chooseEntry_23 : decode cX0_chooseEntry 23 = .ok (.aload_n 0, 1) := by decide +kernel
theorem dX0_chooseEntry_24 : decode cX0_chooseEntry 24 = .ok (.getfield 34, 3) := by decide +kernel
theorem dX0_chooseEntry_27 : decode cX0_chooseEntry 27 = .ok (.iconst 3, 1) := by decide +kernel
theorem dX0_chooseEntry_28 : decode cX0_chooseEntry 28 = .ok (.iload_n 1, 1) := by decide +kernel
theorem dX0_chooseEntry_29 : decode cX0_chooseEntry 29 = .ok (.imul, 1) := by decide +kernel
theorem dX0_chooseEntry_30 : decode cX0_chooseEntry 30 = .ok (.iload 4, 2) := by decide +kernel
theorem dX0_chooseEntry_32 : decode cX0_chooseEntry 32 = .ok (.bipush 32, 2) := by decide +kernel
theorem dX0_chooseEntry_34 : decode cX0_chooseEntry 34 = .ok (.idiv, 1) := by decide +kernel
theorem dX0_chooseEntry_35 : decode cX0_chooseEntry 35 = .ok (.iadd, 1) := by decide +kernel
theorem dX0_chooseEntry_36 : decode cX0_chooseEntry 36 = .ok (.iaload, 1) := by decide +kernel
theorem dX0_chooseEntry_37 : decode cX0_chooseEntry 37 = .ok (.iload 4, 2) := by decide +kernel
theorem dX0_chooseEntry_39 : decode cX0_chooseEntry 39 = .ok (.bipush 32, 2) := by decide +kernel
theorem dX0_chooseEntry_41 : decode cX0_chooseEntry 41 = .ok (.irem, 1) := by decide +kernel
theorem dX0_chooseEntry_42 : decode cX0_chooseEntry 42 = .ok (.ishr, 1) := by decide +kernel
theorem dX0_chooseEntry_43 : decode cX0_chooseEntry 43 = .ok (.iconst 1, 1) := by decide +kernel
theorem dX0_chooseEntry_44 : decode cX0_chooseEntry 44 = .ok (.iand, 1) := by decide +kernel
theorem dX0_chooseEntry_45 : decode cX0_chooseEntry 45 = .ok (.ifCond .eq 87, 3) := by decide +kernel
theorem dX0_chooseEntry_48 : decode cX0_chooseEntry 48 = .ok (.iload 5, 2) := by decide +kernel
theorem dX0_chooseEntry_50 : decode cX0_chooseEntry 50 = .ok (.iload_n 2, 1) := by decide +kernel
theorem dX0_chooseEntry_51 : decode cX0_chooseEntry 51 = .ok (.if_icmp .le 6, 3) := by decide +kernel
theorem dX0_chooseEntry_54 : decode cX0_chooseEntry 54 = .ok (.goto 78, 3) := by decide +kernel
theorem dX0_chooseEntry_57 : decode cX0_chooseEntry 57 = .ok (.iconst 2, 1) := by decide +kernel
theorem dX0_chooseEntry_58 : decode cX0_chooseEntry 58 = .ok (.aload_n 0, 1) := by decide +kernel
theorem dX0_chooseEntry_59 : decode cX0_chooseEntry 59 = .ok (.getfield 37, 3) := by decide +kernel
theorem dX0_chooseEntry_62 : decode cX0_chooseEntry 62 = .ok (.iload 5, 2) := by decide +kernel
theorem dX0_chooseEntry_64 : decode cX0_chooseEntry 64 = .ok (.iaload, 1) := by decide +kernel
theorem dX0_chooseEntry_65 : decode cX0_chooseEntry 65 = .ok (.iadd, 1) := by decide +kernel
theorem dX0_chooseEntry_66 : decode cX0_chooseEntry 66 = .ok (.istore 6, 2) := by decide +kernel
theorem dX0_chooseEntry_68 : decode cX0_chooseEntry 68 = .ok (.iload 6, 2) := by decide +kernel
theorem dX0_chooseEntry_70 : decode cX0_chooseEntry 70 = .ok (.aload_n 0, 1) := by decide +kernel
theorem dX0_chooseEntry_71 : decode cX0_chooseEntry 71 = .ok (.getfield 37, 3) := by decide +kernel
theorem dX0_chooseEntry_74 : decode cX0_chooseEntry 74 = .ok (.iload_n 1, 1) := by decide +kernel
theorem dX0_chooseEntry_75 : decode cX0_chooseEntry 75 = .ok (.iaload, 1) := by decide +kernel
theorem dX0_chooseEntry_76 : decode cX0_chooseEntry 76 = .ok (.if_icmp .ne 21, 3) := by decide +kernel
theorem dX0_chooseEntry_79 : decode cX0_chooseEntry 79 = .ok (.aload_n 0, 1) := by decide +kernel
theorem dX0_chooseEntry_80 : decode cX0_chooseEntry 80 = .ok (.getfield 40, 3) := by decide +kernel
theorem dX0_chooseEntry_83 : decode cX0_chooseEntry 83 = .ok (.iload_n 1, 1) := by decide +kernel
theorem dX0_chooseEntry_84 : decode cX0_chooseEntry 84 = .ok (.iaload, 1) := by decide +kernel
theorem dX0_chooseEntry_85 : decode cX0_chooseEntry 85 = .ok (.iconst (-1), 1) := by decide +kernel
theorem dX0_chooseEntry_86 : decode cX0_chooseEntry 86 = .ok (.if_icmp .ne 11, 3) := by decide +kernel
theorem dX0_chooseEntry_89 : decode cX0_chooseEntry 89 = .ok (.iload_n 3, 1) := by decide +kernel
theorem dX0_chooseEntry_90 : decode cX0_chooseEntry 90 = .ok (.ifCond .ne 7, 3) := by decide +kernel
theorem dX0_chooseEntry_93 : decode cX0_chooseEntry 93 = .ok (.iconst 1, 1) := by decide +kernel
theorem dX0_chooseEntry_94 : decode cX0_chooseEntry 94 = .ok (.goto 4, 3) := by decide +kernel
theorem dX0_chooseEntry_97 : decode cX0_chooseEntry 97 = .ok (.iconst 0, 1) := by decide +kernel
theorem dX0_chooseEntry_98 : decode cX0_chooseEntry 98 = .ok (.istore 7, 2) := by decide +kernel
theorem dX0_chooseEntry_100 : decode cX0_chooseEntry 100 = .ok (.iload 6, 2) := by decide +kernel
theorem dX0_chooseEntry_102 : decode cX0_chooseEntry 102 = .ok (.aload_n 0, 1) := by decide +kernel
theorem dX0_chooseEntry_103 : decode cX0_chooseEntry 103 = .ok (.getfield 37, 3) := by decide +kernel
theorem dX0_chooseEntry_106 : decode cX0_chooseEntry 106 = .ok (.iload_n 1, 1) := by decide +kernel
theorem dX0_chooseEntry_107 : decode cX0_chooseEntry 107 = .ok (.iaload, 1) := by decide +kernel
theorem dX0_chooseEntry_108 : decode cX0_chooseEntry 108 = .ok (.if_icmp .lt 8, 3) := by decide +kernel
theorem dX0_chooseEntry_111 : decode cX0_chooseEntry 111 = .ok (.iload 7, 2) := by decide +kernel
theorem dX0_chooseEntry_113 : decode cX0_chooseEntry 113 = .ok (.ifCond .eq 19, 3) := by decide +kernel
theorem dX0_chooseEntry_116 : decode cX0_chooseEntry 116 = .ok (.aload_n 0, 1) := by decide +kernel
theorem dX0_chooseEntry_117 : decode cX0_chooseEntry 117 = .ok (.getfield 37, 3) := by decide +kernel
theorem dX0_chooseEntry_120 : decode cX0_chooseEntry 120 = .ok (.iload_n 1, 1) := by decide +kernel
theorem dX0_chooseEntry_121 : decode cX0_chooseEntry 121 = .ok (.iload 6, 2) := by decide +kernel
theorem dX0_chooseEntry_123 : decode cX0_chooseEntry 123 = .ok (.iastore, 1) := by decide +kernel
theorem dX0_chooseEntry_124 : decode cX0_chooseEntry 124 = .ok (.aload_n 0, 1) := by decide +kernel
theorem dX0_chooseEntry_125 : decode cX0_chooseEntry 125 = .ok (.getfield 40, 3) := by decide +kernel
theorem dX0_chooseEntry_128 : decode cX0_chooseEntry 128 = .ok (.iload_n 1, 1) := by decide +kernel
theorem dX0_chooseEntry_129 : decode cX0_chooseEntry 129 = .ok (.iload 4, 2) := by decide +kernel
theorem dX0_chooseEntry_131 : decode cX0_chooseEntry 131 = .ok (.iastore, 1) := by decide +kernel
theorem dX0_chooseEntry_132 : decode cX0_chooseEntry 132 = .ok (.iinc 4 1, 3) := by decide +kernel
theorem dX0_chooseEntry_135 : decode cX0_chooseEntry 135 = .ok (.goto (-132), 3) := by decide +kernel
theorem dX0_chooseEntry_138 : decode cX0_chooseEntry 138 = .ok (.return_, 1) := by decide +kernel
theorem dX0_spellChosen_0 : decode cX0_spellChosen 0 = .ok (.aload_n 1, 1) := by decide +kernel
theorem dX0_spellChosen_1 : decode cX0_spellChosen 1 = .ok (.invokevirtual 69, 3) := by decide +kernel
theorem dX0_spellChosen_4 : decode cX0_spellChosen 4 = .ok (.sipush 1000, 3) := by decide +kernel
theorem dX0_spellChosen_7 : decode cX0_spellChosen 7 = .ok (.invokestatic 77, 3) := by decide +kernel
theorem dX0_spellChosen_10 : decode cX0_spellChosen 10 = .ok (.istore_n 3, 1) := by decide +kernel
theorem dX0_spellChosen_11 : decode cX0_spellChosen 11 = .ok (.iconst 0, 1) := by decide +kernel
theorem dX0_spellChosen_12 : decode cX0_spellChosen 12 = .ok (.istore 4, 2) := by decide +kernel
theorem dX0_spellChosen_14 : decode cX0_spellChosen 14 = .ok (.iconst 0, 1) := by decide +kernel
theorem dX0_spellChosen_15 : decode cX0_spellChosen 15 = .ok (.istore 5, 2) := by decide +kernel
theorem dX0_spellChosen_17 : decode cX0_spellChosen 17 = .ok (.iload 5, 2) := by decide +kernel
theorem dX0_spellChosen_19 : decode cX0_spellChosen 19 = .ok (.iload_n 3, 1) := by decide +kernel
theorem dX0_spellChosen_20 : decode cX0_spellChosen 20 = .ok (.if_icmp .ge 91, 3) := by decide +kernel
theorem dX0_spellChosen_23 : decode cX0_spellChosen 23 = .ok (.iload 5, 2) := by decide +kernel
theorem dX0_spellChosen_25 : decode cX0_spellChosen 25 = .ok (.iload 4, 2) := by decide +kernel
theorem dX0_spellChosen_27 : decode cX0_spellChosen 27 = .ok (.if_icmp .ge 6, 3) := by decide +kernel
theorem dX0_spellChosen_30 : decode cX0_spellChosen 30 = .ok (.goto 75, 3) := by decide +kernel
theorem dX0_spellChosen_33 : decode cX0_spellChosen 33 = .ok (.aload_n 0, 1) := by decide +kernel
theorem dX0_spellChosen_34 : decode cX0_spellChosen 34 = .ok (.getfield 40, 3) := by decide +kernel
theorem dX0_spellChosen_37 : decode cX0_spellChosen 37 = .ok (.iload 5, 2) := by decide +kernel
theorem dX0_spellChosen_39 : decode cX0_spellChosen 39 = .ok (.iaload, 1) := by decide +kernel
theorem dX0_spellChosen_40 : decode cX0_spellChosen 40 = .ok (.istore 6, 2) := by decide +kernel
theorem dX0_spellChosen_42 : decode cX0_spellChosen 42 = .ok (.iload 6, 2) := by decide +kernel
theorem dX0_spellChosen_44 : decode cX0_spellChosen 44 = .ok (.ifCond .lt 47, 3) := by decide +kernel
theorem dX0_spellChosen_47 : decode cX0_spellChosen 47 = .ok (.iload 6, 2) := by decide +kernel
theorem dX0_spellChosen_49 : decode cX0_spellChosen 49 = .ok (.bipush 96, 2) := by decide +kernel
theorem dX0_spellChosen_51 : decode cX0_spellChosen 51 = .ok (.if_icmp .ge 40, 3) := by decide +kernel
theorem dX0_spellChosen_54 : decode cX0_spellChosen 54 = .ok (.aload_n 2, 1) := by decide +kernel
theorem dX0_spellChosen_55 : decode cX0_spellChosen 55 = .ok (.iconst 1, 1) := by decide +kernel
theorem dX0_spellChosen_56 : decode cX0_spellChosen 56 = .ok (.iload 6, 2) := by decide +kernel
theorem dX0_spellChosen_58 : decode cX0_spellChosen 58 = .ok (.bipush 32, 2) := by decide +kernel
theorem dX0_spellChosen_60 : decode cX0_spellChosen 60 = .ok (.idiv, 1) := by decide +kernel
theorem dX0_spellChosen_61 : decode cX0_spellChosen 61 = .ok (.iadd, 1) := by decide +kernel
theorem dX0_spellChosen_62 : decode cX0_spellChosen 62 = .ok (.invokevirtual 92, 3) := by decide +kernel
theorem dX0_spellChosen_65 : decode cX0_spellChosen 65 = .ok (.pop, 1) := by decide +kernel
theorem dX0_spellChosen_66 : decode cX0_spellChosen 66 = .ok (.aload_n 2, 1) := by decide +kernel
theorem dX0_spellChosen_67 : decode cX0_spellChosen 67 = .ok (.iload 6, 2) := by decide +kernel
theorem dX0_spellChosen_69 : decode cX0_spellChosen 69 = .ok (.bipush 32, 2) := by decide +kernel
theorem dX0_spellChosen_71 : decode cX0_spellChosen 71 = .ok (.irem, 1) := by decide +kernel
theorem dX0_spellChosen_72 : decode cX0_spellChosen 72 = .ok (.invokevirtual 92, 3) := by decide +kernel
theorem dX0_spellChosen_75 : decode cX0_spellChosen 75 = .ok (.pop, 1) := by decide +kernel
theorem dX0_spellChosen_76 : decode cX0_spellChosen 76 = .ok (.iload 5, 2) := by decide +kernel
theorem dX0_spellChosen_78 : decode cX0_spellChosen 78 = .ok (.aload_n 0, 1) := by decide +kernel
theorem dX0_spellChosen_79 : decode cX0_spellChosen 79 = .ok (.getfield 30, 3) := by decide +kernel
theorem dX0_spellChosen_82 : decode cX0_spellChosen 82 = .ok (.iload 6, 2) := by decide +kernel
theorem dX0_spellChosen_84 : decode cX0_spellChosen 84 = .ok (.iaload, 1) := by decide +kernel
theorem dX0_spellChosen_85 : decode cX0_spellChosen 85 = .ok (.iadd, 1) := by decide +kernel
theorem dX0_spellChosen_86 : decode cX0_spellChosen 86 = .ok (.istore 4, 2) := by decide +kernel
theorem dX0_spellChosen_88 : decode cX0_spellChosen 88 = .ok (.goto 17, 3) := by decide +kernel
theorem dX0_spellChosen_91 : decode cX0_spellChosen 91 = .ok (.aload_n 0, 1) := by decide +kernel
theorem dX0_spellChosen_92 : decode cX0_spellChosen 92 = .ok (.getfield 9, 3) := by decide +kernel
theorem dX0_spellChosen_95 : decode cX0_spellChosen 95 = .ok (.aload_n 1, 1) := by decide +kernel
theorem dX0_spellChosen_96 : decode cX0_spellChosen 96 = .ok (.iload 5, 2) := by decide +kernel
theorem dX0_spellChosen_98 : decode cX0_spellChosen 98 = .ok (.invokevirtual 60, 3) := by decide +kernel
theorem dX0_spellChosen_101 : decode cX0_spellChosen 101 = .ok (.aload_n 2, 1) := by decide +kernel
theorem dX0_spellChosen_102 : decode cX0_spellChosen 102 = .ok (.invokevirtual 83, 3) := by decide +kernel
theorem dX0_spellChosen_105 : decode cX0_spellChosen 105 = .ok (.iinc 5 1, 3) := by decide +kernel
theorem dX0_spellChosen_108 : decode cX0_spellChosen 108 = .ok (.goto (-91), 3) := by decide +kernel
theorem dX0_spellChosen_111 : decode cX0_spellChosen 111 = .ok (.return_, 1) := by decide +kernel
theorem dX7_make_0 : decode cX7_make 0 = .ok (.iload_n 1, 1) := by decide +kernel
theorem dX7_make_1 : decode cX7_make 1 = .ok (.ifCond .eq 11, 3) := by decide +kernel
theorem dX7_make_4 : decode cX7_make 4 = .ok (.iload_n 1, 1) := by decide +kernel
theorem dX7_make_5 : decode cX7_make 5 = .ok (.iconst 1, 1) := by decide +kernel
theorem dX7_make_6 : decode cX7_make 6 = .ok (.if_icmp .eq 6, 3) := by decide +kernel
theorem dX7_make_9 : decode cX7_make 9 = .ok (.bipush (-2), 2) := by decide +kernel
theorem dX7_make_11 : decode cX7_make 11 = .ok (.ireturn, 1) := by decide +kernel
theorem dX7_make_12 : decode cX7_make 12 = .ok (.aload_n 0, 1) := by decide +kernel
theorem dX7_make_13 : decode cX7_make 13 = .ok (.iload_n 1, 1) := by decide +kernel
theorem dX7_make_14 : decode cX7_make 14 = .ok (.invokevirtual 132, 3) := by decide +kernel
theorem dX7_make_17 : decode cX7_make 17 = .ok (.aload_n 0, 1) := by decide +kernel
theorem dX7_make_18 : decode cX7_make 18 = .ok (.invokevirtual 135, 3) := by decide +kernel
theorem dX7_make_21 : decode cX7_make 21 = .ok (.aload_n 0, 1) := by decide +kernel
theorem dX7_make_22 : decode cX7_make 22 = .ok (.getfield 27, 3) := by decide +kernel
theorem dX7_make_25 : decode cX7_make 25 = .ok (.invokevirtual 107, 3) := by decide +kernel
theorem dX7_make_28 : decode cX7_make 28 = .ok (.istore_n 2, 1) := by decide +kernel
theorem dX7_make_29 : decode cX7_make 29 = .ok (.aload_n 0, 1) := by decide +kernel
theorem dX7_make_30 : decode cX7_make 30 = .ok (.getfield 27, 3) := by decide +kernel
theorem dX7_make_33 : decode cX7_make 33 = .ok (.aload_n 0, 1) := by decide +kernel
theorem dX7_make_34 : decode cX7_make 34 = .ok (.getfield 44, 3) := by decide +kernel
theorem dX7_make_37 : decode cX7_make 37 = .ok (.invokevirtual 107, 3) := by decide +kernel
theorem dX7_make_40 : decode cX7_make 40 = .ok (.iconst 3, 1) := by decide +kernel
theorem dX7_make_41 : decode cX7_make 41 = .ok (.idiv, 1) := by decide +kernel
theorem dX7_make_42 : decode cX7_make 42 = .ok (.iconst 2, 1) := by decide +kernel
theorem dX7_make_43 : decode cX7_make 43 = .ok (.imul, 1) := by decide +kernel
theorem dX7_make_44 : decode cX7_make 44 = .ok (.invokevirtual 138, 3) := by decide +kernel
theorem dX7_make_47 : decode cX7_make 47 = .ok (.ifCond .ne 6, 3) := by decide +kernel
theorem dX7_make_50 : decode cX7_make 50 = .ok (.bipush (-4), 2) := by decide +kernel
theorem dX7_make_52 : decode cX7_make 52 = .ok (.ireturn, 1) := by decide +kernel
theorem dX7_make_53 : decode cX7_make 53 = .ok (.aload_n 0, 1) := by decide +kernel
theorem dX7_make_54 : decode cX7_make 54 = .ok (.invokevirtual 141, 3) := by decide +kernel
theorem dX7_make_57 : decode cX7_make 57 = .ok (.iload_n 2, 1) := by decide +kernel
theorem dX7_make_58 : decode cX7_make 58 = .ok (.ireturn, 1) := by decide +kernel
theorem dX7_padSpelled_0 : decode cX7_padSpelled 0 = .ok (.aload_n 0, 1) := by decide +kernel
theorem dX7_padSpelled_1 : decode cX7_padSpelled 1 = .ok (.getfield 44, 3) := by decide +kernel
theorem dX7_padSpelled_4 : decode cX7_padSpelled 4 = .ok (.invokevirtual 107, 3) := by decide +kernel
theorem dX7_padSpelled_7 : decode cX7_padSpelled 7 = .ok (.ifCond .ne 7, 3) := by decide +kernel
theorem dX7_padSpelled_10 : decode cX7_padSpelled 10 = .ok (.iconst 3, 1) := by decide +kernel
theorem dX7_padSpelled_11 : decode cX7_padSpelled 11 = .ok (.goto 16, 3) := by decide +kernel
theorem dX7_padSpelled_14 : decode cX7_padSpelled 14 = .ok (.iconst 3, 1) := by decide +kernel
theorem dX7_padSpelled_15 : decode cX7_padSpelled 15 = .ok (.aload_n 0, 1) := by decide +kernel
theorem dX7_padSpelled_16 : decode cX7_padSpelled 16 = .ok (.getfield 44, 3) := by decide +kernel
theorem dX7_padSpelled_19 : decode cX7_padSpelled 19 = .ok (.invokevirtual 107, 3) := by decide +kernel
theorem dX7_padSpelled_22 : decode cX7_padSpelled 22 = .ok (.iconst 3, 1) := by decide +kernel
theorem dX7_padSpelled_23 : decode cX7_padSpelled 23 = .ok (.irem, 1) := by decide +kernel
theorem dX7_padSpelled_24 : decode cX7_padSpelled 24 = .ok (.isub, 1) := by decide +kernel
theorem dX7_padSpelled_25 : decode cX7_padSpelled 25 = .ok (.iconst 3, 1) := by decide +kernel
theorem dX7_padSpelled_26 : decode cX7_padSpelled 26 = .ok (.irem, 1) := by decide +kernel
theorem dX7_padSpelled_27 : decode cX7_padSpelled 27 = .ok (.istore_n 1, 1) := by decide +kernel
theorem dX7_padSpelled_28 : decode cX7_padSpelled 28 = .ok (.iconst 0, 1) := by decide +kernel
theorem dX7_padSpelled_29 : decode cX7_padSpelled 29 = .ok (.istore_n 2, 1) := by decide +kernel
theorem dX7_padSpelled_30 : decode cX7_padSpelled 30 = .ok (.iload_n 2, 1) := by decide +kernel
theorem dX7_padSpelled_31 : decode cX7_padSpelled 31 = .ok (.iload_n 1, 1) := by decide +kernel
theorem dX7_padSpelled_32 : decode cX7_padSpelled 32 = .ok (.if_icmp .ge 18, 3) := by decide +kernel
theorem dX7_padSpelled_35 : decode cX7_padSpelled 35 = .ok (.aload_n 0, 1) := by decide +kernel
theorem dX7_padSpelled_36 : decode cX7_padSpelled 36 = .ok (.getfield 44, 3) := by decide +kernel
theorem dX7_padSpelled_39 : decode cX7_padSpelled 39 = .ok (.iconst 5, 1) := by decide +kernel
theorem dX7_padSpelled_40 : decode cX7_padSpelled 40 = .ok (.invokevirtual 37, 3) := by decide +kernel
theorem dX7_padSpelled_43 : decode cX7_padSpelled 43 = .ok (.pop, 1) := by decide +kernel
theorem dX7_padSpelled_44 : decode cX7_padSpelled 44 = .ok (.iinc 2 1, 3) := by decide +kernel
theorem dX7_padSpelled_47 : decode cX7_padSpelled 47 = .ok (.goto (-17), 3) := by decide +kernel
theorem dX7_padSpelled_50 : decode cX7_padSpelled 50 = .ok (.return_, 1) := by decide +kernel
theorem dX7_writeSpelled_0 : decode cX7_writeSpelled 0 = .ok (.iconst 0, 1) := by decide +kernel
theorem dX7_writeSpelled_1 : decode cX7_writeSpelled 1 = .ok (.istore_n 1, 1) := by decide +kernel
theorem dX7_writeSpelled_2 : decode cX7_writeSpelled 2 = .ok (.iload_n 1, 1) := by decide +kernel
theorem dX7_writeSpelled_3 : decode cX7_writeSpelled 3 = .ok (.aload_n 0, 1) := by decide +kernel
theorem dX7_writeSpelled_4 : decode cX7_writeSpelled 4 = .ok (.getfield 44, 3) := by decide +kernel
theorem dX7_writeSpelled_7 : decode cX7_writeSpelled 7 = .ok (.invokevirtual 107, 3) := by decide +kernel
theorem dX7_writeSpelled_10 : decode cX7_writeSpelled 10 = .ok (.if_icmp .ge 88, 3) := by decide +kernel
theorem dX7_writeSpelled_13 : decode cX7_writeSpelled 13 = .ok (.aload_n 0, 1) := by decide +kernel
theorem dX7_writeSpelled_14 : decode cX7_writeSpelled 14 = .ok (.getfield 44, 3) := by decide +kernel
theorem dX7_writeSpelled_17 : decode cX7_writeSpelled 17 = .ok (.iload_n 1, 1) := by decide +kernel
theorem dX7_writeSpelled_18 : decode cX7_writeSpelled 18 = .ok (.invokevirtual 100, 3) := by decide +kernel
theorem dX7_writeSpelled_21 : decode cX7_writeSpelled 21 = .ok (.bipush 10, 2) := by decide +kernel
theorem dX7_writeSpelled_23 : decode cX7_writeSpelled 23 = .ok (.ishl, 1) := by decide +kernel
theorem dX7_writeSpelled_24 : decode cX7_writeSpelled 24 = .ok (.aload_n 0, 1) := by decide +kernel
theorem dX7_writeSpelled_25 : decode cX7_writeSpelled 25 = .ok (.getfield 44, 3) := by decide +kernel
theorem dX7_writeSpelled_28 : decode cX7_writeSpelled 28 = .ok (.iload_n 1, 1) := by decide +kernel
theorem dX7_writeSpelled_29 : decode cX7_writeSpelled 29 = .ok (.iconst 1, 1) := by decide +kernel
theorem dX7_writeSpelled_30 : decode cX7_writeSpelled 30 = .ok (.iadd, 1) := by decide +kernel
theorem dX7_writeSpelled_31 : decode cX7_writeSpelled 31 = .ok (.invokevirtual 100, 3) := by decide +kernel
theorem dX7_writeSpelled_34 : decode cX7_writeSpelled 34 = .ok (.iconst 5, 1) := by decide +kernel
theorem dX7_writeSpelled_35 : decode cX7_writeSpelled 35 = .ok (.ishl, 1) := by decide +kernel
theorem dX7_writeSpelled_36 : decode cX7_writeSpelled 36 = .ok (.ior, 1) := by decide +kernel
theorem dX7_writeSpelled_37 : decode cX7_writeSpelled 37 = .ok (.aload_n 0, 1) := by decide +kernel
theorem dX7_writeSpelled_38 : decode cX7_writeSpelled 38 = .ok (.getfield 44, 3) := by decide +kernel
theorem dX7_writeSpelled_41 : decode cX7_writeSpelled 41 = .ok (.iload_n 1, 1) := by decide +kernel
theorem dX7_writeSpelled_42 : decode cX7_writeSpelled 42 = .ok (.iconst 2, 1) := by decide +kernel
theorem dX7_writeSpelled_43 : decode cX7_writeSpelled 43 = .ok (.iadd, 1) := by decide +kernel
theorem dX7_writeSpelled_44 : decode cX7_writeSpelled 44 = .ok (.invokevirtual 100, 3) := by decide +kernel
theorem dX7_writeSpelled_47 : decode cX7_writeSpelled 47 = .ok (.ior, 1) := by decide +kernel
theorem dX7_writeSpelled_48 : decode cX7_writeSpelled 48 = .ok (.istore_n 2, 1) := by decide +kernel
theorem dX7_writeSpelled_49 : decode cX7_writeSpelled 49 = .ok (.iload_n 1, 1) := by decide +kernel
theorem dX7_writeSpelled_50 : decode cX7_writeSpelled 50 = .ok (.iconst 3, 1) := by decide +kernel
theorem dX7_writeSpelled_51 : decode cX7_writeSpelled 51 = .ok (.iadd, 1) := by decide +kernel
theorem dX7_writeSpelled_52 : decode cX7_writeSpelled 52 = .ok (.aload_n 0, 1) := by decide +kernel
theorem dX7_writeSpelled_53 : decode cX7_writeSpelled 53 = .ok (.getfield 44, 3) := by decide +kernel
theorem dX7_writeSpelled_56 : decode cX7_writeSpelled 56 = .ok (.invokevirtual 107, 3) := by decide +kernel
theorem dX7_writeSpelled_59 : decode cX7_writeSpelled 59 = .ok (.if_icmp .lt 8, 3) := by decide +kernel
theorem dX7_writeSpelled_62 : decode cX7_writeSpelled 62 = .ok (.iload_n 2, 1) := by decide +kernel
theorem dX7_writeSpelled_63 : decode cX7_writeSpelled 63 = .ok (.ldc 181, 2) := by decide +kernel
theorem dX7_writeSpelled_65 : decode cX7_writeSpelled 65 = .ok (.ior, 1) := by decide +kernel
theorem dX7_writeSpelled_66 : decode cX7_writeSpelled 66 = .ok (.istore_n 2, 1) := by decide +kernel
theorem dX7_writeSpelled_67 : decode cX7_writeSpelled 67 = .ok (.aload_n 0, 1) := by decide +kernel
theorem dX7_writeSpelled_68 : decode cX7_writeSpelled 68 = .ok (.getfield 27, 3) := by decide +kernel
theorem dX7_writeSpelled_71 : decode cX7_writeSpelled 71 = .ok (.iload_n 2, 1) := by decide +kernel
theorem dX7_writeSpelled_72 : decode cX7_writeSpelled 72 = .ok (.bipush 8, 2) := by decide +kernel
theorem dX7_writeSpelled_74 : decode cX7_writeSpelled 74 = .ok (.ishr, 1) := by decide +kernel
theorem dX7_writeSpelled_75 : decode cX7_writeSpelled 75 = .ok (.invokevirtual 37, 3) := by decide +kernel
theorem dX7_writeSpelled_78 : decode cX7_writeSpelled 78 = .ok (.pop, 1) := by decide +kernel
theorem dX7_writeSpelled_79 : decode cX7_writeSpelled 79 = .ok (.aload_n 0, 1) := by decide +kernel
theorem dX7_writeSpelled_80 : decode cX7_writeSpelled 80 = .ok (.getfield 27, 3) := by decide +kernel
theorem dX7_writeSpelled_83 : decode cX7_writeSpelled 83 = .ok (.iload_n 2, 1) := by decide +kernel
theorem dX7_writeSpelled_84 : decode cX7_writeSpelled 84 = .ok (.sipush 255, 3) := by decide +kernel
theorem dX7_writeSpelled_87 : decode cX7_writeSpelled 87 = .ok (.iand, 1) := by decide +kernel
theorem dX7_writeSpelled_88 : decode cX7_writeSpelled 88 = .ok (.invokevirtual 37, 3) := by decide +kernel
theorem dX7_writeSpelled_91 : decode cX7_writeSpelled 91 = .ok (.pop, 1) := by decide +kernel
theorem dX7_writeSpelled_92 : decode cX7_writeSpelled 92 = .ok (.iinc 1 3, 3) := by decide +kernel
theorem dX7_writeSpelled_95 : decode cX7_writeSpelled 95 = .ok (.goto (-93), 3) := by decide +kernel
theorem dX7_writeSpelled_98 : decode cX7_writeSpelled 98 = .ok (.return_, 1) := by decide +kernel
theorem dX7_word_0 : decode cX7_word 0 = .ok (.aload_n 0, 1) := by decide +kernel
theorem dX7_word_1 : decode cX7_word 1 = .ok (.getfield 77, 3) := by decide +kernel
theorem dX7_word_4 : decode cX7_word 4 = .ok (.aload_n 0, 1) := by decide +kernel
theorem dX7_word_5 : decode cX7_word 5 = .ok (.getfield 77, 3) := by decide +kernel
theorem dX7_word_8 : decode cX7_word 8 = .ok (.aload_n 0, 1) := by decide +kernel
theorem dX7_word_9 : decode cX7_word 9 = .ok (.getfield 31, 3) := by decide +kernel
theorem dX7_word_12 : decode cX7_word 12 = .ok (.iconst 0, 1) := by decide +kernel
theorem dX7_word_13 : decode cX7_word 13 = .ok (.aload_n 0, 1) := by decide +kernel
theorem dX7_word_14 : decode cX7_word 14 = .ok (.getfield 31, 3) := by decide +kernel
theorem dX7_word_17 : decode cX7_word 17 = .ok (.invokevirtual 107, 3) := by decide +kernel
theorem dX7_word_20 : decode cX7_word 20 = .ok (.iconst 0, 1) := by decide +kernel
theorem dX7_word_21 : decode cX7_word 21 = .ok (.invokevirtual 144, 3) := by decide +kernel
theorem dX7_word_24 : decode cX7_word 24 = .ok (.invokevirtual 148, 3) := by decide +kernel
theorem dX7_word_27 : decode cX7_word 27 = .ok (.ireturn, 1) := by decide +kernel
theorem dX2_wordOf_0 : decode cX2_wordOf 0 = .ok (.aload_n 0, 1) := by decide +kernel
theorem dX2_wordOf_1 : decode cX2_wordOf 1 = .ok (.getfield 28, 3) := by decide +kernel
theorem dX2_wordOf_4 : decode cX2_wordOf 4 = .ok (.iconst 0, 1) := by decide +kernel
theorem dX2_wordOf_5 : decode cX2_wordOf 5 = .ok (.invokevirtual 35, 3) := by decide +kernel
theorem dX2_wordOf_8 : decode cX2_wordOf 8 = .ok (.iload_n 2, 1) := by decide +kernel
theorem dX2_wordOf_9 : decode cX2_wordOf 9 = .ok (.istore 5, 2) := by decide +kernel
theorem dX2_wordOf_11 : decode cX2_wordOf 11 = .ok (.iload 5, 2) := by decide +kernel
theorem dX2_wordOf_13 : decode cX2_wordOf 13 = .ok (.iload_n 3, 1) := by decide +kernel
theorem dX2_wordOf_14 : decode cX2_wordOf 14 = .ok (.if_icmp .ge 83, 3) := by decide +kernel
theorem dX2_wordOf_17 : decode cX2_wordOf 17 = .ok (.aload_n 0, 1) := by decide +kernel
theorem dX2_wordOf_18 : decode cX2_wordOf 18 = .ok (.getfield 28, 3) := by decide +kernel
theorem dX2_wordOf_21 : decode cX2_wordOf 21 = .ok (.invokevirtual 38, 3) := by decide +kernel
theorem dX2_wordOf_24 : decode cX2_wordOf 24 = .ok (.aload_n 0, 1) := by decide +kernel
theorem dX2_wordOf_25 : decode cX2_wordOf 25 = .ok (.getfield 15, 3) := by decide +kernel
theorem dX2_wordOf_28 : decode cX2_wordOf 28 = .ok (.if_icmp .ge 69, 3) := by decide +kernel
theorem dX2_wordOf_31 : decode cX2_wordOf 31 = .ok (.aload_n 1, 1) := by decide +kernel
theorem dX2_wordOf_32 : decode cX2_wordOf 32 = .ok (.iload 5, 2) := by decide +kernel
theorem dX2_wordOf_34 : decode cX2_wordOf 34 = .ok (.invokevirtual 41, 3) := by decide +kernel
theorem dX2_wordOf_37 : decode cX2_wordOf 37 = .ok (.istore 6, 2) := by decide +kernel
theorem dX2_wordOf_39 : decode cX2_wordOf 39 = .ok (.iload 6, 2) := by decide +kernel
theorem dX2_wordOf_41 : decode cX2_wordOf 41 = .ok (.bipush 65, 2) := by decide +kernel
theorem dX2_wordOf_43 : decode cX2_wordOf 43 = .ok (.if_icmp .lt 14, 3) := by decide +kernel
theorem dX2_wordOf_46 : decode cX2_wordOf 46 = .ok (.iload 6, 2) := by decide +kernel
theorem dX2_wordOf_48 : decode cX2_wordOf 48 = .ok (.bipush 90, 2) := by decide +kernel
theorem dX2_wordOf_50 : decode cX2_wordOf 50 = .ok (.if_icmp .gt 7, 3) := by decide +kernel
theorem dX2_wordOf_53 : decode cX2_wordOf 53 = .ok (.iconst 1, 1) := by decide +kernel
theorem dX2_wordOf_54 : decode cX2_wordOf 54 = .ok (.goto 4, 3) := by decide +kernel
theorem dX2_wordOf_57 : decode cX2_wordOf 57 = .ok (.iconst 0, 1) := by decide +kernel
theorem dX2_wordOf_58 : decode cX2_wordOf 58 = .ok (.istore 7, 2) := by decide +kernel
theorem dX2_wordOf_60 : decode cX2_wordOf 60 = .ok (.aload_n 0, 1) := by decide +kernel
theorem dX2_wordOf_61 : decode cX2_wordOf 61 = .ok (.getfield 9, 3) := by decide +kernel
theorem dX2_wordOf_64 : decode cX2_wordOf 64 = .ok (.iload 4, 2) := by decide +kernel
theorem dX2_wordOf_66 : decode cX2_wordOf 66 = .ok (.ifCond .eq 16, 3) := by decide +kernel
theorem dX2_wordOf_69 : decode cX2_wordOf 69 = .ok (.iload 7, 2) := by decide +kernel
theorem dX2_wordOf_71 : decode cX2_wordOf 71 = .ok (.ifCond .eq 11, 3) := by decide +kernel
theorem dX2_wordOf_74 : decode cX2_wordOf 74 = .ok (.iload 6, 2) := by decide +kernel
theorem dX2_wordOf_76 : decode cX2_wordOf 76 = .ok (.bipush 32, 2) := by decide +kernel
theorem dX2_wordOf_78 : decode cX2_wordOf 78 = .ok (.iadd, 1) := by decide +kernel
theorem dX2_wordOf_79 : decode cX2_wordOf 79 = .ok (.goto 5, 3) := by decide +kernel
theorem dX2_wordOf_82 : decode cX2_wordOf 82 = .ok (.iload 6, 2) := by decide +kernel
theorem dX2_wordOf_84 : decode cX2_wordOf 84 = .ok (.aload_n 0, 1) := by decide +kernel
theorem dX2_wordOf_85 : decode cX2_wordOf 85 = .ok (.getfield 28, 3) := by decide +kernel
theorem dX2_wordOf_88 : decode cX2_wordOf 88 = .ok (.invokevirtual 45, 3) := by decide +kernel
theorem dX2_wordOf_91 : decode cX2_wordOf 91 = .ok (.iinc 5 1, 3) := by decide +kernel
theorem dX2_wordOf_94 : decode cX2_wordOf 94 = .ok (.goto (-83), 3) := by decide +kernel
theorem dX2_wordOf_97 : decode cX2_wordOf 97 = .ok (.lconst 0, 1) := by decide +kernel
theorem dX2_wordOf_98 : decode cX2_wordOf 98 = .ok (.lstore 5, 2) := by decide +kernel
theorem dX2_wordOf_100 : decode cX2_wordOf 100 = .ok (.iconst 0, 1) := by decide +kernel
theorem dX2_wordOf_101 : decode cX2_wordOf 101 = .ok (.istore 7, 2) := by decide +kernel
theorem dX2_wordOf_103 : decode cX2_wordOf 103 = .ok (.iload 7, 2) := by decide +kernel
theorem dX2_wordOf_105 : decode cX2_wordOf 105 = .ok (.aload_n 0, 1) := by decide +kernel
theorem dX2_wordOf_106 : decode cX2_wordOf 106 = .ok (.getfield 15, 3) := by decide +kernel
theorem dX2_wordOf_109 : decode cX2_wordOf 109 = .ok (.if_icmp .ge 42, 3) := by decide +kernel
theorem dX2_wordOf_112 : decode cX2_wordOf 112 = .ok (.lload 5, 2) := by decide +kernel
theorem dX2_wordOf_114 : decode cX2_wordOf 114 = .ok (.iconst 5, 1) := by decide +kernel
theorem dX2_wordOf_115 : decode cX2_wordOf 115 = .ok (.lshl, 1) := by decide +kernel
theorem dX2_wordOf_116 : decode cX2_wordOf 116 = .ok (.aload_n 0, 1) := by decide +kernel
theorem dX2_wordOf_117 : decode cX2_wordOf 117 = .ok (.getfield 28, 3) := by decide +kernel
theorem dX2_wordOf_120 : decode cX2_wordOf 120 = .ok (.iload 7, 2) := by decide +kernel
theorem dX2_wordOf_122 : decode cX2_wordOf 122 = .ok (.invokevirtual 51, 3) := by decide +kernel
theorem dX2_wordOf_125 : decode cX2_wordOf 125 = .ok (.ifCond .eq 15, 3) := by decide +kernel
theorem dX2_wordOf_128 : decode cX2_wordOf 128 = .ok (.aload_n 0, 1) := by decide +kernel
theorem dX2_wordOf_129 : decode cX2_wordOf 129 = .ok (.getfield 28, 3) := by decide +kernel
theorem dX2_wordOf_132 : decode cX2_wordOf 132 = .ok (.iload 7, 2) := by decide +kernel
theorem dX2_wordOf_134 : decode cX2_wordOf 134 = .ok (.invokevirtual 41, 3) := by decide +kernel
theorem dX2_wordOf_137 : decode cX2_wordOf 137 = .ok (.goto 4, 3) := by decide +kernel
theorem dX2_wordOf_140 : decode cX2_wordOf 140 = .ok (.iconst 5, 1) := by decide +kernel
theorem dX2_wordOf_141 : decode cX2_wordOf 141 = .ok (.i2l, 1) := by decide +kernel
theorem dX2_wordOf_142 : decode cX2_wordOf 142 = .ok (.lor, 1) := by decide +kernel
theorem dX2_wordOf_143 : decode cX2_wordOf 143 = .ok (.lstore 5, 2) := by decide +kernel
theorem dX2_wordOf_145 : decode cX2_wordOf 145 = .ok (.iinc 7 1, 3) := by decide +kernel
theorem dX2_wordOf_148 : decode cX2_wordOf 148 = .ok (.goto (-45), 3) := by decide +kernel
theorem dX2_wordOf_151 : decode cX2_wordOf 151 = .ok (.lload 5, 2) := by decide +kernel
theorem dX2_wordOf_153 : decode cX2_wordOf 153 = .ok (.lreturn, 1) := by decide +kernel
theorem dX2_number_0 : decode cX2_number 0 = .ok (.aload_n 0, 1) := by decide +kernel
theorem dX2_number_1 : decode cX2_number 1 = .ok (.lload_n 1, 1) := by decide +kernel
theorem dX2_number_2 : decode cX2_number 2 = .ok (.invokevirtual 55, 3) := by decide +kernel
theorem dX2_number_5 : decode cX2_number 5 = .ok (.istore_n 3, 1) := by decide +kernel
theorem dX2_number_6 : decode cX2_number 6 = .ok (.iload_n 3, 1) := by decide +kernel
theorem dX2_number_7 : decode cX2_number 7 = .ok (.ifCond .lt 5, 3) := by decide +kernel
theorem dX2_number_10 : decode cX2_number 10 = .ok (.iload_n 3, 1) := by decide +kernel
theorem dX2_number_11 : decode cX2_number 11 = .ok (.ireturn, 1) := by decide +kernel
theorem dX2_number_12 : decode cX2_number 12 = .ok (.aload_n 0, 1) := by decide +kernel
theorem dX2_number_13 : decode cX2_number 13 = .ok (.getfield 32, 3) := by decide +kernel
theorem dX2_number_16 : decode cX2_number 16 = .ok (.aload_n 0, 1) := by decide +kernel
theorem dX2_number_17 : decode cX2_number 17 = .ok (.getfield 19, 3) := by decide +kernel
theorem dX2_number_20 : decode cX2_number 20 = .ok (.arraylength, 1) := by decide +kernel
theorem dX2_number_21 : decode cX2_number 21 = .ok (.if_icmp .lt 6, 3) := by decide +kernel
theorem dX2_number_24 : decode cX2_number 24 = .ok (.bipush (-4), 2) := by decide +kernel
theorem dX2_number_26 : decode cX2_number 26 = .ok (.ireturn, 1) := by decide +kernel
theorem dX2_number_27 : decode cX2_number 27 = .ok (.aload_n 0, 1) := by decide +kernel
theorem dX2_number_28 : decode cX2_number 28 = .ok (.getfield 19, 3) := by decide +kernel
theorem dX2_number_31 : decode cX2_number 31 = .ok (.aload_n 0, 1) := by decide +kernel
theorem dX2_number_32 : decode cX2_number 32 = .ok (.getfield 32, 3) := by decide +kernel
theorem dX2_number_35 : decode cX2_number 35 = .ok (.lload_n 1, 1) := by decide +kernel
theorem dX2_number_36 : decode cX2_number 36 = .ok (.lastore, 1) := by decide +kernel
theorem dX2_number_37 : decode cX2_number 37 = .ok (.aload_n 0, 1) := by decide +kernel
theorem dX2_number_38 : decode cX2_number 38 = .ok (.dup, 1) := by decide +kernel
theorem dX2_number_39 : decode cX2_number 39 = .ok (.getfield 32, 3) := by decide +kernel
theorem dX2_number_42 : decode cX2_number 42 = .ok (.iconst 1, 1) := by decide +kernel
theorem dX2_number_43 : decode cX2_number 43 = .ok (.iadd, 1) := by decide +kernel
theorem dX2_number_44 : decode cX2_number 44 = .ok (.putfield 32, 3) := by decide +kernel
theorem dX2_number_47 : decode cX2_number 47 = .ok (.aload_n 0, 1) := by decide +kernel
theorem dX2_number_48 : decode cX2_number 48 = .ok (.getfield 32, 3) := by decide +kernel
theorem dX2_number_51 : decode cX2_number 51 = .ok (.iconst 1, 1) := by decide +kernel
theorem dX2_number_52 : decode cX2_number 52 = .ok (.isub, 1) := by decide +kernel
theorem dX2_number_53 : decode cX2_number 53 = .ok (.ireturn, 1) := by decide +kernel
theorem dX2_find_0 : decode cX2_find 0 = .ok (.iconst 0, 1) := by decide +kernel
theorem dX2_find_1 : decode cX2_find 1 = .ok (.istore_n 3, 1) := by decide +kernel
theorem dX2_find_2 : decode cX2_find 2 = .ok (.iload_n 3, 1) := by decide +kernel
theorem dX2_find_3 : decode cX2_find 3 = .ok (.aload_n 0, 1) := by decide +kernel
theorem dX2_find_4 : decode cX2_find 4 = .ok (.getfield 32, 3) := by decide +kernel
theorem dX2_find_7 : decode cX2_find 7 = .ok (.if_icmp .ge 22, 3) := by decide +kernel
theorem dX2_find_10 : decode cX2_find 10 = .ok (.aload_n 0, 1) := by decide +kernel
theorem dX2_find_11 : decode cX2_find 11 = .ok (.getfield 19, 3) := by decide +kernel
theorem dX2_find_14 : decode cX2_find 14 = .ok (.iload_n 3, 1) := by decide +kernel
theorem dX2_find_15 : decode cX2_find 15 = .ok (.laload, 1) := by decide +kernel
theorem dX2_find_16 : decode cX2_find 16 = .ok (.lload_n 1, 1) := by decide +kernel
theorem dX2_find_17 : decode cX2_find 17 = .ok (.lcmp, 1) := by decide +kernel
theorem dX2_find_18 : decode cX2_find 18 = .ok (.ifCond .ne 5, 3) := by decide +kernel
theorem dX2_find_21 : decode cX2_find 21 = .ok (.iload_n 3, 1) := by decide +kernel
theorem dX2_find_22 : decode cX2_find 22 = .ok (.ireturn, 1) := by decide +kernel
theorem dX2_find_23 : decode cX2_find 23 = .ok (.iinc 3 1, 3) := by decide +kernel
theorem dX2_find_26 : decode cX2_find 26 = .ok (.goto (-24), 3) := by decide +kernel
theorem dX2_find_29 : decode cX2_find 29 = .ok (.iconst (-1), 1) := by decide +kernel
theorem dX2_find_30 : decode cX2_find 30 = .ok (.ireturn, 1) := by decide +kernel
theorem dX7_wordByte_0 : decode cX7_wordByte 0 = .ok (.aload_n 0, 1) := by decide +kernel
theorem dX7_wordByte_1 : decode cX7_wordByte 1 = .ok (.getfield 77, 3) := by decide +kernel
theorem dX7_wordByte_4 : decode cX7_wordByte 4 = .ok (.iload_n 1, 1) := by decide +kernel
theorem dX7_wordByte_5 : decode cX7_wordByte 5 = .ok (.iload_n 2, 1) := by decide +kernel
theorem dX7_wordByte_6 : decode cX7_wordByte 6 = .ok (.invokevirtual 152, 3) := by decide +kernel
theorem dX7_wordByte_9 : decode cX7_wordByte 9 = .ok (.ireturn, 1) := by decide +kernel
theorem dX2_byteOf_0 : decode cX2_byteOf 0 = .ok (.aload_n 0, 1) := by decide +kernel
theorem dX2_byteOf_1 : decode cX2_byteOf 1 = .ok (.getfield 15, 3) := by decide +kernel
theorem dX2_byteOf_4 : decode cX2_byteOf 4 = .ok (.iconst 3, 1) := by decide +kernel
theorem dX2_byteOf_5 : decode cX2_byteOf 5 = .ok (.idiv, 1) := by decide +kernel
theorem dX2_byteOf_6 : decode cX2_byteOf 6 = .ok (.istore_n 3, 1) := by decide +kernel
theorem dX2_byteOf_7 : decode cX2_byteOf 7 = .ok (.iload_n 1, 1) := by decide +kernel
theorem dX2_byteOf_8 : decode cX2_byteOf 8 = .ok (.ifCond .lt 22, 3) := by decide +kernel
theorem dX2_byteOf_11 : decode cX2_byteOf 11 = .ok (.iload_n 1, 1) := by decide +kernel
theorem dX2_byteOf_12 : decode cX2_byteOf 12 = .ok (.aload_n 0, 1) := by decide +kernel
theorem dX2_byteOf_13 : decode cX2_byteOf 13 = .ok (.getfield 32, 3) := by decide +kernel
theorem dX2_byteOf_16 : decode cX2_byteOf 16 = .ok (.if_icmp .ge 14, 3) := by decide +kernel
theorem dX2_byteOf_19 : decode cX2_byteOf 19 = .ok (.iload_n 2, 1) := by decide +kernel
theorem dX2_byteOf_20 : decode cX2_byteOf 20 = .ok (.ifCond .lt 10, 3) := by decide +kernel
theorem dX2_byteOf_23 : decode cX2_byteOf 23 = .ok (.iload_n 2, 1) := by decide +kernel
theorem dX2_byteOf_24 : decode cX2_byteOf 24 = .ok (.iconst 2, 1) := by decide +kernel
theorem dX2_byteOf_25 : decode cX2_byteOf 25 = .ok (.iload_n 3, 1) := by decide +kernel
theorem dX2_byteOf_26 : decode cX2_byteOf 26 = .ok (.imul, 1) := by decide +kernel
theorem dX2_byteOf_27 : decode cX2_byteOf 27 = .ok (.if_icmp .lt 5, 3) := by decide +kernel
theorem dX2_byteOf_30 : decode cX2_byteOf 30 = .ok (.iconst (-1), 1) := by decide +kernel
theorem dX2_byteOf_31 : decode cX2_byteOf 31 = .ok (.ireturn, 1) := by decide +kernel
theorem dX2_byteOf_32 : decode cX2_byteOf 32 = .ok (.iload_n 3, 1) := by decide +kernel
theorem dX2_byteOf_33 : decode cX2_byteOf 33 = .ok (.iconst 1, 1) := by decide +kernel
theorem dX2_byteOf_34 : decode cX2_byteOf 34 = .ok (.isub, 1) := by decide +kernel
theorem dX2_byteOf_35 : decode cX2_byteOf 35 = .ok (.iload_n 2, 1) := by decide +kernel
theorem dX2_byteOf_36 : decode cX2_byteOf 36 = .ok (.iconst 2, 1) := by decide +kernel
theorem dX2_byteOf_37 : decode cX2_byteOf 37 = .ok (.idiv, 1) := by decide +kernel
theorem dX2_byteOf_38 : decode cX2_byteOf 38 = .ok (.isub, 1) := by decide +kernel
theorem dX2_byteOf_39 : decode cX2_byteOf 39 = .ok (.istore 4, 2) := by decide +kernel
theorem dX2_byteOf_41 : decode cX2_byteOf 41 = .ok (.aload_n 0, 1) := by decide +kernel
theorem dX2_byteOf_42 : decode cX2_byteOf 42 = .ok (.getfield 19, 3) := by decide +kernel
theorem dX2_byteOf_45 : decode cX2_byteOf 45 = .ok (.iload_n 1, 1) := by decide +kernel
theorem dX2_byteOf_46 : decode cX2_byteOf 46 = .ok (.laload, 1) := by decide +kernel
theorem dX2_byteOf_47 : decode cX2_byteOf 47 = .ok (.bipush 15, 2) := by decide +kernel
theorem dX2_byteOf_49 : decode cX2_byteOf 49 = .ok (.iload 4, 2) := by decide +kernel
theorem dX2_byteOf_51 : decode cX2_byteOf 51 = .ok (.imul, 1) := by decide +kernel
theorem dX2_byteOf_52 : decode cX2_byteOf 52 = .ok (.lshr, 1) := by decide +kernel
theorem dX2_byteOf_53 : decode cX2_byteOf 53 = .ok (.l2i, 1) := by decide +kernel
theorem dX2_byteOf_54 : decode cX2_byteOf 54 = .ok (.sipush 32767, 3) := by decide +kernel
theorem dX2_byteOf_57 : decode cX2_byteOf 57 = .ok (.iand, 1) := by decide +kernel
theorem dX2_byteOf_58 : decode cX2_byteOf 58 = .ok (.istore 5, 2) := by decide +kernel
theorem dX2_byteOf_60 : decode cX2_byteOf 60 = .ok (.iload 4, 2) := by decide +kernel
theorem dX2_byteOf_62 : decode cX2_byteOf 62 = .ok (.ifCond .ne 10, 3) := by decide +kernel
theorem dX2_byteOf_65 : decode cX2_byteOf 65 = .ok (.iload 5, 2) := by decide +kernel
theorem dX2_byteOf_67 : decode cX2_byteOf 67 = .ok (.ldc 59, 2) := by decide +kernel
theorem dX2_byteOf_69 : decode cX2_byteOf 69 = .ok (.ior, 1) := by decide +kernel
theorem dX2_byteOf_70 : decode cX2_byteOf 70 = .ok (.istore 5, 2) := by decide +kernel
theorem dX2_byteOf_72 : decode cX2_byteOf 72 = .ok (.iload_n 2, 1) := by decide +kernel
theorem dX2_byteOf_73 : decode cX2_byteOf 73 = .ok (.iconst 2, 1) := by decide +kernel
theorem dX2_byteOf_74 : decode cX2_byteOf 74 = .ok (.irem, 1) := by decide +kernel
theorem dX2_byteOf_75 : decode cX2_byteOf 75 = .ok (.ifCond .ne 11, 3) := by decide +kernel
theorem dX2_byteOf_78 : decode cX2_byteOf 78 = .ok (.iload 5, 2) := by decide +kernel
theorem dX2_byteOf_80 : decode cX2_byteOf 80 = .ok (.bipush 8, 2) := by decide +kernel
theorem dX2_byteOf_82 : decode cX2_byteOf 82 = .ok (.ishr, 1) := by decide +kernel
theorem dX2_byteOf_83 : decode cX2_byteOf 83 = .ok (.goto 9, 3) := by decide +kernel
theorem dX2_byteOf_86 : decode cX2_byteOf 86 = .ok (.iload 5, 2) := by decide +kernel
theorem dX2_byteOf_88 : decode cX2_byteOf 88 = .ok (.sipush 255, 3) := by decide +kernel
theorem dX2_byteOf_91 : decode cX2_byteOf 91 = .ok (.iand, 1) := by decide +kernel
theorem dX2_byteOf_92 : decode cX2_byteOf 92 = .ok (.ireturn, 1) := by decide +kernel
theorem dX7_words_0 : decode cX7_words 0 = .ok (.aload_n 0, 1) := by decide +kernel
theorem dX7_words_1 : decode cX7_words 1 = .ok (.getfield 77, 3) := by decide +kernel
theorem dX7_words_4 : decode cX7_words 4 = .ok (.invokevirtual 155, 3) := by decide +kernel
theorem dX7_words_7 : decode cX7_words 7 = .ok (.ireturn, 1) := by decide +kernel
theorem dX2_count_0 : decode cX2_count 0 = .ok (.aload_n 0, 1) := by decide +kernel
theorem dX2_count_1 : decode cX2_count 1 = .ok (.getfield 32, 3) := by decide +kernel
theorem dX2_count_4 : decode cX2_count 4 = .ok (.ireturn, 1) := by decide +kernel
theorem dX7_separator_0 : decode cX7_separator 0 = .ok (.iload_n 1, 1) := by decide +kernel
theorem dX7_separator_1 : decode cX7_separator 1 = .ok (.invokestatic 114, 3) := by decide +kernel
theorem dX7_separator_4 : decode cX7_separator 4 = .ok (.ifCond .eq 9, 3) := by decide +kernel
theorem dX7_separator_7 : decode cX7_separator 7 = .ok (.iload_n 1, 1) := by decide +kernel
theorem dX7_separator_8 : decode cX7_separator 8 = .ok (.bipush 32, 2) := by decide +kernel
theorem dX7_separator_10 : decode cX7_separator 10 = .ok (.if_icmp .ne 6, 3) := by decide +kernel
theorem dX7_separator_13 : decode cX7_separator 13 = .ok (.bipush (-2), 2) := by decide +kernel
theorem dX7_separator_15 : decode cX7_separator 15 = .ok (.ireturn, 1) := by decide +kernel
theorem dX7_separator_16 : decode cX7_separator 16 = .ok (.aload_n 0, 1) := by decide +kernel
theorem dX7_separator_17 : decode cX7_separator 17 = .ok (.getfield 86, 3) := by decide +kernel
theorem dX7_separator_20 : decode cX7_separator 20 = .ok (.iload_n 1, 1) := by decide +kernel
theorem dX7_separator_21 : decode cX7_separator 21 = .ok (.iload_n 2, 1) := by decide +kernel
theorem dX7_separator_22 : decode cX7_separator 22 = .ok (.invokevirtual 156, 3) := by decide +kernel
theorem dX7_separator_25 : decode cX7_separator 25 = .ok (.ifCond .eq 7, 3) := by decide +kernel
theorem dX7_separator_28 : decode cX7_separator 28 = .ok (.iconst 1, 1) := by decide +kernel
theorem dX7_separator_29 : decode cX7_separator 29 = .ok (.goto 4, 3) := by decide +kernel
theorem dX7_separator_32 : decode cX7_separator 32 = .ok (.iconst 0, 1) := by decide +kernel
theorem dX7_separator_33 : decode cX7_separator 33 = .ok (.ireturn, 1) := by decide +kernel
theorem dX3_separate_0 : decode cX3_separate 0 = .ok (.aload_n 0, 1) := by decide +kernel
theorem dX3_separate_1 : decode cX3_separate 1 = .ok (.iload_n 1, 1) := by decide +kernel
theorem dX3_separate_2 : decode cX3_separate 2 = .ok (.invokevirtual 34, 3) := by decide +kernel
theorem dX3_separate_5 : decode cX3_separate 5 = .ok (.istore_n 3, 1) := by decide +kernel
theorem dX3_separate_6 : decode cX3_separate 6 = .ok (.iload_n 1, 1) := by decide +kernel
theorem dX3_separate_7 : decode cX3_separate 7 = .ok (.invokestatic 38, 3) := by decide +kernel
theorem dX3_separate_10 : decode cX3_separate 10 = .ok (.ifCond .eq 10, 3) := by decide +kernel
theorem dX3_separate_13 : decode cX3_separate 13 = .ok (.aload_n 0, 1) := by decide +kernel
theorem dX3_separate_14 : decode cX3_separate 14 = .ok (.getfield 15, 3) := by decide +kernel
theorem dX3_separate_17 : decode cX3_separate 17 = .ok (.iload_n 1, 1) := by decide +kernel
theorem dX3_separate_18 : decode cX3_separate 18 = .ok (.iload_n 2, 1) := by decide +kernel
theorem dX3_separate_19 : decode cX3_separate 19 = .ok (.bastore, 1) := by decide +kernel
theorem dX3_separate_20 : decode cX3_separate 20 = .ok (.iload_n 3, 1) := by decide +kernel
theorem dX3_separate_21 : decode cX3_separate 21 = .ok (.ireturn, 1) := by decide +kernel
theorem dX3_isSeparator_0 : decode cX3_isSeparator 0 = .ok (.iload_n 1, 1) := by decide +kernel
theorem dX3_isSeparator_1 : decode cX3_isSeparator 1 = .ok (.invokestatic 38, 3) := by decide +kernel
theorem dX3_isSeparator_4 : decode cX3_isSeparator 4 = .ok (.ifCond .eq 16, 3) := by decide +kernel
theorem dX3_isSeparator_7 : decode cX3_isSeparator 7 = .ok (.aload_n 0, 1) := by decide +kernel
theorem dX3_isSeparator_8 : decode cX3_isSeparator 8 = .ok (.getfield 15, 3) := by decide +kernel
theorem dX3_isSeparator_11 : decode cX3_isSeparator 11 = .ok (.iload_n 1, 1) := by decide +kernel
theorem dX3_isSeparator_12 : decode cX3_isSeparator 12 = .ok (.baload, 1) := by decide +kernel
theorem dX3_isSeparator_13 : decode cX3_isSeparator 13 = .ok (.ifCond .eq 7, 3) := by decide +kernel
theorem dX3_isSeparator_16 : decode cX3_isSeparator 16 = .ok (.iconst 1, 1) := by decide +kernel
theorem dX3_isSeparator_17 : decode cX3_isSeparator 17 = .ok (.goto 4, 3) := by decide +kernel
theorem dX3_isSeparator_20 : decode cX3_isSeparator 20 = .ok (.iconst 0, 1) := by decide +kernel
theorem dX3_isSeparator_21 : decode cX3_isSeparator 21 = .ok (.ireturn, 1) := by decide +kernel
theorem dX7_part_0 : decode cX7_part 0 = .ok (.aload_n 0, 1) := by decide +kernel
theorem dX7_part_1 : decode cX7_part 1 = .ok (.getfield 86, 3) := by decide +kernel
theorem dX7_part_4 : decode cX7_part 4 = .ok (.aload_n 0, 1) := by decide +kernel
theorem dX7_part_5 : decode cX7_part 5 = .ok (.getfield 31, 3) := by decide +kernel
theorem dX7_part_8 : decode cX7_part 8 = .ok (.invokevirtual 160, 3) := by decide +kernel
theorem dX7_part_11 : decode cX7_part 11 = .ok (.ireturn, 1) := by decide +kernel
theorem dX3_partRow_0 : decode cX3_partRow 0 = .ok (.aload_n 0, 1) := by decide +kernel
theorem dX3_partRow_1 : decode cX3_partRow 1 = .ok (.getfield 24, 3) := by decide +kernel
theorem dX3_partRow_4 : decode cX3_partRow 4 = .ok (.iconst 0, 1) := by decide +kernel
theorem dX3_partRow_5 : decode cX3_partRow 5 = .ok (.invokevirtual 41, 3) := by decide +kernel
theorem dX3_partRow_8 : decode cX3_partRow 8 = .ok (.aload_n 0, 1) := by decide +kernel
theorem dX3_partRow_9 : decode cX3_partRow 9 = .ok (.getfield 28, 3) := by decide +kernel
theorem dX3_partRow_12 : decode cX3_partRow 12 = .ok (.iconst 0, 1) := by decide +kernel
theorem dX3_partRow_13 : decode cX3_partRow 13 = .ok (.invokevirtual 41, 3) := by decide +kernel
theorem dX3_partRow_16 : decode cX3_partRow 16 = .ok (.aload_n 0, 1) := by decide +kernel
theorem dX3_partRow_17 : decode cX3_partRow 17 = .ok (.getfield 31, 3) := by decide +kernel
theorem dX3_partRow_20 : decode cX3_partRow 20 = .ok (.iconst 0, 1) := by decide +kernel
theorem dX3_partRow_21 : decode cX3_partRow 21 = .ok (.invokevirtual 41, 3) := by decide +kernel
theorem dX3_partRow_24 : decode cX3_partRow 24 = .ok (.iconst 0, 1) := by decide +kernel
theorem dX3_partRow_25 : decode cX3_partRow 25 = .ok (.istore_n 2, 1) := by decide +kernel
theorem dX3_partRow_26 : decode cX3_partRow 26 = .ok (.iconst 0, 1) := by decide +kernel
theorem dX3_partRow_27 : decode cX3_partRow 27 = .ok (.istore_n 3, 1) := by decide +kernel
theorem dX3_partRow_28 : decode cX3_partRow 28 = .ok (.iload_n 3, 1) := by decide +kernel
theorem dX3_partRow_29 : decode cX3_partRow 29 = .ok (.aload_n 1, 1) := by decide +kernel
theorem dX3_partRow_30 : decode cX3_partRow 30 = .ok (.invokevirtual 44, 3) := by decide +kernel
theorem dX3_partRow_33 : decode cX3_partRow 33 = .ok (.if_icmp .ge 76, 3) := by decide +kernel
theorem dX3_partRow_36 : decode cX3_partRow 36 = .ok (.aload_n 1, 1) := by decide +kernel
theorem dX3_partRow_37 : decode cX3_partRow 37 = .ok (.iload_n 3, 1) := by decide +kernel
theorem dX3_partRow_38 : decode cX3_partRow 38 = .ok (.invokevirtual 48, 3) := by decide +kernel
theorem dX3_partRow_41 : decode cX3_partRow 41 = .ok (.istore 4, 2) := by decide +kernel
theorem dX3_partRow_43 : decode cX3_partRow 43 = .ok (.iload 4, 2) := by decide +kernel
theorem dX3_partRow_45 : decode cX3_partRow 45 = .ok (.bipush 32, 2) := by decide +kernel
theorem dX3_partRow_47 : decode cX3_partRow 47 = .ok (.if_icmp .eq 12, 3) := by decide +kernel
theorem dX3_partRow_50 : decode cX3_partRow 50 = .ok (.aload_n 0, 1) := by decide +kernel
theorem dX3_partRow_51 : decode cX3_partRow 51 = .ok (.iload 4, 2) := by decide +kernel
theorem dX3_partRow_53 : decode cX3_partRow 53 = .ok (.invokevirtual 34, 3) := by decide +kernel
theorem dX3_partRow_56 : decode cX3_partRow 56 = .ok (.ifCond .eq 25, 3) := by decide +kernel
theorem dX3_partRow_59 : decode cX3_partRow 59 = .ok (.aload_n 0, 1) := by decide +kernel
theorem dX3_partRow_60 : decode cX3_partRow 60 = .ok (.aload_n 1, 1) := by decide +kernel
theorem dX3_partRow_61 : decode cX3_partRow 61 = .ok (.iload_n 2, 1) := by decide +kernel
theorem dX3_partRow_62 : decode cX3_partRow 62 = .ok (.iload_n 3, 1) := by decide +kernel
theorem dX3_partRow_63 : decode cX3_partRow 63 = .ok (.invokevirtual 52, 3) := by decide +kernel
theorem dX3_partRow_66 : decode cX3_partRow 66 = .ok (.iload 4, 2) := by decide +kernel
theorem dX3_partRow_68 : decode cX3_partRow 68 = .ok (.bipush 32, 2) := by decide +kernel
theorem dX3_partRow_70 : decode cX3_partRow 70 = .ok (.if_icmp .ne 9, 3) := by decide +kernel
theorem dX3_partRow_73 : decode cX3_partRow 73 = .ok (.iload_n 3, 1) := by decide +kernel
theorem dX3_partRow_74 : decode cX3_partRow 74 = .ok (.iconst 1, 1) := by decide +kernel
theorem dX3_partRow_75 : decode cX3_partRow 75 = .ok (.iadd, 1) := by decide +kernel
theorem dX3_partRow_76 : decode cX3_partRow 76 = .ok (.goto 4, 3) := by decide +kernel
theorem dX3_partRow_79 : decode cX3_partRow 79 = .ok (.iload_n 3, 1) := by decide +kernel
theorem dX3_partRow_80 : decode cX3_partRow 80 = .ok (.istore_n 2, 1) := by decide +kernel
theorem dX3_partRow_81 : decode cX3_partRow 81 = .ok (.aload_n 0, 1) := by decide +kernel
theorem dX3_partRow_82 : decode cX3_partRow 82 = .ok (.iload 4, 2) := by decide +kernel
theorem dX3_partRow_84 : decode cX3_partRow 84 = .ok (.invokevirtual 34, 3) := by decide +kernel
theorem dX3_partRow_87 : decode cX3_partRow 87 = .ok (.ifCond .eq 16, 3) := by decide +kernel
theorem dX3_partRow_90 : decode cX3_partRow 90 = .ok (.aload_n 0, 1) := by decide +kernel
theorem dX3_partRow_91 : decode cX3_partRow 91 = .ok (.aload_n 1, 1) := by decide +kernel
theorem dX3_partRow_92 : decode cX3_partRow 92 = .ok (.iload_n 3, 1) := by decide +kernel
theorem dX3_partRow_93 : decode cX3_partRow 93 = .ok (.iload_n 3, 1) := by decide +kernel
theorem dX3_partRow_94 : decode cX3_partRow 94 = .ok (.iconst 1, 1) := by decide +kernel
theorem dX3_partRow_95 : decode cX3_partRow 95 = .ok (.iadd, 1) := by decide +kernel
theorem dX3_partRow_96 : decode cX3_partRow 96 = .ok (.invokevirtual 52, 3) := by decide +kernel
theorem dX3_partRow_99 : decode cX3_partRow 99 = .ok (.iload_n 3, 1) := by decide +kernel
theorem dX3_partRow_100 : decode cX3_partRow 100 = .ok (.iconst 1, 1) := by decide +kernel
theorem dX3_partRow_101 : decode cX3_partRow 101 = .ok (.iadd, 1) := by decide +kernel
theorem dX3_partRow_102 : decode cX3_partRow 102 = .ok (.istore_n 2, 1) := by decide +kernel
theorem dX3_partRow_103 : decode cX3_partRow 103 = .ok (.iinc 3 1, 3) := by decide +kernel
theorem dX3_partRow_106 : decode cX3_partRow 106 = .ok (.goto (-78), 3) := by decide +kernel
theorem dX3_partRow_109 : decode cX3_partRow 109 = .ok (.aload_n 0, 1) := by decide +kernel
theorem dX3_partRow_110 : decode cX3_partRow 110 = .ok (.aload_n 1, 1) := by decide +kernel
theorem dX3_partRow_111 : decode cX3_partRow 111 = .ok (.iload_n 2, 1) := by decide +kernel
theorem dX3_partRow_112 : decode cX3_partRow 112 = .ok (.aload_n 1, 1) := by decide +kernel
theorem dX3_partRow_113 : decode cX3_partRow 113 = .ok (.invokevirtual 44, 3) := by decide +kernel
theorem dX3_partRow_116 : decode cX3_partRow 116 = .ok (.invokevirtual 52, 3) := by decide +kernel
theorem dX3_partRow_119 : decode cX3_partRow 119 = .ok (.aload_n 0, 1) := by decide +kernel
theorem dX3_partRow_120 : decode cX3_partRow 120 = .ok (.getfield 24, 3) := by decide +kernel
theorem dX3_partRow_123 : decode cX3_partRow 123 = .ok (.invokevirtual 44, 3) := by decide +kernel
theorem dX3_partRow_126 : decode cX3_partRow 126 = .ok (.ireturn, 1) := by decide +kernel
theorem dX3_addToken_0 : decode cX3_addToken 0 = .ok (.iload_n 2, 1) := by decide +kernel
theorem dX3_addToken_1 : decode cX3_addToken 1 = .ok (.iload_n 3, 1) := by decide +kernel
theorem dX3_addToken_2 : decode cX3_addToken 2 = .ok (.if_icmp .lt 4, 3) := by decide +kernel
theorem dX3_addToken_5 : decode cX3_addToken 5 = .ok (.return_, 1) := by decide +kernel
theorem dX3_addToken_6 : decode cX3_addToken 6 = .ok (.aload_n 0, 1) := by decide +kernel
theorem dX3_addToken_7 : decode cX3_addToken 7 = .ok (.getfield 24, 3) := by decide +kernel
theorem dX3_addToken_10 : decode cX3_addToken 10 = .ok (.iload_n 2, 1) := by decide +kernel
theorem dX3_addToken_11 : decode cX3_addToken 11 = .ok (.invokevirtual 59, 3) := by decide +kernel
theorem dX3_addToken_14 : decode cX3_addToken 14 = .ok (.pop, 1) := by decide +kernel
theorem dX3_addToken_15 : decode cX3_addToken 15 = .ok (.aload_n 0, 1) := by decide +kernel
theorem dX3_addToken_16 : decode cX3_addToken 16 = .ok (.getfield 28, 3) := by decide +kernel
theorem dX3_addToken_19 : decode cX3_addToken 19 = .ok (.iload_n 3, 1) := by decide +kernel
theorem dX3_addToken_20 : decode cX3_addToken 20 = .ok (.iload_n 2, 1) := by decide +kernel
theorem dX3_addToken_21 : decode cX3_addToken 21 = .ok (.isub, 1) := by decide +kernel
theorem dX3_addToken_22 : decode cX3_addToken 22 = .ok (.invokevirtual 59, 3) := by decide +kernel
theorem dX3_addToken_25 : decode cX3_addToken 25 = .ok (.pop, 1) := by decide +kernel
theorem dX3_addToken_26 : decode cX3_addToken 26 = .ok (.aload_n 0, 1) := by decide +kernel
theorem dX3_addToken_27 : decode cX3_addToken 27 = .ok (.getfield 31, 3) := by decide +kernel
theorem dX3_addToken_30 : decode cX3_addToken 30 = .ok (.aload_n 0, 1) := by decide +kernel
theorem dX3_addToken_31 : decode cX3_addToken 31 = .ok (.getfield 9, 3) := by decide +kernel
theorem dX3_addToken_34 : decode cX3_addToken 34 = .ok (.aload_n 0, 1) := by decide +kernel
theorem dX3_addToken_35 : decode cX3_addToken 35 = .ok (.getfield 9, 3) := by decide +kernel
theorem dX3_addToken_38 : decode cX3_addToken 38 = .ok (.aload_n 1, 1) := by decide +kernel
theorem dX3_addToken_39 : decode cX3_addToken 39 = .ok (.iload_n 2, 1) := by decide +kernel
theorem dX3_addToken_40 : decode cX3_addToken 40 = .ok (.iload_n 3, 1) := by decide +kernel
theorem dX3_addToken_41 : decode cX3_addToken 41 = .ok (.iconst 1, 1) := by decide +kernel
theorem dX3_addToken_42 : decode cX3_addToken 42 = .ok (.invokevirtual 62, 3) := by decide +kernel
theorem dX3_addToken_45 : decode cX3_addToken 45 = .ok (.invokevirtual 68, 3) := by decide +kernel
theorem dX3_addToken_48 : decode cX3_addToken 48 = .ok (.invokevirtual 59, 3) := by decide +kernel
theorem dX3_addToken_51 : decode cX3_addToken 51 = .ok (.pop, 1) := by decide +kernel
theorem dX3_addToken_52 : decode cX3_addToken 52 = .ok (.return_, 1) := by decide +kernel
theorem dX7_token_0 : decode cX7_token 0 = .ok (.aload_n 0, 1) := by decide +kernel
theorem dX7_token_1 : decode cX7_token 1 = .ok (.getfield 86, 3) := by decide +kernel
theorem dX7_token_4 : decode cX7_token 4 = .ok (.iload_n 1, 1) := by decide +kernel
theorem dX7_token_5 : decode cX7_token 5 = .ok (.iload_n 2, 1) := by decide +kernel
theorem dX7_token_6 : decode cX7_token 6 = .ok (.invokevirtual 164, 3) := by decide +kernel
theorem dX7_token_9 : decode cX7_token 9 = .ok (.ireturn, 1) := by decide +kernel
theorem dX3_tokenValue_0 : decode cX3_tokenValue 0 = .ok (.aload_n 0, 1) := by decide +kernel
theorem dX3_tokenValue_1 : decode cX3_tokenValue 1 = .ok (.getfield 24, 3) := by decide +kernel
theorem dX3_tokenValue_4 : decode cX3_tokenValue 4 = .ok (.iload_n 1, 1) := by decide +kernel
theorem dX3_tokenValue_5 : decode cX3_tokenValue 5 = .ok (.invokevirtual 56, 3) := by decide +kernel
theorem dX3_tokenValue_8 : decode cX3_tokenValue 8 = .ok (.ifCond .ne 5, 3) := by decide +kernel
theorem dX3_tokenValue_11 : decode cX3_tokenValue 11 = .ok (.iconst (-1), 1) := by decide +kernel
theorem dX3_tokenValue_12 : decode cX3_tokenValue 12 = .ok (.ireturn, 1) := by decide +kernel
theorem dX3_tokenValue_13 : decode cX3_tokenValue 13 = .ok (.iload_n 2, 1) := by decide +kernel
theorem dX3_tokenValue_14 : decode cX3_tokenValue 14 = .ok (.tableswitch 53 0 2 #[26, 35, 44], 26) := by decide +kernel
theorem dX3_tokenValue_40 : decode cX3_tokenValue 40 = .ok (.aload_n 0, 1) := by decide +kernel
theorem dX3_tokenValue_41 : decode cX3_tokenValue 41 = .ok (.getfield 24, 3) := by decide +kernel
theorem dX3_tokenValue_44 : decode cX3_tokenValue 44 = .ok (.iload_n 1, 1) := by decide +kernel
theorem dX3_tokenValue_45 : decode cX3_tokenValue 45 = .ok (.invokevirtual 48, 3) := by decide +kernel
theorem dX3_tokenValue_48 : decode cX3_tokenValue 48 = .ok (.ireturn, 1) := by decide +kernel
theorem dX3_tokenValue_49 : decode cX3_tokenValue 49 = .ok (.aload_n 0, 1) := by decide +kernel
theorem dX3_tokenValue_50 : decode cX3_tokenValue 50 = .ok (.getfield 28, 3) := by decide +kernel
theorem dX3_tokenValue_53 : decode cX3_tokenValue 53 = .ok (.iload_n 1, 1) := by decide +kernel
theorem dX3_tokenValue_54 : decode cX3_tokenValue 54 = .ok (.invokevirtual 48, 3) := by decide +kernel
theorem dX3_tokenValue_57 : decode cX3_tokenValue 57 = .ok (.ireturn, 1) := by decide +kernel
theorem dX3_tokenValue_58 : decode cX3_tokenValue 58 = .ok (.aload_n 0, 1) := by decide +kernel
theorem dX3_tokenValue_59 : decode cX3_tokenValue 59 = .ok (.getfield 31, 3) := by decide +kernel
theorem dX3_tokenValue_62 : decode cX3_tokenValue 62 = .ok (.iload_n 1, 1) := by decide +kernel
theorem dX3_tokenValue_63 : decode cX3_tokenValue 63 = .ok (.invokevirtual 48, 3) := by decide +kernel
theorem dX3_tokenValue_66 : decode cX3_tokenValue 66 = .ok (.ireturn, 1) := by decide +kernel
theorem dX3_tokenValue_67 : decode cX3_tokenValue 67 = .ok (.bipush (-2), 2) := by decide +kernel
theorem dX3_tokenValue_69 : decode cX3_tokenValue 69 = .ok (.ireturn, 1) := by decide +kernel
