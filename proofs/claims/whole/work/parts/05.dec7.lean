theorem dX7_init_0 : decode cX7_init 0 = .ok (.aload_n 0, 1) := by decide +kernel
theorem dX7_init_1 : decode cX7_init 1 = .ok (.invokespecial 1, 3) := by decide +kernel
theorem dX7_init_4 : decode cX7_init 4 = .ok (.aload_n 0, 1) := by decide +kernel
theorem dX7_init_5 : decode cX7_init 5 = .ok (.iconst 4, 1) := by decide +kernel
theorem dX7_init_6 : decode cX7_init 6 = .ok (.newarray .int, 2) := by decide +kernel
theorem dX7_init_8 : decode cX7_init 8 = .ok (.putfield 7, 3) := by decide +kernel
theorem dX7_init_11 : decode cX7_init 11 = .ok (.aload_n 0, 1) := by decide +kernel
theorem dX7_init_12 : decode cX7_init 12 = .ok (.iconst 4, 1) := by decide +kernel
theorem dX7_init_13 : decode cX7_init 13 = .ok (.newarray .int, 2) := by decide +kernel
theorem dX7_init_15 : decode cX7_init 15 = .ok (.putfield 13, 3) := by decide +kernel
theorem dX7_init_18 : decode cX7_init 18 = .ok (.aload_n 0, 1) := by decide +kernel
theorem dX7_init_19 : decode cX7_init 19 = .ok (.iconst 4, 1) := by decide +kernel
theorem dX7_init_20 : decode cX7_init 20 = .ok (.newarray .int, 2) := by decide +kernel
theorem dX7_init_22 : decode cX7_init 22 = .ok (.putfield 16, 3) := by decide +kernel
theorem dX7_init_25 : decode cX7_init 25 = .ok (.aload_n 0, 1) := by decide +kernel
theorem dX7_init_26 : decode cX7_init 26 = .ok (.iconst 4, 1) := by decide +kernel
theorem dX7_init_27 : decode cX7_init 27 = .ok (.newarray .int, 2) := by decide +kernel
theorem dX7_init_29 : decode cX7_init 29 = .ok (.putfield 19, 3) := by decide +kernel
theorem dX7_init_32 : decode cX7_init 32 = .ok (.aload_n 0, 1) := by decide +kernel
theorem dX7_init_33 : decode cX7_init 33 = .ok (.iconst 4, 1) := by decide +kernel
theorem dX7_init_34 : decode cX7_init 34 = .ok (.newarray .boolean, 2) := by decide +kernel
theorem dX7_init_36 : decode cX7_init 36 = .ok (.putfield 22, 3) := by decide +kernel
theorem dX7_init_39 : decode cX7_init 39 = .ok (.aload_n 0, 1) := by decide +kernel
theorem dX7_init_40 : decode cX7_init 40 = .ok (.iconst 4, 1) := by decide +kernel
theorem dX7_init_41 : decode cX7_init 41 = .ok (.newarray .int, 2) := by decide +kernel
theorem dX7_init_43 : decode cX7_init 43 = .ok (.putfield 26, 3) := by decide +kernel
theorem dX7_init_46 : decode cX7_init 46 = .ok (.aload_n 0, 1) := by decide +kernel
theorem dX7_init_47 : decode cX7_init 47 = .ok (.bipush 32, 2) := by decide +kernel
theorem dX7_init_49 : decode cX7_init 49 = .ok (.newarray .int, 2) := by decide +kernel
theorem dX7_init_51 : decode cX7_init 51 = .ok (.putfield 29, 3) := by decide +kernel
theorem dX7_init_54 : decode cX7_init 54 = .ok (.aload_n 0, 1) := by decide +kernel
theorem dX7_init_55 : decode cX7_init 55 = .ok (.bipush 32, 2) := by decide +kernel
theorem dX7_init_57 : decode cX7_init 57 = .ok (.newarray .int, 2) := by decide +kernel
theorem dX7_init_59 : decode cX7_init 59 = .ok (.putfield 32, 3) := by decide +kernel
theorem dX7_init_62 : decode cX7_init 62 = .ok (.aload_n 0, 1) := by decide +kernel
theorem dX7_init_63 : decode cX7_init 63 = .ok (.sipush 3066, 3) := by decide +kernel
theorem dX7_init_66 : decode cX7_init 66 = .ok (.newarray .int, 2) := by decide +kernel
theorem dX7_init_68 : decode cX7_init 68 = .ok (.putfield 35, 3) := by decide +kernel
theorem dX7_init_71 : decode cX7_init 71 = .ok (.aload_n 0, 1) := by decide +kernel
theorem dX7_init_72 : decode cX7_init 72 = .ok (.bipush 6, 2) := by decide +kernel
theorem dX7_init_74 : decode cX7_init 74 = .ok (.newarray .int, 2) := by decide +kernel
theorem dX7_init_76 : decode cX7_init 76 = .ok (.putfield 38, 3) := by decide +kernel
theorem dX7_init_79 : decode cX7_init 79 = .ok (.aload_n 0, 1) := by decide +kernel
theorem dX7_init_80 : decode cX7_init 80 = .ok (.bipush 6, 2) := by decide +kernel
theorem dX7_init_82 : decode cX7_init 82 = .ok (.newarray .int, 2) := by decide +kernel
theorem dX7_init_84 : decode cX7_init 84 = .ok (.putfield 41, 3) := by decide +kernel
theorem dX7_init_87 : decode cX7_init 87 = .ok (.aload_n 0, 1) := by decide +kernel
theorem dX7_init_88 : decode cX7_init 88 = .ok (.bipush 96, 2) := by decide +kernel
theorem dX7_init_90 : decode cX7_init 90 = .ok (.newarray .long, 2) := by decide +kernel
theorem dX7_init_92 : decode cX7_init 92 = .ok (.putfield 44, 3) := by decide +kernel
theorem dX7_init_95 : decode cX7_init 95 = .ok (.aload_n 0, 1) := by decide +kernel
theorem dX7_init_96 : decode cX7_init 96 = .ok (.bipush 96, 2) := by decide +kernel
theorem dX7_init_98 : decode cX7_init 98 = .ok (.newarray .long, 2) := by decide +kernel
theorem dX7_init_100 : decode cX7_init 100 = .ok (.putfield 48, 3) := by decide +kernel
theorem dX7_init_103 : decode cX7_init 103 = .ok (.aload_n 0, 1) := by decide +kernel
theorem dX7_init_104 : decode cX7_init 104 = .ok (.bipush 96, 2) := by decide +kernel
theorem dX7_init_106 : decode cX7_init 106 = .ok (.newarray .int, 2) := by decide +kernel
theorem dX7_init_108 : decode cX7_init 108 = .ok (.putfield 51, 3) := by decide +kernel
theorem dX7_init_111 : decode cX7_init 111 = .ok (.aload_n 0, 1) := by decide +kernel
theorem dX7_init_112 : decode cX7_init 112 = .ok (.bipush 64, 2) := by decide +kernel
theorem dX7_init_114 : decode cX7_init 114 = .ok (.newarray .int, 2) := by decide +kernel
theorem dX7_init_116 : decode cX7_init 116 = .ok (.putfield 54, 3) := by decide +kernel
theorem dX7_init_119 : decode cX7_init 119 = .ok (.aload_n 0, 1) := by decide +kernel
theorem dX7_init_120 : decode cX7_init 120 = .ok (.bipush 64, 2) := by decide +kernel
theorem dX7_init_122 : decode cX7_init 122 = .ok (.newarray .long, 2) := by decide +kernel
theorem dX7_init_124 : decode cX7_init 124 = .ok (.putfield 57, 3) := by decide +kernel
theorem dX7_init_127 : decode cX7_init 127 = .ok (.aload_n 0, 1) := by decide +kernel
theorem dX7_init_128 : decode cX7_init 128 = .ok (.bipush 64, 2) := by decide +kernel
theorem dX7_init_130 : decode cX7_init 130 = .ok (.newarray .long, 2) := by decide +kernel
theorem dX7_init_132 : decode cX7_init 132 = .ok (.putfield 60, 3) := by decide +kernel
theorem dX7_init_135 : decode cX7_init 135 = .ok (.aload_n 0, 1) := by decide +kernel
theorem dX7_init_136 : decode cX7_init 136 = .ok (.bipush 96, 2) := by decide +kernel
theorem dX7_init_138 : decode cX7_init 138 = .ok (.newarray .int, 2) := by decide +kernel
theorem dX7_init_140 : decode cX7_init 140 = .ok (.putfield 63, 3) := by decide +kernel
theorem dX7_init_143 : decode cX7_init 143 = .ok (.aload_n 0, 1) := by decide +kernel
theorem dX7_init_144 : decode cX7_init 144 = .ok (.iconst 4, 1) := by decide +kernel
theorem dX7_init_145 : decode cX7_init 145 = .ok (.newarray .int, 2) := by decide +kernel
theorem dX7_init_147 : decode cX7_init 147 = .ok (.putfield 66, 3) := by decide +kernel
theorem dX7_init_150 : decode cX7_init 150 = .ok (.aload_n 0, 1) := by decide +kernel
theorem dX7_init_151 : decode cX7_init 151 = .ok (.bipush 6, 2) := by decide +kernel
theorem dX7_init_153 : decode cX7_init 153 = .ok (.newarray .int, 2) := by decide +kernel
theorem dX7_init_155 : decode cX7_init 155 = .ok (.putfield 69, 3) := by decide +kernel
theorem dX7_init_158 : decode cX7_init 158 = .ok (.aload_n 0, 1) := by decide +kernel
theorem dX7_init_159 : decode cX7_init 159 = .ok (.sipush 3066, 3) := by decide +kernel
theorem dX7_init_162 : decode cX7_init 162 = .ok (.newarray .int, 2) := by decide +kernel
theorem dX7_init_164 : decode cX7_init 164 = .ok (.putfield 72, 3) := by decide +kernel
theorem dX7_init_167 : decode cX7_init 167 = .ok (.aload_n 0, 1) := by decide +kernel
theorem dX7_init_168 : decode cX7_init 168 = .ok (.bipush 25, 2) := by decide +kernel
theorem dX7_init_170 : decode cX7_init 170 = .ok (.newarray .int, 2) := by decide +kernel
theorem dX7_init_172 : decode cX7_init 172 = .ok (.putfield 75, 3) := by decide +kernel
theorem dX7_init_175 : decode cX7_init 175 = .ok (.aload_n 0, 1) := by decide +kernel
theorem dX7_init_176 : decode cX7_init 176 = .ok (.bipush 25, 2) := by decide +kernel
theorem dX7_init_178 : decode cX7_init 178 = .ok (.newarray .int, 2) := by decide +kernel
theorem dX7_init_180 : decode cX7_init 180 = .ok (.putfield 78, 3) := by decide +kernel
theorem dX7_init_183 : decode cX7_init 183 = .ok (.aload_n 0, 1) := by decide +kernel
theorem dX7_init_184 : decode cX7_init 184 = .ok (.bipush 25, 2) := by decide +kernel
theorem dX7_init_186 : decode cX7_init 186 = .ok (.newarray .int, 2) := by decide +kernel
theorem dX7_init_188 : decode cX7_init 188 = .ok (.putfield 81, 3) := by decide +kernel
theorem dX7_init_191 : decode cX7_init 191 = .ok (.aload_n 0, 1) := by decide +kernel
theorem dX7_init_192 : decode cX7_init 192 = .ok (.bipush 25, 2) := by decide +kernel
theorem dX7_init_194 : decode cX7_init 194 = .ok (.newarray .int, 2) := by decide +kernel
theorem dX7_init_196 : decode cX7_init 196 = .ok (.putfield 84, 3) := by decide +kernel
theorem dX7_init_199 : decode cX7_init 199 = .ok (.aload_n 0, 1) := by decide +kernel
theorem dX7_init_200 : decode cX7_init 200 = .ok (.bipush 25, 2) := by decide +kernel
theorem dX7_init_202 : decode cX7_init 202 = .ok (.newarray .long, 2) := by decide +kernel
theorem dX7_init_204 : decode cX7_init 204 = .ok (.putfield 87, 3) := by decide +kernel
theorem dX7_init_207 : decode cX7_init 207 = .ok (.aload_n 0, 1) := by decide +kernel
theorem dX7_init_208 : decode cX7_init 208 = .ok (.bipush 25, 2) := by decide +kernel
theorem dX7_init_210 : decode cX7_init 210 = .ok (.newarray .long, 2) := by decide +kernel
theorem dX7_init_212 : decode cX7_init 212 = .ok (.putfield 90, 3) := by decide +kernel
theorem dX7_init_215 : decode cX7_init 215 = .ok (.aload_n 0, 1) := by decide +kernel
theorem dX7_init_216 : decode cX7_init 216 = .ok (.bipush 24, 2) := by decide +kernel
theorem dX7_init_218 : decode cX7_init 218 = .ok (.newarray .int, 2) := by decide +kernel
theorem dX7_init_220 : decode cX7_init 220 = .ok (.putfield 93, 3) := by decide +kernel
theorem dX7_init_223 : decode cX7_init 223 = .ok (.aload_n 0, 1) := by decide +kernel
theorem dX7_init_224 : decode cX7_init 224 = .ok (.bipush 60, 2) := by decide +kernel
theorem dX7_init_226 : decode cX7_init 226 = .ok (.newarray .char, 2) := by decide +kernel
theorem dX7_init_228 : decode cX7_init 228 = .ok (.putfield 96, 3) := by decide +kernel
theorem dX7_init_231 : decode cX7_init 231 = .ok (.aload_n 0, 1) := by decide +kernel
theorem dX7_init_232 : decode cX7_init 232 = .ok (.iconst 4, 1) := by decide +kernel
theorem dX7_init_233 : decode cX7_init 233 = .ok (.newarray .int, 2) := by decide +kernel
theorem dX7_init_235 : decode cX7_init 235 = .ok (.putfield 100, 3) := by decide +kernel
theorem dX7_init_238 : decode cX7_init 238 = .ok (.return_, 1) := by decide +kernel
theorem dX7_in_0 : decode cX7_in 0 = .ok (.lload_n 0, 1) := by decide +kernel
theorem dX7_in_1 : decode cX7_in 1 = .ok (.lload_n 2, 1) := by decide +kernel
theorem dX7_in_2 : decode cX7_in 2 = .ok (.lcmp, 1) := by decide +kernel
theorem dX7_in_3 : decode cX7_in 3 = .ok (.ifCond .lt 14, 3) := by decide +kernel
theorem dX7_in_6 : decode cX7_in 6 = .ok (.lload_n 0, 1) := by decide +kernel
theorem dX7_in_7 : decode cX7_in 7 = .ok (.lload 4, 2) := by decide +kernel
theorem dX7_in_9 : decode cX7_in 9 = .ok (.lcmp, 1) := by decide +kernel
theorem dX7_in_10 : decode cX7_in 10 = .ok (.ifCond .gt 7, 3) := by decide +kernel
theorem dX7_in_13 : decode cX7_in 13 = .ok (.iconst 1, 1) := by decide +kernel
theorem dX7_in_14 : decode cX7_in 14 = .ok (.goto 4, 3) := by decide +kernel
theorem dX7_in_17 : decode cX7_in 17 = .ok (.iconst 0, 1) := by decide +kernel
theorem dX7_in_18 : decode cX7_in 18 = .ok (.ireturn, 1) := by decide +kernel
theorem dX7_lost_0 : decode cX7_lost 0 = .ok (.ldc2_w 103, 3) := by decide +kernel
theorem dX7_lost_3 : decode cX7_lost 3 = .ok (.lreturn, 1) := by decide +kernel
theorem dX7_near_0 : decode cX7_near 0 = .ok (.ldc2_w 105, 3) := by decide +kernel
theorem dX7_near_3 : decode cX7_near 3 = .ok (.lload_n 0, 1) := by decide +kernel
theorem dX7_near_4 : decode cX7_near 4 = .ok (.lmul, 1) := by decide +kernel
theorem dX7_near_5 : decode cX7_near 5 = .ok (.lload_n 2, 1) := by decide +kernel
theorem dX7_near_6 : decode cX7_near 6 = .ok (.ladd, 1) := by decide +kernel
theorem dX7_near_7 : decode cX7_near 7 = .ok (.lstore 4, 2) := by decide +kernel
theorem dX7_near_9 : decode cX7_near 9 = .ok (.lload 4, 2) := by decide +kernel
theorem dX7_near_11 : decode cX7_near 11 = .ok (.ldc2_w 105, 3) := by decide +kernel
theorem dX7_near_14 : decode cX7_near 14 = .ok (.lload_n 2, 1) := by decide +kernel
theorem dX7_near_15 : decode cX7_near 15 = .ok (.lmul, 1) := by decide +kernel
theorem dX7_near_16 : decode cX7_near 16 = .ok (.ldiv, 1) := by decide +kernel
theorem dX7_near_17 : decode cX7_near 17 = .ok (.lstore 6, 2) := by decide +kernel
theorem dX7_near_19 : decode cX7_near 19 = .ok (.lload 6, 2) := by decide +kernel
theorem dX7_near_21 : decode cX7_near 21 = .ok (.ldc2_w 105, 3) := by decide +kernel
theorem dX7_near_24 : decode cX7_near 24 = .ok (.lmul, 1) := by decide +kernel
theorem dX7_near_25 : decode cX7_near 25 = .ok (.lload_n 2, 1) := by decide +kernel
theorem dX7_near_26 : decode cX7_near 26 = .ok (.lmul, 1) := by decide +kernel
theorem dX7_near_27 : decode cX7_near 27 = .ok (.lload 4, 2) := by decide +kernel
theorem dX7_near_29 : decode cX7_near 29 = .ok (.lcmp, 1) := by decide +kernel
theorem dX7_near_30 : decode cX7_near 30 = .ok (.ifCond .le 10, 3) := by decide +kernel
theorem dX7_near_33 : decode cX7_near 33 = .ok (.lload 6, 2) := by decide +kernel
theorem dX7_near_35 : decode cX7_near 35 = .ok (.lconst 1, 1) := by decide +kernel
theorem dX7_near_36 : decode cX7_near 36 = .ok (.lsub, 1) := by decide +kernel
theorem dX7_near_37 : decode cX7_near 37 = .ok (.goto 5, 3) := by decide +kernel
theorem dX7_near_40 : decode cX7_near 40 = .ok (.lload 6, 2) := by decide +kernel
theorem dX7_near_42 : decode cX7_near 42 = .ok (.lreturn, 1) := by decide +kernel
theorem dX7_noAxis_0 : decode cX7_noAxis 0 = .ok (.iload_n 1, 1) := by decide +kernel
theorem dX7_noAxis_1 : decode cX7_noAxis 1 = .ok (.i2l, 1) := by decide +kernel
theorem dX7_noAxis_2 : decode cX7_noAxis 2 = .ok (.lconst 0, 1) := by decide +kernel
theorem dX7_noAxis_3 : decode cX7_noAxis 3 = .ok (.aload_n 0, 1) := by decide +kernel
theorem dX7_noAxis_4 : decode cX7_noAxis 4 = .ok (.getfield 107, 3) := by decide +kernel
theorem dX7_noAxis_7 : decode cX7_noAxis 7 = .ok (.i2l, 1) := by decide +kernel
theorem dX7_noAxis_8 : decode cX7_noAxis 8 = .ok (.lconst 1, 1) := by decide +kernel
theorem dX7_noAxis_9 : decode cX7_noAxis 9 = .ok (.lsub, 1) := by decide +kernel
theorem dX7_noAxis_10 : decode cX7_noAxis 10 = .ok (.invokestatic 111, 3) := by decide +kernel
theorem dX7_noAxis_13 : decode cX7_noAxis 13 = .ok (.ifCond .ne 7, 3) := by decide +kernel
theorem dX7_noAxis_16 : decode cX7_noAxis 16 = .ok (.iconst 1, 1) := by decide +kernel
theorem dX7_noAxis_17 : decode cX7_noAxis 17 = .ok (.goto 4, 3) := by decide +kernel
theorem dX7_noAxis_20 : decode cX7_noAxis 20 = .ok (.iconst 0, 1) := by decide +kernel
theorem dX7_noAxis_21 : decode cX7_noAxis 21 = .ok (.ireturn, 1) := by decide +kernel
theorem dX7_addAxis_0 : decode cX7_addAxis 0 = .ok (.iload_n 1, 1) := by decide +kernel
theorem dX7_addAxis_1 : decode cX7_addAxis 1 = .ok (.i2l, 1) := by decide +kernel
theorem dX7_addAxis_2 : decode cX7_addAxis 2 = .ok (.ldc2_w 115, 3) := by decide +kernel
theorem dX7_addAxis_5 : decode cX7_addAxis 5 = .ok (.ldc2_w 117, 3) := by decide +kernel
theorem dX7_addAxis_8 : decode cX7_addAxis 8 = .ok (.invokestatic 111, 3) := by decide +kernel
theorem dX7_addAxis_11 : decode cX7_addAxis 11 = .ok (.ifCond .eq 34, 3) := by decide +kernel
theorem dX7_addAxis_14 : decode cX7_addAxis 14 = .ok (.iload_n 2, 1) := by decide +kernel
theorem dX7_addAxis_15 : decode cX7_addAxis 15 = .ok (.i2l, 1) := by decide +kernel
theorem dX7_addAxis_16 : decode cX7_addAxis 16 = .ok (.iload_n 1, 1) := by decide +kernel
theorem dX7_addAxis_17 : decode cX7_addAxis 17 = .ok (.i2l, 1) := by decide +kernel
theorem dX7_addAxis_18 : decode cX7_addAxis 18 = .ok (.ldc2_w 117, 3) := by decide +kernel
theorem dX7_addAxis_21 : decode cX7_addAxis 21 = .ok (.invokestatic 111, 3) := by decide +kernel
theorem dX7_addAxis_24 : decode cX7_addAxis 24 = .ok (.ifCond .eq 21, 3) := by decide +kernel
theorem dX7_addAxis_27 : decode cX7_addAxis 27 = .ok (.iload_n 3, 1) := by decide +kernel
theorem dX7_addAxis_28 : decode cX7_addAxis 28 = .ok (.i2l, 1) := by decide +kernel
theorem dX7_addAxis_29 : decode cX7_addAxis 29 = .ok (.iload_n 2, 1) := by decide +kernel
theorem dX7_addAxis_30 : decode cX7_addAxis 30 = .ok (.i2l, 1) := by decide +kernel
theorem dX7_addAxis_31 : decode cX7_addAxis 31 = .ok (.ldc2_w 117, 3) := by decide +kernel
theorem dX7_addAxis_34 : decode cX7_addAxis 34 = .ok (.invokestatic 111, 3) := by decide +kernel
theorem dX7_addAxis_37 : decode cX7_addAxis 37 = .ok (.ifCond .eq 8, 3) := by decide +kernel
theorem dX7_addAxis_40 : decode cX7_addAxis 40 = .ok (.iload_n 3, 1) := by decide +kernel
theorem dX7_addAxis_41 : decode cX7_addAxis 41 = .ok (.iload_n 1, 1) := by decide +kernel
theorem dX7_addAxis_42 : decode cX7_addAxis 42 = .ok (.if_icmp .ne 6, 3) := by decide +kernel
theorem dX7_addAxis_45 : decode cX7_addAxis 45 = .ok (.ldc 119, 2) := by decide +kernel
theorem dX7_addAxis_47 : decode cX7_addAxis 47 = .ok (.ireturn, 1) := by decide +kernel
theorem dX7_addAxis_48 : decode cX7_addAxis 48 = .ok (.aload_n 0, 1) := by decide +kernel
theorem dX7_addAxis_49 : decode cX7_addAxis 49 = .ok (.getfield 107, 3) := by decide +kernel
theorem dX7_addAxis_52 : decode cX7_addAxis 52 = .ok (.iconst 4, 1) := by decide +kernel
theorem dX7_addAxis_53 : decode cX7_addAxis 53 = .ok (.if_icmp .ne 6, 3) := by decide +kernel
theorem dX7_addAxis_56 : decode cX7_addAxis 56 = .ok (.ldc 120, 2) := by decide +kernel
theorem dX7_addAxis_58 : decode cX7_addAxis 58 = .ok (.ireturn, 1) := by decide +kernel
theorem dX7_addAxis_59 : decode cX7_addAxis 59 = .ok (.aload_n 0, 1) := by decide +kernel
theorem dX7_addAxis_60 : decode cX7_addAxis 60 = .ok (.getfield 7, 3) := by decide +kernel
theorem dX7_addAxis_63 : decode cX7_addAxis 63 = .ok (.aload_n 0, 1) := by decide +kernel
theorem dX7_addAxis_64 : decode cX7_addAxis 64 = .ok (.getfield 107, 3) := by decide +kernel
theorem dX7_addAxis_67 : decode cX7_addAxis 67 = .ok (.iload_n 1, 1) := by decide +kernel
theorem dX7_addAxis_68 : decode cX7_addAxis 68 = .ok (.iastore, 1) := by decide +kernel
theorem dX7_addAxis_69 : decode cX7_addAxis 69 = .ok (.aload_n 0, 1) := by decide +kernel
theorem dX7_addAxis_70 : decode cX7_addAxis 70 = .ok (.getfield 13, 3) := by decide +kernel
theorem dX7_addAxis_73 : decode cX7_addAxis 73 = .ok (.aload_n 0, 1) := by decide +kernel
theorem dX7_addAxis_74 : decode cX7_addAxis 74 = .ok (.getfield 107, 3) := by decide +kernel
theorem dX7_addAxis_77 : decode cX7_addAxis 77 = .ok (.iload_n 2, 1) := by decide +kernel
theorem dX7_addAxis_78 : decode cX7_addAxis 78 = .ok (.iastore, 1) := by decide +kernel
theorem dX7_addAxis_79 : decode cX7_addAxis 79 = .ok (.aload_n 0, 1) := by decide +kernel
theorem dX7_addAxis_80 : decode cX7_addAxis 80 = .ok (.getfield 16, 3) := by decide +kernel
theorem dX7_addAxis_83 : decode cX7_addAxis 83 = .ok (.aload_n 0, 1) := by decide +kernel
theorem dX7_addAxis_84 : decode cX7_addAxis 84 = .ok (.getfield 107, 3) := by decide +kernel
theorem dX7_addAxis_87 : decode cX7_addAxis 87 = .ok (.iload_n 3, 1) := by decide +kernel
theorem dX7_addAxis_88 : decode cX7_addAxis 88 = .ok (.iastore, 1) := by decide +kernel
theorem dX7_addAxis_89 : decode cX7_addAxis 89 = .ok (.aload_n 0, 1) := by decide +kernel
theorem dX7_addAxis_90 : decode cX7_addAxis 90 = .ok (.getfield 19, 3) := by decide +kernel
theorem dX7_addAxis_93 : decode cX7_addAxis 93 = .ok (.aload_n 0, 1) := by decide +kernel
theorem dX7_addAxis_94 : decode cX7_addAxis 94 = .ok (.getfield 107, 3) := by decide +kernel
theorem dX7_addAxis_97 : decode cX7_addAxis 97 = .ok (.iconst 0, 1) := by decide +kernel
theorem dX7_addAxis_98 : decode cX7_addAxis 98 = .ok (.iastore, 1) := by decide +kernel
theorem dX7_addAxis_99 : decode cX7_addAxis 99 = .ok (.aload_n 0, 1) := by decide +kernel
theorem dX7_addAxis_100 : decode cX7_addAxis 100 = .ok (.getfield 26, 3) := by decide +kernel
theorem dX7_addAxis_103 : decode cX7_addAxis 103 = .ok (.aload_n 0, 1) := by decide +kernel
theorem dX7_addAxis_104 : decode cX7_addAxis 104 = .ok (.getfield 107, 3) := by decide +kernel
theorem dX7_addAxis_107 : decode cX7_addAxis 107 = .ok (.iconst 3, 1) := by decide +kernel
theorem dX7_addAxis_108 : decode cX7_addAxis 108 = .ok (.iastore, 1) := by decide +kernel
theorem dX7_addAxis_109 : decode cX7_addAxis 109 = .ok (.iconst 0, 1) := by decide +kernel
theorem dX7_addAxis_110 : decode cX7_addAxis 110 = .ok (.istore 4, 2) := by decide +kernel
theorem dX7_addAxis_112 : decode cX7_addAxis 112 = .ok (.iload 4, 2) := by decide +kernel
theorem dX7_addAxis_114 : decode cX7_addAxis 114 = .ok (.iconst 3, 1) := by decide +kernel
theorem dX7_addAxis_115 : decode cX7_addAxis 115 = .ok (.if_icmp .ge 55, 3) := by decide +kernel
theorem dX7_addAxis_118 : decode cX7_addAxis 118 = .ok (.aload_n 0, 1) := by decide +kernel
theorem dX7_addAxis_119 : decode cX7_addAxis 119 = .ok (.getfield 29, 3) := by decide +kernel
theorem dX7_addAxis_122 : decode cX7_addAxis 122 = .ok (.bipush 8, 2) := by decide +kernel
theorem dX7_addAxis_124 : decode cX7_addAxis 124 = .ok (.aload_n 0, 1) := by decide +kernel
theorem dX7_addAxis_125 : decode cX7_addAxis 125 = .ok (.getfield 107, 3) := by decide +kernel
theorem dX7_addAxis_128 : decode cX7_addAxis 128 = .ok (.imul, 1) := by decide +kernel
theorem dX7_addAxis_129 : decode cX7_addAxis 129 = .ok (.iload 4, 2) := by decide +kernel
theorem dX7_addAxis_131 : decode cX7_addAxis 131 = .ok (.iadd, 1) := by decide +kernel
theorem dX7_addAxis_132 : decode cX7_addAxis 132 = .ok (.sipush 16384, 3) := by decide +kernel
theorem dX7_addAxis_135 : decode cX7_addAxis 135 = .ok (.iload 4, 2) := by decide +kernel
theorem dX7_addAxis_137 : decode cX7_addAxis 137 = .ok (.iconst 1, 1) := by decide +kernel
theorem dX7_addAxis_138 : decode cX7_addAxis 138 = .ok (.isub, 1) := by decide +kernel
theorem dX7_addAxis_139 : decode cX7_addAxis 139 = .ok (.imul, 1) := by decide +kernel
theorem dX7_addAxis_140 : decode cX7_addAxis 140 = .ok (.iastore, 1) := by decide +kernel
theorem dX7_addAxis_141 : decode cX7_addAxis 141 = .ok (.aload_n 0, 1) := by decide +kernel
theorem dX7_addAxis_142 : decode cX7_addAxis 142 = .ok (.getfield 32, 3) := by decide +kernel
theorem dX7_addAxis_145 : decode cX7_addAxis 145 = .ok (.bipush 8, 2) := by decide +kernel
theorem dX7_addAxis_147 : decode cX7_addAxis 147 = .ok (.aload_n 0, 1) := by decide +kernel
theorem dX7_addAxis_148 : decode cX7_addAxis 148 = .ok (.getfield 107, 3) := by decide +kernel
theorem dX7_addAxis_151 : decode cX7_addAxis 151 = .ok (.imul, 1) := by decide +kernel
theorem dX7_addAxis_152 : decode cX7_addAxis 152 = .ok (.iload 4, 2) := by decide +kernel
theorem dX7_addAxis_154 : decode cX7_addAxis 154 = .ok (.iadd, 1) := by decide +kernel
theorem dX7_addAxis_155 : decode cX7_addAxis 155 = .ok (.sipush 16384, 3) := by decide +kernel
theorem dX7_addAxis_158 : decode cX7_addAxis 158 = .ok (.iload 4, 2) := by decide +kernel
theorem dX7_addAxis_160 : decode cX7_addAxis 160 = .ok (.iconst 1, 1) := by decide +kernel
theorem dX7_addAxis_161 : decode cX7_addAxis 161 = .ok (.isub, 1) := by decide +kernel
theorem dX7_addAxis_162 : decode cX7_addAxis 162 = .ok (.imul, 1) := by decide +kernel
theorem dX7_addAxis_163 : decode cX7_addAxis 163 = .ok (.iastore, 1) := by decide +kernel
theorem dX7_addAxis_164 : decode cX7_addAxis 164 = .ok (.iinc 4 1, 3) := by decide +kernel
theorem dX7_addAxis_167 : decode cX7_addAxis 167 = .ok (.goto (-55), 3) := by decide +kernel
theorem dX7_addAxis_170 : decode cX7_addAxis 170 = .ok (.aload_n 0, 1) := by decide +kernel
theorem dX7_addAxis_171 : decode cX7_addAxis 171 = .ok (.dup, 1) := by decide +kernel
theorem dX7_addAxis_172 : decode cX7_addAxis 172 = .ok (.getfield 107, 3) := by decide +kernel
theorem dX7_addAxis_175 : decode cX7_addAxis 175 = .ok (.iconst 1, 1) := by decide +kernel
theorem dX7_addAxis_176 : decode cX7_addAxis 176 = .ok (.iadd, 1) := by decide +kernel
theorem dX7_addAxis_177 : decode cX7_addAxis 177 = .ok (.putfield 107, 3) := by decide +kernel
theorem dX7_addAxis_180 : decode cX7_addAxis 180 = .ok (.aload_n 0, 1) := by decide +kernel
theorem dX7_addAxis_181 : decode cX7_addAxis 181 = .ok (.getfield 107, 3) := by decide +kernel
theorem dX7_addAxis_184 : decode cX7_addAxis 184 = .ok (.iconst 1, 1) := by decide +kernel
theorem dX7_addAxis_185 : decode cX7_addAxis 185 = .ok (.isub, 1) := by decide +kernel
theorem dX7_addAxis_186 : decode cX7_addAxis 186 = .ok (.ireturn, 1) := by decide +kernel
theorem dX7_addMapPair_0 : decode cX7_addMapPair 0 = .ok (.aload_n 0, 1) := by decide +kernel
theorem dX7_addMapPair_1 : decode cX7_addMapPair 1 = .ok (.iload_n 1, 1) := by decide +kernel
theorem dX7_addMapPair_2 : decode cX7_addMapPair 2 = .ok (.invokevirtual 121, 3) := by decide +kernel
theorem dX7_addMapPair_5 : decode cX7_addMapPair 5 = .ok (.ifCond .eq 6, 3) := by decide +kernel
theorem dX7_addMapPair_8 : decode cX7_addMapPair 8 = .ok (.ldc 125, 2) := by decide +kernel
theorem dX7_addMapPair_10 : decode cX7_addMapPair 10 = .ok (.ireturn, 1) := by decide +kernel
theorem dX7_addMapPair_11 : decode cX7_addMapPair 11 = .ok (.iload_n 2, 1) := by decide +kernel
theorem dX7_addMapPair_12 : decode cX7_addMapPair 12 = .ok (.i2l, 1) := by decide +kernel
theorem dX7_addMapPair_13 : decode cX7_addMapPair 13 = .ok (.ldc2_w 126, 3) := by decide +kernel
theorem dX7_addMapPair_16 : decode cX7_addMapPair 16 = .ok (.ldc2_w 128, 3) := by decide +kernel
theorem dX7_addMapPair_19 : decode cX7_addMapPair 19 = .ok (.invokestatic 111, 3) := by decide +kernel
theorem dX7_addMapPair_22 : decode cX7_addMapPair 22 = .ok (.ifCond .eq 21, 3) := by decide +kernel
theorem dX7_addMapPair_25 : decode cX7_addMapPair 25 = .ok (.iload_n 2, 1) := by decide +kernel
theorem dX7_addMapPair_26 : decode cX7_addMapPair 26 = .ok (.ifCond .eq 17, 3) := by decide +kernel
theorem dX7_addMapPair_29 : decode cX7_addMapPair 29 = .ok (.iload_n 3, 1) := by decide +kernel
theorem dX7_addMapPair_30 : decode cX7_addMapPair 30 = .ok (.i2l, 1) := by decide +kernel
theorem dX7_addMapPair_31 : decode cX7_addMapPair 31 = .ok (.ldc2_w 130, 3) := by decide +kernel
theorem dX7_addMapPair_34 : decode cX7_addMapPair 34 = .ok (.ldc2_w 132, 3) := by decide +kernel
theorem dX7_addMapPair_37 : decode cX7_addMapPair 37 = .ok (.invokestatic 111, 3) := by decide +kernel
theorem dX7_addMapPair_40 : decode cX7_addMapPair 40 = .ok (.ifCond .ne 6, 3) := by decide +kernel
theorem dX7_addMapPair_43 : decode cX7_addMapPair 43 = .ok (.ldc 119, 2) := by decide +kernel
theorem dX7_addMapPair_45 : decode cX7_addMapPair 45 = .ok (.ireturn, 1) := by decide +kernel
theorem dX7_addMapPair_46 : decode cX7_addMapPair 46 = .ok (.bipush 8, 2) := by decide +kernel
theorem dX7_addMapPair_48 : decode cX7_addMapPair 48 = .ok (.iload_n 1, 1) := by decide +kernel
theorem dX7_addMapPair_49 : decode cX7_addMapPair 49 = .ok (.imul, 1) := by decide +kernel
theorem dX7_addMapPair_50 : decode cX7_addMapPair 50 = .ok (.istore 4, 2) := by decide +kernel
theorem dX7_addMapPair_52 : decode cX7_addMapPair 52 = .ok (.aload_n 0, 1) := by decide +kernel
theorem dX7_addMapPair_53 : decode cX7_addMapPair 53 = .ok (.getfield 29, 3) := by decide +kernel
theorem dX7_addMapPair_56 : decode cX7_addMapPair 56 = .ok (.iload 4, 2) := by decide +kernel
theorem dX7_addMapPair_58 : decode cX7_addMapPair 58 = .ok (.iaload, 1) := by decide +kernel
theorem dX7_addMapPair_59 : decode cX7_addMapPair 59 = .ok (.iload_n 2, 1) := by decide +kernel
theorem dX7_addMapPair_60 : decode cX7_addMapPair 60 = .ok (.if_icmp .ge 9, 3) := by decide +kernel
theorem dX7_addMapPair_63 : decode cX7_addMapPair 63 = .ok (.iinc 4 1, 3) := by decide +kernel
theorem dX7_addMapPair_66 : decode cX7_addMapPair 66 = .ok (.goto (-14), 3) := by decide +kernel
theorem dX7_addMapPair_69 : decode cX7_addMapPair 69 = .ok (.aload_n 0, 1) := by decide +kernel
theorem dX7_addMapPair_70 : decode cX7_addMapPair 70 = .ok (.getfield 29, 3) := by decide +kernel
theorem dX7_addMapPair_73 : decode cX7_addMapPair 73 = .ok (.iload 4, 2) := by decide +kernel
theorem dX7_addMapPair_75 : decode cX7_addMapPair 75 = .ok (.iaload, 1) := by decide +kernel
theorem dX7_addMapPair_76 : decode cX7_addMapPair 76 = .ok (.iload_n 2, 1) := by decide +kernel
theorem dX7_addMapPair_77 : decode cX7_addMapPair 77 = .ok (.if_icmp .ne 7, 3) := by decide +kernel
theorem dX7_addMapPair_80 : decode cX7_addMapPair 80 = .ok (.iconst 1, 1) := by decide +kernel
theorem dX7_addMapPair_81 : decode cX7_addMapPair 81 = .ok (.goto 4, 3) := by decide +kernel
theorem dX7_addMapPair_84 : decode cX7_addMapPair 84 = .ok (.iconst 0, 1) := by decide +kernel
theorem dX7_addMapPair_85 : decode cX7_addMapPair 85 = .ok (.istore 5, 2) := by decide +kernel
theorem dX7_addMapPair_87 : decode cX7_addMapPair 87 = .ok (.iload 5, 2) := by decide +kernel
theorem dX7_addMapPair_89 : decode cX7_addMapPair 89 = .ok (.ifCond .eq 10, 3) := by decide +kernel
theorem dX7_addMapPair_92 : decode cX7_addMapPair 92 = .ok (.iload 4, 2) := by decide +kernel
theorem dX7_addMapPair_94 : decode cX7_addMapPair 94 = .ok (.iconst 1, 1) := by decide +kernel
theorem dX7_addMapPair_95 : decode cX7_addMapPair 95 = .ok (.iadd, 1) := by decide +kernel
theorem dX7_addMapPair_96 : decode cX7_addMapPair 96 = .ok (.goto 5, 3) := by decide +kernel
theorem dX7_addMapPair_99 : decode cX7_addMapPair 99 = .ok (.iload 4, 2) := by decide +kernel
theorem dX7_addMapPair_101 : decode cX7_addMapPair 101 = .ok (.istore 6, 2) := by decide +kernel
theorem dX7_addMapPair_103 : decode cX7_addMapPair 103 = .ok (.iload_n 3, 1) := by decide +kernel
theorem dX7_addMapPair_104 : decode cX7_addMapPair 104 = .ok (.aload_n 0, 1) := by decide +kernel
theorem dX7_addMapPair_105 : decode cX7_addMapPair 105 = .ok (.getfield 32, 3) := by decide +kernel
theorem dX7_addMapPair_108 : decode cX7_addMapPair 108 = .ok (.iload 4, 2) := by decide +kernel
theorem dX7_addMapPair_110 : decode cX7_addMapPair 110 = .ok (.iconst 1, 1) := by decide +kernel
theorem dX7_addMapPair_111 : decode cX7_addMapPair 111 = .ok (.isub, 1) := by decide +kernel
theorem dX7_addMapPair_112 : decode cX7_addMapPair 112 = .ok (.iaload, 1) := by decide +kernel
theorem dX7_addMapPair_113 : decode cX7_addMapPair 113 = .ok (.if_icmp .lt 14, 3) := by decide +kernel
theorem dX7_addMapPair_116 : decode cX7_addMapPair 116 = .ok (.iload_n 3, 1) := by decide +kernel
theorem dX7_addMapPair_117 : decode cX7_addMapPair 117 = .ok (.aload_n 0, 1) := by decide +kernel
theorem dX7_addMapPair_118 : decode cX7_addMapPair 118 = .ok (.getfield 32, 3) := by decide +kernel
theorem dX7_addMapPair_121 : decode cX7_addMapPair 121 = .ok (.iload 6, 2) := by decide +kernel
theorem dX7_addMapPair_123 : decode cX7_addMapPair 123 = .ok (.iaload, 1) := by decide +kernel
theorem dX7_addMapPair_124 : decode cX7_addMapPair 124 = .ok (.if_icmp .le 6, 3) := by decide +kernel
theorem dX7_addMapPair_127 : decode cX7_addMapPair 127 = .ok (.ldc 119, 2) := by decide +kernel
theorem dX7_addMapPair_129 : decode cX7_addMapPair 129 = .ok (.ireturn, 1) := by decide +kernel
theorem dX7_addMapPair_130 : decode cX7_addMapPair 130 = .ok (.iload 5, 2) := by decide +kernel
theorem dX7_addMapPair_132 : decode cX7_addMapPair 132 = .ok (.ifCond .ne 17, 3) := by decide +kernel
theorem dX7_addMapPair_135 : decode cX7_addMapPair 135 = .ok (.aload_n 0, 1) := by decide +kernel
theorem dX7_addMapPair_136 : decode cX7_addMapPair 136 = .ok (.getfield 26, 3) := by decide +kernel
theorem dX7_addMapPair_139 : decode cX7_addMapPair 139 = .ok (.iload_n 1, 1) := by decide +kernel
theorem dX7_addMapPair_140 : decode cX7_addMapPair 140 = .ok (.iaload, 1) := by decide +kernel
theorem dX7_addMapPair_141 : decode cX7_addMapPair 141 = .ok (.bipush 8, 2) := by decide +kernel
theorem dX7_addMapPair_143 : decode cX7_addMapPair 143 = .ok (.if_icmp .ne 6, 3) := by decide +kernel
theorem dX7_addMapPair_146 : decode cX7_addMapPair 146 = .ok (.ldc 120, 2) := by decide +kernel
theorem dX7_addMapPair_148 : decode cX7_addMapPair 148 = .ok (.ireturn, 1) := by decide +kernel
theorem dX7_addMapPair_149 : decode cX7_addMapPair 149 = .ok (.iload 5, 2) := by decide +kernel
theorem dX7_addMapPair_151 : decode cX7_addMapPair 151 = .ok (.ifCond .ne 71, 3) := by decide +kernel
theorem dX7_addMapPair_154 : decode cX7_addMapPair 154 = .ok (.bipush 8, 2) := by decide +kernel
theorem dX7_addMapPair_156 : decode cX7_addMapPair 156 = .ok (.iload_n 1, 1) := by decide +kernel
theorem dX7_addMapPair_157 : decode cX7_addMapPair 157 = .ok (.imul, 1) := by decide +kernel
theorem dX7_addMapPair_158 : decode cX7_addMapPair 158 = .ok (.aload_n 0, 1) := by decide +kernel
theorem dX7_addMapPair_159 : decode cX7_addMapPair 159 = .ok (.getfield 26, 3) := by decide +kernel
theorem dX7_addMapPair_162 : decode cX7_addMapPair 162 = .ok (.iload_n 1, 1) := by decide +kernel
theorem dX7_addMapPair_163 : decode cX7_addMapPair 163 = .ok (.iaload, 1) := by decide +kernel
theorem dX7_addMapPair_164 : decode cX7_addMapPair 164 = .ok (.iadd, 1) := by decide +kernel
theorem dX7_addMapPair_165 : decode cX7_addMapPair 165 = .ok (.istore 7, 2) := by decide +kernel
theorem dX7_addMapPair_167 : decode cX7_addMapPair 167 = .ok (.iload 7, 2) := by decide +kernel
theorem dX7_addMapPair_169 : decode cX7_addMapPair 169 = .ok (.iload 4, 2) := by decide +kernel
theorem dX7_addMapPair_171 : decode cX7_addMapPair 171 = .ok (.if_icmp .le 41, 3) := by decide +kernel
theorem dX7_addMapPair_174 : decode cX7_addMapPair 174 = .ok (.aload_n 0, 1) := by decide +kernel
theorem dX7_addMapPair_175 : decode cX7_addMapPair 175 = .ok (.getfield 29, 3) := by decide +kernel
theorem dX7_addMapPair_178 : decode cX7_addMapPair 178 = .ok (.iload 7, 2) := by decide +kernel
theorem dX7_addMapPair_180 : decode cX7_addMapPair 180 = .ok (.aload_n 0, 1) := by decide +kernel
theorem dX7_addMapPair_181 : decode cX7_addMapPair 181 = .ok (.getfield 29, 3) := by decide +kernel
theorem dX7_addMapPair_184 : decode cX7_addMapPair 184 = .ok (.iload 7, 2) := by decide +kernel
theorem dX7_addMapPair_186 : decode cX7_addMapPair 186 = .ok (.iconst 1, 1) := by decide +kernel
theorem dX7_addMapPair_187 : decode cX7_addMapPair 187 = .ok (.isub, 1) := by decide +kernel
theorem dX7_addMapPair_188 : decode cX7_addMapPair 188 = .ok (.iaload, 1) := by decide +kernel
theorem dX7_addMapPair_189 : decode cX7_addMapPair 189 = .ok (.iastore, 1) := by decide +kernel
theorem dX7_addMapPair_190 : decode cX7_addMapPair 190 = .ok (.aload_n 0, 1) := by decide +kernel
theorem dX7_addMapPair_191 : decode cX7_addMapPair 191 = .ok (.getfield 32, 3) := by decide +kernel
theorem dX7_addMapPair_194 : decode cX7_addMapPair 194 = .ok (.iload 7, 2) := by decide +kernel
theorem dX7_addMapPair_196 : decode cX7_addMapPair 196 = .ok (.aload_n 0, 1) := by decide +kernel
theorem dX7_addMapPair_197 : decode cX7_addMapPair 197 = .ok (.getfield 32, 3) := by decide +kernel
theorem dX7_addMapPair_200 : decode cX7_addMapPair 200 = .ok (.iload 7, 2) := by decide +kernel
theorem dX7_addMapPair_202 : decode cX7_addMapPair 202 = .ok (.iconst 1, 1) := by decide +kernel
theorem dX7_addMapPair_203 : decode cX7_addMapPair 203 = .ok (.isub, 1) := by decide +kernel
theorem dX7_addMapPair_204 : decode cX7_addMapPair 204 = .ok (.iaload, 1) := by decide +kernel
theorem dX7_addMapPair_205 : decode cX7_addMapPair 205 = .ok (.iastore, 1) := by decide +kernel
theorem dX7_addMapPair_206 : decode cX7_addMapPair 206 = .ok (.iinc 7 (-1), 3) := by decide +kernel
theorem dX7_addMapPair_209 : decode cX7_addMapPair 209 = .ok (.goto (-42), 3) := by decide +kernel
theorem dX7_addMapPair_212 : decode cX7_addMapPair 212 = .ok (.aload_n 0, 1) := by decide +kernel
theorem dX7_addMapPair_213 : decode cX7_addMapPair 213 = .ok (.getfield 26, 3) := by decide +kernel
theorem dX7_addMapPair_216 : decode cX7_addMapPair 216 = .ok (.iload_n 1, 1) := by decide +kernel
theorem dX7_addMapPair_217 : decode cX7_addMapPair 217 = .ok (.dup2, 1) := by decide +kernel
theorem dX7_addMapPair_218 : decode cX7_addMapPair 218 = .ok (.iaload, 1) := by decide +kernel
theorem dX7_addMapPair_219 : decode cX7_addMapPair 219 = .ok (.iconst 1, 1) := by decide +kernel
theorem dX7_addMapPair_220 : decode cX7_addMapPair 220 = .ok (.iadd, 1) := by decide +kernel
theorem dX7_addMapPair_221 : decode cX7_addMapPair 221 = .ok (.iastore, 1) := by decide +kernel
theorem dX7_addMapPair_222 : decode cX7_addMapPair 222 = .ok (.aload_n 0, 1) := by decide +kernel
theorem dX7_addMapPair_223 : decode cX7_addMapPair 223 = .ok (.getfield 29, 3) := by decide +kernel
theorem dX7_addMapPair_226 : decode cX7_addMapPair 226 = .ok (.iload 4, 2) := by decide +kernel
theorem dX7_addMapPair_228 : decode cX7_addMapPair 228 = .ok (.iload_n 2, 1) := by decide +kernel
theorem dX7_addMapPair_229 : decode cX7_addMapPair 229 = .ok (.iastore, 1) := by decide +kernel
theorem dX7_addMapPair_230 : decode cX7_addMapPair 230 = .ok (.aload_n 0, 1) := by decide +kernel
theorem dX7_addMapPair_231 : decode cX7_addMapPair 231 = .ok (.getfield 32, 3) := by decide +kernel
theorem dX7_addMapPair_234 : decode cX7_addMapPair 234 = .ok (.iload 4, 2) := by decide +kernel
theorem dX7_addMapPair_236 : decode cX7_addMapPair 236 = .ok (.iload_n 3, 1) := by decide +kernel
theorem dX7_addMapPair_237 : decode cX7_addMapPair 237 = .ok (.iastore, 1) := by decide +kernel
theorem dX7_addMapPair_238 : decode cX7_addMapPair 238 = .ok (.aload_n 0, 1) := by decide +kernel
theorem dX7_addMapPair_239 : decode cX7_addMapPair 239 = .ok (.getfield 26, 3) := by decide +kernel
theorem dX7_addMapPair_242 : decode cX7_addMapPair 242 = .ok (.iload_n 1, 1) := by decide +kernel
theorem dX7_addMapPair_243 : decode cX7_addMapPair 243 = .ok (.iaload, 1) := by decide +kernel
theorem dX7_addMapPair_244 : decode cX7_addMapPair 244 = .ok (.ireturn, 1) := by decide +kernel
theorem dX7_normal_0 : decode cX7_normal 0 = .ok (.iload_n 2, 1) := by decide +kernel
theorem dX7_normal_1 : decode cX7_normal 1 = .ok (.aload_n 0, 1) := by decide +kernel
theorem dX7_normal_2 : decode cX7_normal 2 = .ok (.getfield 7, 3) := by decide +kernel
theorem dX7_normal_5 : decode cX7_normal 5 = .ok (.iload_n 1, 1) := by decide +kernel
theorem dX7_normal_6 : decode cX7_normal 6 = .ok (.iaload, 1) := by decide +kernel
theorem dX7_normal_7 : decode cX7_normal 7 = .ok (.if_icmp .ge 12, 3) := by decide +kernel
theorem dX7_normal_10 : decode cX7_normal 10 = .ok (.aload_n 0, 1) := by decide +kernel
theorem dX7_normal_11 : decode cX7_normal 11 = .ok (.getfield 7, 3) := by decide +kernel
theorem dX7_normal_14 : decode cX7_normal 14 = .ok (.iload_n 1, 1) := by decide +kernel
theorem dX7_normal_15 : decode cX7_normal 15 = .ok (.iaload, 1) := by decide +kernel
theorem dX7_normal_16 : decode cX7_normal 16 = .ok (.goto 23, 3) := by decide +kernel
theorem dX7_normal_19 : decode cX7_normal 19 = .ok (.iload_n 2, 1) := by decide +kernel
theorem dX7_normal_20 : decode cX7_normal 20 = .ok (.aload_n 0, 1) := by decide +kernel
theorem dX7_normal_21 : decode cX7_normal 21 = .ok (.getfield 16, 3) := by decide +kernel
theorem dX7_normal_24 : decode cX7_normal 24 = .ok (.iload_n 1, 1) := by decide +kernel
theorem dX7_normal_25 : decode cX7_normal 25 = .ok (.iaload, 1) := by decide +kernel
theorem dX7_normal_26 : decode cX7_normal 26 = .ok (.if_icmp .le 12, 3) := by decide +kernel
theorem dX7_normal_29 : decode cX7_normal 29 = .ok (.aload_n 0, 1) := by decide +kernel
theorem dX7_normal_30 : decode cX7_normal 30 = .ok (.getfield 16, 3) := by decide +kernel
theorem dX7_normal_33 : decode cX7_normal 33 = .ok (.iload_n 1, 1) := by decide +kernel
theorem dX7_normal_34 : decode cX7_normal 34 = .ok (.iaload, 1) := by decide +kernel
theorem dX7_normal_35 : decode cX7_normal 35 = .ok (.goto 4, 3) := by decide +kernel
theorem dX7_normal_38 : decode cX7_normal 38 = .ok (.iload_n 2, 1) := by decide +kernel
theorem dX7_normal_39 : decode cX7_normal 39 = .ok (.istore_n 3, 1) := by decide +kernel
theorem dX7_normal_40 : decode cX7_normal 40 = .ok (.aload_n 0, 1) := by decide +kernel
theorem dX7_normal_41 : decode cX7_normal 41 = .ok (.getfield 13, 3) := by decide +kernel
theorem dX7_normal_44 : decode cX7_normal 44 = .ok (.iload_n 1, 1) := by decide +kernel
theorem dX7_normal_45 : decode cX7_normal 45 = .ok (.iaload, 1) := by decide +kernel
theorem dX7_normal_46 : decode cX7_normal 46 = .ok (.istore 4, 2) := by decide +kernel
theorem dX7_normal_48 : decode cX7_normal 48 = .ok (.iload_n 3, 1) := by decide +kernel
theorem dX7_normal_49 : decode cX7_normal 49 = .ok (.iload 4, 2) := by decide +kernel
theorem dX7_normal_51 : decode cX7_normal 51 = .ok (.if_icmp .ne 5, 3) := by decide +kernel
theorem dX7_normal_54 : decode cX7_normal 54 = .ok (.iconst 0, 1) := by decide +kernel
theorem dX7_normal_55 : decode cX7_normal 55 = .ok (.ireturn, 1) := by decide +kernel
theorem dX7_normal_56 : decode cX7_normal 56 = .ok (.iload_n 3, 1) := by decide +kernel
theorem dX7_normal_57 : decode cX7_normal 57 = .ok (.iload 4, 2) := by decide +kernel
theorem dX7_normal_59 : decode cX7_normal 59 = .ok (.if_icmp .ge 30, 3) := by decide +kernel
theorem dX7_normal_62 : decode cX7_normal 62 = .ok (.iload 4, 2) := by decide +kernel
theorem dX7_normal_64 : decode cX7_normal 64 = .ok (.iload_n 3, 1) := by decide +kernel
theorem dX7_normal_65 : decode cX7_normal 65 = .ok (.isub, 1) := by decide +kernel
theorem dX7_normal_66 : decode cX7_normal 66 = .ok (.i2l, 1) := by decide +kernel
theorem dX7_normal_67 : decode cX7_normal 67 = .ok (.ldc2_w 132, 3) := by decide +kernel
theorem dX7_normal_70 : decode cX7_normal 70 = .ok (.lmul, 1) := by decide +kernel
theorem dX7_normal_71 : decode cX7_normal 71 = .ok (.iload 4, 2) := by decide +kernel
theorem dX7_normal_73 : decode cX7_normal 73 = .ok (.aload_n 0, 1) := by decide +kernel
theorem dX7_normal_74 : decode cX7_normal 74 = .ok (.getfield 7, 3) := by decide +kernel
theorem dX7_normal_77 : decode cX7_normal 77 = .ok (.iload_n 1, 1) := by decide +kernel
theorem dX7_normal_78 : decode cX7_normal 78 = .ok (.iaload, 1) := by decide +kernel
theorem dX7_normal_79 : decode cX7_normal 79 = .ok (.isub, 1) := by decide +kernel
theorem dX7_normal_80 : decode cX7_normal 80 = .ok (.i2l, 1) := by decide +kernel
theorem dX7_normal_81 : decode cX7_normal 81 = .ok (.invokestatic 134, 3) := by decide +kernel
theorem dX7_normal_84 : decode cX7_normal 84 = .ok (.l2i, 1) := by decide +kernel
theorem dX7_normal_85 : decode cX7_normal 85 = .ok (.ineg, 1) := by decide +kernel
theorem dX7_normal_86 : decode cX7_normal 86 = .ok (.goto 26, 3) := by decide +kernel
theorem dX7_normal_89 : decode cX7_normal 89 = .ok (.iload_n 3, 1) := by decide +kernel
theorem dX7_normal_90 : decode cX7_normal 90 = .ok (.iload 4, 2) := by decide +kernel
theorem dX7_normal_92 : decode cX7_normal 92 = .ok (.isub, 1) := by decide +kernel
theorem dX7_normal_93 : decode cX7_normal 93 = .ok (.i2l, 1) := by decide +kernel
theorem dX7_normal_94 : decode cX7_normal 94 = .ok (.ldc2_w 132, 3) := by decide +kernel
theorem dX7_normal_97 : decode cX7_normal 97 = .ok (.lmul, 1) := by decide +kernel
theorem dX7_normal_98 : decode cX7_normal 98 = .ok (.aload_n 0, 1) := by decide +kernel
theorem dX7_normal_99 : decode cX7_normal 99 = .ok (.getfield 16, 3) := by decide +kernel
theorem dX7_normal_102 : decode cX7_normal 102 = .ok (.iload_n 1, 1) := by decide +kernel
theorem dX7_normal_103 : decode cX7_normal 103 = .ok (.iaload, 1) := by decide +kernel
theorem dX7_normal_104 : decode cX7_normal 104 = .ok (.iload 4, 2) := by decide +kernel
theorem dX7_normal_106 : decode cX7_normal 106 = .ok (.isub, 1) := by decide +kernel
theorem dX7_normal_107 : decode cX7_normal 107 = .ok (.i2l, 1) := by decide +kernel
theorem dX7_normal_108 : decode cX7_normal 108 = .ok (.invokestatic 134, 3) := by decide +kernel
theorem dX7_normal_111 : decode cX7_normal 111 = .ok (.l2i, 1) := by decide +kernel
theorem dX7_normal_112 : decode cX7_normal 112 = .ok (.ireturn, 1) := by decide +kernel
theorem dX7_mapped_0 : decode cX7_mapped 0 = .ok (.iload_n 2, 1) := by decide +kernel
theorem dX7_mapped_1 : decode cX7_mapped 1 = .ok (.sipush 16384, 3) := by decide +kernel
theorem dX7_mapped_4 : decode cX7_mapped 4 = .ok (.if_icmp .ne 7, 3) := by decide +kernel
theorem dX7_mapped_7 : decode cX7_mapped 7 = .ok (.sipush 16384, 3) := by decide +kernel
theorem dX7_mapped_10 : decode cX7_mapped 10 = .ok (.ireturn, 1) := by decide +kernel
theorem dX7_mapped_11 : decode cX7_mapped 11 = .ok (.bipush 8, 2) := by decide +kernel
theorem dX7_mapped_13 : decode cX7_mapped 13 = .ok (.iload_n 1, 1) := by decide +kernel
theorem dX7_mapped_14 : decode cX7_mapped 14 = .ok (.imul, 1) := by decide +kernel
theorem dX7_mapped_15 : decode cX7_mapped 15 = .ok (.istore_n 3, 1) := by decide +kernel
theorem dX7_mapped_16 : decode cX7_mapped 16 = .ok (.aload_n 0, 1) := by decide +kernel
theorem dX7_mapped_17 : decode cX7_mapped 17 = .ok (.getfield 29, 3) := by decide +kernel
theorem dX7_mapped_20 : decode cX7_mapped 20 = .ok (.iload_n 3, 1) := by decide +kernel
theorem dX7_mapped_21 : decode cX7_mapped 21 = .ok (.iconst 1, 1) := by decide +kernel
theorem dX7_mapped_22 : decode cX7_mapped 22 = .ok (.iadd, 1) := by decide +kernel
theorem dX7_mapped_23 : decode cX7_mapped 23 = .ok (.iaload, 1) := by decide +kernel
theorem dX7_mapped_24 : decode cX7_mapped 24 = .ok (.iload_n 2, 1) := by decide +kernel
theorem dX7_mapped_25 : decode cX7_mapped 25 = .ok (.if_icmp .gt 9, 3) := by decide +kernel
theorem dX7_mapped_28 : decode cX7_mapped 28 = .ok (.iinc 3 1, 3) := by decide +kernel
theorem dX7_mapped_31 : decode cX7_mapped 31 = .ok (.goto (-15), 3) := by decide +kernel
theorem dX7_mapped_34 : decode cX7_mapped 34 = .ok (.aload_n 0, 1) := by decide +kernel
theorem dX7_mapped_35 : decode cX7_mapped 35 = .ok (.getfield 32, 3) := by decide +kernel
theorem dX7_mapped_38 : decode cX7_mapped 38 = .ok (.iload_n 3, 1) := by decide +kernel
theorem dX7_mapped_39 : decode cX7_mapped 39 = .ok (.iaload, 1) := by decide +kernel
theorem dX7_mapped_40 : decode cX7_mapped 40 = .ok (.iload_n 2, 1) := by decide +kernel
theorem dX7_mapped_41 : decode cX7_mapped 41 = .ok (.aload_n 0, 1) := by decide +kernel
theorem dX7_mapped_42 : decode cX7_mapped 42 = .ok (.getfield 29, 3) := by decide +kernel
theorem dX7_mapped_45 : decode cX7_mapped 45 = .ok (.iload_n 3, 1) := by decide +kernel
theorem dX7_mapped_46 : decode cX7_mapped 46 = .ok (.iaload, 1) := by decide +kernel
theorem dX7_mapped_47 : decode cX7_mapped 47 = .ok (.isub, 1) := by decide +kernel
theorem dX7_mapped_48 : decode cX7_mapped 48 = .ok (.i2l, 1) := by decide +kernel
theorem dX7_mapped_49 : decode cX7_mapped 49 = .ok (.aload_n 0, 1) := by decide +kernel
theorem dX7_mapped_50 : decode cX7_mapped 50 = .ok (.getfield 32, 3) := by decide +kernel
theorem dX7_mapped_53 : decode cX7_mapped 53 = .ok (.iload_n 3, 1) := by decide +kernel
theorem dX7_mapped_54 : decode cX7_mapped 54 = .ok (.iconst 1, 1) := by decide +kernel
theorem dX7_mapped_55 : decode cX7_mapped 55 = .ok (.iadd, 1) := by decide +kernel
theorem dX7_mapped_56 : decode cX7_mapped 56 = .ok (.iaload, 1) := by decide +kernel
theorem dX7_mapped_57 : decode cX7_mapped 57 = .ok (.aload_n 0, 1) := by decide +kernel
theorem dX7_mapped_58 : decode cX7_mapped 58 = .ok (.getfield 32, 3) := by decide +kernel
theorem dX7_mapped_61 : decode cX7_mapped 61 = .ok (.iload_n 3, 1) := by decide +kernel
theorem dX7_mapped_62 : decode cX7_mapped 62 = .ok (.iaload, 1) := by decide +kernel
theorem dX7_mapped_63 : decode cX7_mapped 63 = .ok (.isub, 1) := by decide +kernel
theorem dX7_mapped_64 : decode cX7_mapped 64 = .ok (.i2l, 1) := by decide +kernel
theorem dX7_mapped_65 : decode cX7_mapped 65 = .ok (.lmul, 1) := by decide +kernel
theorem dX7_mapped_66 : decode cX7_mapped 66 = .ok (.aload_n 0, 1) := by decide +kernel
theorem dX7_mapped_67 : decode cX7_mapped 67 = .ok (.getfield 29, 3) := by decide +kernel
theorem dX7_mapped_70 : decode cX7_mapped 70 = .ok (.iload_n 3, 1) := by decide +kernel
theorem dX7_mapped_71 : decode cX7_mapped 71 = .ok (.iconst 1, 1) := by decide +kernel
theorem dX7_mapped_72 : decode cX7_mapped 72 = .ok (.iadd, 1) := by decide +kernel
theorem dX7_mapped_73 : decode cX7_mapped 73 = .ok (.iaload, 1) := by decide +kernel
theorem dX7_mapped_74 : decode cX7_mapped 74 = .ok (.aload_n 0, 1) := by decide +kernel
theorem dX7_mapped_75 : decode cX7_mapped 75 = .ok (.getfield 29, 3) := by decide +kernel
theorem dX7_mapped_78 : decode cX7_mapped 78 = .ok (.iload_n 3, 1) := by decide +kernel
theorem dX7_mapped_79 : decode cX7_mapped 79 = .ok (.iaload, 1) := by decide +kernel
theorem dX7_mapped_80 : decode cX7_mapped 80 = .ok (.isub, 1) := by decide +kernel
theorem dX7_mapped_81 : decode cX7_mapped 81 = .ok (.i2l, 1) := by decide +kernel
theorem dX7_mapped_82 : decode cX7_mapped 82 = .ok (.invokestatic 134, 3) := by decide +kernel
theorem dX7_mapped_85 : decode cX7_mapped 85 = .ok (.l2i, 1) := by decide +kernel
theorem dX7_mapped_86 : decode cX7_mapped 86 = .ok (.iadd, 1) := by decide +kernel
theorem dX7_mapped_87 : decode cX7_mapped 87 = .ok (.ireturn, 1) := by decide +kernel
theorem dX7_normalize_0 : decode cX7_normalize 0 = .ok (.aload_n 0, 1) := by decide +kernel
theorem dX7_normalize_1 : decode cX7_normalize 1 = .ok (.iload_n 1, 1) := by decide +kernel
theorem dX7_normalize_2 : decode cX7_normalize 2 = .ok (.invokevirtual 121, 3) := by decide +kernel
theorem dX7_normalize_5 : decode cX7_normalize 5 = .ok (.ifCond .eq 8, 3) := by decide +kernel
theorem dX7_normalize_8 : decode cX7_normalize 8 = .ok (.ldc 125, 2) := by decide +kernel
theorem dX7_normalize_10 : decode cX7_normalize 10 = .ok (.goto 14, 3) := by decide +kernel
theorem dX7_normalize_13 : decode cX7_normalize 13 = .ok (.aload_n 0, 1) := by decide +kernel
theorem dX7_normalize_14 : decode cX7_normalize 14 = .ok (.iload_n 1, 1) := by decide +kernel
theorem dX7_normalize_15 : decode cX7_normalize 15 = .ok (.aload_n 0, 1) := by decide +kernel
theorem dX7_normalize_16 : decode cX7_normalize 16 = .ok (.iload_n 1, 1) := by decide +kernel
theorem dX7_normalize_17 : decode cX7_normalize 17 = .ok (.iload_n 2, 1) := by decide +kernel
theorem dX7_normalize_18 : decode cX7_normalize 18 = .ok (.invokevirtual 138, 3) := by decide +kernel
theorem dX7_normalize_21 : decode cX7_normalize 21 = .ok (.invokevirtual 142, 3) := by decide +kernel
theorem dX7_normalize_24 : decode cX7_normalize 24 = .ok (.ireturn, 1) := by decide +kernel
theorem dX7_setUser_0 : decode cX7_setUser 0 = .ok (.aload_n 0, 1) := by decide +kernel
theorem dX7_setUser_1 : decode cX7_setUser 1 = .ok (.iload_n 1, 1) := by decide +kernel
theorem dX7_setUser_2 : decode cX7_setUser 2 = .ok (.invokevirtual 121, 3) := by decide +kernel
theorem dX7_setUser_5 : decode cX7_setUser 5 = .ok (.ifCond .eq 6, 3) := by decide +kernel
theorem dX7_setUser_8 : decode cX7_setUser 8 = .ok (.ldc 125, 2) := by decide +kernel
theorem dX7_setUser_10 : decode cX7_setUser 10 = .ok (.ireturn, 1) := by decide +kernel
theorem dX7_setUser_11 : decode cX7_setUser 11 = .ok (.aload_n 0, 1) := by decide +kernel
theorem dX7_setUser_12 : decode cX7_setUser 12 = .ok (.getfield 22, 3) := by decide +kernel
theorem dX7_setUser_15 : decode cX7_setUser 15 = .ok (.iload_n 1, 1) := by decide +kernel
theorem dX7_setUser_16 : decode cX7_setUser 16 = .ok (.baload, 1) := by decide +kernel
theorem dX7_setUser_17 : decode cX7_setUser 17 = .ok (.ifCond .eq 6, 3) := by decide +kernel
theorem dX7_setUser_20 : decode cX7_setUser 20 = .ok (.ldc 145, 2) := by decide +kernel
theorem dX7_setUser_22 : decode cX7_setUser 22 = .ok (.ireturn, 1) := by decide +kernel
theorem dX7_setUser_23 : decode cX7_setUser 23 = .ok (.aload_n 0, 1) := by decide +kernel
theorem dX7_setUser_24 : decode cX7_setUser 24 = .ok (.getfield 19, 3) := by decide +kernel
theorem dX7_setUser_27 : decode cX7_setUser 27 = .ok (.iload_n 1, 1) := by decide +kernel
theorem dX7_setUser_28 : decode cX7_setUser 28 = .ok (.aload_n 0, 1) := by decide +kernel
theorem dX7_setUser_29 : decode cX7_setUser 29 = .ok (.iload_n 1, 1) := by decide +kernel
theorem dX7_setUser_30 : decode cX7_setUser 30 = .ok (.aload_n 0, 1) := by decide +kernel
theorem dX7_setUser_31 : decode cX7_setUser 31 = .ok (.iload_n 1, 1) := by decide +kernel
theorem dX7_setUser_32 : decode cX7_setUser 32 = .ok (.iload_n 2, 1) := by decide +kernel
theorem dX7_setUser_33 : decode cX7_setUser 33 = .ok (.invokevirtual 138, 3) := by decide +kernel
theorem dX7_setUser_36 : decode cX7_setUser 36 = .ok (.invokevirtual 142, 3) := by decide +kernel
theorem dX7_setUser_39 : decode cX7_setUser 39 = .ok (.iastore, 1) := by decide +kernel
theorem dX7_setUser_40 : decode cX7_setUser 40 = .ok (.aload_n 0, 1) := by decide +kernel
theorem dX7_setUser_41 : decode cX7_setUser 41 = .ok (.getfield 19, 3) := by decide +kernel
theorem dX7_setUser_44 : decode cX7_setUser 44 = .ok (.iload_n 1, 1) := by decide +kernel
theorem dX7_setUser_45 : decode cX7_setUser 45 = .ok (.iaload, 1) := by decide +kernel
theorem dX7_setUser_46 : decode cX7_setUser 46 = .ok (.ireturn, 1) := by decide +kernel
theorem dX7_setCoordinate_0 : decode cX7_setCoordinate 0 = .ok (.aload_n 0, 1) := by decide +kernel
theorem dX7_setCoordinate_1 : decode cX7_setCoordinate 1 = .ok (.iload_n 1, 1) := by decide +kernel
theorem dX7_setCoordinate_2 : decode cX7_setCoordinate 2 = .ok (.invokevirtual 121, 3) := by decide +kernel
theorem dX7_setCoordinate_5 : decode cX7_setCoordinate 5 = .ok (.ifCond .eq 6, 3) := by decide +kernel
theorem dX7_setCoordinate_8 : decode cX7_setCoordinate 8 = .ok (.ldc 125, 2) := by decide +kernel
theorem dX7_setCoordinate_10 : decode cX7_setCoordinate 10 = .ok (.ireturn, 1) := by decide +kernel
theorem dX7_setCoordinate_11 : decode cX7_setCoordinate 11 = .ok (.iload_n 2, 1) := by decide +kernel
theorem dX7_setCoordinate_12 : decode cX7_setCoordinate 12 = .ok (.i2l, 1) := by decide +kernel
theorem dX7_setCoordinate_13 : decode cX7_setCoordinate 13 = .ok (.ldc2_w 130, 3) := by decide +kernel
theorem dX7_setCoordinate_16 : decode cX7_setCoordinate 16 = .ok (.ldc2_w 132, 3) := by decide +kernel
theorem dX7_setCoordinate_19 : decode cX7_setCoordinate 19 = .ok (.invokestatic 111, 3) := by decide +kernel
theorem dX7_setCoordinate_22 : decode cX7_setCoordinate 22 = .ok (.ifCond .ne 6, 3) := by decide +kernel
theorem dX7_setCoordinate_25 : decode cX7_setCoordinate 25 = .ok (.ldc 119, 2) := by decide +kernel
theorem dX7_setCoordinate_27 : decode cX7_setCoordinate 27 = .ok (.ireturn, 1) := by decide +kernel
theorem dX7_setCoordinate_28 : decode cX7_setCoordinate 28 = .ok (.aload_n 0, 1) := by decide +kernel
theorem dX7_setCoordinate_29 : decode cX7_setCoordinate 29 = .ok (.getfield 22, 3) := by decide +kernel
theorem dX7_setCoordinate_32 : decode cX7_setCoordinate 32 = .ok (.iload_n 1, 1) := by decide +kernel
theorem dX7_setCoordinate_33 : decode cX7_setCoordinate 33 = .ok (.baload, 1) := by decide +kernel
theorem dX7_setCoordinate_34 : decode cX7_setCoordinate 34 = .ok (.ifCond .eq 6, 3) := by decide +kernel
theorem dX7_setCoordinate_37 : decode cX7_setCoordinate 37 = .ok (.ldc 145, 2) := by decide +kernel
theorem dX7_setCoordinate_39 : decode cX7_setCoordinate 39 = .ok (.ireturn, 1) := by decide +kernel
theorem dX7_setCoordinate_40 : decode cX7_setCoordinate 40 = .ok (.aload_n 0, 1) := by decide +kernel
theorem dX7_setCoordinate_41 : decode cX7_setCoordinate 41 = .ok (.getfield 19, 3) := by decide +kernel
theorem dX7_setCoordinate_44 : decode cX7_setCoordinate 44 = .ok (.iload_n 1, 1) := by decide +kernel
theorem dX7_setCoordinate_45 : decode cX7_setCoordinate 45 = .ok (.iaload, 1) := by decide +kernel
theorem dX7_setCoordinate_46 : decode cX7_setCoordinate 46 = .ok (.istore_n 3, 1) := by decide +kernel
theorem dX7_setCoordinate_47 : decode cX7_setCoordinate 47 = .ok (.aload_n 0, 1) := by decide +kernel
theorem dX7_setCoordinate_48 : decode cX7_setCoordinate 48 = .ok (.getfield 19, 3) := by decide +kernel
theorem dX7_setCoordinate_51 : decode cX7_setCoordinate 51 = .ok (.iload_n 1, 1) := by decide +kernel
theorem dX7_setCoordinate_52 : decode cX7_setCoordinate 52 = .ok (.iload_n 2, 1) := by decide +kernel
theorem dX7_setCoordinate_53 : decode cX7_setCoordinate 53 = .ok (.iastore, 1) := by decide +kernel
theorem dX7_setCoordinate_54 : decode cX7_setCoordinate 54 = .ok (.iload_n 3, 1) := by decide +kernel
theorem dX7_setCoordinate_55 : decode cX7_setCoordinate 55 = .ok (.ireturn, 1) := by decide +kernel
theorem dX7_pin_0 : decode cX7_pin 0 = .ok (.aload_n 0, 1) := by decide +kernel
theorem dX7_pin_1 : decode cX7_pin 1 = .ok (.iload_n 1, 1) := by decide +kernel
theorem dX7_pin_2 : decode cX7_pin 2 = .ok (.invokevirtual 121, 3) := by decide +kernel
theorem dX7_pin_5 : decode cX7_pin 5 = .ok (.ifCond .eq 6, 3) := by decide +kernel
theorem dX7_pin_8 : decode cX7_pin 8 = .ok (.ldc 125, 2) := by decide +kernel
theorem dX7_pin_10 : decode cX7_pin 10 = .ok (.ireturn, 1) := by decide +kernel
theorem dX7_pin_11 : decode cX7_pin 11 = .ok (.aload_n 0, 1) := by decide +kernel
theorem dX7_pin_12 : decode cX7_pin 12 = .ok (.getfield 22, 3) := by decide +kernel
theorem dX7_pin_15 : decode cX7_pin 15 = .ok (.iload_n 1, 1) := by decide +kernel
theorem dX7_pin_16 : decode cX7_pin 16 = .ok (.baload, 1) := by decide +kernel
theorem dX7_pin_17 : decode cX7_pin 17 = .ok (.iload_n 2, 1) := by decide +kernel
theorem dX7_pin_18 : decode cX7_pin 18 = .ok (.if_icmp .ne 7, 3) := by decide +kernel
theorem dX7_pin_21 : decode cX7_pin 21 = .ok (.iconst 0, 1) := by decide +kernel
theorem dX7_pin_22 : decode cX7_pin 22 = .ok (.goto 4, 3) := by decide +kernel
theorem dX7_pin_25 : decode cX7_pin 25 = .ok (.iconst 1, 1) := by decide +kernel
theorem dX7_pin_26 : decode cX7_pin 26 = .ok (.istore_n 3, 1) := by decide +kernel
theorem dX7_pin_27 : decode cX7_pin 27 = .ok (.aload_n 0, 1) := by decide +kernel
theorem dX7_pin_28 : decode cX7_pin 28 = .ok (.getfield 22, 3) := by decide +kernel
theorem dX7_pin_31 : decode cX7_pin 31 = .ok (.iload_n 1, 1) := by decide +kernel
theorem dX7_pin_32 : decode cX7_pin 32 = .ok (.iload_n 2, 1) := by decide +kernel
theorem dX7_pin_33 : decode cX7_pin 33 = .ok (.bastore, 1) := by decide +kernel
theorem dX7_pin_34 : decode cX7_pin 34 = .ok (.iload_n 3, 1) := by decide +kernel
theorem dX7_pin_35 : decode cX7_pin 35 = .ok (.ireturn, 1) := by decide +kernel
theorem dX7_axisValue_0 : decode cX7_axisValue 0 = .ok (.aload_n 0, 1) := by decide +kernel
theorem dX7_axisValue_1 : decode cX7_axisValue 1 = .ok (.iload_n 1, 1) := by decide +kernel
theorem dX7_axisValue_2 : decode cX7_axisValue 2 = .ok (.invokevirtual 121, 3) := by decide +kernel
theorem dX7_axisValue_5 : decode cX7_axisValue 5 = .ok (.ifCond .eq 6, 3) := by decide +kernel
theorem dX7_axisValue_8 : decode cX7_axisValue 8 = .ok (.ldc 125, 2) := by decide +kernel
theorem dX7_axisValue_10 : decode cX7_axisValue 10 = .ok (.ireturn, 1) := by decide +kernel
theorem dX7_axisValue_11 : decode cX7_axisValue 11 = .ok (.iload_n 2, 1) := by decide +kernel
theorem dX7_axisValue_12 : decode cX7_axisValue 12 = .ok (.tableswitch 90 0 5 #[40, 47, 54, 61, 68, 75], 40) := by decide +kernel
theorem dX7_axisValue_52 : decode cX7_axisValue 52 = .ok (.aload_n 0, 1) := by decide +kernel
theorem dX7_axisValue_53 : decode cX7_axisValue 53 = .ok (.getfield 19, 3) := by decide +kernel
theorem dX7_axisValue_56 : decode cX7_axisValue 56 = .ok (.iload_n 1, 1) := by decide +kernel
theorem dX7_axisValue_57 : decode cX7_axisValue 57 = .ok (.iaload, 1) := by decide +kernel
theorem dX7_axisValue_58 : decode cX7_axisValue 58 = .ok (.ireturn, 1) := by decide +kernel
theorem dX7_axisValue_59 : decode cX7_axisValue 59 = .ok (.aload_n 0, 1) := by decide +kernel
theorem dX7_axisValue_60 : decode cX7_axisValue 60 = .ok (.getfield 7, 3) := by decide +kernel
theorem dX7_axisValue_63 : decode cX7_axisValue 63 = .ok (.iload_n 1, 1) := by decide +kernel
theorem dX7_axisValue_64 : decode cX7_axisValue 64 = .ok (.iaload, 1) := by decide +kernel
theorem dX7_axisValue_65 : decode cX7_axisValue 65 = .ok (.ireturn, 1) := by decide +kernel
theorem dX7_axisValue_66 : decode cX7_axisValue 66 = .ok (.aload_n 0, 1) := by decide +kernel
theorem dX7_axisValue_67 : decode cX7_axisValue 67 = .ok (.getfield 13, 3) := by decide +kernel
theorem dX7_axisValue_70 : decode cX7_axisValue 70 = .ok (.iload_n 1, 1) := by decide +kernel
theorem dX7_axisValue_71 : decode cX7_axisValue 71 = .ok (.iaload, 1) := by decide +kernel
theorem dX7_axisValue_72 : decode cX7_axisValue 72 = .ok (.ireturn, 1) := by decide +kernel
theorem dX7_axisValue_73 : decode cX7_axisValue 73 = .ok (.aload_n 0, 1) := by decide +kernel
theorem dX7_axisValue_74 : decode cX7_axisValue 74 = .ok (.getfield 16, 3) := by decide +kernel
theorem dX7_axisValue_77 : decode cX7_axisValue 77 = .ok (.iload_n 1, 1) := by decide +kernel
theorem dX7_axisValue_78 : decode cX7_axisValue 78 = .ok (.iaload, 1) := by decide +kernel
theorem dX7_axisValue_79 : decode cX7_axisValue 79 = .ok (.ireturn, 1) := by decide +kernel
theorem dX7_axisValue_80 : decode cX7_axisValue 80 = .ok (.aload_n 0, 1) := by decide +kernel
theorem dX7_axisValue_81 : decode cX7_axisValue 81 = .ok (.getfield 26, 3) := by decide +kernel
theorem dX7_axisValue_84 : decode cX7_axisValue 84 = .ok (.iload_n 1, 1) := by decide +kernel
theorem dX7_axisValue_85 : decode cX7_axisValue 85 = .ok (.iaload, 1) := by decide +kernel
theorem dX7_axisValue_86 : decode cX7_axisValue 86 = .ok (.ireturn, 1) := by decide +kernel
theorem dX7_axisValue_87 : decode cX7_axisValue 87 = .ok (.aload_n 0, 1) := by decide +kernel
theorem dX7_axisValue_88 : decode cX7_axisValue 88 = .ok (.getfield 22, 3) := by decide +kernel
theorem dX7_axisValue_91 : decode cX7_axisValue 91 = .ok (.iload_n 1, 1) := by decide +kernel
theorem dX7_axisValue_92 : decode cX7_axisValue 92 = .ok (.baload, 1) := by decide +kernel
theorem dX7_axisValue_93 : decode cX7_axisValue 93 = .ok (.ifCond .eq 7, 3) := by decide +kernel
theorem dX7_axisValue_96 : decode cX7_axisValue 96 = .ok (.iconst 1, 1) := by decide +kernel
theorem dX7_axisValue_97 : decode cX7_axisValue 97 = .ok (.goto 4, 3) := by decide +kernel
theorem dX7_axisValue_100 : decode cX7_axisValue 100 = .ok (.iconst 0, 1) := by decide +kernel
theorem dX7_axisValue_101 : decode cX7_axisValue 101 = .ok (.ireturn, 1) := by decide +kernel
theorem dX7_axisValue_102 : decode cX7_axisValue 102 = .ok (.ldc 119, 2) := by decide +kernel
theorem dX7_axisValue_104 : decode cX7_axisValue 104 = .ok (.ireturn, 1) := by decide +kernel
theorem dX7_of_0 : decode cX7_of 0 = .ok (.aload_n 0, 1) := by decide +kernel
theorem dX7_of_1 : decode cX7_of 1 = .ok (.getfield 35, 3) := by decide +kernel
theorem dX7_of_4 : decode cX7_of 4 = .ok (.sipush 511, 3) := by decide +kernel
theorem dX7_of_7 : decode cX7_of 7 = .ok (.iload_n 1, 1) := by decide +kernel
theorem dX7_of_8 : decode cX7_of 8 = .ok (.imul, 1) := by decide +kernel
theorem dX7_of_9 : decode cX7_of 9 = .ok (.iload_n 2, 1) := by decide +kernel
theorem dX7_of_10 : decode cX7_of 10 = .ok (.iadd, 1) := by decide +kernel
theorem dX7_of_11 : decode cX7_of 11 = .ok (.iaload, 1) := by decide +kernel
theorem dX7_of_12 : decode cX7_of 12 = .ok (.ireturn, 1) := by decide +kernel
theorem dX7_put_0 : decode cX7_put 0 = .ok (.aload_n 0, 1) := by decide +kernel
theorem dX7_put_1 : decode cX7_put 1 = .ok (.getfield 35, 3) := by decide +kernel
theorem dX7_put_4 : decode cX7_put 4 = .ok (.sipush 511, 3) := by decide +kernel
theorem dX7_put_7 : decode cX7_put 7 = .ok (.iload_n 1, 1) := by decide +kernel
theorem dX7_put_8 : decode cX7_put 8 = .ok (.imul, 1) := by decide +kernel
theorem dX7_put_9 : decode cX7_put 9 = .ok (.iload_n 2, 1) := by decide +kernel
theorem dX7_put_10 : decode cX7_put 10 = .ok (.iadd, 1) := by decide +kernel
theorem dX7_put_11 : decode cX7_put 11 = .ok (.iload_n 3, 1) := by decide +kernel
theorem dX7_put_12 : decode cX7_put 12 = .ok (.iastore, 1) := by decide +kernel
theorem dX7_put_13 : decode cX7_put 13 = .ok (.return_, 1) := by decide +kernel
theorem dX7_noGlyph_0 : decode cX7_noGlyph 0 = .ok (.iload_n 1, 1) := by decide +kernel
theorem dX7_noGlyph_1 : decode cX7_noGlyph 1 = .ok (.i2l, 1) := by decide +kernel
theorem dX7_noGlyph_2 : decode cX7_noGlyph 2 = .ok (.lconst 0, 1) := by decide +kernel
theorem dX7_noGlyph_3 : decode cX7_noGlyph 3 = .ok (.aload_n 0, 1) := by decide +kernel
theorem dX7_noGlyph_4 : decode cX7_noGlyph 4 = .ok (.getfield 146, 3) := by decide +kernel
theorem dX7_noGlyph_7 : decode cX7_noGlyph 7 = .ok (.i2l, 1) := by decide +kernel
theorem dX7_noGlyph_8 : decode cX7_noGlyph 8 = .ok (.lconst 1, 1) := by decide +kernel
theorem dX7_noGlyph_9 : decode cX7_noGlyph 9 = .ok (.lsub, 1) := by decide +kernel
theorem dX7_noGlyph_10 : decode cX7_noGlyph 10 = .ok (.invokestatic 111, 3) := by decide +kernel
theorem dX7_noGlyph_13 : decode cX7_noGlyph 13 = .ok (.ifCond .ne 7, 3) := by decide +kernel
theorem dX7_noGlyph_16 : decode cX7_noGlyph 16 = .ok (.iconst 1, 1) := by decide +kernel
theorem dX7_noGlyph_17 : decode cX7_noGlyph 17 = .ok (.goto 4, 3) := by decide +kernel
theorem dX7_noGlyph_20 : decode cX7_noGlyph 20 = .ok (.iconst 0, 1) := by decide +kernel
theorem dX7_noGlyph_21 : decode cX7_noGlyph 21 = .ok (.ireturn, 1) := by decide +kernel
theorem dX7_addGlyph_0 : decode cX7_addGlyph 0 = .ok (.iload_n 2, 1) := by decide +kernel
theorem dX7_addGlyph_1 : decode cX7_addGlyph 1 = .ok (.i2l, 1) := by decide +kernel
theorem dX7_addGlyph_2 : decode cX7_addGlyph 2 = .ok (.lconst 0, 1) := by decide +kernel
theorem dX7_addGlyph_3 : decode cX7_addGlyph 3 = .ok (.ldc2_w 149, 3) := by decide +kernel
theorem dX7_addGlyph_6 : decode cX7_addGlyph 6 = .ok (.invokestatic 111, 3) := by decide +kernel
theorem dX7_addGlyph_9 : decode cX7_addGlyph 9 = .ok (.ifCond .ne 6, 3) := by decide +kernel
theorem dX7_addGlyph_12 : decode cX7_addGlyph 12 = .ok (.ldc 119, 2) := by decide +kernel
theorem dX7_addGlyph_14 : decode cX7_addGlyph 14 = .ok (.ireturn, 1) := by decide +kernel
theorem dX7_addGlyph_15 : decode cX7_addGlyph 15 = .ok (.aload_n 0, 1) := by decide +kernel
theorem dX7_addGlyph_16 : decode cX7_addGlyph 16 = .ok (.getfield 146, 3) := by decide +kernel
theorem dX7_addGlyph_19 : decode cX7_addGlyph 19 = .ok (.bipush 6, 2) := by decide +kernel
theorem dX7_addGlyph_21 : decode cX7_addGlyph 21 = .ok (.if_icmp .ne 6, 3) := by decide +kernel
theorem dX7_addGlyph_24 : decode cX7_addGlyph 24 = .ok (.ldc 120, 2) := by decide +kernel
theorem dX7_addGlyph_26 : decode cX7_addGlyph 26 = .ok (.ireturn, 1) := by decide +kernel
theorem dX7_addGlyph_27 : decode cX7_addGlyph 27 = .ok (.aload_n 0, 1) := by decide +kernel
theorem dX7_addGlyph_28 : decode cX7_addGlyph 28 = .ok (.aload_n 0, 1) := by decide +kernel
theorem dX7_addGlyph_29 : decode cX7_addGlyph 29 = .ok (.getfield 146, 3) := by decide +kernel
theorem dX7_addGlyph_32 : decode cX7_addGlyph 32 = .ok (.iconst 0, 1) := by decide +kernel
theorem dX7_addGlyph_33 : decode cX7_addGlyph 33 = .ok (.iload_n 1, 1) := by decide +kernel
theorem dX7_addGlyph_34 : decode cX7_addGlyph 34 = .ok (.ifCond .eq 7, 3) := by decide +kernel
theorem dX7_addGlyph_37 : decode cX7_addGlyph 37 = .ok (.iconst 1, 1) := by decide +kernel
theorem dX7_addGlyph_38 : decode cX7_addGlyph 38 = .ok (.goto 4, 3) := by decide +kernel
theorem dX7_addGlyph_41 : decode cX7_addGlyph 41 = .ok (.iconst 0, 1) := by decide +kernel
theorem dX7_addGlyph_42 : decode cX7_addGlyph 42 = .ok (.invokevirtual 151, 3) := by decide +kernel
theorem dX7_addGlyph_45 : decode cX7_addGlyph 45 = .ok (.aload_n 0, 1) := by decide +kernel
theorem dX7_addGlyph_46 : decode cX7_addGlyph 46 = .ok (.aload_n 0, 1) := by decide +kernel
theorem dX7_addGlyph_47 : decode cX7_addGlyph 47 = .ok (.getfield 146, 3) := by decide +kernel
theorem dX7_addGlyph_50 : decode cX7_addGlyph 50 = .ok (.iconst 1, 1) := by decide +kernel
theorem dX7_addGlyph_51 : decode cX7_addGlyph 51 = .ok (.iload_n 2, 1) := by decide +kernel
theorem dX7_addGlyph_52 : decode cX7_addGlyph 52 = .ok (.invokevirtual 151, 3) := by decide +kernel
theorem dX7_addGlyph_55 : decode cX7_addGlyph 55 = .ok (.aload_n 0, 1) := by decide +kernel
theorem dX7_addGlyph_56 : decode cX7_addGlyph 56 = .ok (.dup, 1) := by decide +kernel
theorem dX7_addGlyph_57 : decode cX7_addGlyph 57 = .ok (.getfield 146, 3) := by decide +kernel
theorem dX7_addGlyph_60 : decode cX7_addGlyph 60 = .ok (.iconst 1, 1) := by decide +kernel
theorem dX7_addGlyph_61 : decode cX7_addGlyph 61 = .ok (.iadd, 1) := by decide +kernel
theorem dX7_addGlyph_62 : decode cX7_addGlyph 62 = .ok (.putfield 146, 3) := by decide +kernel
theorem dX7_addGlyph_65 : decode cX7_addGlyph 65 = .ok (.aload_n 0, 1) := by decide +kernel
theorem dX7_addGlyph_66 : decode cX7_addGlyph 66 = .ok (.getfield 146, 3) := by decide +kernel
theorem dX7_addGlyph_69 : decode cX7_addGlyph 69 = .ok (.iconst 1, 1) := by decide +kernel
theorem dX7_addGlyph_70 : decode cX7_addGlyph 70 = .ok (.isub, 1) := by decide +kernel
theorem dX7_addGlyph_71 : decode cX7_addGlyph 71 = .ok (.ireturn, 1) := by decide +kernel
theorem dX7_isPart_0 : decode cX7_isPart 0 = .ok (.iconst 0, 1) := by decide +kernel
theorem dX7_isPart_1 : decode cX7_isPart 1 = .ok (.istore_n 2, 1) := by decide +kernel
theorem dX7_isPart_2 : decode cX7_isPart 2 = .ok (.iload_n 1, 1) := by decide +kernel
theorem dX7_isPart_3 : decode cX7_isPart 3 = .ok (.iconst 1, 1) := by decide +kernel
theorem dX7_isPart_4 : decode cX7_isPart 4 = .ok (.iadd, 1) := by decide +kernel
theorem dX7_isPart_5 : decode cX7_isPart 5 = .ok (.istore_n 3, 1) := by decide +kernel
theorem dX7_isPart_6 : decode cX7_isPart 6 = .ok (.iload_n 3, 1) := by decide +kernel
theorem dX7_isPart_7 : decode cX7_isPart 7 = .ok (.aload_n 0, 1) := by decide +kernel
theorem dX7_isPart_8 : decode cX7_isPart 8 = .ok (.getfield 146, 3) := by decide +kernel
theorem dX7_isPart_11 : decode cX7_isPart 11 = .ok (.if_icmp .ge 63, 3) := by decide +kernel
theorem dX7_isPart_14 : decode cX7_isPart 14 = .ok (.iconst 0, 1) := by decide +kernel
theorem dX7_isPart_15 : decode cX7_isPart 15 = .ok (.istore 4, 2) := by decide +kernel
theorem dX7_isPart_17 : decode cX7_isPart 17 = .ok (.iload 4, 2) := by decide +kernel
theorem dX7_isPart_19 : decode cX7_isPart 19 = .ok (.aload_n 0, 1) := by decide +kernel
theorem dX7_isPart_20 : decode cX7_isPart 20 = .ok (.iload_n 3, 1) := by decide +kernel
theorem dX7_isPart_21 : decode cX7_isPart 21 = .ok (.iconst 2, 1) := by decide +kernel
theorem dX7_isPart_22 : decode cX7_isPart 22 = .ok (.invokevirtual 155, 3) := by decide +kernel
theorem dX7_isPart_25 : decode cX7_isPart 25 = .ok (.if_icmp .ge 43, 3) := by decide +kernel
theorem dX7_isPart_28 : decode cX7_isPart 28 = .ok (.aload_n 0, 1) := by decide +kernel
theorem dX7_isPart_29 : decode cX7_isPart 29 = .ok (.iload_n 3, 1) := by decide +kernel
theorem dX7_isPart_30 : decode cX7_isPart 30 = .ok (.iconst 0, 1) := by decide +kernel
theorem dX7_isPart_31 : decode cX7_isPart 31 = .ok (.invokevirtual 155, 3) := by decide +kernel
theorem dX7_isPart_34 : decode cX7_isPart 34 = .ok (.iconst 1, 1) := by decide +kernel
theorem dX7_isPart_35 : decode cX7_isPart 35 = .ok (.if_icmp .ne 33, 3) := by decide +kernel
theorem dX7_isPart_38 : decode cX7_isPart 38 = .ok (.iload_n 2, 1) := by decide +kernel
theorem dX7_isPart_39 : decode cX7_isPart 39 = .ok (.ifCond .ne 17, 3) := by decide +kernel
theorem dX7_isPart_42 : decode cX7_isPart 42 = .ok (.aload_n 0, 1) := by decide +kernel
theorem dX7_isPart_43 : decode cX7_isPart 43 = .ok (.iload_n 3, 1) := by decide +kernel
theorem dX7_isPart_44 : decode cX7_isPart 44 = .ok (.bipush 52, 2) := by decide +kernel
theorem dX7_isPart_46 : decode cX7_isPart 46 = .ok (.iload 4, 2) := by decide +kernel
theorem dX7_isPart_48 : decode cX7_isPart 48 = .ok (.iadd, 1) := by decide +kernel
theorem dX7_isPart_49 : decode cX7_isPart 49 = .ok (.invokevirtual 155, 3) := by decide +kernel
theorem dX7_isPart_52 : decode cX7_isPart 52 = .ok (.iload_n 1, 1) := by decide +kernel
theorem dX7_isPart_53 : decode cX7_isPart 53 = .ok (.if_icmp .ne 7, 3) := by decide +kernel
theorem dX7_isPart_56 : decode cX7_isPart 56 = .ok (.iconst 1, 1) := by decide +kernel
theorem dX7_isPart_57 : decode cX7_isPart 57 = .ok (.goto 4, 3) := by decide +kernel
theorem dX7_isPart_60 : decode cX7_isPart 60 = .ok (.iconst 0, 1) := by decide +kernel
theorem dX7_isPart_61 : decode cX7_isPart 61 = .ok (.istore_n 2, 1) := by decide +kernel
theorem dX7_isPart_62 : decode cX7_isPart 62 = .ok (.iinc 4 1, 3) := by decide +kernel
theorem dX7_isPart_65 : decode cX7_isPart 65 = .ok (.goto (-48), 3) := by decide +kernel
theorem dX7_isPart_68 : decode cX7_isPart 68 = .ok (.iinc 3 1, 3) := by decide +kernel
theorem dX7_isPart_71 : decode cX7_isPart 71 = .ok (.goto (-65), 3) := by decide +kernel
theorem dX7_isPart_74 : decode cX7_isPart 74 = .ok (.iload_n 2, 1) := by decide +kernel
theorem dX7_isPart_75 : decode cX7_isPart 75 = .ok (.ireturn, 1) := by decide +kernel
theorem dX7_isPlace_0 : decode cX7_isPlace 0 = .ok (.iload_n 0, 1) := by decide +kernel
theorem dX7_isPlace_1 : decode cX7_isPlace 1 = .ok (.i2l, 1) := by decide +kernel
theorem dX7_isPlace_2 : decode cX7_isPlace 2 = .ok (.ldc2_w 158, 3) := by decide +kernel
theorem dX7_isPlace_5 : decode cX7_isPlace 5 = .ok (.ldc2_w 149, 3) := by decide +kernel
theorem dX7_isPlace_8 : decode cX7_isPlace 8 = .ok (.invokestatic 111, 3) := by decide +kernel
theorem dX7_isPlace_11 : decode cX7_isPlace 11 = .ok (.ifCond .eq 21, 3) := by decide +kernel
theorem dX7_isPlace_14 : decode cX7_isPlace 14 = .ok (.iload_n 1, 1) := by decide +kernel
theorem dX7_isPlace_15 : decode cX7_isPlace 15 = .ok (.i2l, 1) := by decide +kernel
theorem dX7_isPlace_16 : decode cX7_isPlace 16 = .ok (.ldc2_w 158, 3) := by decide +kernel
theorem dX7_isPlace_19 : decode cX7_isPlace 19 = .ok (.ldc2_w 149, 3) := by decide +kernel
theorem dX7_isPlace_22 : decode cX7_isPlace 22 = .ok (.invokestatic 111, 3) := by decide +kernel
theorem dX7_isPlace_25 : decode cX7_isPlace 25 = .ok (.ifCond .eq 7, 3) := by decide +kernel
theorem dX7_isPlace_28 : decode cX7_isPlace 28 = .ok (.iconst 1, 1) := by decide +kernel
theorem dX7_isPlace_29 : decode cX7_isPlace 29 = .ok (.goto 4, 3) := by decide +kernel
theorem dX7_isPlace_32 : decode cX7_isPlace 32 = .ok (.iconst 0, 1) := by decide +kernel
theorem dX7_isPlace_33 : decode cX7_isPlace 33 = .ok (.ireturn, 1) := by decide +kernel
theorem dX7_addPlace_0 : decode cX7_addPlace 0 = .ok (.aload_n 0, 1) := by decide +kernel
theorem dX7_addPlace_1 : decode cX7_addPlace 1 = .ok (.iload_n 1, 1) := by decide +kernel
theorem dX7_addPlace_2 : decode cX7_addPlace 2 = .ok (.iconst 2, 1) := by decide +kernel
theorem dX7_addPlace_3 : decode cX7_addPlace 3 = .ok (.invokevirtual 155, 3) := by decide +kernel
theorem dX7_addPlace_6 : decode cX7_addPlace 6 = .ok (.istore 5, 2) := by decide +kernel
theorem dX7_addPlace_8 : decode cX7_addPlace 8 = .ok (.aload_n 0, 1) := by decide +kernel
theorem dX7_addPlace_9 : decode cX7_addPlace 9 = .ok (.iload_n 1, 1) := by decide +kernel
theorem dX7_addPlace_10 : decode cX7_addPlace 10 = .ok (.iconst 4, 1) := by decide +kernel
theorem dX7_addPlace_11 : decode cX7_addPlace 11 = .ok (.iload 5, 2) := by decide +kernel
theorem dX7_addPlace_13 : decode cX7_addPlace 13 = .ok (.iadd, 1) := by decide +kernel
theorem dX7_addPlace_14 : decode cX7_addPlace 14 = .ok (.iload_n 2, 1) := by decide +kernel
theorem dX7_addPlace_15 : decode cX7_addPlace 15 = .ok (.invokevirtual 151, 3) := by decide +kernel
theorem dX7_addPlace_18 : decode cX7_addPlace 18 = .ok (.aload_n 0, 1) := by decide +kernel
theorem dX7_addPlace_19 : decode cX7_addPlace 19 = .ok (.iload_n 1, 1) := by decide +kernel
theorem dX7_addPlace_20 : decode cX7_addPlace 20 = .ok (.bipush 28, 2) := by decide +kernel
theorem dX7_addPlace_22 : decode cX7_addPlace 22 = .ok (.iload 5, 2) := by decide +kernel
theorem dX7_addPlace_24 : decode cX7_addPlace 24 = .ok (.iadd, 1) := by decide +kernel
theorem dX7_addPlace_25 : decode cX7_addPlace 25 = .ok (.iload_n 3, 1) := by decide +kernel
theorem dX7_addPlace_26 : decode cX7_addPlace 26 = .ok (.invokevirtual 151, 3) := by decide +kernel
theorem dX7_addPlace_29 : decode cX7_addPlace 29 = .ok (.aload_n 0, 1) := by decide +kernel
theorem dX7_addPlace_30 : decode cX7_addPlace 30 = .ok (.iload_n 1, 1) := by decide +kernel
theorem dX7_addPlace_31 : decode cX7_addPlace 31 = .ok (.bipush 52, 2) := by decide +kernel
theorem dX7_addPlace_33 : decode cX7_addPlace 33 = .ok (.iload 5, 2) := by decide +kernel
theorem dX7_addPlace_35 : decode cX7_addPlace 35 = .ok (.iadd, 1) := by decide +kernel
theorem dX7_addPlace_36 : decode cX7_addPlace 36 = .ok (.iload 4, 2) := by decide +kernel
theorem dX7_addPlace_38 : decode cX7_addPlace 38 = .ok (.invokevirtual 151, 3) := by decide +kernel
theorem dX7_addPlace_41 : decode cX7_addPlace 41 = .ok (.iconst 0, 1) := by decide +kernel
theorem dX7_addPlace_42 : decode cX7_addPlace 42 = .ok (.istore 6, 2) := by decide +kernel
theorem dX7_addPlace_44 : decode cX7_addPlace 44 = .ok (.iload 6, 2) := by decide +kernel
theorem dX7_addPlace_46 : decode cX7_addPlace 46 = .ok (.aload_n 0, 1) := by decide +kernel
theorem dX7_addPlace_47 : decode cX7_addPlace 47 = .ok (.iload_n 1, 1) := by decide +kernel
theorem dX7_addPlace_48 : decode cX7_addPlace 48 = .ok (.iconst 3, 1) := by decide +kernel
theorem dX7_addPlace_49 : decode cX7_addPlace 49 = .ok (.invokevirtual 155, 3) := by decide +kernel
theorem dX7_addPlace_52 : decode cX7_addPlace 52 = .ok (.if_icmp .ge 29, 3) := by decide +kernel
theorem dX7_addPlace_55 : decode cX7_addPlace 55 = .ok (.aload_n 0, 1) := by decide +kernel
theorem dX7_addPlace_56 : decode cX7_addPlace 56 = .ok (.iload_n 1, 1) := by decide +kernel
theorem dX7_addPlace_57 : decode cX7_addPlace 57 = .ok (.bipush 76, 2) := by decide +kernel
theorem dX7_addPlace_59 : decode cX7_addPlace 59 = .ok (.bipush 87, 2) := by decide +kernel
theorem dX7_addPlace_61 : decode cX7_addPlace 61 = .ok (.iload 6, 2) := by decide +kernel
theorem dX7_addPlace_63 : decode cX7_addPlace 63 = .ok (.imul, 1) := by decide +kernel
theorem dX7_addPlace_64 : decode cX7_addPlace 64 = .ok (.iadd, 1) := by decide +kernel
theorem dX7_addPlace_65 : decode cX7_addPlace 65 = .ok (.bipush 12, 2) := by decide +kernel
theorem dX7_addPlace_67 : decode cX7_addPlace 67 = .ok (.iadd, 1) := by decide +kernel
theorem dX7_addPlace_68 : decode cX7_addPlace 68 = .ok (.iload 5, 2) := by decide +kernel
theorem dX7_addPlace_70 : decode cX7_addPlace 70 = .ok (.iadd, 1) := by decide +kernel
theorem dX7_addPlace_71 : decode cX7_addPlace 71 = .ok (.iconst 0, 1) := by decide +kernel
theorem dX7_addPlace_72 : decode cX7_addPlace 72 = .ok (.invokevirtual 151, 3) := by decide +kernel
theorem dX7_addPlace_75 : decode cX7_addPlace 75 = .ok (.iinc 6 1, 3) := by decide +kernel
theorem dX7_addPlace_78 : decode cX7_addPlace 78 = .ok (.goto (-34), 3) := by decide +kernel
theorem dX7_addPlace_81 : decode cX7_addPlace 81 = .ok (.aload_n 0, 1) := by decide +kernel
theorem dX7_addPlace_82 : decode cX7_addPlace 82 = .ok (.iload_n 1, 1) := by decide +kernel
theorem dX7_addPlace_83 : decode cX7_addPlace 83 = .ok (.iconst 2, 1) := by decide +kernel
theorem dX7_addPlace_84 : decode cX7_addPlace 84 = .ok (.iload 5, 2) := by decide +kernel
theorem dX7_addPlace_86 : decode cX7_addPlace 86 = .ok (.iconst 1, 1) := by decide +kernel
theorem dX7_addPlace_87 : decode cX7_addPlace 87 = .ok (.iadd, 1) := by decide +kernel
theorem dX7_addPlace_88 : decode cX7_addPlace 88 = .ok (.invokevirtual 151, 3) := by decide +kernel
theorem dX7_addPlace_91 : decode cX7_addPlace 91 = .ok (.iload 5, 2) := by decide +kernel
theorem dX7_addPlace_93 : decode cX7_addPlace 93 = .ok (.ireturn, 1) := by decide +kernel
theorem dX7_addPoint_0 : decode cX7_addPoint 0 = .ok (.aload_n 0, 1) := by decide +kernel
theorem dX7_addPoint_1 : decode cX7_addPoint 1 = .ok (.iload_n 1, 1) := by decide +kernel
theorem dX7_addPoint_2 : decode cX7_addPoint 2 = .ok (.invokevirtual 160, 3) := by decide +kernel
theorem dX7_addPoint_5 : decode cX7_addPoint 5 = .ok (.ifCond .eq 6, 3) := by decide +kernel
theorem dX7_addPoint_8 : decode cX7_addPoint 8 = .ok (.ldc 163, 2) := by decide +kernel
theorem dX7_addPoint_10 : decode cX7_addPoint 10 = .ok (.ireturn, 1) := by decide +kernel
theorem dX7_addPoint_11 : decode cX7_addPoint 11 = .ok (.iload_n 2, 1) := by decide +kernel
theorem dX7_addPoint_12 : decode cX7_addPoint 12 = .ok (.iload_n 3, 1) := by decide +kernel
theorem dX7_addPoint_13 : decode cX7_addPoint 13 = .ok (.invokestatic 164, 3) := by decide +kernel
theorem dX7_addPoint_16 : decode cX7_addPoint 16 = .ok (.ifCond .ne 6, 3) := by decide +kernel
theorem dX7_addPoint_19 : decode cX7_addPoint 19 = .ok (.ldc 119, 2) := by decide +kernel
theorem dX7_addPoint_21 : decode cX7_addPoint 21 = .ok (.ireturn, 1) := by decide +kernel
theorem dX7_addPoint_22 : decode cX7_addPoint 22 = .ok (.aload_n 0, 1) := by decide +kernel
theorem dX7_addPoint_23 : decode cX7_addPoint 23 = .ok (.iload_n 1, 1) := by decide +kernel
theorem dX7_addPoint_24 : decode cX7_addPoint 24 = .ok (.iconst 0, 1) := by decide +kernel
theorem dX7_addPoint_25 : decode cX7_addPoint 25 = .ok (.invokevirtual 155, 3) := by decide +kernel
theorem dX7_addPoint_28 : decode cX7_addPoint 28 = .ok (.iconst 1, 1) := by decide +kernel
theorem dX7_addPoint_29 : decode cX7_addPoint 29 = .ok (.if_icmp .eq 11, 3) := by decide +kernel
theorem dX7_addPoint_32 : decode cX7_addPoint 32 = .ok (.aload_n 0, 1) := by decide +kernel
theorem dX7_addPoint_33 : decode cX7_addPoint 33 = .ok (.iload_n 1, 1) := by decide +kernel
theorem dX7_addPoint_34 : decode cX7_addPoint 34 = .ok (.invokevirtual 168, 3) := by decide +kernel
theorem dX7_addPoint_37 : decode cX7_addPoint 37 = .ok (.ifCond .eq 6, 3) := by decide +kernel
theorem dX7_addPoint_40 : decode cX7_addPoint 40 = .ok (.ldc 145, 2) := by decide +kernel
theorem dX7_addPoint_42 : decode cX7_addPoint 42 = .ok (.ireturn, 1) := by decide +kernel
theorem dX7_addPoint_43 : decode cX7_addPoint 43 = .ok (.aload_n 0, 1) := by decide +kernel
theorem dX7_addPoint_44 : decode cX7_addPoint 44 = .ok (.iload_n 1, 1) := by decide +kernel
theorem dX7_addPoint_45 : decode cX7_addPoint 45 = .ok (.iconst 2, 1) := by decide +kernel
theorem dX7_addPoint_46 : decode cX7_addPoint 46 = .ok (.invokevirtual 155, 3) := by decide +kernel
theorem dX7_addPoint_49 : decode cX7_addPoint 49 = .ok (.bipush 24, 2) := by decide +kernel
theorem dX7_addPoint_51 : decode cX7_addPoint 51 = .ok (.if_icmp .ne 6, 3) := by decide +kernel
theorem dX7_addPoint_54 : decode cX7_addPoint 54 = .ok (.ldc 120, 2) := by decide +kernel
theorem dX7_addPoint_56 : decode cX7_addPoint 56 = .ok (.ireturn, 1) := by decide +kernel
theorem dX7_addPoint_57 : decode cX7_addPoint 57 = .ok (.aload_n 0, 1) := by decide +kernel
theorem dX7_addPoint_58 : decode cX7_addPoint 58 = .ok (.iload_n 1, 1) := by decide +kernel
theorem dX7_addPoint_59 : decode cX7_addPoint 59 = .ok (.iload_n 2, 1) := by decide +kernel
theorem dX7_addPoint_60 : decode cX7_addPoint 60 = .ok (.iload_n 3, 1) := by decide +kernel
theorem dX7_addPoint_61 : decode cX7_addPoint 61 = .ok (.iload 4, 2) := by decide +kernel
theorem dX7_addPoint_63 : decode cX7_addPoint 63 = .ok (.ifCond .ne 12, 3) := by decide +kernel
theorem dX7_addPoint_66 : decode cX7_addPoint 66 = .ok (.aload_n 0, 1) := by decide +kernel
theorem dX7_addPoint_67 : decode cX7_addPoint 67 = .ok (.iload_n 1, 1) := by decide +kernel
theorem dX7_addPoint_68 : decode cX7_addPoint 68 = .ok (.iconst 2, 1) := by decide +kernel
theorem dX7_addPoint_69 : decode cX7_addPoint 69 = .ok (.invokevirtual 155, 3) := by decide +kernel
theorem dX7_addPoint_72 : decode cX7_addPoint 72 = .ok (.ifCond .ne 7, 3) := by decide +kernel
theorem dX7_addPoint_75 : decode cX7_addPoint 75 = .ok (.iconst 1, 1) := by decide +kernel
theorem dX7_addPoint_76 : decode cX7_addPoint 76 = .ok (.goto 4, 3) := by decide +kernel
theorem dX7_addPoint_79 : decode cX7_addPoint 79 = .ok (.iconst 0, 1) := by decide +kernel
theorem dX7_addPoint_80 : decode cX7_addPoint 80 = .ok (.invokevirtual 171, 3) := by decide +kernel
theorem dX7_addPoint_83 : decode cX7_addPoint 83 = .ok (.ireturn, 1) := by decide +kernel
theorem dX7_countOutlines_0 : decode cX7_countOutlines 0 = .ok (.iconst 0, 1) := by decide +kernel
theorem dX7_countOutlines_1 : decode cX7_countOutlines 1 = .ok (.istore_n 1, 1) := by decide +kernel
theorem dX7_countOutlines_2 : decode cX7_countOutlines 2 = .ok (.iload_n 1, 1) := by decide +kernel
theorem dX7_countOutlines_3 : decode cX7_countOutlines 3 = .ok (.aload_n 0, 1) := by decide +kernel
theorem dX7_countOutlines_4 : decode cX7_countOutlines 4 = .ok (.getfield 146, 3) := by decide +kernel
theorem dX7_countOutlines_7 : decode cX7_countOutlines 7 = .ok (.if_icmp .ge 139, 3) := by decide +kernel
theorem dX7_countOutlines_10 : decode cX7_countOutlines 10 = .ok (.aload_n 0, 1) := by decide +kernel
theorem dX7_countOutlines_11 : decode cX7_countOutlines 11 = .ok (.iload_n 1, 1) := by decide +kernel
theorem dX7_countOutlines_12 : decode cX7_countOutlines 12 = .ok (.iconst 0, 1) := by decide +kernel
theorem dX7_countOutlines_13 : decode cX7_countOutlines 13 = .ok (.invokevirtual 155, 3) := by decide +kernel
theorem dX7_countOutlines_16 : decode cX7_countOutlines 16 = .ok (.ifCond .ne 7, 3) := by decide +kernel
theorem dX7_countOutlines_19 : decode cX7_countOutlines 19 = .ok (.iconst 1, 1) := by decide +kernel
theorem dX7_countOutlines_20 : decode cX7_countOutlines 20 = .ok (.goto 4, 3) := by decide +kernel
theorem dX7_countOutlines_23 : decode cX7_countOutlines 23 = .ok (.iconst 0, 1) := by decide +kernel
theorem dX7_countOutlines_24 : decode cX7_countOutlines 24 = .ok (.istore_n 2, 1) := by decide +kernel
theorem dX7_countOutlines_25 : decode cX7_countOutlines 25 = .ok (.aload_n 0, 1) := by decide +kernel
theorem dX7_countOutlines_26 : decode cX7_countOutlines 26 = .ok (.getfield 38, 3) := by decide +kernel
theorem dX7_countOutlines_29 : decode cX7_countOutlines 29 = .ok (.iload_n 1, 1) := by decide +kernel
theorem dX7_countOutlines_30 : decode cX7_countOutlines 30 = .ok (.iload_n 2, 1) := by decide +kernel
theorem dX7_countOutlines_31 : decode cX7_countOutlines 31 = .ok (.ifCond .eq 12, 3) := by decide +kernel
theorem dX7_countOutlines_34 : decode cX7_countOutlines 34 = .ok (.aload_n 0, 1) := by decide +kernel
theorem dX7_countOutlines_35 : decode cX7_countOutlines 35 = .ok (.iload_n 1, 1) := by decide +kernel
theorem dX7_countOutlines_36 : decode cX7_countOutlines 36 = .ok (.iconst 2, 1) := by decide +kernel
theorem dX7_countOutlines_37 : decode cX7_countOutlines 37 = .ok (.invokevirtual 155, 3) := by decide +kernel
theorem dX7_countOutlines_40 : decode cX7_countOutlines 40 = .ok (.goto 4, 3) := by decide +kernel
theorem dX7_countOutlines_43 : decode cX7_countOutlines 43 = .ok (.iconst 0, 1) := by decide +kernel
theorem dX7_countOutlines_44 : decode cX7_countOutlines 44 = .ok (.iastore, 1) := by decide +kernel
theorem dX7_countOutlines_45 : decode cX7_countOutlines 45 = .ok (.aload_n 0, 1) := by decide +kernel
theorem dX7_countOutlines_46 : decode cX7_countOutlines 46 = .ok (.getfield 41, 3) := by decide +kernel
theorem dX7_countOutlines_49 : decode cX7_countOutlines 49 = .ok (.iload_n 1, 1) := by decide +kernel
theorem dX7_countOutlines_50 : decode cX7_countOutlines 50 = .ok (.iconst 0, 1) := by decide +kernel
theorem dX7_countOutlines_51 : decode cX7_countOutlines 51 = .ok (.iastore, 1) := by decide +kernel
theorem dX7_countOutlines_52 : decode cX7_countOutlines 52 = .ok (.iconst 0, 1) := by decide +kernel
theorem dX7_countOutlines_53 : decode cX7_countOutlines 53 = .ok (.istore_n 3, 1) := by decide +kernel
theorem dX7_countOutlines_54 : decode cX7_countOutlines 54 = .ok (.iload_n 3, 1) := by decide +kernel
theorem dX7_countOutlines_55 : decode cX7_countOutlines 55 = .ok (.aload_n 0, 1) := by decide +kernel
theorem dX7_countOutlines_56 : decode cX7_countOutlines 56 = .ok (.iload_n 1, 1) := by decide +kernel
theorem dX7_countOutlines_57 : decode cX7_countOutlines 57 = .ok (.iconst 2, 1) := by decide +kernel
theorem dX7_countOutlines_58 : decode cX7_countOutlines 58 = .ok (.invokevirtual 155, 3) := by decide +kernel
theorem dX7_countOutlines_61 : decode cX7_countOutlines 61 = .ok (.if_icmp .ge 79, 3) := by decide +kernel
theorem dX7_countOutlines_64 : decode cX7_countOutlines 64 = .ok (.aload_n 0, 1) := by decide +kernel
theorem dX7_countOutlines_65 : decode cX7_countOutlines 65 = .ok (.getfield 38, 3) := by decide +kernel
theorem dX7_countOutlines_68 : decode cX7_countOutlines 68 = .ok (.iload_n 1, 1) := by decide +kernel
theorem dX7_countOutlines_69 : decode cX7_countOutlines 69 = .ok (.dup2, 1) := by decide +kernel
theorem dX7_countOutlines_70 : decode cX7_countOutlines 70 = .ok (.iaload, 1) := by decide +kernel
theorem dX7_countOutlines_71 : decode cX7_countOutlines 71 = .ok (.iload_n 2, 1) := by decide +kernel
theorem dX7_countOutlines_72 : decode cX7_countOutlines 72 = .ok (.ifCond .eq 7, 3) := by decide +kernel
theorem dX7_countOutlines_75 : decode cX7_countOutlines 75 = .ok (.iconst 0, 1) := by decide +kernel
theorem dX7_countOutlines_76 : decode cX7_countOutlines 76 = .ok (.goto 17, 3) := by decide +kernel
theorem dX7_countOutlines_79 : decode cX7_countOutlines 79 = .ok (.aload_n 0, 1) := by decide +kernel
theorem dX7_countOutlines_80 : decode cX7_countOutlines 80 = .ok (.getfield 38, 3) := by decide +kernel
theorem dX7_countOutlines_83 : decode cX7_countOutlines 83 = .ok (.aload_n 0, 1) := by decide +kernel
theorem dX7_countOutlines_84 : decode cX7_countOutlines 84 = .ok (.iload_n 1, 1) := by decide +kernel
theorem dX7_countOutlines_85 : decode cX7_countOutlines 85 = .ok (.bipush 52, 2) := by decide +kernel
theorem dX7_countOutlines_87 : decode cX7_countOutlines 87 = .ok (.iload_n 3, 1) := by decide +kernel
theorem dX7_countOutlines_88 : decode cX7_countOutlines 88 = .ok (.iadd, 1) := by decide +kernel
theorem dX7_countOutlines_89 : decode cX7_countOutlines 89 = .ok (.invokevirtual 155, 3) := by decide +kernel
theorem dX7_countOutlines_92 : decode cX7_countOutlines 92 = .ok (.iaload, 1) := by decide +kernel
theorem dX7_countOutlines_93 : decode cX7_countOutlines 93 = .ok (.iadd, 1) := by decide +kernel
theorem dX7_countOutlines_94 : decode cX7_countOutlines 94 = .ok (.iastore, 1) := by decide +kernel
theorem dX7_countOutlines_95 : decode cX7_countOutlines 95 = .ok (.aload_n 0, 1) := by decide +kernel
theorem dX7_countOutlines_96 : decode cX7_countOutlines 96 = .ok (.getfield 41, 3) := by decide +kernel
theorem dX7_countOutlines_99 : decode cX7_countOutlines 99 = .ok (.iload_n 1, 1) := by decide +kernel
theorem dX7_countOutlines_100 : decode cX7_countOutlines 100 = .ok (.dup2, 1) := by decide +kernel
theorem dX7_countOutlines_101 : decode cX7_countOutlines 101 = .ok (.iaload, 1) := by decide +kernel
theorem dX7_countOutlines_102 : decode cX7_countOutlines 102 = .ok (.iload_n 2, 1) := by decide +kernel
theorem dX7_countOutlines_103 : decode cX7_countOutlines 103 = .ok (.ifCond .eq 15, 3) := by decide +kernel
theorem dX7_countOutlines_106 : decode cX7_countOutlines 106 = .ok (.aload_n 0, 1) := by decide +kernel
theorem dX7_countOutlines_107 : decode cX7_countOutlines 107 = .ok (.iload_n 1, 1) := by decide +kernel
theorem dX7_countOutlines_108 : decode cX7_countOutlines 108 = .ok (.bipush 52, 2) := by decide +kernel
theorem dX7_countOutlines_110 : decode cX7_countOutlines 110 = .ok (.iload_n 3, 1) := by decide +kernel
theorem dX7_countOutlines_111 : decode cX7_countOutlines 111 = .ok (.iadd, 1) := by decide +kernel
theorem dX7_countOutlines_112 : decode cX7_countOutlines 112 = .ok (.invokevirtual 155, 3) := by decide +kernel
theorem dX7_countOutlines_115 : decode cX7_countOutlines 115 = .ok (.goto 17, 3) := by decide +kernel
theorem dX7_countOutlines_118 : decode cX7_countOutlines 118 = .ok (.aload_n 0, 1) := by decide +kernel
theorem dX7_countOutlines_119 : decode cX7_countOutlines 119 = .ok (.getfield 41, 3) := by decide +kernel
theorem dX7_countOutlines_122 : decode cX7_countOutlines 122 = .ok (.aload_n 0, 1) := by decide +kernel
theorem dX7_countOutlines_123 : decode cX7_countOutlines 123 = .ok (.iload_n 1, 1) := by decide +kernel
theorem dX7_countOutlines_124 : decode cX7_countOutlines 124 = .ok (.bipush 52, 2) := by decide +kernel
theorem dX7_countOutlines_126 : decode cX7_countOutlines 126 = .ok (.iload_n 3, 1) := by decide +kernel
theorem dX7_countOutlines_127 : decode cX7_countOutlines 127 = .ok (.iadd, 1) := by decide +kernel
theorem dX7_countOutlines_128 : decode cX7_countOutlines 128 = .ok (.invokevirtual 155, 3) := by decide +kernel
theorem dX7_countOutlines_131 : decode cX7_countOutlines 131 = .ok (.iaload, 1) := by decide +kernel
theorem dX7_countOutlines_132 : decode cX7_countOutlines 132 = .ok (.iadd, 1) := by decide +kernel
theorem dX7_countOutlines_133 : decode cX7_countOutlines 133 = .ok (.iastore, 1) := by decide +kernel
theorem dX7_countOutlines_134 : decode cX7_countOutlines 134 = .ok (.iinc 3 1, 3) := by decide +kernel
theorem dX7_countOutlines_137 : decode cX7_countOutlines 137 = .ok (.goto (-83), 3) := by decide +kernel
theorem dX7_countOutlines_140 : decode cX7_countOutlines 140 = .ok (.iinc 1 1, 3) := by decide +kernel
theorem dX7_countOutlines_143 : decode cX7_countOutlines 143 = .ok (.goto (-141), 3) := by decide +kernel
theorem dX7_countOutlines_146 : decode cX7_countOutlines 146 = .ok (.return_, 1) := by decide +kernel
theorem dX7_addComponent_0 : decode cX7_addComponent 0 = .ok (.aload_n 0, 1) := by decide +kernel
theorem dX7_addComponent_1 : decode cX7_addComponent 1 = .ok (.iload_n 1, 1) := by decide +kernel
theorem dX7_addComponent_2 : decode cX7_addComponent 2 = .ok (.invokevirtual 160, 3) := by decide +kernel
theorem dX7_addComponent_5 : decode cX7_addComponent 5 = .ok (.ifCond .ne 16, 3) := by decide +kernel
theorem dX7_addComponent_8 : decode cX7_addComponent 8 = .ok (.iload_n 2, 1) := by decide +kernel
theorem dX7_addComponent_9 : decode cX7_addComponent 9 = .ok (.i2l, 1) := by decide +kernel
theorem dX7_addComponent_10 : decode cX7_addComponent 10 = .ok (.lconst 0, 1) := by decide +kernel
theorem dX7_addComponent_11 : decode cX7_addComponent 11 = .ok (.iload_n 1, 1) := by decide +kernel
theorem dX7_addComponent_12 : decode cX7_addComponent 12 = .ok (.i2l, 1) := by decide +kernel
theorem dX7_addComponent_13 : decode cX7_addComponent 13 = .ok (.lconst 1, 1) := by decide +kernel
theorem dX7_addComponent_14 : decode cX7_addComponent 14 = .ok (.lsub, 1) := by decide +kernel
theorem dX7_addComponent_15 : decode cX7_addComponent 15 = .ok (.invokestatic 111, 3) := by decide +kernel
theorem dX7_addComponent_18 : decode cX7_addComponent 18 = .ok (.ifCond .ne 6, 3) := by decide +kernel
theorem dX7_addComponent_21 : decode cX7_addComponent 21 = .ok (.ldc 163, 2) := by decide +kernel
theorem dX7_addComponent_23 : decode cX7_addComponent 23 = .ok (.ireturn, 1) := by decide +kernel
theorem dX7_addComponent_24 : decode cX7_addComponent 24 = .ok (.iload_n 3, 1) := by decide +kernel
theorem dX7_addComponent_25 : decode cX7_addComponent 25 = .ok (.iload 4, 2) := by decide +kernel
theorem dX7_addComponent_27 : decode cX7_addComponent 27 = .ok (.invokestatic 164, 3) := by decide +kernel
theorem dX7_addComponent_30 : decode cX7_addComponent 30 = .ok (.ifCond .ne 6, 3) := by decide +kernel
theorem dX7_addComponent_33 : decode cX7_addComponent 33 = .ok (.ldc 119, 2) := by decide +kernel
theorem dX7_addComponent_35 : decode cX7_addComponent 35 = .ok (.ireturn, 1) := by decide +kernel
theorem dX7_addComponent_36 : decode cX7_addComponent 36 = .ok (.aload_n 0, 1) := by decide +kernel
theorem dX7_addComponent_37 : decode cX7_addComponent 37 = .ok (.iload_n 1, 1) := by decide +kernel
theorem dX7_addComponent_38 : decode cX7_addComponent 38 = .ok (.iconst 0, 1) := by decide +kernel
theorem dX7_addComponent_39 : decode cX7_addComponent 39 = .ok (.invokevirtual 155, 3) := by decide +kernel
theorem dX7_addComponent_42 : decode cX7_addComponent 42 = .ok (.ifCond .eq 11, 3) := by decide +kernel
theorem dX7_addComponent_45 : decode cX7_addComponent 45 = .ok (.aload_n 0, 1) := by decide +kernel
theorem dX7_addComponent_46 : decode cX7_addComponent 46 = .ok (.iload_n 1, 1) := by decide +kernel
theorem dX7_addComponent_47 : decode cX7_addComponent 47 = .ok (.invokevirtual 168, 3) := by decide +kernel
theorem dX7_addComponent_50 : decode cX7_addComponent 50 = .ok (.ifCond .eq 6, 3) := by decide +kernel
theorem dX7_addComponent_53 : decode cX7_addComponent 53 = .ok (.ldc 145, 2) := by decide +kernel
theorem dX7_addComponent_55 : decode cX7_addComponent 55 = .ok (.ireturn, 1) := by decide +kernel
theorem dX7_addComponent_56 : decode cX7_addComponent 56 = .ok (.aload_n 0, 1) := by decide +kernel
theorem dX7_addComponent_57 : decode cX7_addComponent 57 = .ok (.invokevirtual 175, 3) := by decide +kernel
theorem dX7_addComponent_60 : decode cX7_addComponent 60 = .ok (.aload_n 0, 1) := by decide +kernel
theorem dX7_addComponent_61 : decode cX7_addComponent 61 = .ok (.iload_n 1, 1) := by decide +kernel
theorem dX7_addComponent_62 : decode cX7_addComponent 62 = .ok (.iconst 2, 1) := by decide +kernel
theorem dX7_addComponent_63 : decode cX7_addComponent 63 = .ok (.invokevirtual 155, 3) := by decide +kernel
theorem dX7_addComponent_66 : decode cX7_addComponent 66 = .ok (.iconst 4, 1) := by decide +kernel
theorem dX7_addComponent_67 : decode cX7_addComponent 67 = .ok (.if_icmp .eq 21, 3) := by decide +kernel
theorem dX7_addComponent_70 : decode cX7_addComponent 70 = .ok (.aload_n 0, 1) := by decide +kernel
theorem dX7_addComponent_71 : decode cX7_addComponent 71 = .ok (.getfield 38, 3) := by decide +kernel
theorem dX7_addComponent_74 : decode cX7_addComponent 74 = .ok (.iload_n 1, 1) := by decide +kernel
theorem dX7_addComponent_75 : decode cX7_addComponent 75 = .ok (.iaload, 1) := by decide +kernel
theorem dX7_addComponent_76 : decode cX7_addComponent 76 = .ok (.aload_n 0, 1) := by decide +kernel
theorem dX7_addComponent_77 : decode cX7_addComponent 77 = .ok (.getfield 38, 3) := by decide +kernel
theorem dX7_addComponent_80 : decode cX7_addComponent 80 = .ok (.iload_n 2, 1) := by decide +kernel
theorem dX7_addComponent_81 : decode cX7_addComponent 81 = .ok (.iaload, 1) := by decide +kernel
theorem dX7_addComponent_82 : decode cX7_addComponent 82 = .ok (.iadd, 1) := by decide +kernel
theorem dX7_addComponent_83 : decode cX7_addComponent 83 = .ok (.bipush 96, 2) := by decide +kernel
theorem dX7_addComponent_85 : decode cX7_addComponent 85 = .ok (.if_icmp .le 6, 3) := by decide +kernel
theorem dX7_addComponent_88 : decode cX7_addComponent 88 = .ok (.ldc 120, 2) := by decide +kernel
theorem dX7_addComponent_90 : decode cX7_addComponent 90 = .ok (.ireturn, 1) := by decide +kernel
theorem dX7_addComponent_91 : decode cX7_addComponent 91 = .ok (.aload_n 0, 1) := by decide +kernel
theorem dX7_addComponent_92 : decode cX7_addComponent 92 = .ok (.iload_n 1, 1) := by decide +kernel
theorem dX7_addComponent_93 : decode cX7_addComponent 93 = .ok (.iload_n 3, 1) := by decide +kernel
theorem dX7_addComponent_94 : decode cX7_addComponent 94 = .ok (.iload 4, 2) := by decide +kernel
theorem dX7_addComponent_96 : decode cX7_addComponent 96 = .ok (.iload_n 2, 1) := by decide +kernel
theorem dX7_addComponent_97 : decode cX7_addComponent 97 = .ok (.invokevirtual 171, 3) := by decide +kernel
theorem dX7_addComponent_100 : decode cX7_addComponent 100 = .ok (.ireturn, 1) := by decide +kernel
theorem dX7_glyphValue_0 : decode cX7_glyphValue 0 = .ok (.aload_n 0, 1) := by decide +kernel
theorem dX7_glyphValue_1 : decode cX7_glyphValue 1 = .ok (.iload_n 1, 1) := by decide +kernel
theorem dX7_glyphValue_2 : decode cX7_glyphValue 2 = .ok (.invokevirtual 160, 3) := by decide +kernel
theorem dX7_glyphValue_5 : decode cX7_glyphValue 5 = .ok (.ifCond .eq 6, 3) := by decide +kernel
theorem dX7_glyphValue_8 : decode cX7_glyphValue 8 = .ok (.ldc 163, 2) := by decide +kernel
theorem dX7_glyphValue_10 : decode cX7_glyphValue 10 = .ok (.ireturn, 1) := by decide +kernel
theorem dX7_glyphValue_11 : decode cX7_glyphValue 11 = .ok (.aload_n 0, 1) := by decide +kernel
theorem dX7_glyphValue_12 : decode cX7_glyphValue 12 = .ok (.invokevirtual 175, 3) := by decide +kernel
theorem dX7_glyphValue_15 : decode cX7_glyphValue 15 = .ok (.iload_n 2, 1) := by decide +kernel
theorem dX7_glyphValue_16 : decode cX7_glyphValue 16 = .ok (.tableswitch 82 0 5 #[40, 47, 54, 61, 68, 75], 40) := by decide +kernel
theorem dX7_glyphValue_56 : decode cX7_glyphValue 56 = .ok (.aload_n 0, 1) := by decide +kernel
theorem dX7_glyphValue_57 : decode cX7_glyphValue 57 = .ok (.iload_n 1, 1) := by decide +kernel
theorem dX7_glyphValue_58 : decode cX7_glyphValue 58 = .ok (.iconst 0, 1) := by decide +kernel
theorem dX7_glyphValue_59 : decode cX7_glyphValue 59 = .ok (.invokevirtual 155, 3) := by decide +kernel
theorem dX7_glyphValue_62 : decode cX7_glyphValue 62 = .ok (.ireturn, 1) := by decide +kernel
theorem dX7_glyphValue_63 : decode cX7_glyphValue 63 = .ok (.aload_n 0, 1) := by decide +kernel
theorem dX7_glyphValue_64 : decode cX7_glyphValue 64 = .ok (.iload_n 1, 1) := by decide +kernel
theorem dX7_glyphValue_65 : decode cX7_glyphValue 65 = .ok (.iconst 2, 1) := by decide +kernel
theorem dX7_glyphValue_66 : decode cX7_glyphValue 66 = .ok (.invokevirtual 155, 3) := by decide +kernel
theorem dX7_glyphValue_69 : decode cX7_glyphValue 69 = .ok (.ireturn, 1) := by decide +kernel
theorem dX7_glyphValue_70 : decode cX7_glyphValue 70 = .ok (.aload_n 0, 1) := by decide +kernel
theorem dX7_glyphValue_71 : decode cX7_glyphValue 71 = .ok (.getfield 41, 3) := by decide +kernel
theorem dX7_glyphValue_74 : decode cX7_glyphValue 74 = .ok (.iload_n 1, 1) := by decide +kernel
theorem dX7_glyphValue_75 : decode cX7_glyphValue 75 = .ok (.iaload, 1) := by decide +kernel
theorem dX7_glyphValue_76 : decode cX7_glyphValue 76 = .ok (.ireturn, 1) := by decide +kernel
theorem dX7_glyphValue_77 : decode cX7_glyphValue 77 = .ok (.aload_n 0, 1) := by decide +kernel
theorem dX7_glyphValue_78 : decode cX7_glyphValue 78 = .ok (.getfield 38, 3) := by decide +kernel
theorem dX7_glyphValue_81 : decode cX7_glyphValue 81 = .ok (.iload_n 1, 1) := by decide +kernel
theorem dX7_glyphValue_82 : decode cX7_glyphValue 82 = .ok (.iaload, 1) := by decide +kernel
theorem dX7_glyphValue_83 : decode cX7_glyphValue 83 = .ok (.ireturn, 1) := by decide +kernel
theorem dX7_glyphValue_84 : decode cX7_glyphValue 84 = .ok (.aload_n 0, 1) := by decide +kernel
theorem dX7_glyphValue_85 : decode cX7_glyphValue 85 = .ok (.iload_n 1, 1) := by decide +kernel
theorem dX7_glyphValue_86 : decode cX7_glyphValue 86 = .ok (.iconst 3, 1) := by decide +kernel
theorem dX7_glyphValue_87 : decode cX7_glyphValue 87 = .ok (.invokevirtual 155, 3) := by decide +kernel
theorem dX7_glyphValue_90 : decode cX7_glyphValue 90 = .ok (.ireturn, 1) := by decide +kernel
theorem dX7_glyphValue_91 : decode cX7_glyphValue 91 = .ok (.aload_n 0, 1) := by decide +kernel
theorem dX7_glyphValue_92 : decode cX7_glyphValue 92 = .ok (.iload_n 1, 1) := by decide +kernel
theorem dX7_glyphValue_93 : decode cX7_glyphValue 93 = .ok (.iconst 1, 1) := by decide +kernel
theorem dX7_glyphValue_94 : decode cX7_glyphValue 94 = .ok (.invokevirtual 155, 3) := by decide +kernel
theorem dX7_glyphValue_97 : decode cX7_glyphValue 97 = .ok (.ireturn, 1) := by decide +kernel
theorem dX7_glyphValue_98 : decode cX7_glyphValue 98 = .ok (.ldc 119, 2) := by decide +kernel
theorem dX7_glyphValue_100 : decode cX7_glyphValue 100 = .ok (.ireturn, 1) := by decide +kernel
theorem dX7_tupleAt_0 : decode cX7_tupleAt 0 = .ok (.bipush 76, 2) := by decide +kernel
theorem dX7_tupleAt_2 : decode cX7_tupleAt 2 = .ok (.bipush 87, 2) := by decide +kernel
theorem dX7_tupleAt_4 : decode cX7_tupleAt 4 = .ok (.iload_n 0, 1) := by decide +kernel
theorem dX7_tupleAt_5 : decode cX7_tupleAt 5 = .ok (.imul, 1) := by decide +kernel
theorem dX7_tupleAt_6 : decode cX7_tupleAt 6 = .ok (.iadd, 1) := by decide +kernel
theorem dX7_tupleAt_7 : decode cX7_tupleAt 7 = .ok (.ireturn, 1) := by decide +kernel
theorem dX7_slot_0 : decode cX7_slot 0 = .ok (.iload_n 0, 1) := by decide +kernel
theorem dX7_slot_1 : decode cX7_slot 1 = .ok (.ifCond .ge 8, 3) := by decide +kernel
theorem dX7_slot_4 : decode cX7_slot 4 = .ok (.bipush 24, 2) := by decide +kernel
theorem dX7_slot_6 : decode cX7_slot 6 = .ok (.goto 4, 3) := by decide +kernel
theorem dX7_slot_9 : decode cX7_slot 9 = .ok (.iload_n 0, 1) := by decide +kernel
theorem dX7_slot_10 : decode cX7_slot 10 = .ok (.ireturn, 1) := by decide +kernel
theorem dX7_touches_0 : decode cX7_touches 0 = .ok (.aload_n 0, 1) := by decide +kernel
theorem dX7_touches_1 : decode cX7_touches 1 = .ok (.iload_n 1, 1) := by decide +kernel
theorem dX7_touches_2 : decode cX7_touches 2 = .ok (.iload_n 2, 1) := by decide +kernel
theorem dX7_touches_3 : decode cX7_touches 3 = .ok (.invokestatic 178, 3) := by decide +kernel
theorem dX7_touches_6 : decode cX7_touches 6 = .ok (.bipush 12, 2) := by decide +kernel
theorem dX7_touches_8 : decode cX7_touches 8 = .ok (.iadd, 1) := by decide +kernel
theorem dX7_touches_9 : decode cX7_touches 9 = .ok (.iload_n 3, 1) := by decide +kernel
theorem dX7_touches_10 : decode cX7_touches 10 = .ok (.iadd, 1) := by decide +kernel
theorem dX7_touches_11 : decode cX7_touches 11 = .ok (.invokevirtual 155, 3) := by decide +kernel
theorem dX7_touches_14 : decode cX7_touches 14 = .ok (.iconst 1, 1) := by decide +kernel
theorem dX7_touches_15 : decode cX7_touches 15 = .ok (.if_icmp .ne 7, 3) := by decide +kernel
theorem dX7_touches_18 : decode cX7_touches 18 = .ok (.iconst 1, 1) := by decide +kernel
theorem dX7_touches_19 : decode cX7_touches 19 = .ok (.goto 4, 3) := by decide +kernel
theorem dX7_touches_22 : decode cX7_touches 22 = .ok (.iconst 0, 1) := by decide +kernel
theorem dX7_touches_23 : decode cX7_touches 23 = .ok (.ireturn, 1) := by decide +kernel
theorem dX7_given_0 : decode cX7_given 0 = .ok (.aload_n 0, 1) := by decide +kernel
theorem dX7_given_1 : decode cX7_given 1 = .ok (.iload_n 1, 1) := by decide +kernel
theorem dX7_given_2 : decode cX7_given 2 = .ok (.iload_n 2, 1) := by decide +kernel
theorem dX7_given_3 : decode cX7_given 3 = .ok (.invokestatic 178, 3) := by decide +kernel
theorem dX7_given_6 : decode cX7_given 6 = .ok (.iload 4, 2) := by decide +kernel
theorem dX7_given_8 : decode cX7_given 8 = .ok (.ifCond .eq 8, 3) := by decide +kernel
theorem dX7_given_11 : decode cX7_given 11 = .ok (.bipush 62, 2) := by decide +kernel
theorem dX7_given_13 : decode cX7_given 13 = .ok (.goto 5, 3) := by decide +kernel
theorem dX7_given_16 : decode cX7_given 16 = .ok (.bipush 37, 2) := by decide +kernel
theorem dX7_given_18 : decode cX7_given 18 = .ok (.iadd, 1) := by decide +kernel
theorem dX7_given_19 : decode cX7_given 19 = .ok (.iload_n 3, 1) := by decide +kernel
theorem dX7_given_20 : decode cX7_given 20 = .ok (.iadd, 1) := by decide +kernel
theorem dX7_given_21 : decode cX7_given 21 = .ok (.invokevirtual 155, 3) := by decide +kernel
theorem dX7_given_24 : decode cX7_given 24 = .ok (.ireturn, 1) := by decide +kernel
theorem dX7_gives_0 : decode cX7_gives 0 = .ok (.aload_n 0, 1) := by decide +kernel
theorem dX7_gives_1 : decode cX7_gives 1 = .ok (.iload_n 1, 1) := by decide +kernel
theorem dX7_gives_2 : decode cX7_gives 2 = .ok (.iload_n 2, 1) := by decide +kernel
theorem dX7_gives_3 : decode cX7_gives 3 = .ok (.invokestatic 178, 3) := by decide +kernel
theorem dX7_gives_6 : decode cX7_gives 6 = .ok (.bipush 12, 2) := by decide +kernel
theorem dX7_gives_8 : decode cX7_gives 8 = .ok (.iadd, 1) := by decide +kernel
theorem dX7_gives_9 : decode cX7_gives 9 = .ok (.iload_n 3, 1) := by decide +kernel
theorem dX7_gives_10 : decode cX7_gives 10 = .ok (.iadd, 1) := by decide +kernel
theorem dX7_gives_11 : decode cX7_gives 11 = .ok (.iconst 1, 1) := by decide +kernel
theorem dX7_gives_12 : decode cX7_gives 12 = .ok (.invokevirtual 151, 3) := by decide +kernel
theorem dX7_gives_15 : decode cX7_gives 15 = .ok (.aload_n 0, 1) := by decide +kernel
theorem dX7_gives_16 : decode cX7_gives 16 = .ok (.iload_n 1, 1) := by decide +kernel
theorem dX7_gives_17 : decode cX7_gives 17 = .ok (.iload_n 2, 1) := by decide +kernel
theorem dX7_gives_18 : decode cX7_gives 18 = .ok (.invokestatic 178, 3) := by decide +kernel
theorem dX7_gives_21 : decode cX7_gives 21 = .ok (.bipush 37, 2) := by decide +kernel
theorem dX7_gives_23 : decode cX7_gives 23 = .ok (.iadd, 1) := by decide +kernel
theorem dX7_gives_24 : decode cX7_gives 24 = .ok (.iload_n 3, 1) := by decide +kernel
theorem dX7_gives_25 : decode cX7_gives 25 = .ok (.iadd, 1) := by decide +kernel
theorem dX7_gives_26 : decode cX7_gives 26 = .ok (.iload 4, 2) := by decide +kernel
theorem dX7_gives_28 : decode cX7_gives 28 = .ok (.invokevirtual 151, 3) := by decide +kernel
theorem dX7_gives_31 : decode cX7_gives 31 = .ok (.aload_n 0, 1) := by decide +kernel
theorem dX7_gives_32 : decode cX7_gives 32 = .ok (.iload_n 1, 1) := by decide +kernel
theorem dX7_gives_33 : decode cX7_gives 33 = .ok (.iload_n 2, 1) := by decide +kernel
theorem dX7_gives_34 : decode cX7_gives 34 = .ok (.invokestatic 178, 3) := by decide +kernel
theorem dX7_gives_37 : decode cX7_gives 37 = .ok (.bipush 62, 2) := by decide +kernel
theorem dX7_gives_39 : decode cX7_gives 39 = .ok (.iadd, 1) := by decide +kernel
theorem dX7_gives_40 : decode cX7_gives 40 = .ok (.iload_n 3, 1) := by decide +kernel
theorem dX7_gives_41 : decode cX7_gives 41 = .ok (.iadd, 1) := by decide +kernel
theorem dX7_gives_42 : decode cX7_gives 42 = .ok (.iload 5, 2) := by decide +kernel
theorem dX7_gives_44 : decode cX7_gives 44 = .ok (.invokevirtual 151, 3) := by decide +kernel
theorem dX7_gives_47 : decode cX7_gives 47 = .ok (.return_, 1) := by decide +kernel
theorem dX7_addTuple_0 : decode cX7_addTuple 0 = .ok (.aload_n 0, 1) := by decide +kernel
theorem dX7_addTuple_1 : decode cX7_addTuple 1 = .ok (.iload_n 1, 1) := by decide +kernel
theorem dX7_addTuple_2 : decode cX7_addTuple 2 = .ok (.invokevirtual 160, 3) := by decide +kernel
theorem dX7_addTuple_5 : decode cX7_addTuple 5 = .ok (.ifCond .eq 6, 3) := by decide +kernel
theorem dX7_addTuple_8 : decode cX7_addTuple 8 = .ok (.ldc 163, 2) := by decide +kernel
theorem dX7_addTuple_10 : decode cX7_addTuple 10 = .ok (.ireturn, 1) := by decide +kernel
theorem dX7_addTuple_11 : decode cX7_addTuple 11 = .ok (.aload_n 0, 1) := by decide +kernel
theorem dX7_addTuple_12 : decode cX7_addTuple 12 = .ok (.iload_n 1, 1) := by decide +kernel
theorem dX7_addTuple_13 : decode cX7_addTuple 13 = .ok (.iconst 3, 1) := by decide +kernel
theorem dX7_addTuple_14 : decode cX7_addTuple 14 = .ok (.invokevirtual 155, 3) := by decide +kernel
theorem dX7_addTuple_17 : decode cX7_addTuple 17 = .ok (.istore_n 2, 1) := by decide +kernel
theorem dX7_addTuple_18 : decode cX7_addTuple 18 = .ok (.iload_n 2, 1) := by decide +kernel
theorem dX7_addTuple_19 : decode cX7_addTuple 19 = .ok (.iconst 5, 1) := by decide +kernel
theorem dX7_addTuple_20 : decode cX7_addTuple 20 = .ok (.if_icmp .ne 6, 3) := by decide +kernel
theorem dX7_addTuple_23 : decode cX7_addTuple 23 = .ok (.ldc 120, 2) := by decide +kernel
theorem dX7_addTuple_25 : decode cX7_addTuple 25 = .ok (.ireturn, 1) := by decide +kernel
theorem dX7_addTuple_26 : decode cX7_addTuple 26 = .ok (.iconst 0, 1) := by decide +kernel
theorem dX7_addTuple_27 : decode cX7_addTuple 27 = .ok (.istore_n 3, 1) := by decide +kernel
theorem dX7_addTuple_28 : decode cX7_addTuple 28 = .ok (.iload_n 3, 1) := by decide +kernel
theorem dX7_addTuple_29 : decode cX7_addTuple 29 = .ok (.bipush 87, 2) := by decide +kernel
theorem dX7_addTuple_31 : decode cX7_addTuple 31 = .ok (.if_icmp .ge 21, 3) := by decide +kernel
theorem dX7_addTuple_34 : decode cX7_addTuple 34 = .ok (.aload_n 0, 1) := by decide +kernel
theorem dX7_addTuple_35 : decode cX7_addTuple 35 = .ok (.iload_n 1, 1) := by decide +kernel
theorem dX7_addTuple_36 : decode cX7_addTuple 36 = .ok (.iload_n 2, 1) := by decide +kernel
theorem dX7_addTuple_37 : decode cX7_addTuple 37 = .ok (.invokestatic 178, 3) := by decide +kernel
theorem dX7_addTuple_40 : decode cX7_addTuple 40 = .ok (.iload_n 3, 1) := by decide +kernel
theorem dX7_addTuple_41 : decode cX7_addTuple 41 = .ok (.iadd, 1) := by decide +kernel
theorem dX7_addTuple_42 : decode cX7_addTuple 42 = .ok (.iconst 0, 1) := by decide +kernel
theorem dX7_addTuple_43 : decode cX7_addTuple 43 = .ok (.invokevirtual 151, 3) := by decide +kernel
theorem dX7_addTuple_46 : decode cX7_addTuple 46 = .ok (.iinc 3 1, 3) := by decide +kernel
theorem dX7_addTuple_49 : decode cX7_addTuple 49 = .ok (.goto (-21), 3) := by decide +kernel
theorem dX7_addTuple_52 : decode cX7_addTuple 52 = .ok (.aload_n 0, 1) := by decide +kernel
theorem dX7_addTuple_53 : decode cX7_addTuple 53 = .ok (.iload_n 1, 1) := by decide +kernel
theorem dX7_addTuple_54 : decode cX7_addTuple 54 = .ok (.iconst 3, 1) := by decide +kernel
theorem dX7_addTuple_55 : decode cX7_addTuple 55 = .ok (.iload_n 2, 1) := by decide +kernel
theorem dX7_addTuple_56 : decode cX7_addTuple 56 = .ok (.iconst 1, 1) := by decide +kernel
theorem dX7_addTuple_57 : decode cX7_addTuple 57 = .ok (.iadd, 1) := by decide +kernel
theorem dX7_addTuple_58 : decode cX7_addTuple 58 = .ok (.invokevirtual 151, 3) := by decide +kernel
theorem dX7_addTuple_61 : decode cX7_addTuple 61 = .ok (.iload_n 2, 1) := by decide +kernel
theorem dX7_addTuple_62 : decode cX7_addTuple 62 = .ok (.ireturn, 1) := by decide +kernel
theorem dX7_noTuple_0 : decode cX7_noTuple 0 = .ok (.iload_n 2, 1) := by decide +kernel
theorem dX7_noTuple_1 : decode cX7_noTuple 1 = .ok (.i2l, 1) := by decide +kernel
theorem dX7_noTuple_2 : decode cX7_noTuple 2 = .ok (.lconst 0, 1) := by decide +kernel
theorem dX7_noTuple_3 : decode cX7_noTuple 3 = .ok (.aload_n 0, 1) := by decide +kernel
theorem dX7_noTuple_4 : decode cX7_noTuple 4 = .ok (.iload_n 1, 1) := by decide +kernel
theorem dX7_noTuple_5 : decode cX7_noTuple 5 = .ok (.iconst 3, 1) := by decide +kernel
theorem dX7_noTuple_6 : decode cX7_noTuple 6 = .ok (.invokevirtual 155, 3) := by decide +kernel
theorem dX7_noTuple_9 : decode cX7_noTuple 9 = .ok (.i2l, 1) := by decide +kernel
theorem dX7_noTuple_10 : decode cX7_noTuple 10 = .ok (.lconst 1, 1) := by decide +kernel
theorem dX7_noTuple_11 : decode cX7_noTuple 11 = .ok (.lsub, 1) := by decide +kernel
theorem dX7_noTuple_12 : decode cX7_noTuple 12 = .ok (.invokestatic 111, 3) := by decide +kernel
theorem dX7_noTuple_15 : decode cX7_noTuple 15 = .ok (.ifCond .ne 7, 3) := by decide +kernel
theorem dX7_noTuple_18 : decode cX7_noTuple 18 = .ok (.iconst 1, 1) := by decide +kernel
theorem dX7_noTuple_19 : decode cX7_noTuple 19 = .ok (.goto 4, 3) := by decide +kernel
theorem dX7_noTuple_22 : decode cX7_noTuple 22 = .ok (.iconst 0, 1) := by decide +kernel
theorem dX7_noTuple_23 : decode cX7_noTuple 23 = .ok (.ireturn, 1) := by decide +kernel
theorem dX7_noPoint_0 : decode cX7_noPoint 0 = .ok (.iload_n 2, 1) := by decide +kernel
theorem dX7_noPoint_1 : decode cX7_noPoint 1 = .ok (.i2l, 1) := by decide +kernel
theorem dX7_noPoint_2 : decode cX7_noPoint 2 = .ok (.ldc2_w 182, 3) := by decide +kernel
theorem dX7_noPoint_5 : decode cX7_noPoint 5 = .ok (.aload_n 0, 1) := by decide +kernel
theorem dX7_noPoint_6 : decode cX7_noPoint 6 = .ok (.iload_n 1, 1) := by decide +kernel
theorem dX7_noPoint_7 : decode cX7_noPoint 7 = .ok (.iconst 2, 1) := by decide +kernel
theorem dX7_noPoint_8 : decode cX7_noPoint 8 = .ok (.invokevirtual 155, 3) := by decide +kernel
theorem dX7_noPoint_11 : decode cX7_noPoint 11 = .ok (.i2l, 1) := by decide +kernel
theorem dX7_noPoint_12 : decode cX7_noPoint 12 = .ok (.lconst 1, 1) := by decide +kernel
theorem dX7_noPoint_13 : decode cX7_noPoint 13 = .ok (.lsub, 1) := by decide +kernel
theorem dX7_noPoint_14 : decode cX7_noPoint 14 = .ok (.invokestatic 111, 3) := by decide +kernel
theorem dX7_noPoint_17 : decode cX7_noPoint 17 = .ok (.ifCond .ne 7, 3) := by decide +kernel
theorem dX7_noPoint_20 : decode cX7_noPoint 20 = .ok (.iconst 1, 1) := by decide +kernel
theorem dX7_noPoint_21 : decode cX7_noPoint 21 = .ok (.goto 4, 3) := by decide +kernel
theorem dX7_noPoint_24 : decode cX7_noPoint 24 = .ok (.iconst 0, 1) := by decide +kernel
theorem dX7_noPoint_25 : decode cX7_noPoint 25 = .ok (.ireturn, 1) := by decide +kernel
theorem dX7_tupleBarred_0 : decode cX7_tupleBarred 0 = .ok (.aload_n 0, 1) := by decide +kernel
theorem dX7_tupleBarred_1 : decode cX7_tupleBarred 1 = .ok (.iload_n 1, 1) := by decide +kernel
theorem dX7_tupleBarred_2 : decode cX7_tupleBarred 2 = .ok (.invokevirtual 160, 3) := by decide +kernel
theorem dX7_tupleBarred_5 : decode cX7_tupleBarred 5 = .ok (.ifCond .eq 8, 3) := by decide +kernel
theorem dX7_tupleBarred_8 : decode cX7_tupleBarred 8 = .ok (.ldc 163, 2) := by decide +kernel
theorem dX7_tupleBarred_10 : decode cX7_tupleBarred 10 = .ok (.goto 18, 3) := by decide +kernel
theorem dX7_tupleBarred_13 : decode cX7_tupleBarred 13 = .ok (.aload_n 0, 1) := by decide +kernel
theorem dX7_tupleBarred_14 : decode cX7_tupleBarred 14 = .ok (.iload_n 1, 1) := by decide +kernel
theorem dX7_tupleBarred_15 : decode cX7_tupleBarred 15 = .ok (.iload_n 2, 1) := by decide +kernel
theorem dX7_tupleBarred_16 : decode cX7_tupleBarred 16 = .ok (.invokevirtual 184, 3) := by decide +kernel
theorem dX7_tupleBarred_19 : decode cX7_tupleBarred 19 = .ok (.ifCond .eq 8, 3) := by decide +kernel
theorem dX7_tupleBarred_22 : decode cX7_tupleBarred 22 = .ok (.ldc 187, 2) := by decide +kernel
theorem dX7_tupleBarred_24 : decode cX7_tupleBarred 24 = .ok (.goto 4, 3) := by decide +kernel
theorem dX7_tupleBarred_27 : decode cX7_tupleBarred 27 = .ok (.iconst 0, 1) := by decide +kernel
theorem dX7_tupleBarred_28 : decode cX7_tupleBarred 28 = .ok (.ireturn, 1) := by decide +kernel
theorem dX7_pointBarred_0 : decode cX7_pointBarred 0 = .ok (.aload_n 0, 1) := by decide +kernel
theorem dX7_pointBarred_1 : decode cX7_pointBarred 1 = .ok (.iload_n 1, 1) := by decide +kernel
theorem dX7_pointBarred_2 : decode cX7_pointBarred 2 = .ok (.iload_n 2, 1) := by decide +kernel
theorem dX7_pointBarred_3 : decode cX7_pointBarred 3 = .ok (.invokevirtual 188, 3) := by decide +kernel
theorem dX7_pointBarred_6 : decode cX7_pointBarred 6 = .ok (.istore 4, 2) := by decide +kernel
theorem dX7_pointBarred_8 : decode cX7_pointBarred 8 = .ok (.iload 4, 2) := by decide +kernel
theorem dX7_pointBarred_10 : decode cX7_pointBarred 10 = .ok (.ifCond .ge 8, 3) := by decide +kernel
theorem dX7_pointBarred_13 : decode cX7_pointBarred 13 = .ok (.iload 4, 2) := by decide +kernel
theorem dX7_pointBarred_15 : decode cX7_pointBarred 15 = .ok (.goto 18, 3) := by decide +kernel
theorem dX7_pointBarred_18 : decode cX7_pointBarred 18 = .ok (.aload_n 0, 1) := by decide +kernel
theorem dX7_pointBarred_19 : decode cX7_pointBarred 19 = .ok (.iload_n 1, 1) := by decide +kernel
theorem dX7_pointBarred_20 : decode cX7_pointBarred 20 = .ok (.iload_n 3, 1) := by decide +kernel
theorem dX7_pointBarred_21 : decode cX7_pointBarred 21 = .ok (.invokevirtual 191, 3) := by decide +kernel
theorem dX7_pointBarred_24 : decode cX7_pointBarred 24 = .ok (.ifCond .eq 8, 3) := by decide +kernel
theorem dX7_pointBarred_27 : decode cX7_pointBarred 27 = .ok (.ldc 194, 2) := by decide +kernel
theorem dX7_pointBarred_29 : decode cX7_pointBarred 29 = .ok (.goto 4, 3) := by decide +kernel
theorem dX7_pointBarred_32 : decode cX7_pointBarred 32 = .ok (.iconst 0, 1) := by decide +kernel
theorem dX7_pointBarred_33 : decode cX7_pointBarred 33 = .ok (.ireturn, 1) := by decide +kernel
theorem dX7_setRegion_0 : decode cX7_setRegion 0 = .ok (.aload_n 0, 1) := by decide +kernel
theorem dX7_setRegion_1 : decode cX7_setRegion 1 = .ok (.iload_n 1, 1) := by decide +kernel
theorem dX7_setRegion_2 : decode cX7_setRegion 2 = .ok (.iload_n 2, 1) := by decide +kernel
theorem dX7_setRegion_3 : decode cX7_setRegion 3 = .ok (.invokevirtual 188, 3) := by decide +kernel
theorem dX7_setRegion_6 : decode cX7_setRegion 6 = .ok (.istore 7, 2) := by decide +kernel
theorem dX7_setRegion_8 : decode cX7_setRegion 8 = .ok (.iload 7, 2) := by decide +kernel
theorem dX7_setRegion_10 : decode cX7_setRegion 10 = .ok (.ifCond .ge 6, 3) := by decide +kernel
theorem dX7_setRegion_13 : decode cX7_setRegion 13 = .ok (.iload 7, 2) := by decide +kernel
theorem dX7_setRegion_15 : decode cX7_setRegion 15 = .ok (.ireturn, 1) := by decide +kernel
theorem dX7_setRegion_16 : decode cX7_setRegion 16 = .ok (.aload_n 0, 1) := by decide +kernel
theorem dX7_setRegion_17 : decode cX7_setRegion 17 = .ok (.iload_n 3, 1) := by decide +kernel
theorem dX7_setRegion_18 : decode cX7_setRegion 18 = .ok (.invokevirtual 121, 3) := by decide +kernel
theorem dX7_setRegion_21 : decode cX7_setRegion 21 = .ok (.ifCond .eq 6, 3) := by decide +kernel
theorem dX7_setRegion_24 : decode cX7_setRegion 24 = .ok (.ldc 125, 2) := by decide +kernel
theorem dX7_setRegion_26 : decode cX7_setRegion 26 = .ok (.ireturn, 1) := by decide +kernel
theorem dX7_setRegion_27 : decode cX7_setRegion 27 = .ok (.iload 5, 2) := by decide +kernel
theorem dX7_setRegion_29 : decode cX7_setRegion 29 = .ok (.i2l, 1) := by decide +kernel
theorem dX7_setRegion_30 : decode cX7_setRegion 30 = .ok (.ldc2_w 130, 3) := by decide +kernel
theorem dX7_setRegion_33 : decode cX7_setRegion 33 = .ok (.ldc2_w 132, 3) := by decide +kernel
theorem dX7_setRegion_36 : decode cX7_setRegion 36 = .ok (.invokestatic 111, 3) := by decide +kernel
theorem dX7_setRegion_39 : decode cX7_setRegion 39 = .ok (.ifCond .eq 48, 3) := by decide +kernel
theorem dX7_setRegion_42 : decode cX7_setRegion 42 = .ok (.iload 4, 2) := by decide +kernel
theorem dX7_setRegion_44 : decode cX7_setRegion 44 = .ok (.i2l, 1) := by decide +kernel
theorem dX7_setRegion_45 : decode cX7_setRegion 45 = .ok (.ldc2_w 130, 3) := by decide +kernel
theorem dX7_setRegion_48 : decode cX7_setRegion 48 = .ok (.iload 5, 2) := by decide +kernel
theorem dX7_setRegion_50 : decode cX7_setRegion 50 = .ok (.i2l, 1) := by decide +kernel
theorem dX7_setRegion_51 : decode cX7_setRegion 51 = .ok (.invokestatic 111, 3) := by decide +kernel
theorem dX7_setRegion_54 : decode cX7_setRegion 54 = .ok (.ifCond .eq 33, 3) := by decide +kernel
theorem dX7_setRegion_57 : decode cX7_setRegion 57 = .ok (.iload 6, 2) := by decide +kernel
theorem dX7_setRegion_59 : decode cX7_setRegion 59 = .ok (.i2l, 1) := by decide +kernel
theorem dX7_setRegion_60 : decode cX7_setRegion 60 = .ok (.iload 5, 2) := by decide +kernel
theorem dX7_setRegion_62 : decode cX7_setRegion 62 = .ok (.i2l, 1) := by decide +kernel
theorem dX7_setRegion_63 : decode cX7_setRegion 63 = .ok (.ldc2_w 132, 3) := by decide +kernel
theorem dX7_setRegion_66 : decode cX7_setRegion 66 = .ok (.invokestatic 111, 3) := by decide +kernel
theorem dX7_setRegion_69 : decode cX7_setRegion 69 = .ok (.ifCond .eq 18, 3) := by decide +kernel
theorem dX7_setRegion_72 : decode cX7_setRegion 72 = .ok (.iload 5, 2) := by decide +kernel
theorem dX7_setRegion_74 : decode cX7_setRegion 74 = .ok (.ifCond .eq 16, 3) := by decide +kernel
theorem dX7_setRegion_77 : decode cX7_setRegion 77 = .ok (.iload 4, 2) := by decide +kernel
theorem dX7_setRegion_79 : decode cX7_setRegion 79 = .ok (.ifCond .ge 11, 3) := by decide +kernel
theorem dX7_setRegion_82 : decode cX7_setRegion 82 = .ok (.iload 6, 2) := by decide +kernel
theorem dX7_setRegion_84 : decode cX7_setRegion 84 = .ok (.ifCond .le 6, 3) := by decide +kernel
theorem dX7_setRegion_87 : decode cX7_setRegion 87 = .ok (.ldc 119, 2) := by decide +kernel
theorem dX7_setRegion_89 : decode cX7_setRegion 89 = .ok (.ireturn, 1) := by decide +kernel
theorem dX7_setRegion_90 : decode cX7_setRegion 90 = .ok (.iload_n 2, 1) := by decide +kernel
theorem dX7_setRegion_91 : decode cX7_setRegion 91 = .ok (.invokestatic 178, 3) := by decide +kernel
theorem dX7_setRegion_94 : decode cX7_setRegion 94 = .ok (.iconst 3, 1) := by decide +kernel
theorem dX7_setRegion_95 : decode cX7_setRegion 95 = .ok (.iload_n 3, 1) := by decide +kernel
theorem dX7_setRegion_96 : decode cX7_setRegion 96 = .ok (.imul, 1) := by decide +kernel
theorem dX7_setRegion_97 : decode cX7_setRegion 97 = .ok (.iadd, 1) := by decide +kernel
theorem dX7_setRegion_98 : decode cX7_setRegion 98 = .ok (.istore 8, 2) := by decide +kernel
theorem dX7_setRegion_100 : decode cX7_setRegion 100 = .ok (.aload_n 0, 1) := by decide +kernel
theorem dX7_setRegion_101 : decode cX7_setRegion 101 = .ok (.iload_n 1, 1) := by decide +kernel
theorem dX7_setRegion_102 : decode cX7_setRegion 102 = .ok (.iload 8, 2) := by decide +kernel
theorem dX7_setRegion_104 : decode cX7_setRegion 104 = .ok (.invokevirtual 155, 3) := by decide +kernel
theorem dX7_setRegion_107 : decode cX7_setRegion 107 = .ok (.iload 4, 2) := by decide +kernel
theorem dX7_setRegion_109 : decode cX7_setRegion 109 = .ok (.if_icmp .ne 31, 3) := by decide +kernel
theorem dX7_setRegion_112 : decode cX7_setRegion 112 = .ok (.aload_n 0, 1) := by decide +kernel
theorem dX7_setRegion_113 : decode cX7_setRegion 113 = .ok (.iload_n 1, 1) := by decide +kernel
theorem dX7_setRegion_114 : decode cX7_setRegion 114 = .ok (.iload 8, 2) := by decide +kernel
theorem dX7_setRegion_116 : decode cX7_setRegion 116 = .ok (.iconst 1, 1) := by decide +kernel
theorem dX7_setRegion_117 : decode cX7_setRegion 117 = .ok (.iadd, 1) := by decide +kernel
theorem dX7_setRegion_118 : decode cX7_setRegion 118 = .ok (.invokevirtual 155, 3) := by decide +kernel
theorem dX7_setRegion_121 : decode cX7_setRegion 121 = .ok (.iload 5, 2) := by decide +kernel
theorem dX7_setRegion_123 : decode cX7_setRegion 123 = .ok (.if_icmp .ne 17, 3) := by decide +kernel
theorem dX7_setRegion_126 : decode cX7_setRegion 126 = .ok (.aload_n 0, 1) := by decide +kernel
theorem dX7_setRegion_127 : decode cX7_setRegion 127 = .ok (.iload_n 1, 1) := by decide +kernel
theorem dX7_setRegion_128 : decode cX7_setRegion 128 = .ok (.iload 8, 2) := by decide +kernel
theorem dX7_setRegion_130 : decode cX7_setRegion 130 = .ok (.iconst 2, 1) := by decide +kernel
theorem dX7_setRegion_131 : decode cX7_setRegion 131 = .ok (.iadd, 1) := by decide +kernel
theorem dX7_setRegion_132 : decode cX7_setRegion 132 = .ok (.invokevirtual 155, 3) := by decide +kernel
theorem dX7_setRegion_135 : decode cX7_setRegion 135 = .ok (.iload 6, 2) := by decide +kernel
theorem dX7_setRegion_137 : decode cX7_setRegion 137 = .ok (.if_icmp .eq 7, 3) := by decide +kernel
theorem dX7_setRegion_140 : decode cX7_setRegion 140 = .ok (.iconst 1, 1) := by decide +kernel
theorem dX7_setRegion_141 : decode cX7_setRegion 141 = .ok (.goto 4, 3) := by decide +kernel
theorem dX7_setRegion_144 : decode cX7_setRegion 144 = .ok (.iconst 0, 1) := by decide +kernel
theorem dX7_setRegion_145 : decode cX7_setRegion 145 = .ok (.istore 9, 2) := by decide +kernel
theorem dX7_setRegion_147 : decode cX7_setRegion 147 = .ok (.aload_n 0, 1) := by decide +kernel
theorem dX7_setRegion_148 : decode cX7_setRegion 148 = .ok (.iload_n 1, 1) := by decide +kernel
theorem dX7_setRegion_149 : decode cX7_setRegion 149 = .ok (.iload 8, 2) := by decide +kernel
theorem dX7_setRegion_151 : decode cX7_setRegion 151 = .ok (.iload 4, 2) := by decide +kernel
theorem dX7_setRegion_153 : decode cX7_setRegion 153 = .ok (.invokevirtual 151, 3) := by decide +kernel
theorem dX7_setRegion_156 : decode cX7_setRegion 156 = .ok (.aload_n 0, 1) := by decide +kernel
theorem dX7_setRegion_157 : decode cX7_setRegion 157 = .ok (.iload_n 1, 1) := by decide +kernel
theorem dX7_setRegion_158 : decode cX7_setRegion 158 = .ok (.iload 8, 2) := by decide +kernel
theorem dX7_setRegion_160 : decode cX7_setRegion 160 = .ok (.iconst 1, 1) := by decide +kernel
theorem dX7_setRegion_161 : decode cX7_setRegion 161 = .ok (.iadd, 1) := by decide +kernel
theorem dX7_setRegion_162 : decode cX7_setRegion 162 = .ok (.iload 5, 2) := by decide +kernel
theorem dX7_setRegion_164 : decode cX7_setRegion 164 = .ok (.invokevirtual 151, 3) := by decide +kernel
theorem dX7_setRegion_167 : decode cX7_setRegion 167 = .ok (.aload_n 0, 1) := by decide +kernel
theorem dX7_setRegion_168 : decode cX7_setRegion 168 = .ok (.iload_n 1, 1) := by decide +kernel
theorem dX7_setRegion_169 : decode cX7_setRegion 169 = .ok (.iload 8, 2) := by decide +kernel
theorem dX7_setRegion_171 : decode cX7_setRegion 171 = .ok (.iconst 2, 1) := by decide +kernel
theorem dX7_setRegion_172 : decode cX7_setRegion 172 = .ok (.iadd, 1) := by decide +kernel
theorem dX7_setRegion_173 : decode cX7_setRegion 173 = .ok (.iload 6, 2) := by decide +kernel
theorem dX7_setRegion_175 : decode cX7_setRegion 175 = .ok (.invokevirtual 151, 3) := by decide +kernel
theorem dX7_setRegion_178 : decode cX7_setRegion 178 = .ok (.iload 9, 2) := by decide +kernel
theorem dX7_setRegion_180 : decode cX7_setRegion 180 = .ok (.ireturn, 1) := by decide +kernel
theorem dX7_touch_0 : decode cX7_touch 0 = .ok (.aload_n 0, 1) := by decide +kernel
theorem dX7_touch_1 : decode cX7_touch 1 = .ok (.iload_n 1, 1) := by decide +kernel
theorem dX7_touch_2 : decode cX7_touch 2 = .ok (.iload_n 2, 1) := by decide +kernel
theorem dX7_touch_3 : decode cX7_touch 3 = .ok (.iload_n 3, 1) := by decide +kernel
theorem dX7_touch_4 : decode cX7_touch 4 = .ok (.invokevirtual 195, 3) := by decide +kernel
theorem dX7_touch_7 : decode cX7_touch 7 = .ok (.istore 6, 2) := by decide +kernel
theorem dX7_touch_9 : decode cX7_touch 9 = .ok (.iload 6, 2) := by decide +kernel
theorem dX7_touch_11 : decode cX7_touch 11 = .ok (.ifCond .ge 6, 3) := by decide +kernel
theorem dX7_touch_14 : decode cX7_touch 14 = .ok (.iload 6, 2) := by decide +kernel
theorem dX7_touch_16 : decode cX7_touch 16 = .ok (.ireturn, 1) := by decide +kernel
theorem dX7_touch_17 : decode cX7_touch 17 = .ok (.iload 4, 2) := by decide +kernel
theorem dX7_touch_19 : decode cX7_touch 19 = .ok (.i2l, 1) := by decide +kernel
theorem dX7_touch_20 : decode cX7_touch 20 = .ok (.ldc2_w 199, 3) := by decide +kernel
theorem dX7_touch_23 : decode cX7_touch 23 = .ok (.ldc2_w 201, 3) := by decide +kernel
theorem dX7_touch_26 : decode cX7_touch 26 = .ok (.invokestatic 111, 3) := by decide +kernel
theorem dX7_touch_29 : decode cX7_touch 29 = .ok (.ifCond .eq 27, 3) := by decide +kernel
theorem dX7_touch_32 : decode cX7_touch 32 = .ok (.iload 5, 2) := by decide +kernel
theorem dX7_touch_34 : decode cX7_touch 34 = .ok (.i2l, 1) := by decide +kernel
theorem dX7_touch_35 : decode cX7_touch 35 = .ok (.ldc2_w 199, 3) := by decide +kernel
theorem dX7_touch_38 : decode cX7_touch 38 = .ok (.ldc2_w 201, 3) := by decide +kernel
theorem dX7_touch_41 : decode cX7_touch 41 = .ok (.invokestatic 111, 3) := by decide +kernel
theorem dX7_touch_44 : decode cX7_touch 44 = .ok (.ifCond .eq 12, 3) := by decide +kernel
theorem dX7_touch_47 : decode cX7_touch 47 = .ok (.iload_n 3, 1) := by decide +kernel
theorem dX7_touch_48 : decode cX7_touch 48 = .ok (.ifCond .ge 11, 3) := by decide +kernel
theorem dX7_touch_51 : decode cX7_touch 51 = .ok (.iload 5, 2) := by decide +kernel
theorem dX7_touch_53 : decode cX7_touch 53 = .ok (.ifCond .eq 6, 3) := by decide +kernel
theorem dX7_touch_56 : decode cX7_touch 56 = .ok (.ldc 119, 2) := by decide +kernel
theorem dX7_touch_58 : decode cX7_touch 58 = .ok (.ireturn, 1) := by decide +kernel
theorem dX7_touch_59 : decode cX7_touch 59 = .ok (.aload_n 0, 1) := by decide +kernel
theorem dX7_touch_60 : decode cX7_touch 60 = .ok (.iload_n 1, 1) := by decide +kernel
theorem dX7_touch_61 : decode cX7_touch 61 = .ok (.iload_n 2, 1) := by decide +kernel
theorem dX7_touch_62 : decode cX7_touch 62 = .ok (.iload_n 3, 1) := by decide +kernel
theorem dX7_touch_63 : decode cX7_touch 63 = .ok (.invokestatic 203, 3) := by decide +kernel
theorem dX7_touch_66 : decode cX7_touch 66 = .ok (.invokevirtual 206, 3) := by decide +kernel
theorem dX7_touch_69 : decode cX7_touch 69 = .ok (.ifCond .eq 7, 3) := by decide +kernel
theorem dX7_touch_72 : decode cX7_touch 72 = .ok (.iconst 0, 1) := by decide +kernel
theorem dX7_touch_73 : decode cX7_touch 73 = .ok (.goto 4, 3) := by decide +kernel
theorem dX7_touch_76 : decode cX7_touch 76 = .ok (.iconst 1, 1) := by decide +kernel
theorem dX7_touch_77 : decode cX7_touch 77 = .ok (.istore 7, 2) := by decide +kernel
theorem dX7_touch_79 : decode cX7_touch 79 = .ok (.aload_n 0, 1) := by decide +kernel
theorem dX7_touch_80 : decode cX7_touch 80 = .ok (.iload_n 1, 1) := by decide +kernel
theorem dX7_touch_81 : decode cX7_touch 81 = .ok (.iload_n 2, 1) := by decide +kernel
theorem dX7_touch_82 : decode cX7_touch 82 = .ok (.iload_n 3, 1) := by decide +kernel
theorem dX7_touch_83 : decode cX7_touch 83 = .ok (.invokestatic 203, 3) := by decide +kernel
theorem dX7_touch_86 : decode cX7_touch 86 = .ok (.iload 4, 2) := by decide +kernel
theorem dX7_touch_88 : decode cX7_touch 88 = .ok (.iload 5, 2) := by decide +kernel
theorem dX7_touch_90 : decode cX7_touch 90 = .ok (.invokevirtual 210, 3) := by decide +kernel
theorem dX7_touch_93 : decode cX7_touch 93 = .ok (.iload 7, 2) := by decide +kernel
theorem dX7_touch_95 : decode cX7_touch 95 = .ok (.ireturn, 1) := by decide +kernel
theorem dX7_release_0 : decode cX7_release 0 = .ok (.aload_n 0, 1) := by decide +kernel
theorem dX7_release_1 : decode cX7_release 1 = .ok (.iload_n 1, 1) := by decide +kernel
theorem dX7_release_2 : decode cX7_release 2 = .ok (.iload_n 2, 1) := by decide +kernel
theorem dX7_release_3 : decode cX7_release 3 = .ok (.iload_n 3, 1) := by decide +kernel
theorem dX7_release_4 : decode cX7_release 4 = .ok (.invokevirtual 195, 3) := by decide +kernel
theorem dX7_release_7 : decode cX7_release 7 = .ok (.istore 4, 2) := by decide +kernel
theorem dX7_release_9 : decode cX7_release 9 = .ok (.iload 4, 2) := by decide +kernel
theorem dX7_release_11 : decode cX7_release 11 = .ok (.ifCond .ge 6, 3) := by decide +kernel
theorem dX7_release_14 : decode cX7_release 14 = .ok (.iload 4, 2) := by decide +kernel
theorem dX7_release_16 : decode cX7_release 16 = .ok (.ireturn, 1) := by decide +kernel
theorem dX7_release_17 : decode cX7_release 17 = .ok (.aload_n 0, 1) := by decide +kernel
theorem dX7_release_18 : decode cX7_release 18 = .ok (.iload_n 1, 1) := by decide +kernel
theorem dX7_release_19 : decode cX7_release 19 = .ok (.iload_n 2, 1) := by decide +kernel
theorem dX7_release_20 : decode cX7_release 20 = .ok (.invokestatic 178, 3) := by decide +kernel
theorem dX7_release_23 : decode cX7_release 23 = .ok (.bipush 12, 2) := by decide +kernel
theorem dX7_release_25 : decode cX7_release 25 = .ok (.iadd, 1) := by decide +kernel
theorem dX7_release_26 : decode cX7_release 26 = .ok (.iload_n 3, 1) := by decide +kernel
theorem dX7_release_27 : decode cX7_release 27 = .ok (.invokestatic 203, 3) := by decide +kernel
theorem dX7_release_30 : decode cX7_release 30 = .ok (.iadd, 1) := by decide +kernel
theorem dX7_release_31 : decode cX7_release 31 = .ok (.invokevirtual 155, 3) := by decide +kernel
theorem dX7_release_34 : decode cX7_release 34 = .ok (.istore 5, 2) := by decide +kernel
theorem dX7_release_36 : decode cX7_release 36 = .ok (.aload_n 0, 1) := by decide +kernel
theorem dX7_release_37 : decode cX7_release 37 = .ok (.iload_n 1, 1) := by decide +kernel
theorem dX7_release_38 : decode cX7_release 38 = .ok (.iload_n 2, 1) := by decide +kernel
theorem dX7_release_39 : decode cX7_release 39 = .ok (.invokestatic 178, 3) := by decide +kernel
theorem dX7_release_42 : decode cX7_release 42 = .ok (.bipush 12, 2) := by decide +kernel
theorem dX7_release_44 : decode cX7_release 44 = .ok (.iadd, 1) := by decide +kernel
theorem dX7_release_45 : decode cX7_release 45 = .ok (.iload_n 3, 1) := by decide +kernel
theorem dX7_release_46 : decode cX7_release 46 = .ok (.invokestatic 203, 3) := by decide +kernel
theorem dX7_release_49 : decode cX7_release 49 = .ok (.iadd, 1) := by decide +kernel
theorem dX7_release_50 : decode cX7_release 50 = .ok (.iconst 0, 1) := by decide +kernel
theorem dX7_release_51 : decode cX7_release 51 = .ok (.invokevirtual 151, 3) := by decide +kernel
theorem dX7_release_54 : decode cX7_release 54 = .ok (.iload 5, 2) := by decide +kernel
theorem dX7_release_56 : decode cX7_release 56 = .ok (.ireturn, 1) := by decide +kernel
theorem dX7_beside_0 : decode cX7_beside 0 = .ok (.iload_n 2, 1) := by decide +kernel
theorem dX7_beside_1 : decode cX7_beside 1 = .ok (.istore 4, 2) := by decide +kernel
theorem dX7_beside_3 : decode cX7_beside 3 = .ok (.aload_n 0, 1) := by decide +kernel
theorem dX7_beside_4 : decode cX7_beside 4 = .ok (.iload_n 1, 1) := by decide +kernel
theorem dX7_beside_5 : decode cX7_beside 5 = .ok (.bipush 52, 2) := by decide +kernel
theorem dX7_beside_7 : decode cX7_beside 7 = .ok (.iload 4, 2) := by decide +kernel
theorem dX7_beside_9 : decode cX7_beside 9 = .ok (.iadd, 1) := by decide +kernel
theorem dX7_beside_10 : decode cX7_beside 10 = .ok (.invokevirtual 155, 3) := by decide +kernel
theorem dX7_beside_13 : decode cX7_beside 13 = .ok (.ifCond .ne 9, 3) := by decide +kernel
theorem dX7_beside_16 : decode cX7_beside 16 = .ok (.iinc 4 (-1), 3) := by decide +kernel
theorem dX7_beside_19 : decode cX7_beside 19 = .ok (.goto (-16), 3) := by decide +kernel
theorem dX7_beside_22 : decode cX7_beside 22 = .ok (.iload_n 2, 1) := by decide +kernel
theorem dX7_beside_23 : decode cX7_beside 23 = .ok (.istore 5, 2) := by decide +kernel
theorem dX7_beside_25 : decode cX7_beside 25 = .ok (.iload 5, 2) := by decide +kernel
theorem dX7_beside_27 : decode cX7_beside 27 = .ok (.iconst 1, 1) := by decide +kernel
theorem dX7_beside_28 : decode cX7_beside 28 = .ok (.iadd, 1) := by decide +kernel
theorem dX7_beside_29 : decode cX7_beside 29 = .ok (.aload_n 0, 1) := by decide +kernel
theorem dX7_beside_30 : decode cX7_beside 30 = .ok (.iload_n 1, 1) := by decide +kernel
theorem dX7_beside_31 : decode cX7_beside 31 = .ok (.iconst 2, 1) := by decide +kernel
theorem dX7_beside_32 : decode cX7_beside 32 = .ok (.invokevirtual 155, 3) := by decide +kernel
theorem dX7_beside_35 : decode cX7_beside 35 = .ok (.if_icmp .ge 24, 3) := by decide +kernel
theorem dX7_beside_38 : decode cX7_beside 38 = .ok (.aload_n 0, 1) := by decide +kernel
theorem dX7_beside_39 : decode cX7_beside 39 = .ok (.iload_n 1, 1) := by decide +kernel
theorem dX7_beside_40 : decode cX7_beside 40 = .ok (.bipush 52, 2) := by decide +kernel
theorem dX7_beside_42 : decode cX7_beside 42 = .ok (.iload 5, 2) := by decide +kernel
theorem dX7_beside_44 : decode cX7_beside 44 = .ok (.iadd, 1) := by decide +kernel
theorem dX7_beside_45 : decode cX7_beside 45 = .ok (.iconst 1, 1) := by decide +kernel
theorem dX7_beside_46 : decode cX7_beside 46 = .ok (.iadd, 1) := by decide +kernel
theorem dX7_beside_47 : decode cX7_beside 47 = .ok (.invokevirtual 155, 3) := by decide +kernel
theorem dX7_beside_50 : decode cX7_beside 50 = .ok (.ifCond .ne 9, 3) := by decide +kernel
theorem dX7_beside_53 : decode cX7_beside 53 = .ok (.iinc 5 1, 3) := by decide +kernel
theorem dX7_beside_56 : decode cX7_beside 56 = .ok (.goto (-31), 3) := by decide +kernel
theorem dX7_beside_59 : decode cX7_beside 59 = .ok (.iload_n 2, 1) := by decide +kernel
theorem dX7_beside_60 : decode cX7_beside 60 = .ok (.iload_n 3, 1) := by decide +kernel
theorem dX7_beside_61 : decode cX7_beside 61 = .ok (.iadd, 1) := by decide +kernel
theorem dX7_beside_62 : decode cX7_beside 62 = .ok (.istore 6, 2) := by decide +kernel
theorem dX7_beside_64 : decode cX7_beside 64 = .ok (.iload 6, 2) := by decide +kernel
theorem dX7_beside_66 : decode cX7_beside 66 = .ok (.iload 4, 2) := by decide +kernel
theorem dX7_beside_68 : decode cX7_beside 68 = .ok (.if_icmp .ge 8, 3) := by decide +kernel
theorem dX7_beside_71 : decode cX7_beside 71 = .ok (.iload 5, 2) := by decide +kernel
theorem dX7_beside_73 : decode cX7_beside 73 = .ok (.goto 17, 3) := by decide +kernel
theorem dX7_beside_76 : decode cX7_beside 76 = .ok (.iload 6, 2) := by decide +kernel
theorem dX7_beside_78 : decode cX7_beside 78 = .ok (.iload 5, 2) := by decide +kernel
theorem dX7_beside_80 : decode cX7_beside 80 = .ok (.if_icmp .le 8, 3) := by decide +kernel
theorem dX7_beside_83 : decode cX7_beside 83 = .ok (.iload 4, 2) := by decide +kernel
theorem dX7_beside_85 : decode cX7_beside 85 = .ok (.goto 5, 3) := by decide +kernel
theorem dX7_beside_88 : decode cX7_beside 88 = .ok (.iload 6, 2) := by decide +kernel
theorem dX7_beside_90 : decode cX7_beside 90 = .ok (.ireturn, 1) := by decide +kernel
theorem dX7_touchedFrom_0 : decode cX7_touchedFrom 0 = .ok (.aload_n 0, 1) := by decide +kernel
theorem dX7_touchedFrom_1 : decode cX7_touchedFrom 1 = .ok (.iload_n 1, 1) := by decide +kernel
theorem dX7_touchedFrom_2 : decode cX7_touchedFrom 2 = .ok (.iload_n 3, 1) := by decide +kernel
theorem dX7_touchedFrom_3 : decode cX7_touchedFrom 3 = .ok (.iload 4, 2) := by decide +kernel
theorem dX7_touchedFrom_5 : decode cX7_touchedFrom 5 = .ok (.invokevirtual 214, 3) := by decide +kernel
theorem dX7_touchedFrom_8 : decode cX7_touchedFrom 8 = .ok (.istore 5, 2) := by decide +kernel
theorem dX7_touchedFrom_10 : decode cX7_touchedFrom 10 = .ok (.iload 5, 2) := by decide +kernel
theorem dX7_touchedFrom_12 : decode cX7_touchedFrom 12 = .ok (.iload_n 3, 1) := by decide +kernel
theorem dX7_touchedFrom_13 : decode cX7_touchedFrom 13 = .ok (.if_icmp .eq 28, 3) := by decide +kernel
theorem dX7_touchedFrom_16 : decode cX7_touchedFrom 16 = .ok (.aload_n 0, 1) := by decide +kernel
theorem dX7_touchedFrom_17 : decode cX7_touchedFrom 17 = .ok (.iload_n 1, 1) := by decide +kernel
theorem dX7_touchedFrom_18 : decode cX7_touchedFrom 18 = .ok (.iload_n 2, 1) := by decide +kernel
theorem dX7_touchedFrom_19 : decode cX7_touchedFrom 19 = .ok (.iload 5, 2) := by decide +kernel
theorem dX7_touchedFrom_21 : decode cX7_touchedFrom 21 = .ok (.invokevirtual 206, 3) := by decide +kernel
theorem dX7_touchedFrom_24 : decode cX7_touchedFrom 24 = .ok (.ifCond .ne 17, 3) := by decide +kernel
theorem dX7_touchedFrom_27 : decode cX7_touchedFrom 27 = .ok (.aload_n 0, 1) := by decide +kernel
theorem dX7_touchedFrom_28 : decode cX7_touchedFrom 28 = .ok (.iload_n 1, 1) := by decide +kernel
theorem dX7_touchedFrom_29 : decode cX7_touchedFrom 29 = .ok (.iload 5, 2) := by decide +kernel
theorem dX7_touchedFrom_31 : decode cX7_touchedFrom 31 = .ok (.iload 4, 2) := by decide +kernel
theorem dX7_touchedFrom_33 : decode cX7_touchedFrom 33 = .ok (.invokevirtual 214, 3) := by decide +kernel
theorem dX7_touchedFrom_36 : decode cX7_touchedFrom 36 = .ok (.istore 5, 2) := by decide +kernel
theorem dX7_touchedFrom_38 : decode cX7_touchedFrom 38 = .ok (.goto (-28), 3) := by decide +kernel
theorem dX7_touchedFrom_41 : decode cX7_touchedFrom 41 = .ok (.aload_n 0, 1) := by decide +kernel
theorem dX7_touchedFrom_42 : decode cX7_touchedFrom 42 = .ok (.iload_n 1, 1) := by decide +kernel
theorem dX7_touchedFrom_43 : decode cX7_touchedFrom 43 = .ok (.iload_n 2, 1) := by decide +kernel
theorem dX7_touchedFrom_44 : decode cX7_touchedFrom 44 = .ok (.iload 5, 2) := by decide +kernel
theorem dX7_touchedFrom_46 : decode cX7_touchedFrom 46 = .ok (.invokevirtual 206, 3) := by decide +kernel
theorem dX7_touchedFrom_49 : decode cX7_touchedFrom 49 = .ok (.ifCond .eq 8, 3) := by decide +kernel
theorem dX7_touchedFrom_52 : decode cX7_touchedFrom 52 = .ok (.iload 5, 2) := by decide +kernel
theorem dX7_touchedFrom_54 : decode cX7_touchedFrom 54 = .ok (.goto 4, 3) := by decide +kernel
theorem dX7_touchedFrom_57 : decode cX7_touchedFrom 57 = .ok (.iconst (-1), 1) := by decide +kernel
theorem dX7_touchedFrom_58 : decode cX7_touchedFrom 58 = .ok (.ireturn, 1) := by decide +kernel
theorem dX7_deltaOf_0 : decode cX7_deltaOf 0 = .ok (.aload_n 0, 1) := by decide +kernel
theorem dX7_deltaOf_1 : decode cX7_deltaOf 1 = .ok (.iload_n 1, 1) := by decide +kernel
theorem dX7_deltaOf_2 : decode cX7_deltaOf 2 = .ok (.iload_n 2, 1) := by decide +kernel
theorem dX7_deltaOf_3 : decode cX7_deltaOf 3 = .ok (.iload_n 3, 1) := by decide +kernel
theorem dX7_deltaOf_4 : decode cX7_deltaOf 4 = .ok (.invokevirtual 206, 3) := by decide +kernel
theorem dX7_deltaOf_7 : decode cX7_deltaOf 7 = .ok (.ifCond .eq 13, 3) := by decide +kernel
theorem dX7_deltaOf_10 : decode cX7_deltaOf 10 = .ok (.aload_n 0, 1) := by decide +kernel
theorem dX7_deltaOf_11 : decode cX7_deltaOf 11 = .ok (.iload_n 1, 1) := by decide +kernel
theorem dX7_deltaOf_12 : decode cX7_deltaOf 12 = .ok (.iload_n 2, 1) := by decide +kernel
theorem dX7_deltaOf_13 : decode cX7_deltaOf 13 = .ok (.iload_n 3, 1) := by decide +kernel
theorem dX7_deltaOf_14 : decode cX7_deltaOf 14 = .ok (.iload 4, 2) := by decide +kernel
theorem dX7_deltaOf_16 : decode cX7_deltaOf 16 = .ok (.invokevirtual 217, 3) := by decide +kernel
theorem dX7_deltaOf_19 : decode cX7_deltaOf 19 = .ok (.ireturn, 1) := by decide +kernel
theorem dX7_deltaOf_20 : decode cX7_deltaOf 20 = .ok (.iload_n 3, 1) := by decide +kernel
theorem dX7_deltaOf_21 : decode cX7_deltaOf 21 = .ok (.bipush 24, 2) := by decide +kernel
theorem dX7_deltaOf_23 : decode cX7_deltaOf 23 = .ok (.if_icmp .eq 13, 3) := by decide +kernel
theorem dX7_deltaOf_26 : decode cX7_deltaOf 26 = .ok (.aload_n 0, 1) := by decide +kernel
theorem dX7_deltaOf_27 : decode cX7_deltaOf 27 = .ok (.iload_n 1, 1) := by decide +kernel
theorem dX7_deltaOf_28 : decode cX7_deltaOf 28 = .ok (.iconst 0, 1) := by decide +kernel
theorem dX7_deltaOf_29 : decode cX7_deltaOf 29 = .ok (.invokevirtual 155, 3) := by decide +kernel
theorem dX7_deltaOf_32 : decode cX7_deltaOf 32 = .ok (.iconst 1, 1) := by decide +kernel
theorem dX7_deltaOf_33 : decode cX7_deltaOf 33 = .ok (.if_icmp .ne 5, 3) := by decide +kernel
theorem dX7_deltaOf_36 : decode cX7_deltaOf 36 = .ok (.iconst 0, 1) := by decide +kernel
theorem dX7_deltaOf_37 : decode cX7_deltaOf 37 = .ok (.ireturn, 1) := by decide +kernel
theorem dX7_deltaOf_38 : decode cX7_deltaOf 38 = .ok (.aload_n 0, 1) := by decide +kernel
theorem dX7_deltaOf_39 : decode cX7_deltaOf 39 = .ok (.iload_n 1, 1) := by decide +kernel
theorem dX7_deltaOf_40 : decode cX7_deltaOf 40 = .ok (.iload_n 2, 1) := by decide +kernel
theorem dX7_deltaOf_41 : decode cX7_deltaOf 41 = .ok (.iload_n 3, 1) := by decide +kernel
theorem dX7_deltaOf_42 : decode cX7_deltaOf 42 = .ok (.iconst (-1), 1) := by decide +kernel
theorem dX7_deltaOf_43 : decode cX7_deltaOf 43 = .ok (.invokevirtual 221, 3) := by decide +kernel
theorem dX7_deltaOf_46 : decode cX7_deltaOf 46 = .ok (.istore 5, 2) := by decide +kernel
theorem dX7_deltaOf_48 : decode cX7_deltaOf 48 = .ok (.iload 5, 2) := by decide +kernel
theorem dX7_deltaOf_50 : decode cX7_deltaOf 50 = .ok (.ifCond .ge 5, 3) := by decide +kernel
theorem dX7_deltaOf_53 : decode cX7_deltaOf 53 = .ok (.iconst 0, 1) := by decide +kernel
theorem dX7_deltaOf_54 : decode cX7_deltaOf 54 = .ok (.ireturn, 1) := by decide +kernel
theorem dX7_deltaOf_55 : decode cX7_deltaOf 55 = .ok (.aload_n 0, 1) := by decide +kernel
theorem dX7_deltaOf_56 : decode cX7_deltaOf 56 = .ok (.iload_n 1, 1) := by decide +kernel
theorem dX7_deltaOf_57 : decode cX7_deltaOf 57 = .ok (.iload_n 2, 1) := by decide +kernel
theorem dX7_deltaOf_58 : decode cX7_deltaOf 58 = .ok (.iload_n 3, 1) := by decide +kernel
theorem dX7_deltaOf_59 : decode cX7_deltaOf 59 = .ok (.iconst 1, 1) := by decide +kernel
theorem dX7_deltaOf_60 : decode cX7_deltaOf 60 = .ok (.invokevirtual 221, 3) := by decide +kernel
theorem dX7_deltaOf_63 : decode cX7_deltaOf 63 = .ok (.istore 6, 2) := by decide +kernel
theorem dX7_deltaOf_65 : decode cX7_deltaOf 65 = .ok (.iload 4, 2) := by decide +kernel
theorem dX7_deltaOf_67 : decode cX7_deltaOf 67 = .ok (.ifCond .eq 8, 3) := by decide +kernel
theorem dX7_deltaOf_70 : decode cX7_deltaOf 70 = .ok (.bipush 28, 2) := by decide +kernel
theorem dX7_deltaOf_72 : decode cX7_deltaOf 72 = .ok (.goto 4, 3) := by decide +kernel
theorem dX7_deltaOf_75 : decode cX7_deltaOf 75 = .ok (.iconst 4, 1) := by decide +kernel
theorem dX7_deltaOf_76 : decode cX7_deltaOf 76 = .ok (.istore 7, 2) := by decide +kernel
theorem dX7_deltaOf_78 : decode cX7_deltaOf 78 = .ok (.aload_n 0, 1) := by decide +kernel
theorem dX7_deltaOf_79 : decode cX7_deltaOf 79 = .ok (.iload_n 1, 1) := by decide +kernel
theorem dX7_deltaOf_80 : decode cX7_deltaOf 80 = .ok (.iload_n 2, 1) := by decide +kernel
theorem dX7_deltaOf_81 : decode cX7_deltaOf 81 = .ok (.iload 5, 2) := by decide +kernel
theorem dX7_deltaOf_83 : decode cX7_deltaOf 83 = .ok (.iload 4, 2) := by decide +kernel
theorem dX7_deltaOf_85 : decode cX7_deltaOf 85 = .ok (.invokevirtual 217, 3) := by decide +kernel
theorem dX7_deltaOf_88 : decode cX7_deltaOf 88 = .ok (.istore 8, 2) := by decide +kernel
theorem dX7_deltaOf_90 : decode cX7_deltaOf 90 = .ok (.aload_n 0, 1) := by decide +kernel
theorem dX7_deltaOf_91 : decode cX7_deltaOf 91 = .ok (.iload_n 1, 1) := by decide +kernel
theorem dX7_deltaOf_92 : decode cX7_deltaOf 92 = .ok (.iload_n 2, 1) := by decide +kernel
theorem dX7_deltaOf_93 : decode cX7_deltaOf 93 = .ok (.iload 6, 2) := by decide +kernel
theorem dX7_deltaOf_95 : decode cX7_deltaOf 95 = .ok (.iload 4, 2) := by decide +kernel
theorem dX7_deltaOf_97 : decode cX7_deltaOf 97 = .ok (.invokevirtual 217, 3) := by decide +kernel
theorem dX7_deltaOf_100 : decode cX7_deltaOf 100 = .ok (.istore 9, 2) := by decide +kernel
theorem dX7_deltaOf_102 : decode cX7_deltaOf 102 = .ok (.aload_n 0, 1) := by decide +kernel
theorem dX7_deltaOf_103 : decode cX7_deltaOf 103 = .ok (.iload_n 1, 1) := by decide +kernel
theorem dX7_deltaOf_104 : decode cX7_deltaOf 104 = .ok (.iload 7, 2) := by decide +kernel
theorem dX7_deltaOf_106 : decode cX7_deltaOf 106 = .ok (.iload 5, 2) := by decide +kernel
theorem dX7_deltaOf_108 : decode cX7_deltaOf 108 = .ok (.iadd, 1) := by decide +kernel
theorem dX7_deltaOf_109 : decode cX7_deltaOf 109 = .ok (.invokevirtual 155, 3) := by decide +kernel
theorem dX7_deltaOf_112 : decode cX7_deltaOf 112 = .ok (.aload_n 0, 1) := by decide +kernel
theorem dX7_deltaOf_113 : decode cX7_deltaOf 113 = .ok (.iload_n 1, 1) := by decide +kernel
theorem dX7_deltaOf_114 : decode cX7_deltaOf 114 = .ok (.iload 7, 2) := by decide +kernel
theorem dX7_deltaOf_116 : decode cX7_deltaOf 116 = .ok (.iload 6, 2) := by decide +kernel
theorem dX7_deltaOf_118 : decode cX7_deltaOf 118 = .ok (.iadd, 1) := by decide +kernel
theorem dX7_deltaOf_119 : decode cX7_deltaOf 119 = .ok (.invokevirtual 155, 3) := by decide +kernel
theorem dX7_deltaOf_122 : decode cX7_deltaOf 122 = .ok (.if_icmp .ne 17, 3) := by decide +kernel
theorem dX7_deltaOf_125 : decode cX7_deltaOf 125 = .ok (.iload 8, 2) := by decide +kernel
theorem dX7_deltaOf_127 : decode cX7_deltaOf 127 = .ok (.iload 9, 2) := by decide +kernel
theorem dX7_deltaOf_129 : decode cX7_deltaOf 129 = .ok (.if_icmp .ne 8, 3) := by decide +kernel
theorem dX7_deltaOf_132 : decode cX7_deltaOf 132 = .ok (.iload 8, 2) := by decide +kernel
theorem dX7_deltaOf_134 : decode cX7_deltaOf 134 = .ok (.goto 4, 3) := by decide +kernel
theorem dX7_deltaOf_137 : decode cX7_deltaOf 137 = .ok (.iconst 0, 1) := by decide +kernel
theorem dX7_deltaOf_138 : decode cX7_deltaOf 138 = .ok (.ireturn, 1) := by decide +kernel
theorem dX7_deltaOf_139 : decode cX7_deltaOf 139 = .ok (.aload_n 0, 1) := by decide +kernel
theorem dX7_deltaOf_140 : decode cX7_deltaOf 140 = .ok (.iload_n 1, 1) := by decide +kernel
theorem dX7_deltaOf_141 : decode cX7_deltaOf 141 = .ok (.iload 7, 2) := by decide +kernel
theorem dX7_deltaOf_143 : decode cX7_deltaOf 143 = .ok (.iload 5, 2) := by decide +kernel
theorem dX7_deltaOf_145 : decode cX7_deltaOf 145 = .ok (.iadd, 1) := by decide +kernel
theorem dX7_deltaOf_146 : decode cX7_deltaOf 146 = .ok (.invokevirtual 155, 3) := by decide +kernel
theorem dX7_deltaOf_149 : decode cX7_deltaOf 149 = .ok (.aload_n 0, 1) := by decide +kernel
theorem dX7_deltaOf_150 : decode cX7_deltaOf 150 = .ok (.iload_n 1, 1) := by decide +kernel
theorem dX7_deltaOf_151 : decode cX7_deltaOf 151 = .ok (.iload 7, 2) := by decide +kernel
theorem dX7_deltaOf_153 : decode cX7_deltaOf 153 = .ok (.iload 6, 2) := by decide +kernel
theorem dX7_deltaOf_155 : decode cX7_deltaOf 155 = .ok (.iadd, 1) := by decide +kernel
theorem dX7_deltaOf_156 : decode cX7_deltaOf 156 = .ok (.invokevirtual 155, 3) := by decide +kernel
theorem dX7_deltaOf_159 : decode cX7_deltaOf 159 = .ok (.if_icmp .ge 7, 3) := by decide +kernel
theorem dX7_deltaOf_162 : decode cX7_deltaOf 162 = .ok (.iconst 1, 1) := by decide +kernel
theorem dX7_deltaOf_163 : decode cX7_deltaOf 163 = .ok (.goto 4, 3) := by decide +kernel
theorem dX7_deltaOf_166 : decode cX7_deltaOf 166 = .ok (.iconst 0, 1) := by decide +kernel
theorem dX7_deltaOf_167 : decode cX7_deltaOf 167 = .ok (.istore 10, 2) := by decide +kernel
theorem dX7_deltaOf_169 : decode cX7_deltaOf 169 = .ok (.aload_n 0, 1) := by decide +kernel
theorem dX7_deltaOf_170 : decode cX7_deltaOf 170 = .ok (.iload_n 1, 1) := by decide +kernel
theorem dX7_deltaOf_171 : decode cX7_deltaOf 171 = .ok (.iload 7, 2) := by decide +kernel
theorem dX7_deltaOf_173 : decode cX7_deltaOf 173 = .ok (.iload 10, 2) := by decide +kernel
theorem dX7_deltaOf_175 : decode cX7_deltaOf 175 = .ok (.ifCond .eq 8, 3) := by decide +kernel
theorem dX7_deltaOf_178 : decode cX7_deltaOf 178 = .ok (.iload 5, 2) := by decide +kernel
theorem dX7_deltaOf_180 : decode cX7_deltaOf 180 = .ok (.goto 5, 3) := by decide +kernel
theorem dX7_deltaOf_183 : decode cX7_deltaOf 183 = .ok (.iload 6, 2) := by decide +kernel
theorem dX7_deltaOf_185 : decode cX7_deltaOf 185 = .ok (.iadd, 1) := by decide +kernel
theorem dX7_deltaOf_186 : decode cX7_deltaOf 186 = .ok (.invokevirtual 155, 3) := by decide +kernel
theorem dX7_deltaOf_189 : decode cX7_deltaOf 189 = .ok (.istore 11, 2) := by decide +kernel
theorem dX7_deltaOf_191 : decode cX7_deltaOf 191 = .ok (.aload_n 0, 1) := by decide +kernel
theorem dX7_deltaOf_192 : decode cX7_deltaOf 192 = .ok (.iload_n 1, 1) := by decide +kernel
theorem dX7_deltaOf_193 : decode cX7_deltaOf 193 = .ok (.iload 7, 2) := by decide +kernel
theorem dX7_deltaOf_195 : decode cX7_deltaOf 195 = .ok (.iload 10, 2) := by decide +kernel
theorem dX7_deltaOf_197 : decode cX7_deltaOf 197 = .ok (.ifCond .eq 8, 3) := by decide +kernel
theorem dX7_deltaOf_200 : decode cX7_deltaOf 200 = .ok (.iload 6, 2) := by decide +kernel
theorem dX7_deltaOf_202 : decode cX7_deltaOf 202 = .ok (.goto 5, 3) := by decide +kernel
theorem dX7_deltaOf_205 : decode cX7_deltaOf 205 = .ok (.iload 5, 2) := by decide +kernel
theorem dX7_deltaOf_207 : decode cX7_deltaOf 207 = .ok (.iadd, 1) := by decide +kernel
theorem dX7_deltaOf_208 : decode cX7_deltaOf 208 = .ok (.invokevirtual 155, 3) := by decide +kernel
theorem dX7_deltaOf_211 : decode cX7_deltaOf 211 = .ok (.istore 12, 2) := by decide +kernel
theorem dX7_deltaOf_213 : decode cX7_deltaOf 213 = .ok (.iload 10, 2) := by decide +kernel
theorem dX7_deltaOf_215 : decode cX7_deltaOf 215 = .ok (.ifCond .eq 8, 3) := by decide +kernel
theorem dX7_deltaOf_218 : decode cX7_deltaOf 218 = .ok (.iload 8, 2) := by decide +kernel
theorem dX7_deltaOf_220 : decode cX7_deltaOf 220 = .ok (.goto 5, 3) := by decide +kernel
theorem dX7_deltaOf_223 : decode cX7_deltaOf 223 = .ok (.iload 9, 2) := by decide +kernel
theorem dX7_deltaOf_225 : decode cX7_deltaOf 225 = .ok (.istore 13, 2) := by decide +kernel
theorem dX7_deltaOf_227 : decode cX7_deltaOf 227 = .ok (.iload 10, 2) := by decide +kernel
theorem dX7_deltaOf_229 : decode cX7_deltaOf 229 = .ok (.ifCond .eq 8, 3) := by decide +kernel
theorem dX7_deltaOf_232 : decode cX7_deltaOf 232 = .ok (.iload 9, 2) := by decide +kernel
theorem dX7_deltaOf_234 : decode cX7_deltaOf 234 = .ok (.goto 5, 3) := by decide +kernel
theorem dX7_deltaOf_237 : decode cX7_deltaOf 237 = .ok (.iload 8, 2) := by decide +kernel
theorem dX7_deltaOf_239 : decode cX7_deltaOf 239 = .ok (.istore 14, 2) := by decide +kernel
theorem dX7_deltaOf_241 : decode cX7_deltaOf 241 = .ok (.aload_n 0, 1) := by decide +kernel
theorem dX7_deltaOf_242 : decode cX7_deltaOf 242 = .ok (.iload_n 1, 1) := by decide +kernel
theorem dX7_deltaOf_243 : decode cX7_deltaOf 243 = .ok (.iload 7, 2) := by decide +kernel
theorem dX7_deltaOf_245 : decode cX7_deltaOf 245 = .ok (.iload_n 3, 1) := by decide +kernel
theorem dX7_deltaOf_246 : decode cX7_deltaOf 246 = .ok (.iadd, 1) := by decide +kernel
theorem dX7_deltaOf_247 : decode cX7_deltaOf 247 = .ok (.invokevirtual 155, 3) := by decide +kernel
theorem dX7_deltaOf_250 : decode cX7_deltaOf 250 = .ok (.istore 15, 2) := by decide +kernel
theorem dX7_deltaOf_252 : decode cX7_deltaOf 252 = .ok (.iload 15, 2) := by decide +kernel
theorem dX7_deltaOf_254 : decode cX7_deltaOf 254 = .ok (.iload 11, 2) := by decide +kernel
theorem dX7_deltaOf_256 : decode cX7_deltaOf 256 = .ok (.if_icmp .gt 8, 3) := by decide +kernel
theorem dX7_deltaOf_259 : decode cX7_deltaOf 259 = .ok (.iload 13, 2) := by decide +kernel
theorem dX7_deltaOf_261 : decode cX7_deltaOf 261 = .ok (.goto 41, 3) := by decide +kernel
theorem dX7_deltaOf_264 : decode cX7_deltaOf 264 = .ok (.iload 15, 2) := by decide +kernel
theorem dX7_deltaOf_266 : decode cX7_deltaOf 266 = .ok (.iload 12, 2) := by decide +kernel
theorem dX7_deltaOf_268 : decode cX7_deltaOf 268 = .ok (.if_icmp .lt 8, 3) := by decide +kernel
theorem dX7_deltaOf_271 : decode cX7_deltaOf 271 = .ok (.iload 14, 2) := by decide +kernel
theorem dX7_deltaOf_273 : decode cX7_deltaOf 273 = .ok (.goto 29, 3) := by decide +kernel
theorem dX7_deltaOf_276 : decode cX7_deltaOf 276 = .ok (.iload 13, 2) := by decide +kernel
theorem dX7_deltaOf_278 : decode cX7_deltaOf 278 = .ok (.iload 15, 2) := by decide +kernel
theorem dX7_deltaOf_280 : decode cX7_deltaOf 280 = .ok (.iload 11, 2) := by decide +kernel
theorem dX7_deltaOf_282 : decode cX7_deltaOf 282 = .ok (.isub, 1) := by decide +kernel
theorem dX7_deltaOf_283 : decode cX7_deltaOf 283 = .ok (.i2l, 1) := by decide +kernel
theorem dX7_deltaOf_284 : decode cX7_deltaOf 284 = .ok (.iload 14, 2) := by decide +kernel
theorem dX7_deltaOf_286 : decode cX7_deltaOf 286 = .ok (.iload 13, 2) := by decide +kernel
theorem dX7_deltaOf_288 : decode cX7_deltaOf 288 = .ok (.isub, 1) := by decide +kernel
theorem dX7_deltaOf_289 : decode cX7_deltaOf 289 = .ok (.i2l, 1) := by decide +kernel
theorem dX7_deltaOf_290 : decode cX7_deltaOf 290 = .ok (.lmul, 1) := by decide +kernel
theorem dX7_deltaOf_291 : decode cX7_deltaOf 291 = .ok (.iload 12, 2) := by decide +kernel
theorem dX7_deltaOf_293 : decode cX7_deltaOf 293 = .ok (.iload 11, 2) := by decide +kernel
theorem dX7_deltaOf_295 : decode cX7_deltaOf 295 = .ok (.isub, 1) := by decide +kernel
theorem dX7_deltaOf_296 : decode cX7_deltaOf 296 = .ok (.i2l, 1) := by decide +kernel
theorem dX7_deltaOf_297 : decode cX7_deltaOf 297 = .ok (.invokestatic 134, 3) := by decide +kernel
theorem dX7_deltaOf_300 : decode cX7_deltaOf 300 = .ok (.l2i, 1) := by decide +kernel
theorem dX7_deltaOf_301 : decode cX7_deltaOf 301 = .ok (.iadd, 1) := by decide +kernel
theorem dX7_deltaOf_302 : decode cX7_deltaOf 302 = .ok (.ireturn, 1) := by decide +kernel
theorem dX7_delta_0 : decode cX7_delta 0 = .ok (.aload_n 0, 1) := by decide +kernel
theorem dX7_delta_1 : decode cX7_delta 1 = .ok (.iload_n 1, 1) := by decide +kernel
theorem dX7_delta_2 : decode cX7_delta 2 = .ok (.iload_n 2, 1) := by decide +kernel
theorem dX7_delta_3 : decode cX7_delta 3 = .ok (.iload_n 3, 1) := by decide +kernel
theorem dX7_delta_4 : decode cX7_delta 4 = .ok (.invokevirtual 195, 3) := by decide +kernel
theorem dX7_delta_7 : decode cX7_delta 7 = .ok (.istore 5, 2) := by decide +kernel
theorem dX7_delta_9 : decode cX7_delta 9 = .ok (.iload 5, 2) := by decide +kernel
theorem dX7_delta_11 : decode cX7_delta 11 = .ok (.ifCond .ge 8, 3) := by decide +kernel
theorem dX7_delta_14 : decode cX7_delta 14 = .ok (.iload 5, 2) := by decide +kernel
theorem dX7_delta_16 : decode cX7_delta 16 = .ok (.goto 15, 3) := by decide +kernel
theorem dX7_delta_19 : decode cX7_delta 19 = .ok (.aload_n 0, 1) := by decide +kernel
theorem dX7_delta_20 : decode cX7_delta 20 = .ok (.iload_n 1, 1) := by decide +kernel
theorem dX7_delta_21 : decode cX7_delta 21 = .ok (.iload_n 2, 1) := by decide +kernel
theorem dX7_delta_22 : decode cX7_delta 22 = .ok (.iload_n 3, 1) := by decide +kernel
theorem dX7_delta_23 : decode cX7_delta 23 = .ok (.invokestatic 203, 3) := by decide +kernel
theorem dX7_delta_26 : decode cX7_delta 26 = .ok (.iload 4, 2) := by decide +kernel
theorem dX7_delta_28 : decode cX7_delta 28 = .ok (.invokevirtual 224, 3) := by decide +kernel
theorem dX7_delta_31 : decode cX7_delta 31 = .ok (.ireturn, 1) := by decide +kernel
theorem dX7_touchedCount_0 : decode cX7_touchedCount 0 = .ok (.aload_n 0, 1) := by decide +kernel
theorem dX7_touchedCount_1 : decode cX7_touchedCount 1 = .ok (.iload_n 1, 1) := by decide +kernel
theorem dX7_touchedCount_2 : decode cX7_touchedCount 2 = .ok (.iload_n 2, 1) := by decide +kernel
theorem dX7_touchedCount_3 : decode cX7_touchedCount 3 = .ok (.invokevirtual 188, 3) := by decide +kernel
theorem dX7_touchedCount_6 : decode cX7_touchedCount 6 = .ok (.istore_n 3, 1) := by decide +kernel
theorem dX7_touchedCount_7 : decode cX7_touchedCount 7 = .ok (.iload_n 3, 1) := by decide +kernel
theorem dX7_touchedCount_8 : decode cX7_touchedCount 8 = .ok (.ifCond .ge 5, 3) := by decide +kernel
theorem dX7_touchedCount_11 : decode cX7_touchedCount 11 = .ok (.iload_n 3, 1) := by decide +kernel
theorem dX7_touchedCount_12 : decode cX7_touchedCount 12 = .ok (.ireturn, 1) := by decide +kernel
theorem dX7_touchedCount_13 : decode cX7_touchedCount 13 = .ok (.iconst 0, 1) := by decide +kernel
theorem dX7_touchedCount_14 : decode cX7_touchedCount 14 = .ok (.istore 4, 2) := by decide +kernel
theorem dX7_touchedCount_16 : decode cX7_touchedCount 16 = .ok (.iconst 0, 1) := by decide +kernel
theorem dX7_touchedCount_17 : decode cX7_touchedCount 17 = .ok (.istore 5, 2) := by decide +kernel
theorem dX7_touchedCount_19 : decode cX7_touchedCount 19 = .ok (.iload 5, 2) := by decide +kernel
theorem dX7_touchedCount_21 : decode cX7_touchedCount 21 = .ok (.bipush 24, 2) := by decide +kernel
theorem dX7_touchedCount_23 : decode cX7_touchedCount 23 = .ok (.if_icmp .gt 30, 3) := by decide +kernel
theorem dX7_touchedCount_26 : decode cX7_touchedCount 26 = .ok (.iload 4, 2) := by decide +kernel
theorem dX7_touchedCount_28 : decode cX7_touchedCount 28 = .ok (.aload_n 0, 1) := by decide +kernel
theorem dX7_touchedCount_29 : decode cX7_touchedCount 29 = .ok (.iload_n 1, 1) := by decide +kernel
theorem dX7_touchedCount_30 : decode cX7_touchedCount 30 = .ok (.iload_n 2, 1) := by decide +kernel
theorem dX7_touchedCount_31 : decode cX7_touchedCount 31 = .ok (.iload 5, 2) := by decide +kernel
theorem dX7_touchedCount_33 : decode cX7_touchedCount 33 = .ok (.invokevirtual 206, 3) := by decide +kernel
theorem dX7_touchedCount_36 : decode cX7_touchedCount 36 = .ok (.ifCond .eq 7, 3) := by decide +kernel
theorem dX7_touchedCount_39 : decode cX7_touchedCount 39 = .ok (.iconst 1, 1) := by decide +kernel
theorem dX7_touchedCount_40 : decode cX7_touchedCount 40 = .ok (.goto 4, 3) := by decide +kernel
theorem dX7_touchedCount_43 : decode cX7_touchedCount 43 = .ok (.iconst 0, 1) := by decide +kernel
theorem dX7_touchedCount_44 : decode cX7_touchedCount 44 = .ok (.iadd, 1) := by decide +kernel
theorem dX7_touchedCount_45 : decode cX7_touchedCount 45 = .ok (.istore 4, 2) := by decide +kernel
theorem dX7_touchedCount_47 : decode cX7_touchedCount 47 = .ok (.iinc 5 1, 3) := by decide +kernel
theorem dX7_touchedCount_50 : decode cX7_touchedCount 50 = .ok (.goto (-31), 3) := by decide +kernel
theorem dX7_touchedCount_53 : decode cX7_touchedCount 53 = .ok (.iload 4, 2) := by decide +kernel
theorem dX7_touchedCount_55 : decode cX7_touchedCount 55 = .ok (.ireturn, 1) := by decide +kernel
theorem dX7_scalarOf_0 : decode cX7_scalarOf 0 = .ok (.ldc2_w 227, 3) := by decide +kernel
theorem dX7_scalarOf_3 : decode cX7_scalarOf 3 = .ok (.lstore_n 3, 1) := by decide +kernel
theorem dX7_scalarOf_4 : decode cX7_scalarOf 4 = .ok (.iconst 0, 1) := by decide +kernel
theorem dX7_scalarOf_5 : decode cX7_scalarOf 5 = .ok (.istore 5, 2) := by decide +kernel
theorem dX7_scalarOf_7 : decode cX7_scalarOf 7 = .ok (.iload 5, 2) := by decide +kernel
theorem dX7_scalarOf_9 : decode cX7_scalarOf 9 = .ok (.aload_n 0, 1) := by decide +kernel
theorem dX7_scalarOf_10 : decode cX7_scalarOf 10 = .ok (.getfield 107, 3) := by decide +kernel
theorem dX7_scalarOf_13 : decode cX7_scalarOf 13 = .ok (.if_icmp .ge 149, 3) := by decide +kernel
theorem dX7_scalarOf_16 : decode cX7_scalarOf 16 = .ok (.aload_n 0, 1) := by decide +kernel
theorem dX7_scalarOf_17 : decode cX7_scalarOf 17 = .ok (.iload_n 1, 1) := by decide +kernel
theorem dX7_scalarOf_18 : decode cX7_scalarOf 18 = .ok (.iload_n 2, 1) := by decide +kernel
theorem dX7_scalarOf_19 : decode cX7_scalarOf 19 = .ok (.invokestatic 178, 3) := by decide +kernel
theorem dX7_scalarOf_22 : decode cX7_scalarOf 22 = .ok (.iconst 3, 1) := by decide +kernel
theorem dX7_scalarOf_23 : decode cX7_scalarOf 23 = .ok (.iload 5, 2) := by decide +kernel
theorem dX7_scalarOf_25 : decode cX7_scalarOf 25 = .ok (.imul, 1) := by decide +kernel
theorem dX7_scalarOf_26 : decode cX7_scalarOf 26 = .ok (.iadd, 1) := by decide +kernel
theorem dX7_scalarOf_27 : decode cX7_scalarOf 27 = .ok (.invokevirtual 155, 3) := by decide +kernel
theorem dX7_scalarOf_30 : decode cX7_scalarOf 30 = .ok (.istore 6, 2) := by decide +kernel
theorem dX7_scalarOf_32 : decode cX7_scalarOf 32 = .ok (.aload_n 0, 1) := by decide +kernel
theorem dX7_scalarOf_33 : decode cX7_scalarOf 33 = .ok (.iload_n 1, 1) := by decide +kernel
theorem dX7_scalarOf_34 : decode cX7_scalarOf 34 = .ok (.iload_n 2, 1) := by decide +kernel
theorem dX7_scalarOf_35 : decode cX7_scalarOf 35 = .ok (.invokestatic 178, 3) := by decide +kernel
theorem dX7_scalarOf_38 : decode cX7_scalarOf 38 = .ok (.iconst 3, 1) := by decide +kernel
theorem dX7_scalarOf_39 : decode cX7_scalarOf 39 = .ok (.iload 5, 2) := by decide +kernel
theorem dX7_scalarOf_41 : decode cX7_scalarOf 41 = .ok (.imul, 1) := by decide +kernel
theorem dX7_scalarOf_42 : decode cX7_scalarOf 42 = .ok (.iadd, 1) := by decide +kernel
theorem dX7_scalarOf_43 : decode cX7_scalarOf 43 = .ok (.iconst 1, 1) := by decide +kernel
theorem dX7_scalarOf_44 : decode cX7_scalarOf 44 = .ok (.iadd, 1) := by decide +kernel
theorem dX7_scalarOf_45 : decode cX7_scalarOf 45 = .ok (.invokevirtual 155, 3) := by decide +kernel
theorem dX7_scalarOf_48 : decode cX7_scalarOf 48 = .ok (.istore 7, 2) := by decide +kernel
theorem dX7_scalarOf_50 : decode cX7_scalarOf 50 = .ok (.aload_n 0, 1) := by decide +kernel
theorem dX7_scalarOf_51 : decode cX7_scalarOf 51 = .ok (.iload_n 1, 1) := by decide +kernel
theorem dX7_scalarOf_52 : decode cX7_scalarOf 52 = .ok (.iload_n 2, 1) := by decide +kernel
theorem dX7_scalarOf_53 : decode cX7_scalarOf 53 = .ok (.invokestatic 178, 3) := by decide +kernel
theorem dX7_scalarOf_56 : decode cX7_scalarOf 56 = .ok (.iconst 3, 1) := by decide +kernel
theorem dX7_scalarOf_57 : decode cX7_scalarOf 57 = .ok (.iload 5, 2) := by decide +kernel
theorem dX7_scalarOf_59 : decode cX7_scalarOf 59 = .ok (.imul, 1) := by decide +kernel
theorem dX7_scalarOf_60 : decode cX7_scalarOf 60 = .ok (.iadd, 1) := by decide +kernel
theorem dX7_scalarOf_61 : decode cX7_scalarOf 61 = .ok (.iconst 2, 1) := by decide +kernel
theorem dX7_scalarOf_62 : decode cX7_scalarOf 62 = .ok (.iadd, 1) := by decide +kernel
theorem dX7_scalarOf_63 : decode cX7_scalarOf 63 = .ok (.invokevirtual 155, 3) := by decide +kernel
theorem dX7_scalarOf_66 : decode cX7_scalarOf 66 = .ok (.istore 8, 2) := by decide +kernel
theorem dX7_scalarOf_68 : decode cX7_scalarOf 68 = .ok (.aload_n 0, 1) := by decide +kernel
theorem dX7_scalarOf_69 : decode cX7_scalarOf 69 = .ok (.getfield 19, 3) := by decide +kernel
theorem dX7_scalarOf_72 : decode cX7_scalarOf 72 = .ok (.iload 5, 2) := by decide +kernel
theorem dX7_scalarOf_74 : decode cX7_scalarOf 74 = .ok (.iaload, 1) := by decide +kernel
theorem dX7_scalarOf_75 : decode cX7_scalarOf 75 = .ok (.istore 9, 2) := by decide +kernel
theorem dX7_scalarOf_77 : decode cX7_scalarOf 77 = .ok (.iload 7, 2) := by decide +kernel
theorem dX7_scalarOf_79 : decode cX7_scalarOf 79 = .ok (.ifCond .eq 77, 3) := by decide +kernel
theorem dX7_scalarOf_82 : decode cX7_scalarOf 82 = .ok (.iload 9, 2) := by decide +kernel
theorem dX7_scalarOf_84 : decode cX7_scalarOf 84 = .ok (.iload 6, 2) := by decide +kernel
theorem dX7_scalarOf_86 : decode cX7_scalarOf 86 = .ok (.if_icmp .lt 10, 3) := by decide +kernel
theorem dX7_scalarOf_89 : decode cX7_scalarOf 89 = .ok (.iload 9, 2) := by decide +kernel
theorem dX7_scalarOf_91 : decode cX7_scalarOf 91 = .ok (.iload 8, 2) := by decide +kernel
theorem dX7_scalarOf_93 : decode cX7_scalarOf 93 = .ok (.if_icmp .le 7, 3) := by decide +kernel
theorem dX7_scalarOf_96 : decode cX7_scalarOf 96 = .ok (.lconst 0, 1) := by decide +kernel
theorem dX7_scalarOf_97 : decode cX7_scalarOf 97 = .ok (.goto 58, 3) := by decide +kernel
theorem dX7_scalarOf_100 : decode cX7_scalarOf 100 = .ok (.iload 9, 2) := by decide +kernel
theorem dX7_scalarOf_102 : decode cX7_scalarOf 102 = .ok (.iload 7, 2) := by decide +kernel
theorem dX7_scalarOf_104 : decode cX7_scalarOf 104 = .ok (.if_icmp .ne 7, 3) := by decide +kernel
theorem dX7_scalarOf_107 : decode cX7_scalarOf 107 = .ok (.lload_n 3, 1) := by decide +kernel
theorem dX7_scalarOf_108 : decode cX7_scalarOf 108 = .ok (.goto 47, 3) := by decide +kernel
theorem dX7_scalarOf_111 : decode cX7_scalarOf 111 = .ok (.iload 9, 2) := by decide +kernel
theorem dX7_scalarOf_113 : decode cX7_scalarOf 113 = .ok (.iload 7, 2) := by decide +kernel
theorem dX7_scalarOf_115 : decode cX7_scalarOf 115 = .ok (.if_icmp .ge 23, 3) := by decide +kernel
theorem dX7_scalarOf_118 : decode cX7_scalarOf 118 = .ok (.lload_n 3, 1) := by decide +kernel
theorem dX7_scalarOf_119 : decode cX7_scalarOf 119 = .ok (.iload 9, 2) := by decide +kernel
theorem dX7_scalarOf_121 : decode cX7_scalarOf 121 = .ok (.iload 6, 2) := by decide +kernel
theorem dX7_scalarOf_123 : decode cX7_scalarOf 123 = .ok (.isub, 1) := by decide +kernel
theorem dX7_scalarOf_124 : decode cX7_scalarOf 124 = .ok (.i2l, 1) := by decide +kernel
theorem dX7_scalarOf_125 : decode cX7_scalarOf 125 = .ok (.lmul, 1) := by decide +kernel
theorem dX7_scalarOf_126 : decode cX7_scalarOf 126 = .ok (.iload 7, 2) := by decide +kernel
theorem dX7_scalarOf_128 : decode cX7_scalarOf 128 = .ok (.iload 6, 2) := by decide +kernel
theorem dX7_scalarOf_130 : decode cX7_scalarOf 130 = .ok (.isub, 1) := by decide +kernel
theorem dX7_scalarOf_131 : decode cX7_scalarOf 131 = .ok (.i2l, 1) := by decide +kernel
theorem dX7_scalarOf_132 : decode cX7_scalarOf 132 = .ok (.invokestatic 134, 3) := by decide +kernel
theorem dX7_scalarOf_135 : decode cX7_scalarOf 135 = .ok (.goto 20, 3) := by decide +kernel
theorem dX7_scalarOf_138 : decode cX7_scalarOf 138 = .ok (.lload_n 3, 1) := by decide +kernel
theorem dX7_scalarOf_139 : decode cX7_scalarOf 139 = .ok (.iload 8, 2) := by decide +kernel
theorem dX7_scalarOf_141 : decode cX7_scalarOf 141 = .ok (.iload 9, 2) := by decide +kernel
theorem dX7_scalarOf_143 : decode cX7_scalarOf 143 = .ok (.isub, 1) := by decide +kernel
theorem dX7_scalarOf_144 : decode cX7_scalarOf 144 = .ok (.i2l, 1) := by decide +kernel
theorem dX7_scalarOf_145 : decode cX7_scalarOf 145 = .ok (.lmul, 1) := by decide +kernel
theorem dX7_scalarOf_146 : decode cX7_scalarOf 146 = .ok (.iload 8, 2) := by decide +kernel
theorem dX7_scalarOf_148 : decode cX7_scalarOf 148 = .ok (.iload 7, 2) := by decide +kernel
theorem dX7_scalarOf_150 : decode cX7_scalarOf 150 = .ok (.isub, 1) := by decide +kernel
theorem dX7_scalarOf_151 : decode cX7_scalarOf 151 = .ok (.i2l, 1) := by decide +kernel
theorem dX7_scalarOf_152 : decode cX7_scalarOf 152 = .ok (.invokestatic 134, 3) := by decide +kernel
theorem dX7_scalarOf_155 : decode cX7_scalarOf 155 = .ok (.lstore_n 3, 1) := by decide +kernel
theorem dX7_scalarOf_156 : decode cX7_scalarOf 156 = .ok (.iinc 5 1, 3) := by decide +kernel
theorem dX7_scalarOf_159 : decode cX7_scalarOf 159 = .ok (.goto (-152), 3) := by decide +kernel
theorem dX7_scalarOf_162 : decode cX7_scalarOf 162 = .ok (.lload_n 3, 1) := by decide +kernel
theorem dX7_scalarOf_163 : decode cX7_scalarOf 163 = .ok (.lreturn, 1) := by decide +kernel
theorem dX7_scalar_0 : decode cX7_scalar 0 = .ok (.aload_n 0, 1) := by decide +kernel
theorem dX7_scalar_1 : decode cX7_scalar 1 = .ok (.iload_n 1, 1) := by decide +kernel
theorem dX7_scalar_2 : decode cX7_scalar 2 = .ok (.iload_n 2, 1) := by decide +kernel
theorem dX7_scalar_3 : decode cX7_scalar 3 = .ok (.invokevirtual 188, 3) := by decide +kernel
theorem dX7_scalar_6 : decode cX7_scalar 6 = .ok (.istore_n 3, 1) := by decide +kernel
theorem dX7_scalar_7 : decode cX7_scalar 7 = .ok (.iload_n 3, 1) := by decide +kernel
theorem dX7_scalar_8 : decode cX7_scalar 8 = .ok (.ifCond .ge 7, 3) := by decide +kernel
theorem dX7_scalar_11 : decode cX7_scalar 11 = .ok (.iload_n 3, 1) := by decide +kernel
theorem dX7_scalar_12 : decode cX7_scalar 12 = .ok (.goto 10, 3) := by decide +kernel
theorem dX7_scalar_15 : decode cX7_scalar 15 = .ok (.aload_n 0, 1) := by decide +kernel
theorem dX7_scalar_16 : decode cX7_scalar 16 = .ok (.iload_n 1, 1) := by decide +kernel
theorem dX7_scalar_17 : decode cX7_scalar 17 = .ok (.iload_n 2, 1) := by decide +kernel
theorem dX7_scalar_18 : decode cX7_scalar 18 = .ok (.invokevirtual 229, 3) := by decide +kernel
theorem dX7_scalar_21 : decode cX7_scalar 21 = .ok (.l2i, 1) := by decide +kernel
theorem dX7_scalar_22 : decode cX7_scalar 22 = .ok (.ireturn, 1) := by decide +kernel
theorem dX7_share_0 : decode cX7_share 0 = .ok (.aload_n 0, 1) := by decide +kernel
theorem dX7_share_1 : decode cX7_share 1 = .ok (.iload_n 1, 1) := by decide +kernel
theorem dX7_share_2 : decode cX7_share 2 = .ok (.iload_n 2, 1) := by decide +kernel
theorem dX7_share_3 : decode cX7_share 3 = .ok (.invokevirtual 188, 3) := by decide +kernel
theorem dX7_share_6 : decode cX7_share 6 = .ok (.ifCond .ge 9, 3) := by decide +kernel
theorem dX7_share_9 : decode cX7_share 9 = .ok (.ldc2_w 233, 3) := by decide +kernel
theorem dX7_share_12 : decode cX7_share 12 = .ok (.goto 14, 3) := by decide +kernel
theorem dX7_share_15 : decode cX7_share 15 = .ok (.aload_n 0, 1) := by decide +kernel
theorem dX7_share_16 : decode cX7_share 16 = .ok (.iload_n 1, 1) := by decide +kernel
theorem dX7_share_17 : decode cX7_share 17 = .ok (.iload_n 2, 1) := by decide +kernel
theorem dX7_share_18 : decode cX7_share 18 = .ok (.invokevirtual 229, 3) := by decide +kernel
theorem dX7_share_21 : decode cX7_share 21 = .ok (.l2d, 1) := by decide +kernel
theorem dX7_share_22 : decode cX7_share 22 = .ok (.ldc2_w 235, 3) := by decide +kernel
theorem dX7_share_25 : decode cX7_share 25 = .ok (.ddiv, 1) := by decide +kernel
theorem dX7_share_26 : decode cX7_share 26 = .ok (.dreturn, 1) := by decide +kernel
theorem dX7_placeNow_0 : decode cX7_placeNow 0 = .ok (.lconst 0, 1) := by decide +kernel
theorem dX7_placeNow_1 : decode cX7_placeNow 1 = .ok (.lstore 4, 2) := by decide +kernel
theorem dX7_placeNow_3 : decode cX7_placeNow 3 = .ok (.iconst 0, 1) := by decide +kernel
theorem dX7_placeNow_4 : decode cX7_placeNow 4 = .ok (.istore 6, 2) := by decide +kernel
theorem dX7_placeNow_6 : decode cX7_placeNow 6 = .ok (.iload 6, 2) := by decide +kernel
theorem dX7_placeNow_8 : decode cX7_placeNow 8 = .ok (.aload_n 0, 1) := by decide +kernel
theorem dX7_placeNow_9 : decode cX7_placeNow 9 = .ok (.iload_n 1, 1) := by decide +kernel
theorem dX7_placeNow_10 : decode cX7_placeNow 10 = .ok (.iconst 3, 1) := by decide +kernel
theorem dX7_placeNow_11 : decode cX7_placeNow 11 = .ok (.invokevirtual 155, 3) := by decide +kernel
theorem dX7_placeNow_14 : decode cX7_placeNow 14 = .ok (.if_icmp .ge 32, 3) := by decide +kernel
theorem dX7_placeNow_17 : decode cX7_placeNow 17 = .ok (.lload 4, 2) := by decide +kernel
theorem dX7_placeNow_19 : decode cX7_placeNow 19 = .ok (.aload_n 0, 1) := by decide +kernel
theorem dX7_placeNow_20 : decode cX7_placeNow 20 = .ok (.iload_n 1, 1) := by decide +kernel
theorem dX7_placeNow_21 : decode cX7_placeNow 21 = .ok (.iload 6, 2) := by decide +kernel
theorem dX7_placeNow_23 : decode cX7_placeNow 23 = .ok (.invokevirtual 229, 3) := by decide +kernel
theorem dX7_placeNow_26 : decode cX7_placeNow 26 = .ok (.aload_n 0, 1) := by decide +kernel
theorem dX7_placeNow_27 : decode cX7_placeNow 27 = .ok (.iload_n 1, 1) := by decide +kernel
theorem dX7_placeNow_28 : decode cX7_placeNow 28 = .ok (.iload 6, 2) := by decide +kernel
theorem dX7_placeNow_30 : decode cX7_placeNow 30 = .ok (.iload_n 2, 1) := by decide +kernel
theorem dX7_placeNow_31 : decode cX7_placeNow 31 = .ok (.iload_n 3, 1) := by decide +kernel
theorem dX7_placeNow_32 : decode cX7_placeNow 32 = .ok (.invokevirtual 224, 3) := by decide +kernel
theorem dX7_placeNow_35 : decode cX7_placeNow 35 = .ok (.i2l, 1) := by decide +kernel
theorem dX7_placeNow_36 : decode cX7_placeNow 36 = .ok (.lmul, 1) := by decide +kernel
theorem dX7_placeNow_37 : decode cX7_placeNow 37 = .ok (.ladd, 1) := by decide +kernel
theorem dX7_placeNow_38 : decode cX7_placeNow 38 = .ok (.lstore 4, 2) := by decide +kernel
theorem dX7_placeNow_40 : decode cX7_placeNow 40 = .ok (.iinc 6 1, 3) := by decide +kernel
theorem dX7_placeNow_43 : decode cX7_placeNow 43 = .ok (.goto (-37), 3) := by decide +kernel
theorem dX7_placeNow_46 : decode cX7_placeNow 46 = .ok (.aload_n 0, 1) := by decide +kernel
theorem dX7_placeNow_47 : decode cX7_placeNow 47 = .ok (.iload_n 1, 1) := by decide +kernel
theorem dX7_placeNow_48 : decode cX7_placeNow 48 = .ok (.iload_n 2, 1) := by decide +kernel
theorem dX7_placeNow_49 : decode cX7_placeNow 49 = .ok (.iload_n 3, 1) := by decide +kernel
theorem dX7_placeNow_50 : decode cX7_placeNow 50 = .ok (.invokevirtual 237, 3) := by decide +kernel
theorem dX7_placeNow_53 : decode cX7_placeNow 53 = .ok (.i2l, 1) := by decide +kernel
theorem dX7_placeNow_54 : decode cX7_placeNow 54 = .ok (.lload 4, 2) := by decide +kernel
theorem dX7_placeNow_56 : decode cX7_placeNow 56 = .ok (.ldc2_w 227, 3) := by decide +kernel
theorem dX7_placeNow_59 : decode cX7_placeNow 59 = .ok (.invokestatic 134, 3) := by decide +kernel
theorem dX7_placeNow_62 : decode cX7_placeNow 62 = .ok (.ladd, 1) := by decide +kernel
theorem dX7_placeNow_63 : decode cX7_placeNow 63 = .ok (.lreturn, 1) := by decide +kernel
theorem dX7_base_0 : decode cX7_base 0 = .ok (.iload_n 2, 1) := by decide +kernel
theorem dX7_base_1 : decode cX7_base 1 = .ok (.bipush 24, 2) := by decide +kernel
theorem dX7_base_3 : decode cX7_base 3 = .ok (.if_icmp .ne 20, 3) := by decide +kernel
theorem dX7_base_6 : decode cX7_base 6 = .ok (.iload_n 3, 1) := by decide +kernel
theorem dX7_base_7 : decode cX7_base 7 = .ok (.ifCond .eq 7, 3) := by decide +kernel
theorem dX7_base_10 : decode cX7_base 10 = .ok (.iconst 0, 1) := by decide +kernel
theorem dX7_base_11 : decode cX7_base 11 = .ok (.goto 29, 3) := by decide +kernel
theorem dX7_base_14 : decode cX7_base 14 = .ok (.aload_n 0, 1) := by decide +kernel
theorem dX7_base_15 : decode cX7_base 15 = .ok (.iload_n 1, 1) := by decide +kernel
theorem dX7_base_16 : decode cX7_base 16 = .ok (.iconst 1, 1) := by decide +kernel
theorem dX7_base_17 : decode cX7_base 17 = .ok (.invokevirtual 155, 3) := by decide +kernel
theorem dX7_base_20 : decode cX7_base 20 = .ok (.goto 20, 3) := by decide +kernel
theorem dX7_base_23 : decode cX7_base 23 = .ok (.aload_n 0, 1) := by decide +kernel
theorem dX7_base_24 : decode cX7_base 24 = .ok (.iload_n 1, 1) := by decide +kernel
theorem dX7_base_25 : decode cX7_base 25 = .ok (.iload_n 3, 1) := by decide +kernel
theorem dX7_base_26 : decode cX7_base 26 = .ok (.ifCond .eq 8, 3) := by decide +kernel
theorem dX7_base_29 : decode cX7_base 29 = .ok (.bipush 28, 2) := by decide +kernel
theorem dX7_base_31 : decode cX7_base 31 = .ok (.goto 4, 3) := by decide +kernel
theorem dX7_base_34 : decode cX7_base 34 = .ok (.iconst 4, 1) := by decide +kernel
theorem dX7_base_35 : decode cX7_base 35 = .ok (.iload_n 2, 1) := by decide +kernel
theorem dX7_base_36 : decode cX7_base 36 = .ok (.iadd, 1) := by decide +kernel
theorem dX7_base_37 : decode cX7_base 37 = .ok (.invokevirtual 155, 3) := by decide +kernel
theorem dX7_base_40 : decode cX7_base 40 = .ok (.ireturn, 1) := by decide +kernel
theorem dX7_position_0 : decode cX7_position 0 = .ok (.aload_n 0, 1) := by decide +kernel
theorem dX7_position_1 : decode cX7_position 1 = .ok (.iload_n 1, 1) := by decide +kernel
theorem dX7_position_2 : decode cX7_position 2 = .ok (.invokevirtual 160, 3) := by decide +kernel
theorem dX7_position_5 : decode cX7_position 5 = .ok (.ifCond .ne 24, 3) := by decide +kernel
theorem dX7_position_8 : decode cX7_position 8 = .ok (.aload_n 0, 1) := by decide +kernel
theorem dX7_position_9 : decode cX7_position 9 = .ok (.iload_n 1, 1) := by decide +kernel
theorem dX7_position_10 : decode cX7_position 10 = .ok (.iload_n 2, 1) := by decide +kernel
theorem dX7_position_11 : decode cX7_position 11 = .ok (.invokevirtual 191, 3) := by decide +kernel
theorem dX7_position_14 : decode cX7_position 14 = .ok (.ifCond .ne 15, 3) := by decide +kernel
theorem dX7_position_17 : decode cX7_position 17 = .ok (.iload_n 3, 1) := by decide +kernel
theorem dX7_position_18 : decode cX7_position 18 = .ok (.i2l, 1) := by decide +kernel
theorem dX7_position_19 : decode cX7_position 19 = .ok (.lconst 0, 1) := by decide +kernel
theorem dX7_position_20 : decode cX7_position 20 = .ok (.ldc2_w 241, 3) := by decide +kernel
theorem dX7_position_23 : decode cX7_position 23 = .ok (.invokestatic 111, 3) := by decide +kernel
theorem dX7_position_26 : decode cX7_position 26 = .ok (.ifCond .ne 7, 3) := by decide +kernel
theorem dX7_position_29 : decode cX7_position 29 = .ok (.invokestatic 243, 3) := by decide +kernel
theorem dX7_position_32 : decode cX7_position 32 = .ok (.lreturn, 1) := by decide +kernel
theorem dX7_position_33 : decode cX7_position 33 = .ok (.iload_n 3, 1) := by decide +kernel
theorem dX7_position_34 : decode cX7_position 34 = .ok (.iconst 2, 1) := by decide +kernel
theorem dX7_position_35 : decode cX7_position 35 = .ok (.if_icmp .ge 26, 3) := by decide +kernel
theorem dX7_position_38 : decode cX7_position 38 = .ok (.aload_n 0, 1) := by decide +kernel
theorem dX7_position_39 : decode cX7_position 39 = .ok (.iload_n 1, 1) := by decide +kernel
theorem dX7_position_40 : decode cX7_position 40 = .ok (.iload_n 2, 1) := by decide +kernel
theorem dX7_position_41 : decode cX7_position 41 = .ok (.invokestatic 203, 3) := by decide +kernel
theorem dX7_position_44 : decode cX7_position 44 = .ok (.iload_n 3, 1) := by decide +kernel
theorem dX7_position_45 : decode cX7_position 45 = .ok (.iconst 1, 1) := by decide +kernel
theorem dX7_position_46 : decode cX7_position 46 = .ok (.if_icmp .ne 7, 3) := by decide +kernel
theorem dX7_position_49 : decode cX7_position 49 = .ok (.iconst 1, 1) := by decide +kernel
theorem dX7_position_50 : decode cX7_position 50 = .ok (.goto 4, 3) := by decide +kernel
theorem dX7_position_53 : decode cX7_position 53 = .ok (.iconst 0, 1) := by decide +kernel
theorem dX7_position_54 : decode cX7_position 54 = .ok (.invokevirtual 237, 3) := by decide +kernel
theorem dX7_position_57 : decode cX7_position 57 = .ok (.i2l, 1) := by decide +kernel
theorem dX7_position_58 : decode cX7_position 58 = .ok (.goto 22, 3) := by decide +kernel
theorem dX7_position_61 : decode cX7_position 61 = .ok (.aload_n 0, 1) := by decide +kernel
theorem dX7_position_62 : decode cX7_position 62 = .ok (.iload_n 1, 1) := by decide +kernel
theorem dX7_position_63 : decode cX7_position 63 = .ok (.iload_n 2, 1) := by decide +kernel
theorem dX7_position_64 : decode cX7_position 64 = .ok (.invokestatic 203, 3) := by decide +kernel
theorem dX7_position_67 : decode cX7_position 67 = .ok (.iload_n 3, 1) := by decide +kernel
theorem dX7_position_68 : decode cX7_position 68 = .ok (.iconst 3, 1) := by decide +kernel
theorem dX7_position_69 : decode cX7_position 69 = .ok (.if_icmp .ne 7, 3) := by decide +kernel
theorem dX7_position_72 : decode cX7_position 72 = .ok (.iconst 1, 1) := by decide +kernel
theorem dX7_position_73 : decode cX7_position 73 = .ok (.goto 4, 3) := by decide +kernel
theorem dX7_position_76 : decode cX7_position 76 = .ok (.iconst 0, 1) := by decide +kernel
theorem dX7_position_77 : decode cX7_position 77 = .ok (.invokevirtual 247, 3) := by decide +kernel
theorem dX7_position_80 : decode cX7_position 80 = .ok (.lreturn, 1) := by decide +kernel
theorem dX7_layOutline_0 : decode cX7_layOutline 0 = .ok (.aload_n 0, 1) := by decide +kernel
theorem dX7_layOutline_1 : decode cX7_layOutline 1 = .ok (.iconst 0, 1) := by decide +kernel
theorem dX7_layOutline_2 : decode cX7_layOutline 2 = .ok (.putfield 251, 3) := by decide +kernel
theorem dX7_layOutline_5 : decode cX7_layOutline 5 = .ok (.aload_n 0, 1) := by decide +kernel
theorem dX7_layOutline_6 : decode cX7_layOutline 6 = .ok (.iconst 0, 1) := by decide +kernel
theorem dX7_layOutline_7 : decode cX7_layOutline 7 = .ok (.putfield 254, 3) := by decide +kernel
theorem dX7_layOutline_10 : decode cX7_layOutline 10 = .ok (.iconst 1, 1) := by decide +kernel
theorem dX7_layOutline_11 : decode cX7_layOutline 11 = .ok (.istore_n 2, 1) := by decide +kernel
theorem dX7_layOutline_12 : decode cX7_layOutline 12 = .ok (.aload_n 0, 1) := by decide +kernel
theorem dX7_layOutline_13 : decode cX7_layOutline 13 = .ok (.getfield 54, 3) := by decide +kernel
theorem dX7_layOutline_16 : decode cX7_layOutline 16 = .ok (.iconst 0, 1) := by decide +kernel
theorem dX7_layOutline_17 : decode cX7_layOutline 17 = .ok (.iload_n 1, 1) := by decide +kernel
theorem dX7_layOutline_18 : decode cX7_layOutline 18 = .ok (.iastore, 1) := by decide +kernel
theorem dX7_layOutline_19 : decode cX7_layOutline 19 = .ok (.aload_n 0, 1) := by decide +kernel
theorem dX7_layOutline_20 : decode cX7_layOutline 20 = .ok (.getfield 57, 3) := by decide +kernel
theorem dX7_layOutline_23 : decode cX7_layOutline 23 = .ok (.iconst 0, 1) := by decide +kernel
theorem dX7_layOutline_24 : decode cX7_layOutline 24 = .ok (.lconst 0, 1) := by decide +kernel
theorem dX7_layOutline_25 : decode cX7_layOutline 25 = .ok (.lastore, 1) := by decide +kernel
theorem dX7_layOutline_26 : decode cX7_layOutline 26 = .ok (.aload_n 0, 1) := by decide +kernel
theorem dX7_layOutline_27 : decode cX7_layOutline 27 = .ok (.getfield 60, 3) := by decide +kernel
theorem dX7_layOutline_30 : decode cX7_layOutline 30 = .ok (.iconst 0, 1) := by decide +kernel
theorem dX7_layOutline_31 : decode cX7_layOutline 31 = .ok (.lconst 0, 1) := by decide +kernel
theorem dX7_layOutline_32 : decode cX7_layOutline 32 = .ok (.lastore, 1) := by decide +kernel
theorem dX7_layOutline_33 : decode cX7_layOutline 33 = .ok (.iload_n 2, 1) := by decide +kernel
theorem dX7_layOutline_34 : decode cX7_layOutline 34 = .ok (.ifCond .le 236, 3) := by decide +kernel
theorem dX7_layOutline_37 : decode cX7_layOutline 37 = .ok (.iinc 2 (-1), 3) := by decide +kernel
theorem dX7_layOutline_40 : decode cX7_layOutline 40 = .ok (.aload_n 0, 1) := by decide +kernel
theorem dX7_layOutline_41 : decode cX7_layOutline 41 = .ok (.getfield 54, 3) := by decide +kernel
theorem dX7_layOutline_44 : decode cX7_layOutline 44 = .ok (.iload_n 2, 1) := by decide +kernel
theorem dX7_layOutline_45 : decode cX7_layOutline 45 = .ok (.iaload, 1) := by decide +kernel
theorem dX7_layOutline_46 : decode cX7_layOutline 46 = .ok (.istore_n 3, 1) := by decide +kernel
theorem dX7_layOutline_47 : decode cX7_layOutline 47 = .ok (.aload_n 0, 1) := by decide +kernel
theorem dX7_layOutline_48 : decode cX7_layOutline 48 = .ok (.getfield 57, 3) := by decide +kernel
theorem dX7_layOutline_51 : decode cX7_layOutline 51 = .ok (.iload_n 2, 1) := by decide +kernel
theorem dX7_layOutline_52 : decode cX7_layOutline 52 = .ok (.laload, 1) := by decide +kernel
theorem dX7_layOutline_53 : decode cX7_layOutline 53 = .ok (.lstore 4, 2) := by decide +kernel
theorem dX7_layOutline_55 : decode cX7_layOutline 55 = .ok (.aload_n 0, 1) := by decide +kernel
theorem dX7_layOutline_56 : decode cX7_layOutline 56 = .ok (.getfield 60, 3) := by decide +kernel
theorem dX7_layOutline_59 : decode cX7_layOutline 59 = .ok (.iload_n 2, 1) := by decide +kernel
theorem dX7_layOutline_60 : decode cX7_layOutline 60 = .ok (.laload, 1) := by decide +kernel
theorem dX7_layOutline_61 : decode cX7_layOutline 61 = .ok (.lstore 6, 2) := by decide +kernel
theorem dX7_layOutline_63 : decode cX7_layOutline 63 = .ok (.aload_n 0, 1) := by decide +kernel
theorem dX7_layOutline_64 : decode cX7_layOutline 64 = .ok (.iload_n 3, 1) := by decide +kernel
theorem dX7_layOutline_65 : decode cX7_layOutline 65 = .ok (.iconst 0, 1) := by decide +kernel
theorem dX7_layOutline_66 : decode cX7_layOutline 66 = .ok (.invokevirtual 155, 3) := by decide +kernel
theorem dX7_layOutline_69 : decode cX7_layOutline 69 = .ok (.ifCond .ne 7, 3) := by decide +kernel
theorem dX7_layOutline_72 : decode cX7_layOutline 72 = .ok (.iconst 1, 1) := by decide +kernel
theorem dX7_layOutline_73 : decode cX7_layOutline 73 = .ok (.goto 4, 3) := by decide +kernel
theorem dX7_layOutline_76 : decode cX7_layOutline 76 = .ok (.iconst 0, 1) := by decide +kernel
theorem dX7_layOutline_77 : decode cX7_layOutline 77 = .ok (.istore 8, 2) := by decide +kernel
theorem dX7_layOutline_79 : decode cX7_layOutline 79 = .ok (.iconst 0, 1) := by decide +kernel
theorem dX7_layOutline_80 : decode cX7_layOutline 80 = .ok (.istore 9, 2) := by decide +kernel
theorem dX7_layOutline_82 : decode cX7_layOutline 82 = .ok (.iload 9, 2) := by decide +kernel
theorem dX7_layOutline_84 : decode cX7_layOutline 84 = .ok (.aload_n 0, 1) := by decide +kernel
theorem dX7_layOutline_85 : decode cX7_layOutline 85 = .ok (.iload_n 3, 1) := by decide +kernel
theorem dX7_layOutline_86 : decode cX7_layOutline 86 = .ok (.iconst 2, 1) := by decide +kernel
theorem dX7_layOutline_87 : decode cX7_layOutline 87 = .ok (.invokevirtual 155, 3) := by decide +kernel
theorem dX7_layOutline_90 : decode cX7_layOutline 90 = .ok (.if_icmp .ge 98, 3) := by decide +kernel
theorem dX7_layOutline_93 : decode cX7_layOutline 93 = .ok (.iload 8, 2) := by decide +kernel
theorem dX7_layOutline_95 : decode cX7_layOutline 95 = .ok (.ifCond .eq 93, 3) := by decide +kernel
theorem dX7_layOutline_98 : decode cX7_layOutline 98 = .ok (.aload_n 0, 1) := by decide +kernel
theorem dX7_layOutline_99 : decode cX7_layOutline 99 = .ok (.dup, 1) := by decide +kernel
theorem dX7_layOutline_100 : decode cX7_layOutline 100 = .ok (.getfield 254, 3) := by decide +kernel
theorem dX7_layOutline_103 : decode cX7_layOutline 103 = .ok (.aload_n 0, 1) := by decide +kernel
theorem dX7_layOutline_104 : decode cX7_layOutline 104 = .ok (.iload_n 3, 1) := by decide +kernel
theorem dX7_layOutline_105 : decode cX7_layOutline 105 = .ok (.bipush 52, 2) := by decide +kernel
theorem dX7_layOutline_107 : decode cX7_layOutline 107 = .ok (.iload 9, 2) := by decide +kernel
theorem dX7_layOutline_109 : decode cX7_layOutline 109 = .ok (.iadd, 1) := by decide +kernel
theorem dX7_layOutline_110 : decode cX7_layOutline 110 = .ok (.invokevirtual 155, 3) := by decide +kernel
theorem dX7_layOutline_113 : decode cX7_layOutline 113 = .ok (.iadd, 1) := by decide +kernel
theorem dX7_layOutline_114 : decode cX7_layOutline 114 = .ok (.putfield 254, 3) := by decide +kernel
theorem dX7_layOutline_117 : decode cX7_layOutline 117 = .ok (.aload_n 0, 1) := by decide +kernel
theorem dX7_layOutline_118 : decode cX7_layOutline 118 = .ok (.getfield 44, 3) := by decide +kernel
theorem dX7_layOutline_121 : decode cX7_layOutline 121 = .ok (.aload_n 0, 1) := by decide +kernel
theorem dX7_layOutline_122 : decode cX7_layOutline 122 = .ok (.getfield 251, 3) := by decide +kernel
theorem dX7_layOutline_125 : decode cX7_layOutline 125 = .ok (.lload 4, 2) := by decide +kernel
theorem dX7_layOutline_127 : decode cX7_layOutline 127 = .ok (.aload_n 0, 1) := by decide +kernel
theorem dX7_layOutline_128 : decode cX7_layOutline 128 = .ok (.iload_n 3, 1) := by decide +kernel
theorem dX7_layOutline_129 : decode cX7_layOutline 129 = .ok (.iload 9, 2) := by decide +kernel
theorem dX7_layOutline_131 : decode cX7_layOutline 131 = .ok (.iconst 0, 1) := by decide +kernel
theorem dX7_layOutline_132 : decode cX7_layOutline 132 = .ok (.invokevirtual 247, 3) := by decide +kernel
theorem dX7_layOutline_135 : decode cX7_layOutline 135 = .ok (.ladd, 1) := by decide +kernel
theorem dX7_layOutline_136 : decode cX7_layOutline 136 = .ok (.lastore, 1) := by decide +kernel
theorem dX7_layOutline_137 : decode cX7_layOutline 137 = .ok (.aload_n 0, 1) := by decide +kernel
theorem dX7_layOutline_138 : decode cX7_layOutline 138 = .ok (.getfield 48, 3) := by decide +kernel
theorem dX7_layOutline_141 : decode cX7_layOutline 141 = .ok (.aload_n 0, 1) := by decide +kernel
theorem dX7_layOutline_142 : decode cX7_layOutline 142 = .ok (.getfield 251, 3) := by decide +kernel
theorem dX7_layOutline_145 : decode cX7_layOutline 145 = .ok (.lload 6, 2) := by decide +kernel
theorem dX7_layOutline_147 : decode cX7_layOutline 147 = .ok (.aload_n 0, 1) := by decide +kernel
theorem dX7_layOutline_148 : decode cX7_layOutline 148 = .ok (.iload_n 3, 1) := by decide +kernel
theorem dX7_layOutline_149 : decode cX7_layOutline 149 = .ok (.iload 9, 2) := by decide +kernel
theorem dX7_layOutline_151 : decode cX7_layOutline 151 = .ok (.iconst 1, 1) := by decide +kernel
theorem dX7_layOutline_152 : decode cX7_layOutline 152 = .ok (.invokevirtual 247, 3) := by decide +kernel
theorem dX7_layOutline_155 : decode cX7_layOutline 155 = .ok (.ladd, 1) := by decide +kernel
theorem dX7_layOutline_156 : decode cX7_layOutline 156 = .ok (.lastore, 1) := by decide +kernel
theorem dX7_layOutline_157 : decode cX7_layOutline 157 = .ok (.aload_n 0, 1) := by decide +kernel
theorem dX7_layOutline_158 : decode cX7_layOutline 158 = .ok (.getfield 51, 3) := by decide +kernel
theorem dX7_layOutline_161 : decode cX7_layOutline 161 = .ok (.aload_n 0, 1) := by decide +kernel
theorem dX7_layOutline_162 : decode cX7_layOutline 162 = .ok (.getfield 251, 3) := by decide +kernel
theorem dX7_layOutline_165 : decode cX7_layOutline 165 = .ok (.aload_n 0, 1) := by decide +kernel
theorem dX7_layOutline_166 : decode cX7_layOutline 166 = .ok (.getfield 254, 3) := by decide +kernel
theorem dX7_layOutline_169 : decode cX7_layOutline 169 = .ok (.iconst 1, 1) := by decide +kernel
theorem dX7_layOutline_170 : decode cX7_layOutline 170 = .ok (.isub, 1) := by decide +kernel
theorem dX7_layOutline_171 : decode cX7_layOutline 171 = .ok (.iastore, 1) := by decide +kernel
theorem dX7_layOutline_172 : decode cX7_layOutline 172 = .ok (.aload_n 0, 1) := by decide +kernel
theorem dX7_layOutline_173 : decode cX7_layOutline 173 = .ok (.dup, 1) := by decide +kernel
theorem dX7_layOutline_174 : decode cX7_layOutline 174 = .ok (.getfield 251, 3) := by decide +kernel
theorem dX7_layOutline_177 : decode cX7_layOutline 177 = .ok (.iconst 1, 1) := by decide +kernel
theorem dX7_layOutline_178 : decode cX7_layOutline 178 = .ok (.iadd, 1) := by decide +kernel
theorem dX7_layOutline_179 : decode cX7_layOutline 179 = .ok (.putfield 251, 3) := by decide +kernel
theorem dX7_layOutline_182 : decode cX7_layOutline 182 = .ok (.iinc 9 1, 3) := by decide +kernel
theorem dX7_layOutline_185 : decode cX7_layOutline 185 = .ok (.goto (-103), 3) := by decide +kernel
theorem dX7_layOutline_188 : decode cX7_layOutline 188 = .ok (.aload_n 0, 1) := by decide +kernel
theorem dX7_layOutline_189 : decode cX7_layOutline 189 = .ok (.iload_n 3, 1) := by decide +kernel
theorem dX7_layOutline_190 : decode cX7_layOutline 190 = .ok (.iconst 2, 1) := by decide +kernel
theorem dX7_layOutline_191 : decode cX7_layOutline 191 = .ok (.invokevirtual 155, 3) := by decide +kernel
theorem dX7_layOutline_194 : decode cX7_layOutline 194 = .ok (.iconst 1, 1) := by decide +kernel
theorem dX7_layOutline_195 : decode cX7_layOutline 195 = .ok (.isub, 1) := by decide +kernel
theorem dX7_layOutline_196 : decode cX7_layOutline 196 = .ok (.istore 9, 2) := by decide +kernel
theorem dX7_layOutline_198 : decode cX7_layOutline 198 = .ok (.iload 9, 2) := by decide +kernel
theorem dX7_layOutline_200 : decode cX7_layOutline 200 = .ok (.ifCond .lt 67, 3) := by decide +kernel
theorem dX7_layOutline_203 : decode cX7_layOutline 203 = .ok (.iload 8, 2) := by decide +kernel
theorem dX7_layOutline_205 : decode cX7_layOutline 205 = .ok (.ifCond .ne 62, 3) := by decide +kernel
theorem dX7_layOutline_208 : decode cX7_layOutline 208 = .ok (.aload_n 0, 1) := by decide +kernel
theorem dX7_layOutline_209 : decode cX7_layOutline 209 = .ok (.getfield 54, 3) := by decide +kernel
theorem dX7_layOutline_212 : decode cX7_layOutline 212 = .ok (.iload_n 2, 1) := by decide +kernel
theorem dX7_layOutline_213 : decode cX7_layOutline 213 = .ok (.aload_n 0, 1) := by decide +kernel
theorem dX7_layOutline_214 : decode cX7_layOutline 214 = .ok (.iload_n 3, 1) := by decide +kernel
theorem dX7_layOutline_215 : decode cX7_layOutline 215 = .ok (.bipush 52, 2) := by decide +kernel
theorem dX7_layOutline_217 : decode cX7_layOutline 217 = .ok (.iload 9, 2) := by decide +kernel
theorem dX7_layOutline_219 : decode cX7_layOutline 219 = .ok (.iadd, 1) := by decide +kernel
theorem dX7_layOutline_220 : decode cX7_layOutline 220 = .ok (.invokevirtual 155, 3) := by decide +kernel
theorem dX7_layOutline_223 : decode cX7_layOutline 223 = .ok (.iastore, 1) := by decide +kernel
theorem dX7_layOutline_224 : decode cX7_layOutline 224 = .ok (.aload_n 0, 1) := by decide +kernel
theorem dX7_layOutline_225 : decode cX7_layOutline 225 = .ok (.getfield 57, 3) := by decide +kernel
theorem dX7_layOutline_228 : decode cX7_layOutline 228 = .ok (.iload_n 2, 1) := by decide +kernel
theorem dX7_layOutline_229 : decode cX7_layOutline 229 = .ok (.lload 4, 2) := by decide +kernel
theorem dX7_layOutline_231 : decode cX7_layOutline 231 = .ok (.aload_n 0, 1) := by decide +kernel
theorem dX7_layOutline_232 : decode cX7_layOutline 232 = .ok (.iload_n 3, 1) := by decide +kernel
theorem dX7_layOutline_233 : decode cX7_layOutline 233 = .ok (.iload 9, 2) := by decide +kernel
theorem dX7_layOutline_235 : decode cX7_layOutline 235 = .ok (.iconst 0, 1) := by decide +kernel
theorem dX7_layOutline_236 : decode cX7_layOutline 236 = .ok (.invokevirtual 247, 3) := by decide +kernel
theorem dX7_layOutline_239 : decode cX7_layOutline 239 = .ok (.ladd, 1) := by decide +kernel
theorem dX7_layOutline_240 : decode cX7_layOutline 240 = .ok (.lastore, 1) := by decide +kernel
theorem dX7_layOutline_241 : decode cX7_layOutline 241 = .ok (.aload_n 0, 1) := by decide +kernel
theorem dX7_layOutline_242 : decode cX7_layOutline 242 = .ok (.getfield 60, 3) := by decide +kernel
theorem dX7_layOutline_245 : decode cX7_layOutline 245 = .ok (.iload_n 2, 1) := by decide +kernel
theorem dX7_layOutline_246 : decode cX7_layOutline 246 = .ok (.lload 6, 2) := by decide +kernel
theorem dX7_layOutline_248 : decode cX7_layOutline 248 = .ok (.aload_n 0, 1) := by decide +kernel
theorem dX7_layOutline_249 : decode cX7_layOutline 249 = .ok (.iload_n 3, 1) := by decide +kernel
theorem dX7_layOutline_250 : decode cX7_layOutline 250 = .ok (.iload 9, 2) := by decide +kernel
theorem dX7_layOutline_252 : decode cX7_layOutline 252 = .ok (.iconst 1, 1) := by decide +kernel
theorem dX7_layOutline_253 : decode cX7_layOutline 253 = .ok (.invokevirtual 247, 3) := by decide +kernel
theorem dX7_layOutline_256 : decode cX7_layOutline 256 = .ok (.ladd, 1) := by decide +kernel
theorem dX7_layOutline_257 : decode cX7_layOutline 257 = .ok (.lastore, 1) := by decide +kernel
theorem dX7_layOutline_258 : decode cX7_layOutline 258 = .ok (.iinc 2 1, 3) := by decide +kernel
theorem dX7_layOutline_261 : decode cX7_layOutline 261 = .ok (.iinc 9 (-1), 3) := by decide +kernel
theorem dX7_layOutline_264 : decode cX7_layOutline 264 = .ok (.goto (-66), 3) := by decide +kernel
theorem dX7_layOutline_267 : decode cX7_layOutline 267 = .ok (.goto (-234), 3) := by decide +kernel
theorem dX7_layOutline_270 : decode cX7_layOutline 270 = .ok (.return_, 1) := by decide +kernel
theorem dX7_outline_0 : decode cX7_outline 0 = .ok (.aload_n 0, 1) := by decide +kernel
theorem dX7_outline_1 : decode cX7_outline 1 = .ok (.iload_n 1, 1) := by decide +kernel
theorem dX7_outline_2 : decode cX7_outline 2 = .ok (.invokevirtual 160, 3) := by decide +kernel
theorem dX7_outline_5 : decode cX7_outline 5 = .ok (.ifCond .ne 15, 3) := by decide +kernel
theorem dX7_outline_8 : decode cX7_outline 8 = .ok (.iload_n 3, 1) := by decide +kernel
theorem dX7_outline_9 : decode cX7_outline 9 = .ok (.i2l, 1) := by decide +kernel
theorem dX7_outline_10 : decode cX7_outline 10 = .ok (.lconst 0, 1) := by decide +kernel
theorem dX7_outline_11 : decode cX7_outline 11 = .ok (.ldc2_w 105, 3) := by decide +kernel
theorem dX7_outline_14 : decode cX7_outline 14 = .ok (.invokestatic 111, 3) := by decide +kernel
theorem dX7_outline_17 : decode cX7_outline 17 = .ok (.ifCond .ne 7, 3) := by decide +kernel
theorem dX7_outline_20 : decode cX7_outline 20 = .ok (.invokestatic 243, 3) := by decide +kernel
theorem dX7_outline_23 : decode cX7_outline 23 = .ok (.lreturn, 1) := by decide +kernel
theorem dX7_outline_24 : decode cX7_outline 24 = .ok (.aload_n 0, 1) := by decide +kernel
theorem dX7_outline_25 : decode cX7_outline 25 = .ok (.iload_n 1, 1) := by decide +kernel
theorem dX7_outline_26 : decode cX7_outline 26 = .ok (.invokevirtual 257, 3) := by decide +kernel
theorem dX7_outline_29 : decode cX7_outline 29 = .ok (.iload_n 2, 1) := by decide +kernel
theorem dX7_outline_30 : decode cX7_outline 30 = .ok (.i2l, 1) := by decide +kernel
theorem dX7_outline_31 : decode cX7_outline 31 = .ok (.lconst 0, 1) := by decide +kernel
theorem dX7_outline_32 : decode cX7_outline 32 = .ok (.aload_n 0, 1) := by decide +kernel
theorem dX7_outline_33 : decode cX7_outline 33 = .ok (.getfield 251, 3) := by decide +kernel
theorem dX7_outline_36 : decode cX7_outline 36 = .ok (.i2l, 1) := by decide +kernel
theorem dX7_outline_37 : decode cX7_outline 37 = .ok (.lconst 1, 1) := by decide +kernel
theorem dX7_outline_38 : decode cX7_outline 38 = .ok (.lsub, 1) := by decide +kernel
theorem dX7_outline_39 : decode cX7_outline 39 = .ok (.invokestatic 111, 3) := by decide +kernel
theorem dX7_outline_42 : decode cX7_outline 42 = .ok (.ifCond .ne 7, 3) := by decide +kernel
theorem dX7_outline_45 : decode cX7_outline 45 = .ok (.invokestatic 243, 3) := by decide +kernel
theorem dX7_outline_48 : decode cX7_outline 48 = .ok (.lreturn, 1) := by decide +kernel
theorem dX7_outline_49 : decode cX7_outline 49 = .ok (.iload_n 3, 1) := by decide +kernel
theorem dX7_outline_50 : decode cX7_outline 50 = .ok (.ifCond .ne 12, 3) := by decide +kernel
theorem dX7_outline_53 : decode cX7_outline 53 = .ok (.aload_n 0, 1) := by decide +kernel
theorem dX7_outline_54 : decode cX7_outline 54 = .ok (.getfield 44, 3) := by decide +kernel
theorem dX7_outline_57 : decode cX7_outline 57 = .ok (.iload_n 2, 1) := by decide +kernel
theorem dX7_outline_58 : decode cX7_outline 58 = .ok (.laload, 1) := by decide +kernel
theorem dX7_outline_59 : decode cX7_outline 59 = .ok (.goto 24, 3) := by decide +kernel
theorem dX7_outline_62 : decode cX7_outline 62 = .ok (.iload_n 3, 1) := by decide +kernel
theorem dX7_outline_63 : decode cX7_outline 63 = .ok (.iconst 1, 1) := by decide +kernel
theorem dX7_outline_64 : decode cX7_outline 64 = .ok (.if_icmp .ne 12, 3) := by decide +kernel
theorem dX7_outline_67 : decode cX7_outline 67 = .ok (.aload_n 0, 1) := by decide +kernel
theorem dX7_outline_68 : decode cX7_outline 68 = .ok (.getfield 48, 3) := by decide +kernel
theorem dX7_outline_71 : decode cX7_outline 71 = .ok (.iload_n 2, 1) := by decide +kernel
theorem dX7_outline_72 : decode cX7_outline 72 = .ok (.laload, 1) := by decide +kernel
theorem dX7_outline_73 : decode cX7_outline 73 = .ok (.goto 10, 3) := by decide +kernel
theorem dX7_outline_76 : decode cX7_outline 76 = .ok (.aload_n 0, 1) := by decide +kernel
theorem dX7_outline_77 : decode cX7_outline 77 = .ok (.getfield 51, 3) := by decide +kernel
theorem dX7_outline_80 : decode cX7_outline 80 = .ok (.iload_n 2, 1) := by decide +kernel
theorem dX7_outline_81 : decode cX7_outline 81 = .ok (.iaload, 1) := by decide +kernel
theorem dX7_outline_82 : decode cX7_outline 82 = .ok (.i2l, 1) := by decide +kernel
theorem dX7_outline_83 : decode cX7_outline 83 = .ok (.lreturn, 1) := by decide +kernel
theorem dX7_endOf_0 : decode cX7_endOf 0 = .ok (.iload_n 1, 1) := by decide +kernel
theorem dX7_endOf_1 : decode cX7_endOf 1 = .ok (.ifCond .eq 12, 3) := by decide +kernel
theorem dX7_endOf_4 : decode cX7_endOf 4 = .ok (.aload_n 0, 1) := by decide +kernel
theorem dX7_endOf_5 : decode cX7_endOf 5 = .ok (.getfield 48, 3) := by decide +kernel
theorem dX7_endOf_8 : decode cX7_endOf 8 = .ok (.iconst 0, 1) := by decide +kernel
theorem dX7_endOf_9 : decode cX7_endOf 9 = .ok (.laload, 1) := by decide +kernel
theorem dX7_endOf_10 : decode cX7_endOf 10 = .ok (.goto 9, 3) := by decide +kernel
theorem dX7_endOf_13 : decode cX7_endOf 13 = .ok (.aload_n 0, 1) := by decide +kernel
theorem dX7_endOf_14 : decode cX7_endOf 14 = .ok (.getfield 44, 3) := by decide +kernel
theorem dX7_endOf_17 : decode cX7_endOf 17 = .ok (.iconst 0, 1) := by decide +kernel
theorem dX7_endOf_18 : decode cX7_endOf 18 = .ok (.laload, 1) := by decide +kernel
theorem dX7_endOf_19 : decode cX7_endOf 19 = .ok (.lstore_n 3, 1) := by decide +kernel
theorem dX7_endOf_20 : decode cX7_endOf 20 = .ok (.iconst 1, 1) := by decide +kernel
theorem dX7_endOf_21 : decode cX7_endOf 21 = .ok (.istore 5, 2) := by decide +kernel
theorem dX7_endOf_23 : decode cX7_endOf 23 = .ok (.iload 5, 2) := by decide +kernel
theorem dX7_endOf_25 : decode cX7_endOf 25 = .ok (.aload_n 0, 1) := by decide +kernel
theorem dX7_endOf_26 : decode cX7_endOf 26 = .ok (.getfield 251, 3) := by decide +kernel
theorem dX7_endOf_29 : decode cX7_endOf 29 = .ok (.if_icmp .ge 66, 3) := by decide +kernel
theorem dX7_endOf_32 : decode cX7_endOf 32 = .ok (.iload_n 1, 1) := by decide +kernel
theorem dX7_endOf_33 : decode cX7_endOf 33 = .ok (.ifCond .eq 13, 3) := by decide +kernel
theorem dX7_endOf_36 : decode cX7_endOf 36 = .ok (.aload_n 0, 1) := by decide +kernel
theorem dX7_endOf_37 : decode cX7_endOf 37 = .ok (.getfield 48, 3) := by decide +kernel
theorem dX7_endOf_40 : decode cX7_endOf 40 = .ok (.iload 5, 2) := by decide +kernel
theorem dX7_endOf_42 : decode cX7_endOf 42 = .ok (.laload, 1) := by decide +kernel
theorem dX7_endOf_43 : decode cX7_endOf 43 = .ok (.goto 10, 3) := by decide +kernel
theorem dX7_endOf_46 : decode cX7_endOf 46 = .ok (.aload_n 0, 1) := by decide +kernel
theorem dX7_endOf_47 : decode cX7_endOf 47 = .ok (.getfield 44, 3) := by decide +kernel
theorem dX7_endOf_50 : decode cX7_endOf 50 = .ok (.iload 5, 2) := by decide +kernel
theorem dX7_endOf_52 : decode cX7_endOf 52 = .ok (.laload, 1) := by decide +kernel
theorem dX7_endOf_53 : decode cX7_endOf 53 = .ok (.lstore 6, 2) := by decide +kernel
theorem dX7_endOf_55 : decode cX7_endOf 55 = .ok (.iload_n 2, 1) := by decide +kernel
theorem dX7_endOf_56 : decode cX7_endOf 56 = .ok (.ifCond .eq 19, 3) := by decide +kernel
theorem dX7_endOf_59 : decode cX7_endOf 59 = .ok (.lload 6, 2) := by decide +kernel
theorem dX7_endOf_61 : decode cX7_endOf 61 = .ok (.lload_n 3, 1) := by decide +kernel
theorem dX7_endOf_62 : decode cX7_endOf 62 = .ok (.lcmp, 1) := by decide +kernel
theorem dX7_endOf_63 : decode cX7_endOf 63 = .ok (.ifCond .le 8, 3) := by decide +kernel
theorem dX7_endOf_66 : decode cX7_endOf 66 = .ok (.lload 6, 2) := by decide +kernel
theorem dX7_endOf_68 : decode cX7_endOf 68 = .ok (.goto 20, 3) := by decide +kernel
theorem dX7_endOf_71 : decode cX7_endOf 71 = .ok (.lload_n 3, 1) := by decide +kernel
theorem dX7_endOf_72 : decode cX7_endOf 72 = .ok (.goto 16, 3) := by decide +kernel
theorem dX7_endOf_75 : decode cX7_endOf 75 = .ok (.lload 6, 2) := by decide +kernel
theorem dX7_endOf_77 : decode cX7_endOf 77 = .ok (.lload_n 3, 1) := by decide +kernel
theorem dX7_endOf_78 : decode cX7_endOf 78 = .ok (.lcmp, 1) := by decide +kernel
theorem dX7_endOf_79 : decode cX7_endOf 79 = .ok (.ifCond .ge 8, 3) := by decide +kernel
theorem dX7_endOf_82 : decode cX7_endOf 82 = .ok (.lload 6, 2) := by decide +kernel
theorem dX7_endOf_84 : decode cX7_endOf 84 = .ok (.goto 4, 3) := by decide +kernel
theorem dX7_endOf_87 : decode cX7_endOf 87 = .ok (.lload_n 3, 1) := by decide +kernel
theorem dX7_endOf_88 : decode cX7_endOf 88 = .ok (.lstore_n 3, 1) := by decide +kernel
theorem dX7_endOf_89 : decode cX7_endOf 89 = .ok (.iinc 5 1, 3) := by decide +kernel
theorem dX7_endOf_92 : decode cX7_endOf 92 = .ok (.goto (-69), 3) := by decide +kernel
theorem dX7_endOf_95 : decode cX7_endOf 95 = .ok (.lload_n 3, 1) := by decide +kernel
theorem dX7_endOf_96 : decode cX7_endOf 96 = .ok (.lreturn, 1) := by decide +kernel
theorem dX7_box_0 : decode cX7_box 0 = .ok (.aload_n 0, 1) := by decide +kernel
theorem dX7_box_1 : decode cX7_box 1 = .ok (.iload_n 1, 1) := by decide +kernel
theorem dX7_box_2 : decode cX7_box 2 = .ok (.invokevirtual 160, 3) := by decide +kernel
theorem dX7_box_5 : decode cX7_box 5 = .ok (.ifCond .ne 15, 3) := by decide +kernel
theorem dX7_box_8 : decode cX7_box 8 = .ok (.iload_n 2, 1) := by decide +kernel
theorem dX7_box_9 : decode cX7_box 9 = .ok (.i2l, 1) := by decide +kernel
theorem dX7_box_10 : decode cX7_box 10 = .ok (.lconst 0, 1) := by decide +kernel
theorem dX7_box_11 : decode cX7_box 11 = .ok (.ldc2_w 241, 3) := by decide +kernel
theorem dX7_box_14 : decode cX7_box 14 = .ok (.invokestatic 111, 3) := by decide +kernel
theorem dX7_box_17 : decode cX7_box 17 = .ok (.ifCond .ne 7, 3) := by decide +kernel
theorem dX7_box_20 : decode cX7_box 20 = .ok (.invokestatic 243, 3) := by decide +kernel
theorem dX7_box_23 : decode cX7_box 23 = .ok (.lreturn, 1) := by decide +kernel
theorem dX7_box_24 : decode cX7_box 24 = .ok (.aload_n 0, 1) := by decide +kernel
theorem dX7_box_25 : decode cX7_box 25 = .ok (.iload_n 1, 1) := by decide +kernel
theorem dX7_box_26 : decode cX7_box 26 = .ok (.invokevirtual 257, 3) := by decide +kernel
theorem dX7_box_29 : decode cX7_box 29 = .ok (.aload_n 0, 1) := by decide +kernel
theorem dX7_box_30 : decode cX7_box 30 = .ok (.getfield 251, 3) := by decide +kernel
theorem dX7_box_33 : decode cX7_box 33 = .ok (.ifCond .ne 9, 3) := by decide +kernel
theorem dX7_box_36 : decode cX7_box 36 = .ok (.invokestatic 243, 3) := by decide +kernel
theorem dX7_box_39 : decode cX7_box 39 = .ok (.goto 29, 3) := by decide +kernel
theorem dX7_box_42 : decode cX7_box 42 = .ok (.aload_n 0, 1) := by decide +kernel
theorem dX7_box_43 : decode cX7_box 43 = .ok (.iload_n 2, 1) := by decide +kernel
theorem dX7_box_44 : decode cX7_box 44 = .ok (.iconst 1, 1) := by decide +kernel
theorem dX7_box_45 : decode cX7_box 45 = .ok (.if_icmp .le 7, 3) := by decide +kernel
theorem dX7_box_48 : decode cX7_box 48 = .ok (.iconst 1, 1) := by decide +kernel
theorem dX7_box_49 : decode cX7_box 49 = .ok (.goto 4, 3) := by decide +kernel
theorem dX7_box_52 : decode cX7_box 52 = .ok (.iconst 0, 1) := by decide +kernel
theorem dX7_box_53 : decode cX7_box 53 = .ok (.iload_n 2, 1) := by decide +kernel
theorem dX7_box_54 : decode cX7_box 54 = .ok (.iconst 2, 1) := by decide +kernel
theorem dX7_box_55 : decode cX7_box 55 = .ok (.irem, 1) := by decide +kernel
theorem dX7_box_56 : decode cX7_box 56 = .ok (.iconst 1, 1) := by decide +kernel
theorem dX7_box_57 : decode cX7_box 57 = .ok (.if_icmp .ne 7, 3) := by decide +kernel
theorem dX7_box_60 : decode cX7_box 60 = .ok (.iconst 1, 1) := by decide +kernel
theorem dX7_box_61 : decode cX7_box 61 = .ok (.goto 4, 3) := by decide +kernel
theorem dX7_box_64 : decode cX7_box 64 = .ok (.iconst 0, 1) := by decide +kernel
theorem dX7_box_65 : decode cX7_box 65 = .ok (.invokevirtual 261, 3) := by decide +kernel
theorem dX7_box_68 : decode cX7_box 68 = .ok (.lreturn, 1) := by decide +kernel
theorem dX7_middle_0 : decode cX7_middle 0 = .ok (.aload_n 0, 1) := by decide +kernel
theorem dX7_middle_1 : decode cX7_middle 1 = .ok (.iload_n 1, 1) := by decide +kernel
theorem dX7_middle_2 : decode cX7_middle 2 = .ok (.invokevirtual 160, 3) := by decide +kernel
theorem dX7_middle_5 : decode cX7_middle 5 = .ok (.ifCond .eq 5, 3) := by decide +kernel
theorem dX7_middle_8 : decode cX7_middle 8 = .ok (.fconst 0, 1) := by decide +kernel
theorem dX7_middle_9 : decode cX7_middle 9 = .ok (.freturn, 1) := by decide +kernel
theorem dX7_middle_10 : decode cX7_middle 10 = .ok (.aload_n 0, 1) := by decide +kernel
theorem dX7_middle_11 : decode cX7_middle 11 = .ok (.iload_n 1, 1) := by decide +kernel
theorem dX7_middle_12 : decode cX7_middle 12 = .ok (.invokevirtual 257, 3) := by decide +kernel
theorem dX7_middle_15 : decode cX7_middle 15 = .ok (.aload_n 0, 1) := by decide +kernel
theorem dX7_middle_16 : decode cX7_middle 16 = .ok (.getfield 251, 3) := by decide +kernel
theorem dX7_middle_19 : decode cX7_middle 19 = .ok (.ifCond .ne 7, 3) := by decide +kernel
theorem dX7_middle_22 : decode cX7_middle 22 = .ok (.fconst 0, 1) := by decide +kernel
theorem dX7_middle_23 : decode cX7_middle 23 = .ok (.goto 22, 3) := by decide +kernel
theorem dX7_middle_26 : decode cX7_middle 26 = .ok (.aload_n 0, 1) := by decide +kernel
theorem dX7_middle_27 : decode cX7_middle 27 = .ok (.iload_n 2, 1) := by decide +kernel
theorem dX7_middle_28 : decode cX7_middle 28 = .ok (.iconst 0, 1) := by decide +kernel
theorem dX7_middle_29 : decode cX7_middle 29 = .ok (.invokevirtual 261, 3) := by decide +kernel
theorem dX7_middle_32 : decode cX7_middle 32 = .ok (.aload_n 0, 1) := by decide +kernel
theorem dX7_middle_33 : decode cX7_middle 33 = .ok (.iload_n 2, 1) := by decide +kernel
theorem dX7_middle_34 : decode cX7_middle 34 = .ok (.iconst 1, 1) := by decide +kernel
theorem dX7_middle_35 : decode cX7_middle 35 = .ok (.invokevirtual 261, 3) := by decide +kernel
theorem dX7_middle_38 : decode cX7_middle 38 = .ok (.ladd, 1) := by decide +kernel
theorem dX7_middle_39 : decode cX7_middle 39 = .ok (.l2d, 1) := by decide +kernel
theorem dX7_middle_40 : decode cX7_middle 40 = .ok (.ldc2_w 265, 3) := by decide +kernel
theorem dX7_middle_43 : decode cX7_middle 43 = .ok (.ddiv, 1) := by decide +kernel
theorem dX7_middle_44 : decode cX7_middle 44 = .ok (.d2f, 1) := by decide +kernel
theorem dX7_middle_45 : decode cX7_middle 45 = .ok (.freturn, 1) := by decide +kernel
theorem dX7_areaOf_0 : decode cX7_areaOf 0 = .ok (.lconst 0, 1) := by decide +kernel
theorem dX7_areaOf_1 : decode cX7_areaOf 1 = .ok (.lstore_n 2, 1) := by decide +kernel
theorem dX7_areaOf_2 : decode cX7_areaOf 2 = .ok (.iconst 0, 1) := by decide +kernel
theorem dX7_areaOf_3 : decode cX7_areaOf 3 = .ok (.istore 4, 2) := by decide +kernel
theorem dX7_areaOf_5 : decode cX7_areaOf 5 = .ok (.iconst 0, 1) := by decide +kernel
theorem dX7_areaOf_6 : decode cX7_areaOf 6 = .ok (.istore 5, 2) := by decide +kernel
theorem dX7_areaOf_8 : decode cX7_areaOf 8 = .ok (.iload 5, 2) := by decide +kernel
theorem dX7_areaOf_10 : decode cX7_areaOf 10 = .ok (.aload_n 0, 1) := by decide +kernel
theorem dX7_areaOf_11 : decode cX7_areaOf 11 = .ok (.getfield 251, 3) := by decide +kernel
theorem dX7_areaOf_14 : decode cX7_areaOf 14 = .ok (.if_icmp .ge 129, 3) := by decide +kernel
theorem dX7_areaOf_17 : decode cX7_areaOf 17 = .ok (.aload_n 0, 1) := by decide +kernel
theorem dX7_areaOf_18 : decode cX7_areaOf 18 = .ok (.getfield 51, 3) := by decide +kernel
theorem dX7_areaOf_21 : decode cX7_areaOf 21 = .ok (.iload 5, 2) := by decide +kernel
theorem dX7_areaOf_23 : decode cX7_areaOf 23 = .ok (.iaload, 1) := by decide +kernel
theorem dX7_areaOf_24 : decode cX7_areaOf 24 = .ok (.aload_n 0, 1) := by decide +kernel
theorem dX7_areaOf_25 : decode cX7_areaOf 25 = .ok (.getfield 51, 3) := by decide +kernel
theorem dX7_areaOf_28 : decode cX7_areaOf 28 = .ok (.iload 4, 2) := by decide +kernel
theorem dX7_areaOf_30 : decode cX7_areaOf 30 = .ok (.iaload, 1) := by decide +kernel
theorem dX7_areaOf_31 : decode cX7_areaOf 31 = .ok (.if_icmp .ne 8, 3) := by decide +kernel
theorem dX7_areaOf_34 : decode cX7_areaOf 34 = .ok (.iload 4, 2) := by decide +kernel
theorem dX7_areaOf_36 : decode cX7_areaOf 36 = .ok (.goto 5, 3) := by decide +kernel
theorem dX7_areaOf_39 : decode cX7_areaOf 39 = .ok (.iload 5, 2) := by decide +kernel
theorem dX7_areaOf_41 : decode cX7_areaOf 41 = .ok (.istore 4, 2) := by decide +kernel
theorem dX7_areaOf_43 : decode cX7_areaOf 43 = .ok (.iload 5, 2) := by decide +kernel
theorem dX7_areaOf_45 : decode cX7_areaOf 45 = .ok (.iconst 1, 1) := by decide +kernel
theorem dX7_areaOf_46 : decode cX7_areaOf 46 = .ok (.iadd, 1) := by decide +kernel
theorem dX7_areaOf_47 : decode cX7_areaOf 47 = .ok (.aload_n 0, 1) := by decide +kernel
theorem dX7_areaOf_48 : decode cX7_areaOf 48 = .ok (.getfield 251, 3) := by decide +kernel
theorem dX7_areaOf_51 : decode cX7_areaOf 51 = .ok (.if_icmp .ge 29, 3) := by decide +kernel
theorem dX7_areaOf_54 : decode cX7_areaOf 54 = .ok (.aload_n 0, 1) := by decide +kernel
theorem dX7_areaOf_55 : decode cX7_areaOf 55 = .ok (.getfield 51, 3) := by decide +kernel
theorem dX7_areaOf_58 : decode cX7_areaOf 58 = .ok (.iload 5, 2) := by decide +kernel
theorem dX7_areaOf_60 : decode cX7_areaOf 60 = .ok (.iconst 1, 1) := by decide +kernel
theorem dX7_areaOf_61 : decode cX7_areaOf 61 = .ok (.iadd, 1) := by decide +kernel
theorem dX7_areaOf_62 : decode cX7_areaOf 62 = .ok (.iaload, 1) := by decide +kernel
theorem dX7_areaOf_63 : decode cX7_areaOf 63 = .ok (.aload_n 0, 1) := by decide +kernel
theorem dX7_areaOf_64 : decode cX7_areaOf 64 = .ok (.getfield 51, 3) := by decide +kernel
theorem dX7_areaOf_67 : decode cX7_areaOf 67 = .ok (.iload 5, 2) := by decide +kernel
theorem dX7_areaOf_69 : decode cX7_areaOf 69 = .ok (.iaload, 1) := by decide +kernel
theorem dX7_areaOf_70 : decode cX7_areaOf 70 = .ok (.if_icmp .ne 10, 3) := by decide +kernel
theorem dX7_areaOf_73 : decode cX7_areaOf 73 = .ok (.iload 5, 2) := by decide +kernel
theorem dX7_areaOf_75 : decode cX7_areaOf 75 = .ok (.iconst 1, 1) := by decide +kernel
theorem dX7_areaOf_76 : decode cX7_areaOf 76 = .ok (.iadd, 1) := by decide +kernel
theorem dX7_areaOf_77 : decode cX7_areaOf 77 = .ok (.goto 5, 3) := by decide +kernel
theorem dX7_areaOf_80 : decode cX7_areaOf 80 = .ok (.iload 4, 2) := by decide +kernel
theorem dX7_areaOf_82 : decode cX7_areaOf 82 = .ok (.istore 6, 2) := by decide +kernel
theorem dX7_areaOf_84 : decode cX7_areaOf 84 = .ok (.lload_n 2, 1) := by decide +kernel
theorem dX7_areaOf_85 : decode cX7_areaOf 85 = .ok (.iload_n 1, 1) := by decide +kernel
theorem dX7_areaOf_86 : decode cX7_areaOf 86 = .ok (.ifCond .lt 14, 3) := by decide +kernel
theorem dX7_areaOf_89 : decode cX7_areaOf 89 = .ok (.aload_n 0, 1) := by decide +kernel
theorem dX7_areaOf_90 : decode cX7_areaOf 90 = .ok (.getfield 51, 3) := by decide +kernel
theorem dX7_areaOf_93 : decode cX7_areaOf 93 = .ok (.iload 5, 2) := by decide +kernel
theorem dX7_areaOf_95 : decode cX7_areaOf 95 = .ok (.iaload, 1) := by decide +kernel
theorem dX7_areaOf_96 : decode cX7_areaOf 96 = .ok (.iload_n 1, 1) := by decide +kernel
theorem dX7_areaOf_97 : decode cX7_areaOf 97 = .ok (.if_icmp .ne 37, 3) := by decide +kernel
theorem dX7_areaOf_100 : decode cX7_areaOf 100 = .ok (.aload_n 0, 1) := by decide +kernel
theorem dX7_areaOf_101 : decode cX7_areaOf 101 = .ok (.getfield 44, 3) := by decide +kernel
theorem dX7_areaOf_104 : decode cX7_areaOf 104 = .ok (.iload 5, 2) := by decide +kernel
theorem dX7_areaOf_106 : decode cX7_areaOf 106 = .ok (.laload, 1) := by decide +kernel
theorem dX7_areaOf_107 : decode cX7_areaOf 107 = .ok (.aload_n 0, 1) := by decide +kernel
theorem dX7_areaOf_108 : decode cX7_areaOf 108 = .ok (.getfield 48, 3) := by decide +kernel
theorem dX7_areaOf_111 : decode cX7_areaOf 111 = .ok (.iload 6, 2) := by decide +kernel
theorem dX7_areaOf_113 : decode cX7_areaOf 113 = .ok (.laload, 1) := by decide +kernel
theorem dX7_areaOf_114 : decode cX7_areaOf 114 = .ok (.lmul, 1) := by decide +kernel
theorem dX7_areaOf_115 : decode cX7_areaOf 115 = .ok (.aload_n 0, 1) := by decide +kernel
theorem dX7_areaOf_116 : decode cX7_areaOf 116 = .ok (.getfield 44, 3) := by decide +kernel
theorem dX7_areaOf_119 : decode cX7_areaOf 119 = .ok (.iload 6, 2) := by decide +kernel
theorem dX7_areaOf_121 : decode cX7_areaOf 121 = .ok (.laload, 1) := by decide +kernel
theorem dX7_areaOf_122 : decode cX7_areaOf 122 = .ok (.aload_n 0, 1) := by decide +kernel
theorem dX7_areaOf_123 : decode cX7_areaOf 123 = .ok (.getfield 48, 3) := by decide +kernel
theorem dX7_areaOf_126 : decode cX7_areaOf 126 = .ok (.iload 5, 2) := by decide +kernel
theorem dX7_areaOf_128 : decode cX7_areaOf 128 = .ok (.laload, 1) := by decide +kernel
theorem dX7_areaOf_129 : decode cX7_areaOf 129 = .ok (.lmul, 1) := by decide +kernel
theorem dX7_areaOf_130 : decode cX7_areaOf 130 = .ok (.lsub, 1) := by decide +kernel
theorem dX7_areaOf_131 : decode cX7_areaOf 131 = .ok (.goto 4, 3) := by decide +kernel
theorem dX7_areaOf_134 : decode cX7_areaOf 134 = .ok (.lconst 0, 1) := by decide +kernel
theorem dX7_areaOf_135 : decode cX7_areaOf 135 = .ok (.ladd, 1) := by decide +kernel
theorem dX7_areaOf_136 : decode cX7_areaOf 136 = .ok (.lstore_n 2, 1) := by decide +kernel
theorem dX7_areaOf_137 : decode cX7_areaOf 137 = .ok (.iinc 5 1, 3) := by decide +kernel
theorem dX7_areaOf_140 : decode cX7_areaOf 140 = .ok (.goto (-132), 3) := by decide +kernel
theorem dX7_areaOf_143 : decode cX7_areaOf 143 = .ok (.lload_n 2, 1) := by decide +kernel
theorem dX7_areaOf_144 : decode cX7_areaOf 144 = .ok (.lreturn, 1) := by decide +kernel
theorem dX7_area_0 : decode cX7_area 0 = .ok (.aload_n 0, 1) := by decide +kernel
theorem dX7_area_1 : decode cX7_area 1 = .ok (.iload_n 1, 1) := by decide +kernel
theorem dX7_area_2 : decode cX7_area 2 = .ok (.invokevirtual 160, 3) := by decide +kernel
theorem dX7_area_5 : decode cX7_area 5 = .ok (.ifCond .eq 7, 3) := by decide +kernel
theorem dX7_area_8 : decode cX7_area 8 = .ok (.invokestatic 243, 3) := by decide +kernel
theorem dX7_area_11 : decode cX7_area 11 = .ok (.lreturn, 1) := by decide +kernel
theorem dX7_area_12 : decode cX7_area 12 = .ok (.aload_n 0, 1) := by decide +kernel
theorem dX7_area_13 : decode cX7_area 13 = .ok (.iload_n 1, 1) := by decide +kernel
theorem dX7_area_14 : decode cX7_area 14 = .ok (.invokevirtual 257, 3) := by decide +kernel
theorem dX7_area_17 : decode cX7_area 17 = .ok (.iload_n 2, 1) := by decide +kernel
theorem dX7_area_18 : decode cX7_area 18 = .ok (.i2l, 1) := by decide +kernel
theorem dX7_area_19 : decode cX7_area 19 = .ok (.ldc2_w 182, 3) := by decide +kernel
theorem dX7_area_22 : decode cX7_area 22 = .ok (.aload_n 0, 1) := by decide +kernel
theorem dX7_area_23 : decode cX7_area 23 = .ok (.getfield 254, 3) := by decide +kernel
theorem dX7_area_26 : decode cX7_area 26 = .ok (.i2l, 1) := by decide +kernel
theorem dX7_area_27 : decode cX7_area 27 = .ok (.lconst 1, 1) := by decide +kernel
theorem dX7_area_28 : decode cX7_area 28 = .ok (.lsub, 1) := by decide +kernel
theorem dX7_area_29 : decode cX7_area 29 = .ok (.invokestatic 111, 3) := by decide +kernel
theorem dX7_area_32 : decode cX7_area 32 = .ok (.ifCond .eq 11, 3) := by decide +kernel
theorem dX7_area_35 : decode cX7_area 35 = .ok (.aload_n 0, 1) := by decide +kernel
theorem dX7_area_36 : decode cX7_area 36 = .ok (.iload_n 2, 1) := by decide +kernel
theorem dX7_area_37 : decode cX7_area 37 = .ok (.invokevirtual 267, 3) := by decide +kernel
theorem dX7_area_40 : decode cX7_area 40 = .ok (.goto 6, 3) := by decide +kernel
theorem dX7_area_43 : decode cX7_area 43 = .ok (.invokestatic 243, 3) := by decide +kernel
theorem dX7_area_46 : decode cX7_area 46 = .ok (.lreturn, 1) := by decide +kernel
theorem dX7_sign_0 : decode cX7_sign 0 = .ok (.lload_n 0, 1) := by decide +kernel
theorem dX7_sign_1 : decode cX7_sign 1 = .ok (.lconst 0, 1) := by decide +kernel
theorem dX7_sign_2 : decode cX7_sign 2 = .ok (.lcmp, 1) := by decide +kernel
theorem dX7_sign_3 : decode cX7_sign 3 = .ok (.ifCond .le 7, 3) := by decide +kernel
theorem dX7_sign_6 : decode cX7_sign 6 = .ok (.iconst 1, 1) := by decide +kernel
theorem dX7_sign_7 : decode cX7_sign 7 = .ok (.goto 14, 3) := by decide +kernel
theorem dX7_sign_10 : decode cX7_sign 10 = .ok (.lload_n 0, 1) := by decide +kernel
theorem dX7_sign_11 : decode cX7_sign 11 = .ok (.lconst 0, 1) := by decide +kernel
theorem dX7_sign_12 : decode cX7_sign 12 = .ok (.lcmp, 1) := by decide +kernel
theorem dX7_sign_13 : decode cX7_sign 13 = .ok (.ifCond .ge 7, 3) := by decide +kernel
theorem dX7_sign_16 : decode cX7_sign 16 = .ok (.iconst (-1), 1) := by decide +kernel
theorem dX7_sign_17 : decode cX7_sign 17 = .ok (.goto 4, 3) := by decide +kernel
theorem dX7_sign_20 : decode cX7_sign 20 = .ok (.iconst 0, 1) := by decide +kernel
theorem dX7_sign_21 : decode cX7_sign 21 = .ok (.ireturn, 1) := by decide +kernel
theorem dX7_flips_0 : decode cX7_flips 0 = .ok (.aload_n 0, 1) := by decide +kernel
theorem dX7_flips_1 : decode cX7_flips 1 = .ok (.iload_n 1, 1) := by decide +kernel
theorem dX7_flips_2 : decode cX7_flips 2 = .ok (.invokevirtual 160, 3) := by decide +kernel
theorem dX7_flips_5 : decode cX7_flips 5 = .ok (.ifCond .eq 6, 3) := by decide +kernel
theorem dX7_flips_8 : decode cX7_flips 8 = .ok (.ldc 163, 2) := by decide +kernel
theorem dX7_flips_10 : decode cX7_flips 10 = .ok (.ireturn, 1) := by decide +kernel
theorem dX7_flips_11 : decode cX7_flips 11 = .ok (.aload_n 0, 1) := by decide +kernel
theorem dX7_flips_12 : decode cX7_flips 12 = .ok (.iload_n 1, 1) := by decide +kernel
theorem dX7_flips_13 : decode cX7_flips 13 = .ok (.invokevirtual 257, 3) := by decide +kernel
theorem dX7_flips_16 : decode cX7_flips 16 = .ok (.iconst 0, 1) := by decide +kernel
theorem dX7_flips_17 : decode cX7_flips 17 = .ok (.istore_n 2, 1) := by decide +kernel
theorem dX7_flips_18 : decode cX7_flips 18 = .ok (.iload_n 2, 1) := by decide +kernel
theorem dX7_flips_19 : decode cX7_flips 19 = .ok (.aload_n 0, 1) := by decide +kernel
theorem dX7_flips_20 : decode cX7_flips 20 = .ok (.getfield 254, 3) := by decide +kernel
theorem dX7_flips_23 : decode cX7_flips 23 = .ok (.if_icmp .ge 23, 3) := by decide +kernel
theorem dX7_flips_26 : decode cX7_flips 26 = .ok (.aload_n 0, 1) := by decide +kernel
theorem dX7_flips_27 : decode cX7_flips 27 = .ok (.getfield 63, 3) := by decide +kernel
theorem dX7_flips_30 : decode cX7_flips 30 = .ok (.iload_n 2, 1) := by decide +kernel
theorem dX7_flips_31 : decode cX7_flips 31 = .ok (.aload_n 0, 1) := by decide +kernel
theorem dX7_flips_32 : decode cX7_flips 32 = .ok (.iload_n 2, 1) := by decide +kernel
theorem dX7_flips_33 : decode cX7_flips 33 = .ok (.invokevirtual 267, 3) := by decide +kernel
theorem dX7_flips_36 : decode cX7_flips 36 = .ok (.invokestatic 271, 3) := by decide +kernel
theorem dX7_flips_39 : decode cX7_flips 39 = .ok (.iastore, 1) := by decide +kernel
theorem dX7_flips_40 : decode cX7_flips 40 = .ok (.iinc 2 1, 3) := by decide +kernel
theorem dX7_flips_43 : decode cX7_flips 43 = .ok (.goto (-25), 3) := by decide +kernel
theorem dX7_flips_46 : decode cX7_flips 46 = .ok (.aload_n 0, 1) := by decide +kernel
theorem dX7_flips_47 : decode cX7_flips 47 = .ok (.invokevirtual 275, 3) := by decide +kernel
theorem dX7_flips_50 : decode cX7_flips 50 = .ok (.iconst 0, 1) := by decide +kernel
theorem dX7_flips_51 : decode cX7_flips 51 = .ok (.istore_n 2, 1) := by decide +kernel
theorem dX7_flips_52 : decode cX7_flips 52 = .ok (.iload_n 2, 1) := by decide +kernel
theorem dX7_flips_53 : decode cX7_flips 53 = .ok (.aload_n 0, 1) := by decide +kernel
theorem dX7_flips_54 : decode cX7_flips 54 = .ok (.getfield 107, 3) := by decide +kernel
theorem dX7_flips_57 : decode cX7_flips 57 = .ok (.if_icmp .ge 16, 3) := by decide +kernel
theorem dX7_flips_60 : decode cX7_flips 60 = .ok (.aload_n 0, 1) := by decide +kernel
theorem dX7_flips_61 : decode cX7_flips 61 = .ok (.getfield 19, 3) := by decide +kernel
theorem dX7_flips_64 : decode cX7_flips 64 = .ok (.iload_n 2, 1) := by decide +kernel
theorem dX7_flips_65 : decode cX7_flips 65 = .ok (.iconst 0, 1) := by decide +kernel
theorem dX7_flips_66 : decode cX7_flips 66 = .ok (.iastore, 1) := by decide +kernel
theorem dX7_flips_67 : decode cX7_flips 67 = .ok (.iinc 2 1, 3) := by decide +kernel
theorem dX7_flips_70 : decode cX7_flips 70 = .ok (.goto (-18), 3) := by decide +kernel
theorem dX7_flips_73 : decode cX7_flips 73 = .ok (.aload_n 0, 1) := by decide +kernel
theorem dX7_flips_74 : decode cX7_flips 74 = .ok (.iload_n 1, 1) := by decide +kernel
theorem dX7_flips_75 : decode cX7_flips 75 = .ok (.invokevirtual 257, 3) := by decide +kernel
theorem dX7_flips_78 : decode cX7_flips 78 = .ok (.iconst 0, 1) := by decide +kernel
theorem dX7_flips_79 : decode cX7_flips 79 = .ok (.istore_n 2, 1) := by decide +kernel
theorem dX7_flips_80 : decode cX7_flips 80 = .ok (.iconst 0, 1) := by decide +kernel
theorem dX7_flips_81 : decode cX7_flips 81 = .ok (.istore_n 3, 1) := by decide +kernel
theorem dX7_flips_82 : decode cX7_flips 82 = .ok (.iload_n 3, 1) := by decide +kernel
theorem dX7_flips_83 : decode cX7_flips 83 = .ok (.aload_n 0, 1) := by decide +kernel
theorem dX7_flips_84 : decode cX7_flips 84 = .ok (.getfield 254, 3) := by decide +kernel
theorem dX7_flips_87 : decode cX7_flips 87 = .ok (.if_icmp .ge 34, 3) := by decide +kernel
theorem dX7_flips_90 : decode cX7_flips 90 = .ok (.iload_n 2, 1) := by decide +kernel
theorem dX7_flips_91 : decode cX7_flips 91 = .ok (.aload_n 0, 1) := by decide +kernel
theorem dX7_flips_92 : decode cX7_flips 92 = .ok (.getfield 63, 3) := by decide +kernel
theorem dX7_flips_95 : decode cX7_flips 95 = .ok (.iload_n 3, 1) := by decide +kernel
theorem dX7_flips_96 : decode cX7_flips 96 = .ok (.iaload, 1) := by decide +kernel
theorem dX7_flips_97 : decode cX7_flips 97 = .ok (.aload_n 0, 1) := by decide +kernel
theorem dX7_flips_98 : decode cX7_flips 98 = .ok (.iload_n 3, 1) := by decide +kernel
theorem dX7_flips_99 : decode cX7_flips 99 = .ok (.invokevirtual 267, 3) := by decide +kernel
theorem dX7_flips_102 : decode cX7_flips 102 = .ok (.invokestatic 271, 3) := by decide +kernel
theorem dX7_flips_105 : decode cX7_flips 105 = .ok (.if_icmp .eq 7, 3) := by decide +kernel
theorem dX7_flips_108 : decode cX7_flips 108 = .ok (.iconst 1, 1) := by decide +kernel
theorem dX7_flips_109 : decode cX7_flips 109 = .ok (.goto 4, 3) := by decide +kernel
theorem dX7_flips_112 : decode cX7_flips 112 = .ok (.iconst 0, 1) := by decide +kernel
theorem dX7_flips_113 : decode cX7_flips 113 = .ok (.iadd, 1) := by decide +kernel
theorem dX7_flips_114 : decode cX7_flips 114 = .ok (.istore_n 2, 1) := by decide +kernel
theorem dX7_flips_115 : decode cX7_flips 115 = .ok (.iinc 3 1, 3) := by decide +kernel
theorem dX7_flips_118 : decode cX7_flips 118 = .ok (.goto (-36), 3) := by decide +kernel
theorem dX7_flips_121 : decode cX7_flips 121 = .ok (.aload_n 0, 1) := by decide +kernel
theorem dX7_flips_122 : decode cX7_flips 122 = .ok (.invokevirtual 278, 3) := by decide +kernel
theorem dX7_flips_125 : decode cX7_flips 125 = .ok (.iload_n 2, 1) := by decide +kernel
theorem dX7_flips_126 : decode cX7_flips 126 = .ok (.ireturn, 1) := by decide +kernel
theorem dX7_keepCoordinates_0 : decode cX7_keepCoordinates 0 = .ok (.iconst 0, 1) := by decide +kernel
theorem dX7_keepCoordinates_1 : decode cX7_keepCoordinates 1 = .ok (.istore_n 1, 1) := by decide +kernel
theorem dX7_keepCoordinates_2 : decode cX7_keepCoordinates 2 = .ok (.iload_n 1, 1) := by decide +kernel
theorem dX7_keepCoordinates_3 : decode cX7_keepCoordinates 3 = .ok (.iconst 4, 1) := by decide +kernel
theorem dX7_keepCoordinates_4 : decode cX7_keepCoordinates 4 = .ok (.if_icmp .ge 21, 3) := by decide +kernel
theorem dX7_keepCoordinates_7 : decode cX7_keepCoordinates 7 = .ok (.aload_n 0, 1) := by decide +kernel
theorem dX7_keepCoordinates_8 : decode cX7_keepCoordinates 8 = .ok (.getfield 66, 3) := by decide +kernel
theorem dX7_keepCoordinates_11 : decode cX7_keepCoordinates 11 = .ok (.iload_n 1, 1) := by decide +kernel
theorem dX7_keepCoordinates_12 : decode cX7_keepCoordinates 12 = .ok (.aload_n 0, 1) := by decide +kernel
theorem dX7_keepCoordinates_13 : decode cX7_keepCoordinates 13 = .ok (.getfield 19, 3) := by decide +kernel
theorem dX7_keepCoordinates_16 : decode cX7_keepCoordinates 16 = .ok (.iload_n 1, 1) := by decide +kernel
theorem dX7_keepCoordinates_17 : decode cX7_keepCoordinates 17 = .ok (.iaload, 1) := by decide +kernel
theorem dX7_keepCoordinates_18 : decode cX7_keepCoordinates 18 = .ok (.iastore, 1) := by decide +kernel
theorem dX7_keepCoordinates_19 : decode cX7_keepCoordinates 19 = .ok (.iinc 1 1, 3) := by decide +kernel
theorem dX7_keepCoordinates_22 : decode cX7_keepCoordinates 22 = .ok (.goto (-20), 3) := by decide +kernel
theorem dX7_keepCoordinates_25 : decode cX7_keepCoordinates 25 = .ok (.return_, 1) := by decide +kernel
theorem dX7_takeCoordinates_0 : decode cX7_takeCoordinates 0 = .ok (.iconst 0, 1) := by decide +kernel
theorem dX7_takeCoordinates_1 : decode cX7_takeCoordinates 1 = .ok (.istore_n 1, 1) := by decide +kernel
theorem dX7_takeCoordinates_2 : decode cX7_takeCoordinates 2 = .ok (.iload_n 1, 1) := by decide +kernel
theorem dX7_takeCoordinates_3 : decode cX7_takeCoordinates 3 = .ok (.iconst 4, 1) := by decide +kernel
theorem dX7_takeCoordinates_4 : decode cX7_takeCoordinates 4 = .ok (.if_icmp .ge 21, 3) := by decide +kernel
theorem dX7_takeCoordinates_7 : decode cX7_takeCoordinates 7 = .ok (.aload_n 0, 1) := by decide +kernel
theorem dX7_takeCoordinates_8 : decode cX7_takeCoordinates 8 = .ok (.getfield 19, 3) := by decide +kernel
theorem dX7_takeCoordinates_11 : decode cX7_takeCoordinates 11 = .ok (.iload_n 1, 1) := by decide +kernel
theorem dX7_takeCoordinates_12 : decode cX7_takeCoordinates 12 = .ok (.aload_n 0, 1) := by decide +kernel
theorem dX7_takeCoordinates_13 : decode cX7_takeCoordinates 13 = .ok (.getfield 66, 3) := by decide +kernel
theorem dX7_takeCoordinates_16 : decode cX7_takeCoordinates 16 = .ok (.iload_n 1, 1) := by decide +kernel
theorem dX7_takeCoordinates_17 : decode cX7_takeCoordinates 17 = .ok (.iaload, 1) := by decide +kernel
theorem dX7_takeCoordinates_18 : decode cX7_takeCoordinates 18 = .ok (.iastore, 1) := by decide +kernel
theorem dX7_takeCoordinates_19 : decode cX7_takeCoordinates 19 = .ok (.iinc 1 1, 3) := by decide +kernel
theorem dX7_takeCoordinates_22 : decode cX7_takeCoordinates 22 = .ok (.goto (-20), 3) := by decide +kernel
theorem dX7_takeCoordinates_25 : decode cX7_takeCoordinates 25 = .ok (.return_, 1) := by decide +kernel
theorem dX7_widest_0 : decode cX7_widest 0 = .ok (.aload_n 0, 1) := by decide +kernel
theorem dX7_widest_1 : decode cX7_widest 1 = .ok (.iload_n 1, 1) := by decide +kernel
theorem dX7_widest_2 : decode cX7_widest 2 = .ok (.invokevirtual 160, 3) := by decide +kernel
theorem dX7_widest_5 : decode cX7_widest 5 = .ok (.ifCond .eq 6, 3) := by decide +kernel
theorem dX7_widest_8 : decode cX7_widest 8 = .ok (.ldc 163, 2) := by decide +kernel
theorem dX7_widest_10 : decode cX7_widest 10 = .ok (.ireturn, 1) := by decide +kernel
theorem dX7_widest_11 : decode cX7_widest 11 = .ok (.aload_n 0, 1) := by decide +kernel
theorem dX7_widest_12 : decode cX7_widest 12 = .ok (.iload_n 2, 1) := by decide +kernel
theorem dX7_widest_13 : decode cX7_widest 13 = .ok (.invokevirtual 121, 3) := by decide +kernel
theorem dX7_widest_16 : decode cX7_widest 16 = .ok (.ifCond .eq 6, 3) := by decide +kernel
theorem dX7_widest_19 : decode cX7_widest 19 = .ok (.ldc 125, 2) := by decide +kernel
theorem dX7_widest_21 : decode cX7_widest 21 = .ok (.ireturn, 1) := by decide +kernel
theorem dX7_widest_22 : decode cX7_widest 22 = .ok (.aload_n 0, 1) := by decide +kernel
theorem dX7_widest_23 : decode cX7_widest 23 = .ok (.invokevirtual 275, 3) := by decide +kernel
theorem dX7_widest_26 : decode cX7_widest 26 = .ok (.sipush (-16384), 3) := by decide +kernel
theorem dX7_widest_29 : decode cX7_widest 29 = .ok (.istore_n 3, 1) := by decide +kernel
theorem dX7_widest_30 : decode cX7_widest 30 = .ok (.lconst 0, 1) := by decide +kernel
theorem dX7_widest_31 : decode cX7_widest 31 = .ok (.lstore 4, 2) := by decide +kernel
theorem dX7_widest_33 : decode cX7_widest 33 = .ok (.sipush (-16384), 3) := by decide +kernel
theorem dX7_widest_36 : decode cX7_widest 36 = .ok (.istore 6, 2) := by decide +kernel
theorem dX7_widest_38 : decode cX7_widest 38 = .ok (.iload 6, 2) := by decide +kernel
theorem dX7_widest_40 : decode cX7_widest 40 = .ok (.sipush 16384, 3) := by decide +kernel
theorem dX7_widest_43 : decode cX7_widest 43 = .ok (.if_icmp .gt 78, 3) := by decide +kernel
theorem dX7_widest_46 : decode cX7_widest 46 = .ok (.aload_n 0, 1) := by decide +kernel
theorem dX7_widest_47 : decode cX7_widest 47 = .ok (.getfield 19, 3) := by decide +kernel
theorem dX7_widest_50 : decode cX7_widest 50 = .ok (.iload_n 2, 1) := by decide +kernel
theorem dX7_widest_51 : decode cX7_widest 51 = .ok (.iload 6, 2) := by decide +kernel
theorem dX7_widest_53 : decode cX7_widest 53 = .ok (.iastore, 1) := by decide +kernel
theorem dX7_widest_54 : decode cX7_widest 54 = .ok (.aload_n 0, 1) := by decide +kernel
theorem dX7_widest_55 : decode cX7_widest 55 = .ok (.iload_n 1, 1) := by decide +kernel
theorem dX7_widest_56 : decode cX7_widest 56 = .ok (.bipush 24, 2) := by decide +kernel
theorem dX7_widest_58 : decode cX7_widest 58 = .ok (.iconst 0, 1) := by decide +kernel
theorem dX7_widest_59 : decode cX7_widest 59 = .ok (.invokevirtual 247, 3) := by decide +kernel
theorem dX7_widest_62 : decode cX7_widest 62 = .ok (.lstore 7, 2) := by decide +kernel
theorem dX7_widest_64 : decode cX7_widest 64 = .ok (.iload 6, 2) := by decide +kernel
theorem dX7_widest_66 : decode cX7_widest 66 = .ok (.sipush (-16384), 3) := by decide +kernel
theorem dX7_widest_69 : decode cX7_widest 69 = .ok (.if_icmp .eq 11, 3) := by decide +kernel
theorem dX7_widest_72 : decode cX7_widest 72 = .ok (.lload 7, 2) := by decide +kernel
theorem dX7_widest_74 : decode cX7_widest 74 = .ok (.lload 4, 2) := by decide +kernel
theorem dX7_widest_76 : decode cX7_widest 76 = .ok (.lcmp, 1) := by decide +kernel
theorem dX7_widest_77 : decode cX7_widest 77 = .ok (.ifCond .le 8, 3) := by decide +kernel
theorem dX7_widest_80 : decode cX7_widest 80 = .ok (.iload 6, 2) := by decide +kernel
theorem dX7_widest_82 : decode cX7_widest 82 = .ok (.goto 4, 3) := by decide +kernel
theorem dX7_widest_85 : decode cX7_widest 85 = .ok (.iload_n 3, 1) := by decide +kernel
theorem dX7_widest_86 : decode cX7_widest 86 = .ok (.istore_n 3, 1) := by decide +kernel
theorem dX7_widest_87 : decode cX7_widest 87 = .ok (.iload 6, 2) := by decide +kernel
theorem dX7_widest_89 : decode cX7_widest 89 = .ok (.sipush (-16384), 3) := by decide +kernel
theorem dX7_widest_92 : decode cX7_widest 92 = .ok (.if_icmp .eq 11, 3) := by decide +kernel
theorem dX7_widest_95 : decode cX7_widest 95 = .ok (.lload 7, 2) := by decide +kernel
theorem dX7_widest_97 : decode cX7_widest 97 = .ok (.lload 4, 2) := by decide +kernel
theorem dX7_widest_99 : decode cX7_widest 99 = .ok (.lcmp, 1) := by decide +kernel
theorem dX7_widest_100 : decode cX7_widest 100 = .ok (.ifCond .le 8, 3) := by decide +kernel
theorem dX7_widest_103 : decode cX7_widest 103 = .ok (.lload 7, 2) := by decide +kernel
theorem dX7_widest_105 : decode cX7_widest 105 = .ok (.goto 5, 3) := by decide +kernel
theorem dX7_widest_108 : decode cX7_widest 108 = .ok (.lload 4, 2) := by decide +kernel
theorem dX7_widest_110 : decode cX7_widest 110 = .ok (.lstore 4, 2) := by decide +kernel
theorem dX7_widest_112 : decode cX7_widest 112 = .ok (.iinc 6 2048, 6) := by decide +kernel
theorem dX7_widest_118 : decode cX7_widest 118 = .ok (.goto (-80), 3) := by decide +kernel
theorem dX7_widest_121 : decode cX7_widest 121 = .ok (.aload_n 0, 1) := by decide +kernel
theorem dX7_widest_122 : decode cX7_widest 122 = .ok (.invokevirtual 278, 3) := by decide +kernel
theorem dX7_widest_125 : decode cX7_widest 125 = .ok (.iload_n 3, 1) := by decide +kernel
theorem dX7_widest_126 : decode cX7_widest 126 = .ok (.ireturn, 1) := by decide +kernel
theorem dX7_keeps_0 : decode cX7_keeps 0 = .ok (.aload_n 0, 1) := by decide +kernel
theorem dX7_keeps_1 : decode cX7_keeps 1 = .ok (.getfield 281, 3) := by decide +kernel
theorem dX7_keeps_4 : decode cX7_keeps 4 = .ok (.bipush 6, 2) := by decide +kernel
theorem dX7_keeps_6 : decode cX7_keeps 6 = .ok (.if_icmp .ne 79, 3) := by decide +kernel
theorem dX7_keeps_9 : decode cX7_keeps 9 = .ok (.aload_n 0, 1) := by decide +kernel
theorem dX7_keeps_10 : decode cX7_keeps 10 = .ok (.dup, 1) := by decide +kernel
theorem dX7_keeps_11 : decode cX7_keeps 11 = .ok (.getfield 281, 3) := by decide +kernel
theorem dX7_keeps_14 : decode cX7_keeps 14 = .ok (.iconst 1, 1) := by decide +kernel
theorem dX7_keeps_15 : decode cX7_keeps 15 = .ok (.isub, 1) := by decide +kernel
theorem dX7_keeps_16 : decode cX7_keeps 16 = .ok (.putfield 281, 3) := by decide +kernel
theorem dX7_keeps_19 : decode cX7_keeps 19 = .ok (.iconst 0, 1) := by decide +kernel
theorem dX7_keeps_20 : decode cX7_keeps 20 = .ok (.istore_n 2, 1) := by decide +kernel
theorem dX7_keeps_21 : decode cX7_keeps 21 = .ok (.iload_n 2, 1) := by decide +kernel
theorem dX7_keeps_22 : decode cX7_keeps 22 = .ok (.aload_n 0, 1) := by decide +kernel
theorem dX7_keeps_23 : decode cX7_keeps 23 = .ok (.getfield 281, 3) := by decide +kernel
theorem dX7_keeps_26 : decode cX7_keeps 26 = .ok (.if_icmp .ge 23, 3) := by decide +kernel
theorem dX7_keeps_29 : decode cX7_keeps 29 = .ok (.aload_n 0, 1) := by decide +kernel
theorem dX7_keeps_30 : decode cX7_keeps 30 = .ok (.getfield 69, 3) := by decide +kernel
theorem dX7_keeps_33 : decode cX7_keeps 33 = .ok (.iload_n 2, 1) := by decide +kernel
theorem dX7_keeps_34 : decode cX7_keeps 34 = .ok (.aload_n 0, 1) := by decide +kernel
theorem dX7_keeps_35 : decode cX7_keeps 35 = .ok (.getfield 69, 3) := by decide +kernel
theorem dX7_keeps_38 : decode cX7_keeps 38 = .ok (.iload_n 2, 1) := by decide +kernel
theorem dX7_keeps_39 : decode cX7_keeps 39 = .ok (.iconst 1, 1) := by decide +kernel
theorem dX7_keeps_40 : decode cX7_keeps 40 = .ok (.iadd, 1) := by decide +kernel
theorem dX7_keeps_41 : decode cX7_keeps 41 = .ok (.iaload, 1) := by decide +kernel
theorem dX7_keeps_42 : decode cX7_keeps 42 = .ok (.iastore, 1) := by decide +kernel
theorem dX7_keeps_43 : decode cX7_keeps 43 = .ok (.iinc 2 1, 3) := by decide +kernel
theorem dX7_keeps_46 : decode cX7_keeps 46 = .ok (.goto (-25), 3) := by decide +kernel
theorem dX7_keeps_49 : decode cX7_keeps 49 = .ok (.iconst 0, 1) := by decide +kernel
theorem dX7_keeps_50 : decode cX7_keeps 50 = .ok (.istore_n 2, 1) := by decide +kernel
theorem dX7_keeps_51 : decode cX7_keeps 51 = .ok (.iload_n 2, 1) := by decide +kernel
theorem dX7_keeps_52 : decode cX7_keeps 52 = .ok (.sipush 511, 3) := by decide +kernel
theorem dX7_keeps_55 : decode cX7_keeps 55 = .ok (.aload_n 0, 1) := by decide +kernel
theorem dX7_keeps_56 : decode cX7_keeps 56 = .ok (.getfield 281, 3) := by decide +kernel
theorem dX7_keeps_59 : decode cX7_keeps 59 = .ok (.imul, 1) := by decide +kernel
theorem dX7_keeps_60 : decode cX7_keeps 60 = .ok (.if_icmp .ge 25, 3) := by decide +kernel
theorem dX7_keeps_63 : decode cX7_keeps 63 = .ok (.aload_n 0, 1) := by decide +kernel
theorem dX7_keeps_64 : decode cX7_keeps 64 = .ok (.getfield 72, 3) := by decide +kernel
theorem dX7_keeps_67 : decode cX7_keeps 67 = .ok (.iload_n 2, 1) := by decide +kernel
theorem dX7_keeps_68 : decode cX7_keeps 68 = .ok (.aload_n 0, 1) := by decide +kernel
theorem dX7_keeps_69 : decode cX7_keeps 69 = .ok (.getfield 72, 3) := by decide +kernel
theorem dX7_keeps_72 : decode cX7_keeps 72 = .ok (.iload_n 2, 1) := by decide +kernel
theorem dX7_keeps_73 : decode cX7_keeps 73 = .ok (.sipush 511, 3) := by decide +kernel
theorem dX7_keeps_76 : decode cX7_keeps 76 = .ok (.iadd, 1) := by decide +kernel
theorem dX7_keeps_77 : decode cX7_keeps 77 = .ok (.iaload, 1) := by decide +kernel
theorem dX7_keeps_78 : decode cX7_keeps 78 = .ok (.iastore, 1) := by decide +kernel
theorem dX7_keeps_79 : decode cX7_keeps 79 = .ok (.iinc 2 1, 3) := by decide +kernel
theorem dX7_keeps_82 : decode cX7_keeps 82 = .ok (.goto (-31), 3) := by decide +kernel
theorem dX7_keeps_85 : decode cX7_keeps 85 = .ok (.aload_n 0, 1) := by decide +kernel
theorem dX7_keeps_86 : decode cX7_keeps 86 = .ok (.getfield 69, 3) := by decide +kernel
theorem dX7_keeps_89 : decode cX7_keeps 89 = .ok (.aload_n 0, 1) := by decide +kernel
theorem dX7_keeps_90 : decode cX7_keeps 90 = .ok (.getfield 281, 3) := by decide +kernel
theorem dX7_keeps_93 : decode cX7_keeps 93 = .ok (.iload_n 1, 1) := by decide +kernel
theorem dX7_keeps_94 : decode cX7_keeps 94 = .ok (.iastore, 1) := by decide +kernel
theorem dX7_keeps_95 : decode cX7_keeps 95 = .ok (.iconst 0, 1) := by decide +kernel
theorem dX7_keeps_96 : decode cX7_keeps 96 = .ok (.istore_n 2, 1) := by decide +kernel
theorem dX7_keeps_97 : decode cX7_keeps 97 = .ok (.iload_n 2, 1) := by decide +kernel
theorem dX7_keeps_98 : decode cX7_keeps 98 = .ok (.sipush 511, 3) := by decide +kernel
theorem dX7_keeps_101 : decode cX7_keeps 101 = .ok (.if_icmp .ge 30, 3) := by decide +kernel
theorem dX7_keeps_104 : decode cX7_keeps 104 = .ok (.aload_n 0, 1) := by decide +kernel
theorem dX7_keeps_105 : decode cX7_keeps 105 = .ok (.getfield 72, 3) := by decide +kernel
theorem dX7_keeps_108 : decode cX7_keeps 108 = .ok (.sipush 511, 3) := by decide +kernel
theorem dX7_keeps_111 : decode cX7_keeps 111 = .ok (.aload_n 0, 1) := by decide +kernel
theorem dX7_keeps_112 : decode cX7_keeps 112 = .ok (.getfield 281, 3) := by decide +kernel
theorem dX7_keeps_115 : decode cX7_keeps 115 = .ok (.imul, 1) := by decide +kernel
theorem dX7_keeps_116 : decode cX7_keeps 116 = .ok (.iload_n 2, 1) := by decide +kernel
theorem dX7_keeps_117 : decode cX7_keeps 117 = .ok (.iadd, 1) := by decide +kernel
theorem dX7_keeps_118 : decode cX7_keeps 118 = .ok (.aload_n 0, 1) := by decide +kernel
theorem dX7_keeps_119 : decode cX7_keeps 119 = .ok (.iload_n 1, 1) := by decide +kernel
theorem dX7_keeps_120 : decode cX7_keeps 120 = .ok (.iload_n 2, 1) := by decide +kernel
theorem dX7_keeps_121 : decode cX7_keeps 121 = .ok (.invokevirtual 155, 3) := by decide +kernel
theorem dX7_keeps_124 : decode cX7_keeps 124 = .ok (.iastore, 1) := by decide +kernel
theorem dX7_keeps_125 : decode cX7_keeps 125 = .ok (.iinc 2 1, 3) := by decide +kernel
theorem dX7_keeps_128 : decode cX7_keeps 128 = .ok (.goto (-31), 3) := by decide +kernel
theorem dX7_keeps_131 : decode cX7_keeps 131 = .ok (.aload_n 0, 1) := by decide +kernel
theorem dX7_keeps_132 : decode cX7_keeps 132 = .ok (.dup, 1) := by decide +kernel
theorem dX7_keeps_133 : decode cX7_keeps 133 = .ok (.getfield 281, 3) := by decide +kernel
theorem dX7_keeps_136 : decode cX7_keeps 136 = .ok (.iconst 1, 1) := by decide +kernel
theorem dX7_keeps_137 : decode cX7_keeps 137 = .ok (.iadd, 1) := by decide +kernel
theorem dX7_keeps_138 : decode cX7_keeps 138 = .ok (.putfield 281, 3) := by decide +kernel
theorem dX7_keeps_141 : decode cX7_keeps 141 = .ok (.return_, 1) := by decide +kernel
theorem dX7_undo_0 : decode cX7_undo 0 = .ok (.aload_n 0, 1) := by decide +kernel
theorem dX7_undo_1 : decode cX7_undo 1 = .ok (.getfield 281, 3) := by decide +kernel
theorem dX7_undo_4 : decode cX7_undo 4 = .ok (.ifCond .ne 7, 3) := by decide +kernel
theorem dX7_undo_7 : decode cX7_undo 7 = .ok (.ldc_w 284, 3) := by decide +kernel
theorem dX7_undo_10 : decode cX7_undo 10 = .ok (.ireturn, 1) := by decide +kernel
theorem dX7_undo_11 : decode cX7_undo 11 = .ok (.aload_n 0, 1) := by decide +kernel
theorem dX7_undo_12 : decode cX7_undo 12 = .ok (.dup, 1) := by decide +kernel
theorem dX7_undo_13 : decode cX7_undo 13 = .ok (.getfield 281, 3) := by decide +kernel
theorem dX7_undo_16 : decode cX7_undo 16 = .ok (.iconst 1, 1) := by decide +kernel
theorem dX7_undo_17 : decode cX7_undo 17 = .ok (.isub, 1) := by decide +kernel
theorem dX7_undo_18 : decode cX7_undo 18 = .ok (.putfield 281, 3) := by decide +kernel
theorem dX7_undo_21 : decode cX7_undo 21 = .ok (.iconst 0, 1) := by decide +kernel
theorem dX7_undo_22 : decode cX7_undo 22 = .ok (.istore_n 1, 1) := by decide +kernel
theorem dX7_undo_23 : decode cX7_undo 23 = .ok (.iload_n 1, 1) := by decide +kernel
theorem dX7_undo_24 : decode cX7_undo 24 = .ok (.sipush 511, 3) := by decide +kernel
theorem dX7_undo_27 : decode cX7_undo 27 = .ok (.if_icmp .ge 38, 3) := by decide +kernel
theorem dX7_undo_30 : decode cX7_undo 30 = .ok (.aload_n 0, 1) := by decide +kernel
theorem dX7_undo_31 : decode cX7_undo 31 = .ok (.aload_n 0, 1) := by decide +kernel
theorem dX7_undo_32 : decode cX7_undo 32 = .ok (.getfield 69, 3) := by decide +kernel
theorem dX7_undo_35 : decode cX7_undo 35 = .ok (.aload_n 0, 1) := by decide +kernel
theorem dX7_undo_36 : decode cX7_undo 36 = .ok (.getfield 281, 3) := by decide +kernel
theorem dX7_undo_39 : decode cX7_undo 39 = .ok (.iaload, 1) := by decide +kernel
theorem dX7_undo_40 : decode cX7_undo 40 = .ok (.iload_n 1, 1) := by decide +kernel
theorem dX7_undo_41 : decode cX7_undo 41 = .ok (.aload_n 0, 1) := by decide +kernel
theorem dX7_undo_42 : decode cX7_undo 42 = .ok (.getfield 72, 3) := by decide +kernel
theorem dX7_undo_45 : decode cX7_undo 45 = .ok (.sipush 511, 3) := by decide +kernel
theorem dX7_undo_48 : decode cX7_undo 48 = .ok (.aload_n 0, 1) := by decide +kernel
theorem dX7_undo_49 : decode cX7_undo 49 = .ok (.getfield 281, 3) := by decide +kernel
theorem dX7_undo_52 : decode cX7_undo 52 = .ok (.imul, 1) := by decide +kernel
theorem dX7_undo_53 : decode cX7_undo 53 = .ok (.iload_n 1, 1) := by decide +kernel
theorem dX7_undo_54 : decode cX7_undo 54 = .ok (.iadd, 1) := by decide +kernel
theorem dX7_undo_55 : decode cX7_undo 55 = .ok (.iaload, 1) := by decide +kernel
theorem dX7_undo_56 : decode cX7_undo 56 = .ok (.invokevirtual 151, 3) := by decide +kernel
theorem dX7_undo_59 : decode cX7_undo 59 = .ok (.iinc 1 1, 3) := by decide +kernel
theorem dX7_undo_62 : decode cX7_undo 62 = .ok (.goto (-39), 3) := by decide +kernel
theorem dX7_undo_65 : decode cX7_undo 65 = .ok (.aload_n 0, 1) := by decide +kernel
theorem dX7_undo_66 : decode cX7_undo 66 = .ok (.getfield 69, 3) := by decide +kernel
theorem dX7_undo_69 : decode cX7_undo 69 = .ok (.aload_n 0, 1) := by decide +kernel
theorem dX7_undo_70 : decode cX7_undo 70 = .ok (.getfield 281, 3) := by decide +kernel
theorem dX7_undo_73 : decode cX7_undo 73 = .ok (.iaload, 1) := by decide +kernel
theorem dX7_undo_74 : decode cX7_undo 74 = .ok (.ireturn, 1) := by decide +kernel
theorem dX7_removeTuple_0 : decode cX7_removeTuple 0 = .ok (.aload_n 0, 1) := by decide +kernel
theorem dX7_removeTuple_1 : decode cX7_removeTuple 1 = .ok (.iload_n 1, 1) := by decide +kernel
theorem dX7_removeTuple_2 : decode cX7_removeTuple 2 = .ok (.iconst 3, 1) := by decide +kernel
theorem dX7_removeTuple_3 : decode cX7_removeTuple 3 = .ok (.invokevirtual 155, 3) := by decide +kernel
theorem dX7_removeTuple_6 : decode cX7_removeTuple 6 = .ok (.iconst 1, 1) := by decide +kernel
theorem dX7_removeTuple_7 : decode cX7_removeTuple 7 = .ok (.isub, 1) := by decide +kernel
theorem dX7_removeTuple_8 : decode cX7_removeTuple 8 = .ok (.istore_n 3, 1) := by decide +kernel
theorem dX7_removeTuple_9 : decode cX7_removeTuple 9 = .ok (.iload_n 2, 1) := by decide +kernel
theorem dX7_removeTuple_10 : decode cX7_removeTuple 10 = .ok (.invokestatic 178, 3) := by decide +kernel
theorem dX7_removeTuple_13 : decode cX7_removeTuple 13 = .ok (.istore 4, 2) := by decide +kernel
theorem dX7_removeTuple_15 : decode cX7_removeTuple 15 = .ok (.iload 4, 2) := by decide +kernel
theorem dX7_removeTuple_17 : decode cX7_removeTuple 17 = .ok (.iload_n 3, 1) := by decide +kernel
theorem dX7_removeTuple_18 : decode cX7_removeTuple 18 = .ok (.invokestatic 178, 3) := by decide +kernel
theorem dX7_removeTuple_21 : decode cX7_removeTuple 21 = .ok (.if_icmp .ge 26, 3) := by decide +kernel
theorem dX7_removeTuple_24 : decode cX7_removeTuple 24 = .ok (.aload_n 0, 1) := by decide +kernel
theorem dX7_removeTuple_25 : decode cX7_removeTuple 25 = .ok (.iload_n 1, 1) := by decide +kernel
theorem dX7_removeTuple_26 : decode cX7_removeTuple 26 = .ok (.iload 4, 2) := by decide +kernel
theorem dX7_removeTuple_28 : decode cX7_removeTuple 28 = .ok (.aload_n 0, 1) := by decide +kernel
theorem dX7_removeTuple_29 : decode cX7_removeTuple 29 = .ok (.iload_n 1, 1) := by decide +kernel
theorem dX7_removeTuple_30 : decode cX7_removeTuple 30 = .ok (.iload 4, 2) := by decide +kernel
theorem dX7_removeTuple_32 : decode cX7_removeTuple 32 = .ok (.bipush 87, 2) := by decide +kernel
theorem dX7_removeTuple_34 : decode cX7_removeTuple 34 = .ok (.iadd, 1) := by decide +kernel
theorem dX7_removeTuple_35 : decode cX7_removeTuple 35 = .ok (.invokevirtual 155, 3) := by decide +kernel
theorem dX7_removeTuple_38 : decode cX7_removeTuple 38 = .ok (.invokevirtual 151, 3) := by decide +kernel
theorem dX7_removeTuple_41 : decode cX7_removeTuple 41 = .ok (.iinc 4 1, 3) := by decide +kernel
theorem dX7_removeTuple_44 : decode cX7_removeTuple 44 = .ok (.goto (-29), 3) := by decide +kernel
theorem dX7_removeTuple_47 : decode cX7_removeTuple 47 = .ok (.aload_n 0, 1) := by decide +kernel
theorem dX7_removeTuple_48 : decode cX7_removeTuple 48 = .ok (.iload_n 1, 1) := by decide +kernel
theorem dX7_removeTuple_49 : decode cX7_removeTuple 49 = .ok (.iconst 3, 1) := by decide +kernel
theorem dX7_removeTuple_50 : decode cX7_removeTuple 50 = .ok (.iload_n 3, 1) := by decide +kernel
theorem dX7_removeTuple_51 : decode cX7_removeTuple 51 = .ok (.invokevirtual 151, 3) := by decide +kernel
theorem dX7_removeTuple_54 : decode cX7_removeTuple 54 = .ok (.return_, 1) := by decide +kernel
theorem dX7_slotBy_0 : decode cX7_slotBy 0 = .ok (.iload_n 2, 1) := by decide +kernel
theorem dX7_slotBy_1 : decode cX7_slotBy 1 = .ok (.aload_n 0, 1) := by decide +kernel
theorem dX7_slotBy_2 : decode cX7_slotBy 2 = .ok (.iload_n 1, 1) := by decide +kernel
theorem dX7_slotBy_3 : decode cX7_slotBy 3 = .ok (.iconst 2, 1) := by decide +kernel
theorem dX7_slotBy_4 : decode cX7_slotBy 4 = .ok (.invokevirtual 155, 3) := by decide +kernel
theorem dX7_slotBy_7 : decode cX7_slotBy 7 = .ok (.if_icmp .ne 8, 3) := by decide +kernel
theorem dX7_slotBy_10 : decode cX7_slotBy 10 = .ok (.bipush 24, 2) := by decide +kernel
theorem dX7_slotBy_12 : decode cX7_slotBy 12 = .ok (.goto 4, 3) := by decide +kernel
theorem dX7_slotBy_15 : decode cX7_slotBy 15 = .ok (.iload_n 2, 1) := by decide +kernel
theorem dX7_slotBy_16 : decode cX7_slotBy 16 = .ok (.ireturn, 1) := by decide +kernel
theorem dX7_layDeltas_0 : decode cX7_layDeltas 0 = .ok (.iconst 0, 1) := by decide +kernel
theorem dX7_layDeltas_1 : decode cX7_layDeltas 1 = .ok (.istore_n 3, 1) := by decide +kernel
theorem dX7_layDeltas_2 : decode cX7_layDeltas 2 = .ok (.iload_n 3, 1) := by decide +kernel
theorem dX7_layDeltas_3 : decode cX7_layDeltas 3 = .ok (.aload_n 0, 1) := by decide +kernel
theorem dX7_layDeltas_4 : decode cX7_layDeltas 4 = .ok (.iload_n 1, 1) := by decide +kernel
theorem dX7_layDeltas_5 : decode cX7_layDeltas 5 = .ok (.iconst 2, 1) := by decide +kernel
theorem dX7_layDeltas_6 : decode cX7_layDeltas 6 = .ok (.invokevirtual 155, 3) := by decide +kernel
theorem dX7_layDeltas_9 : decode cX7_layDeltas 9 = .ok (.if_icmp .gt 49, 3) := by decide +kernel
theorem dX7_layDeltas_12 : decode cX7_layDeltas 12 = .ok (.aload_n 0, 1) := by decide +kernel
theorem dX7_layDeltas_13 : decode cX7_layDeltas 13 = .ok (.iload_n 1, 1) := by decide +kernel
theorem dX7_layDeltas_14 : decode cX7_layDeltas 14 = .ok (.iload_n 3, 1) := by decide +kernel
theorem dX7_layDeltas_15 : decode cX7_layDeltas 15 = .ok (.invokevirtual 285, 3) := by decide +kernel
theorem dX7_layDeltas_18 : decode cX7_layDeltas 18 = .ok (.istore 4, 2) := by decide +kernel
theorem dX7_layDeltas_20 : decode cX7_layDeltas 20 = .ok (.aload_n 0, 1) := by decide +kernel
theorem dX7_layDeltas_21 : decode cX7_layDeltas 21 = .ok (.getfield 75, 3) := by decide +kernel
theorem dX7_layDeltas_24 : decode cX7_layDeltas 24 = .ok (.iload 4, 2) := by decide +kernel
theorem dX7_layDeltas_26 : decode cX7_layDeltas 26 = .ok (.aload_n 0, 1) := by decide +kernel
theorem dX7_layDeltas_27 : decode cX7_layDeltas 27 = .ok (.iload_n 1, 1) := by decide +kernel
theorem dX7_layDeltas_28 : decode cX7_layDeltas 28 = .ok (.iload_n 2, 1) := by decide +kernel
theorem dX7_layDeltas_29 : decode cX7_layDeltas 29 = .ok (.iload 4, 2) := by decide +kernel
theorem dX7_layDeltas_31 : decode cX7_layDeltas 31 = .ok (.iconst 0, 1) := by decide +kernel
theorem dX7_layDeltas_32 : decode cX7_layDeltas 32 = .ok (.invokevirtual 224, 3) := by decide +kernel
theorem dX7_layDeltas_35 : decode cX7_layDeltas 35 = .ok (.iastore, 1) := by decide +kernel
theorem dX7_layDeltas_36 : decode cX7_layDeltas 36 = .ok (.aload_n 0, 1) := by decide +kernel
theorem dX7_layDeltas_37 : decode cX7_layDeltas 37 = .ok (.getfield 78, 3) := by decide +kernel
theorem dX7_layDeltas_40 : decode cX7_layDeltas 40 = .ok (.iload 4, 2) := by decide +kernel
theorem dX7_layDeltas_42 : decode cX7_layDeltas 42 = .ok (.aload_n 0, 1) := by decide +kernel
theorem dX7_layDeltas_43 : decode cX7_layDeltas 43 = .ok (.iload_n 1, 1) := by decide +kernel
theorem dX7_layDeltas_44 : decode cX7_layDeltas 44 = .ok (.iload_n 2, 1) := by decide +kernel
theorem dX7_layDeltas_45 : decode cX7_layDeltas 45 = .ok (.iload 4, 2) := by decide +kernel
theorem dX7_layDeltas_47 : decode cX7_layDeltas 47 = .ok (.iconst 1, 1) := by decide +kernel
theorem dX7_layDeltas_48 : decode cX7_layDeltas 48 = .ok (.invokevirtual 224, 3) := by decide +kernel
theorem dX7_layDeltas_51 : decode cX7_layDeltas 51 = .ok (.iastore, 1) := by decide +kernel
theorem dX7_layDeltas_52 : decode cX7_layDeltas 52 = .ok (.iinc 3 1, 3) := by decide +kernel
theorem dX7_layDeltas_55 : decode cX7_layDeltas 55 = .ok (.goto (-53), 3) := by decide +kernel
theorem dX7_layDeltas_58 : decode cX7_layDeltas 58 = .ok (.return_, 1) := by decide +kernel
theorem dX7_touchAll_0 : decode cX7_touchAll 0 = .ok (.iconst 0, 1) := by decide +kernel
theorem dX7_touchAll_1 : decode cX7_touchAll 1 = .ok (.istore_n 3, 1) := by decide +kernel
theorem dX7_touchAll_2 : decode cX7_touchAll 2 = .ok (.iload_n 3, 1) := by decide +kernel
theorem dX7_touchAll_3 : decode cX7_touchAll 3 = .ok (.aload_n 0, 1) := by decide +kernel
theorem dX7_touchAll_4 : decode cX7_touchAll 4 = .ok (.iload_n 1, 1) := by decide +kernel
theorem dX7_touchAll_5 : decode cX7_touchAll 5 = .ok (.iconst 2, 1) := by decide +kernel
theorem dX7_touchAll_6 : decode cX7_touchAll 6 = .ok (.invokevirtual 155, 3) := by decide +kernel
theorem dX7_touchAll_9 : decode cX7_touchAll 9 = .ok (.if_icmp .gt 39, 3) := by decide +kernel
theorem dX7_touchAll_12 : decode cX7_touchAll 12 = .ok (.aload_n 0, 1) := by decide +kernel
theorem dX7_touchAll_13 : decode cX7_touchAll 13 = .ok (.iload_n 1, 1) := by decide +kernel
theorem dX7_touchAll_14 : decode cX7_touchAll 14 = .ok (.iload_n 3, 1) := by decide +kernel
theorem dX7_touchAll_15 : decode cX7_touchAll 15 = .ok (.invokevirtual 285, 3) := by decide +kernel
theorem dX7_touchAll_18 : decode cX7_touchAll 18 = .ok (.istore 4, 2) := by decide +kernel
theorem dX7_touchAll_20 : decode cX7_touchAll 20 = .ok (.aload_n 0, 1) := by decide +kernel
theorem dX7_touchAll_21 : decode cX7_touchAll 21 = .ok (.iload_n 1, 1) := by decide +kernel
theorem dX7_touchAll_22 : decode cX7_touchAll 22 = .ok (.iload_n 2, 1) := by decide +kernel
theorem dX7_touchAll_23 : decode cX7_touchAll 23 = .ok (.iload 4, 2) := by decide +kernel
theorem dX7_touchAll_25 : decode cX7_touchAll 25 = .ok (.aload_n 0, 1) := by decide +kernel
theorem dX7_touchAll_26 : decode cX7_touchAll 26 = .ok (.getfield 75, 3) := by decide +kernel
theorem dX7_touchAll_29 : decode cX7_touchAll 29 = .ok (.iload 4, 2) := by decide +kernel
theorem dX7_touchAll_31 : decode cX7_touchAll 31 = .ok (.iaload, 1) := by decide +kernel
theorem dX7_touchAll_32 : decode cX7_touchAll 32 = .ok (.aload_n 0, 1) := by decide +kernel
theorem dX7_touchAll_33 : decode cX7_touchAll 33 = .ok (.getfield 78, 3) := by decide +kernel
theorem dX7_touchAll_36 : decode cX7_touchAll 36 = .ok (.iload 4, 2) := by decide +kernel
theorem dX7_touchAll_38 : decode cX7_touchAll 38 = .ok (.iaload, 1) := by decide +kernel
theorem dX7_touchAll_39 : decode cX7_touchAll 39 = .ok (.invokevirtual 210, 3) := by decide +kernel
theorem dX7_touchAll_42 : decode cX7_touchAll 42 = .ok (.iinc 3 1, 3) := by decide +kernel
theorem dX7_touchAll_45 : decode cX7_touchAll 45 = .ok (.goto (-43), 3) := by decide +kernel
theorem dX7_touchAll_48 : decode cX7_touchAll 48 = .ok (.return_, 1) := by decide +kernel
theorem dX7_isSameRegion_0 : decode cX7_isSameRegion 0 = .ok (.iconst 0, 1) := by decide +kernel
theorem dX7_isSameRegion_1 : decode cX7_isSameRegion 1 = .ok (.istore 4, 2) := by decide +kernel
theorem dX7_isSameRegion_3 : decode cX7_isSameRegion 3 = .ok (.iload 4, 2) := by decide +kernel
theorem dX7_isSameRegion_5 : decode cX7_isSameRegion 5 = .ok (.bipush 12, 2) := by decide +kernel
theorem dX7_isSameRegion_7 : decode cX7_isSameRegion 7 = .ok (.if_icmp .ge 38, 3) := by decide +kernel
theorem dX7_isSameRegion_10 : decode cX7_isSameRegion 10 = .ok (.aload_n 0, 1) := by decide +kernel
theorem dX7_isSameRegion_11 : decode cX7_isSameRegion 11 = .ok (.iload_n 1, 1) := by decide +kernel
theorem dX7_isSameRegion_12 : decode cX7_isSameRegion 12 = .ok (.iload_n 2, 1) := by decide +kernel
theorem dX7_isSameRegion_13 : decode cX7_isSameRegion 13 = .ok (.invokestatic 178, 3) := by decide +kernel
theorem dX7_isSameRegion_16 : decode cX7_isSameRegion 16 = .ok (.iload 4, 2) := by decide +kernel
theorem dX7_isSameRegion_18 : decode cX7_isSameRegion 18 = .ok (.iadd, 1) := by decide +kernel
theorem dX7_isSameRegion_19 : decode cX7_isSameRegion 19 = .ok (.invokevirtual 155, 3) := by decide +kernel
theorem dX7_isSameRegion_22 : decode cX7_isSameRegion 22 = .ok (.aload_n 0, 1) := by decide +kernel
theorem dX7_isSameRegion_23 : decode cX7_isSameRegion 23 = .ok (.iload_n 1, 1) := by decide +kernel
theorem dX7_isSameRegion_24 : decode cX7_isSameRegion 24 = .ok (.iload_n 3, 1) := by decide +kernel
theorem dX7_isSameRegion_25 : decode cX7_isSameRegion 25 = .ok (.invokestatic 178, 3) := by decide +kernel
theorem dX7_isSameRegion_28 : decode cX7_isSameRegion 28 = .ok (.iload 4, 2) := by decide +kernel
theorem dX7_isSameRegion_30 : decode cX7_isSameRegion 30 = .ok (.iadd, 1) := by decide +kernel
theorem dX7_isSameRegion_31 : decode cX7_isSameRegion 31 = .ok (.invokevirtual 155, 3) := by decide +kernel
theorem dX7_isSameRegion_34 : decode cX7_isSameRegion 34 = .ok (.if_icmp .eq 5, 3) := by decide +kernel
theorem dX7_isSameRegion_37 : decode cX7_isSameRegion 37 = .ok (.iconst 0, 1) := by decide +kernel
theorem dX7_isSameRegion_38 : decode cX7_isSameRegion 38 = .ok (.ireturn, 1) := by decide +kernel
theorem dX7_isSameRegion_39 : decode cX7_isSameRegion 39 = .ok (.iinc 4 1, 3) := by decide +kernel
theorem dX7_isSameRegion_42 : decode cX7_isSameRegion 42 = .ok (.goto (-39), 3) := by decide +kernel
theorem dX7_isSameRegion_45 : decode cX7_isSameRegion 45 = .ok (.iconst 1, 1) := by decide +kernel
theorem dX7_isSameRegion_46 : decode cX7_isSameRegion 46 = .ok (.ireturn, 1) := by decide +kernel
theorem dX7_joins_0 : decode cX7_joins 0 = .ok (.aload_n 0, 1) := by decide +kernel
theorem dX7_joins_1 : decode cX7_joins 1 = .ok (.iload_n 1, 1) := by decide +kernel
theorem dX7_joins_2 : decode cX7_joins 2 = .ok (.iload_n 3, 1) := by decide +kernel
theorem dX7_joins_3 : decode cX7_joins 3 = .ok (.invokevirtual 288, 3) := by decide +kernel
theorem dX7_joins_6 : decode cX7_joins 6 = .ok (.iconst 0, 1) := by decide +kernel
theorem dX7_joins_7 : decode cX7_joins 7 = .ok (.istore 4, 2) := by decide +kernel
theorem dX7_joins_9 : decode cX7_joins 9 = .ok (.iload 4, 2) := by decide +kernel
theorem dX7_joins_11 : decode cX7_joins 11 = .ok (.aload_n 0, 1) := by decide +kernel
theorem dX7_joins_12 : decode cX7_joins 12 = .ok (.iload_n 1, 1) := by decide +kernel
theorem dX7_joins_13 : decode cX7_joins 13 = .ok (.iconst 2, 1) := by decide +kernel
theorem dX7_joins_14 : decode cX7_joins 14 = .ok (.invokevirtual 155, 3) := by decide +kernel
theorem dX7_joins_17 : decode cX7_joins 17 = .ok (.if_icmp .gt 66, 3) := by decide +kernel
theorem dX7_joins_20 : decode cX7_joins 20 = .ok (.aload_n 0, 1) := by decide +kernel
theorem dX7_joins_21 : decode cX7_joins 21 = .ok (.iload_n 1, 1) := by decide +kernel
theorem dX7_joins_22 : decode cX7_joins 22 = .ok (.iload 4, 2) := by decide +kernel
theorem dX7_joins_24 : decode cX7_joins 24 = .ok (.invokevirtual 285, 3) := by decide +kernel
theorem dX7_joins_27 : decode cX7_joins 27 = .ok (.istore 5, 2) := by decide +kernel
theorem dX7_joins_29 : decode cX7_joins 29 = .ok (.aload_n 0, 1) := by decide +kernel
theorem dX7_joins_30 : decode cX7_joins 30 = .ok (.getfield 81, 3) := by decide +kernel
theorem dX7_joins_33 : decode cX7_joins 33 = .ok (.iload 5, 2) := by decide +kernel
theorem dX7_joins_35 : decode cX7_joins 35 = .ok (.aload_n 0, 1) := by decide +kernel
theorem dX7_joins_36 : decode cX7_joins 36 = .ok (.getfield 75, 3) := by decide +kernel
theorem dX7_joins_39 : decode cX7_joins 39 = .ok (.iload 5, 2) := by decide +kernel
theorem dX7_joins_41 : decode cX7_joins 41 = .ok (.iaload, 1) := by decide +kernel
theorem dX7_joins_42 : decode cX7_joins 42 = .ok (.aload_n 0, 1) := by decide +kernel
theorem dX7_joins_43 : decode cX7_joins 43 = .ok (.iload_n 1, 1) := by decide +kernel
theorem dX7_joins_44 : decode cX7_joins 44 = .ok (.iload_n 2, 1) := by decide +kernel
theorem dX7_joins_45 : decode cX7_joins 45 = .ok (.iload 5, 2) := by decide +kernel
theorem dX7_joins_47 : decode cX7_joins 47 = .ok (.iconst 0, 1) := by decide +kernel
theorem dX7_joins_48 : decode cX7_joins 48 = .ok (.invokevirtual 224, 3) := by decide +kernel
theorem dX7_joins_51 : decode cX7_joins 51 = .ok (.iadd, 1) := by decide +kernel
theorem dX7_joins_52 : decode cX7_joins 52 = .ok (.iastore, 1) := by decide +kernel
theorem dX7_joins_53 : decode cX7_joins 53 = .ok (.aload_n 0, 1) := by decide +kernel
theorem dX7_joins_54 : decode cX7_joins 54 = .ok (.getfield 84, 3) := by decide +kernel
theorem dX7_joins_57 : decode cX7_joins 57 = .ok (.iload 5, 2) := by decide +kernel
theorem dX7_joins_59 : decode cX7_joins 59 = .ok (.aload_n 0, 1) := by decide +kernel
theorem dX7_joins_60 : decode cX7_joins 60 = .ok (.getfield 78, 3) := by decide +kernel
theorem dX7_joins_63 : decode cX7_joins 63 = .ok (.iload 5, 2) := by decide +kernel
theorem dX7_joins_65 : decode cX7_joins 65 = .ok (.iaload, 1) := by decide +kernel
theorem dX7_joins_66 : decode cX7_joins 66 = .ok (.aload_n 0, 1) := by decide +kernel
theorem dX7_joins_67 : decode cX7_joins 67 = .ok (.iload_n 1, 1) := by decide +kernel
theorem dX7_joins_68 : decode cX7_joins 68 = .ok (.iload_n 2, 1) := by decide +kernel
theorem dX7_joins_69 : decode cX7_joins 69 = .ok (.iload 5, 2) := by decide +kernel
theorem dX7_joins_71 : decode cX7_joins 71 = .ok (.iconst 1, 1) := by decide +kernel
theorem dX7_joins_72 : decode cX7_joins 72 = .ok (.invokevirtual 224, 3) := by decide +kernel
theorem dX7_joins_75 : decode cX7_joins 75 = .ok (.iadd, 1) := by decide +kernel
theorem dX7_joins_76 : decode cX7_joins 76 = .ok (.iastore, 1) := by decide +kernel
theorem dX7_joins_77 : decode cX7_joins 77 = .ok (.iinc 4 1, 3) := by decide +kernel
theorem dX7_joins_80 : decode cX7_joins 80 = .ok (.goto (-71), 3) := by decide +kernel
theorem dX7_joins_83 : decode cX7_joins 83 = .ok (.iconst 0, 1) := by decide +kernel
theorem dX7_joins_84 : decode cX7_joins 84 = .ok (.istore 4, 2) := by decide +kernel
theorem dX7_joins_86 : decode cX7_joins 86 = .ok (.iload 4, 2) := by decide +kernel
theorem dX7_joins_88 : decode cX7_joins 88 = .ok (.bipush 24, 2) := by decide +kernel
theorem dX7_joins_90 : decode cX7_joins 90 = .ok (.if_icmp .gt 37, 3) := by decide +kernel
theorem dX7_joins_93 : decode cX7_joins 93 = .ok (.aload_n 0, 1) := by decide +kernel
theorem dX7_joins_94 : decode cX7_joins 94 = .ok (.getfield 75, 3) := by decide +kernel
theorem dX7_joins_97 : decode cX7_joins 97 = .ok (.iload 4, 2) := by decide +kernel
theorem dX7_joins_99 : decode cX7_joins 99 = .ok (.aload_n 0, 1) := by decide +kernel
theorem dX7_joins_100 : decode cX7_joins 100 = .ok (.getfield 81, 3) := by decide +kernel
theorem dX7_joins_103 : decode cX7_joins 103 = .ok (.iload 4, 2) := by decide +kernel
theorem dX7_joins_105 : decode cX7_joins 105 = .ok (.iaload, 1) := by decide +kernel
theorem dX7_joins_106 : decode cX7_joins 106 = .ok (.iastore, 1) := by decide +kernel
theorem dX7_joins_107 : decode cX7_joins 107 = .ok (.aload_n 0, 1) := by decide +kernel
theorem dX7_joins_108 : decode cX7_joins 108 = .ok (.getfield 78, 3) := by decide +kernel
theorem dX7_joins_111 : decode cX7_joins 111 = .ok (.iload 4, 2) := by decide +kernel
theorem dX7_joins_113 : decode cX7_joins 113 = .ok (.aload_n 0, 1) := by decide +kernel
theorem dX7_joins_114 : decode cX7_joins 114 = .ok (.getfield 84, 3) := by decide +kernel
theorem dX7_joins_117 : decode cX7_joins 117 = .ok (.iload 4, 2) := by decide +kernel
theorem dX7_joins_119 : decode cX7_joins 119 = .ok (.iaload, 1) := by decide +kernel
theorem dX7_joins_120 : decode cX7_joins 120 = .ok (.iastore, 1) := by decide +kernel
theorem dX7_joins_121 : decode cX7_joins 121 = .ok (.iinc 4 1, 3) := by decide +kernel
theorem dX7_joins_124 : decode cX7_joins 124 = .ok (.goto (-38), 3) := by decide +kernel
theorem dX7_joins_127 : decode cX7_joins 127 = .ok (.aload_n 0, 1) := by decide +kernel
theorem dX7_joins_128 : decode cX7_joins 128 = .ok (.iload_n 1, 1) := by decide +kernel
theorem dX7_joins_129 : decode cX7_joins 129 = .ok (.iload_n 2, 1) := by decide +kernel
theorem dX7_joins_130 : decode cX7_joins 130 = .ok (.invokevirtual 292, 3) := by decide +kernel
theorem dX7_joins_133 : decode cX7_joins 133 = .ok (.aload_n 0, 1) := by decide +kernel
theorem dX7_joins_134 : decode cX7_joins 134 = .ok (.iload_n 1, 1) := by decide +kernel
theorem dX7_joins_135 : decode cX7_joins 135 = .ok (.iload_n 3, 1) := by decide +kernel
theorem dX7_joins_136 : decode cX7_joins 136 = .ok (.invokevirtual 295, 3) := by decide +kernel
theorem dX7_joins_139 : decode cX7_joins 139 = .ok (.return_, 1) := by decide +kernel
theorem dX7_merge_0 : decode cX7_merge 0 = .ok (.aload_n 0, 1) := by decide +kernel
theorem dX7_merge_1 : decode cX7_merge 1 = .ok (.iload_n 1, 1) := by decide +kernel
theorem dX7_merge_2 : decode cX7_merge 2 = .ok (.invokevirtual 160, 3) := by decide +kernel
theorem dX7_merge_5 : decode cX7_merge 5 = .ok (.ifCond .eq 6, 3) := by decide +kernel
theorem dX7_merge_8 : decode cX7_merge 8 = .ok (.ldc 163, 2) := by decide +kernel
theorem dX7_merge_10 : decode cX7_merge 10 = .ok (.ireturn, 1) := by decide +kernel
theorem dX7_merge_11 : decode cX7_merge 11 = .ok (.aload_n 0, 1) := by decide +kernel
theorem dX7_merge_12 : decode cX7_merge 12 = .ok (.iload_n 1, 1) := by decide +kernel
theorem dX7_merge_13 : decode cX7_merge 13 = .ok (.invokevirtual 298, 3) := by decide +kernel
theorem dX7_merge_16 : decode cX7_merge 16 = .ok (.iconst 0, 1) := by decide +kernel
theorem dX7_merge_17 : decode cX7_merge 17 = .ok (.istore_n 2, 1) := by decide +kernel
theorem dX7_merge_18 : decode cX7_merge 18 = .ok (.iconst 1, 1) := by decide +kernel
theorem dX7_merge_19 : decode cX7_merge 19 = .ok (.istore_n 3, 1) := by decide +kernel
theorem dX7_merge_20 : decode cX7_merge 20 = .ok (.iload_n 3, 1) := by decide +kernel
theorem dX7_merge_21 : decode cX7_merge 21 = .ok (.aload_n 0, 1) := by decide +kernel
theorem dX7_merge_22 : decode cX7_merge 22 = .ok (.iload_n 1, 1) := by decide +kernel
theorem dX7_merge_23 : decode cX7_merge 23 = .ok (.iconst 3, 1) := by decide +kernel
theorem dX7_merge_24 : decode cX7_merge 24 = .ok (.invokevirtual 155, 3) := by decide +kernel
theorem dX7_merge_27 : decode cX7_merge 27 = .ok (.if_icmp .ge 55, 3) := by decide +kernel
theorem dX7_merge_30 : decode cX7_merge 30 = .ok (.iconst 0, 1) := by decide +kernel
theorem dX7_merge_31 : decode cX7_merge 31 = .ok (.istore 4, 2) := by decide +kernel
theorem dX7_merge_33 : decode cX7_merge 33 = .ok (.iload 4, 2) := by decide +kernel
theorem dX7_merge_35 : decode cX7_merge 35 = .ok (.iload_n 3, 1) := by decide +kernel
theorem dX7_merge_36 : decode cX7_merge 36 = .ok (.if_icmp .ge 20, 3) := by decide +kernel
theorem dX7_merge_39 : decode cX7_merge 39 = .ok (.aload_n 0, 1) := by decide +kernel
theorem dX7_merge_40 : decode cX7_merge 40 = .ok (.iload_n 1, 1) := by decide +kernel
theorem dX7_merge_41 : decode cX7_merge 41 = .ok (.iload_n 3, 1) := by decide +kernel
theorem dX7_merge_42 : decode cX7_merge 42 = .ok (.iload 4, 2) := by decide +kernel
theorem dX7_merge_44 : decode cX7_merge 44 = .ok (.invokevirtual 301, 3) := by decide +kernel
theorem dX7_merge_47 : decode cX7_merge 47 = .ok (.ifCond .ne 9, 3) := by decide +kernel
theorem dX7_merge_50 : decode cX7_merge 50 = .ok (.iinc 4 1, 3) := by decide +kernel
theorem dX7_merge_53 : decode cX7_merge 53 = .ok (.goto (-20), 3) := by decide +kernel
theorem dX7_merge_56 : decode cX7_merge 56 = .ok (.iload 4, 2) := by decide +kernel
theorem dX7_merge_58 : decode cX7_merge 58 = .ok (.iload_n 3, 1) := by decide +kernel
theorem dX7_merge_59 : decode cX7_merge 59 = .ok (.if_icmp .ge 17, 3) := by decide +kernel
theorem dX7_merge_62 : decode cX7_merge 62 = .ok (.aload_n 0, 1) := by decide +kernel
theorem dX7_merge_63 : decode cX7_merge 63 = .ok (.iload_n 1, 1) := by decide +kernel
theorem dX7_merge_64 : decode cX7_merge 64 = .ok (.iload 4, 2) := by decide +kernel
theorem dX7_merge_66 : decode cX7_merge 66 = .ok (.iload_n 3, 1) := by decide +kernel
theorem dX7_merge_67 : decode cX7_merge 67 = .ok (.invokevirtual 304, 3) := by decide +kernel
theorem dX7_merge_70 : decode cX7_merge 70 = .ok (.iinc 2 1, 3) := by decide +kernel
theorem dX7_merge_73 : decode cX7_merge 73 = .ok (.goto 6, 3) := by decide +kernel
theorem dX7_merge_76 : decode cX7_merge 76 = .ok (.iinc 3 1, 3) := by decide +kernel
theorem dX7_merge_79 : decode cX7_merge 79 = .ok (.goto (-59), 3) := by decide +kernel
theorem dX7_merge_82 : decode cX7_merge 82 = .ok (.iload_n 2, 1) := by decide +kernel
theorem dX7_merge_83 : decode cX7_merge 83 = .ok (.ireturn, 1) := by decide +kernel
theorem dX7_isAsLaid_0 : decode cX7_isAsLaid 0 = .ok (.iconst 0, 1) := by decide +kernel
theorem dX7_isAsLaid_1 : decode cX7_isAsLaid 1 = .ok (.istore_n 3, 1) := by decide +kernel
theorem dX7_isAsLaid_2 : decode cX7_isAsLaid 2 = .ok (.iload_n 3, 1) := by decide +kernel
theorem dX7_isAsLaid_3 : decode cX7_isAsLaid 3 = .ok (.aload_n 0, 1) := by decide +kernel
theorem dX7_isAsLaid_4 : decode cX7_isAsLaid 4 = .ok (.iload_n 1, 1) := by decide +kernel
theorem dX7_isAsLaid_5 : decode cX7_isAsLaid 5 = .ok (.iconst 2, 1) := by decide +kernel
theorem dX7_isAsLaid_6 : decode cX7_isAsLaid 6 = .ok (.invokevirtual 155, 3) := by decide +kernel
theorem dX7_isAsLaid_9 : decode cX7_isAsLaid 9 = .ok (.if_icmp .gt 57, 3) := by decide +kernel
theorem dX7_isAsLaid_12 : decode cX7_isAsLaid 12 = .ok (.aload_n 0, 1) := by decide +kernel
theorem dX7_isAsLaid_13 : decode cX7_isAsLaid 13 = .ok (.iload_n 1, 1) := by decide +kernel
theorem dX7_isAsLaid_14 : decode cX7_isAsLaid 14 = .ok (.iload_n 3, 1) := by decide +kernel
theorem dX7_isAsLaid_15 : decode cX7_isAsLaid 15 = .ok (.invokevirtual 285, 3) := by decide +kernel
theorem dX7_isAsLaid_18 : decode cX7_isAsLaid 18 = .ok (.istore 4, 2) := by decide +kernel
theorem dX7_isAsLaid_20 : decode cX7_isAsLaid 20 = .ok (.aload_n 0, 1) := by decide +kernel
theorem dX7_isAsLaid_21 : decode cX7_isAsLaid 21 = .ok (.getfield 75, 3) := by decide +kernel
theorem dX7_isAsLaid_24 : decode cX7_isAsLaid 24 = .ok (.iload 4, 2) := by decide +kernel
theorem dX7_isAsLaid_26 : decode cX7_isAsLaid 26 = .ok (.iaload, 1) := by decide +kernel
theorem dX7_isAsLaid_27 : decode cX7_isAsLaid 27 = .ok (.aload_n 0, 1) := by decide +kernel
theorem dX7_isAsLaid_28 : decode cX7_isAsLaid 28 = .ok (.iload_n 1, 1) := by decide +kernel
theorem dX7_isAsLaid_29 : decode cX7_isAsLaid 29 = .ok (.iload_n 2, 1) := by decide +kernel
theorem dX7_isAsLaid_30 : decode cX7_isAsLaid 30 = .ok (.iload 4, 2) := by decide +kernel
theorem dX7_isAsLaid_32 : decode cX7_isAsLaid 32 = .ok (.iconst 0, 1) := by decide +kernel
theorem dX7_isAsLaid_33 : decode cX7_isAsLaid 33 = .ok (.invokevirtual 224, 3) := by decide +kernel
theorem dX7_isAsLaid_36 : decode cX7_isAsLaid 36 = .ok (.if_icmp .ne 22, 3) := by decide +kernel
theorem dX7_isAsLaid_39 : decode cX7_isAsLaid 39 = .ok (.aload_n 0, 1) := by decide +kernel
theorem dX7_isAsLaid_40 : decode cX7_isAsLaid 40 = .ok (.getfield 78, 3) := by decide +kernel
theorem dX7_isAsLaid_43 : decode cX7_isAsLaid 43 = .ok (.iload 4, 2) := by decide +kernel
theorem dX7_isAsLaid_45 : decode cX7_isAsLaid 45 = .ok (.iaload, 1) := by decide +kernel
theorem dX7_isAsLaid_46 : decode cX7_isAsLaid 46 = .ok (.aload_n 0, 1) := by decide +kernel
theorem dX7_isAsLaid_47 : decode cX7_isAsLaid 47 = .ok (.iload_n 1, 1) := by decide +kernel
theorem dX7_isAsLaid_48 : decode cX7_isAsLaid 48 = .ok (.iload_n 2, 1) := by decide +kernel
theorem dX7_isAsLaid_49 : decode cX7_isAsLaid 49 = .ok (.iload 4, 2) := by decide +kernel
theorem dX7_isAsLaid_51 : decode cX7_isAsLaid 51 = .ok (.iconst 1, 1) := by decide +kernel
theorem dX7_isAsLaid_52 : decode cX7_isAsLaid 52 = .ok (.invokevirtual 224, 3) := by decide +kernel
theorem dX7_isAsLaid_55 : decode cX7_isAsLaid 55 = .ok (.if_icmp .eq 5, 3) := by decide +kernel
theorem dX7_isAsLaid_58 : decode cX7_isAsLaid 58 = .ok (.iconst 0, 1) := by decide +kernel
theorem dX7_isAsLaid_59 : decode cX7_isAsLaid 59 = .ok (.ireturn, 1) := by decide +kernel
theorem dX7_isAsLaid_60 : decode cX7_isAsLaid 60 = .ok (.iinc 3 1, 3) := by decide +kernel
theorem dX7_isAsLaid_63 : decode cX7_isAsLaid 63 = .ok (.goto (-61), 3) := by decide +kernel
theorem dX7_isAsLaid_66 : decode cX7_isAsLaid 66 = .ok (.iconst 1, 1) := by decide +kernel
theorem dX7_isAsLaid_67 : decode cX7_isAsLaid 67 = .ok (.ireturn, 1) := by decide +kernel
theorem dX7_compact_0 : decode cX7_compact 0 = .ok (.aload_n 0, 1) := by decide +kernel
theorem dX7_compact_1 : decode cX7_compact 1 = .ok (.iload_n 1, 1) := by decide +kernel
theorem dX7_compact_2 : decode cX7_compact 2 = .ok (.iload_n 2, 1) := by decide +kernel
theorem dX7_compact_3 : decode cX7_compact 3 = .ok (.invokevirtual 188, 3) := by decide +kernel
theorem dX7_compact_6 : decode cX7_compact 6 = .ok (.istore_n 3, 1) := by decide +kernel
theorem dX7_compact_7 : decode cX7_compact 7 = .ok (.iload_n 3, 1) := by decide +kernel
theorem dX7_compact_8 : decode cX7_compact 8 = .ok (.ifCond .ge 5, 3) := by decide +kernel
theorem dX7_compact_11 : decode cX7_compact 11 = .ok (.iload_n 3, 1) := by decide +kernel
theorem dX7_compact_12 : decode cX7_compact 12 = .ok (.ireturn, 1) := by decide +kernel
theorem dX7_compact_13 : decode cX7_compact 13 = .ok (.aload_n 0, 1) := by decide +kernel
theorem dX7_compact_14 : decode cX7_compact 14 = .ok (.iload_n 1, 1) := by decide +kernel
theorem dX7_compact_15 : decode cX7_compact 15 = .ok (.invokevirtual 298, 3) := by decide +kernel
theorem dX7_compact_18 : decode cX7_compact 18 = .ok (.aload_n 0, 1) := by decide +kernel
theorem dX7_compact_19 : decode cX7_compact 19 = .ok (.iload_n 1, 1) := by decide +kernel
theorem dX7_compact_20 : decode cX7_compact 20 = .ok (.iload_n 2, 1) := by decide +kernel
theorem dX7_compact_21 : decode cX7_compact 21 = .ok (.invokevirtual 288, 3) := by decide +kernel
theorem dX7_compact_24 : decode cX7_compact 24 = .ok (.iconst 0, 1) := by decide +kernel
theorem dX7_compact_25 : decode cX7_compact 25 = .ok (.istore 4, 2) := by decide +kernel
theorem dX7_compact_27 : decode cX7_compact 27 = .ok (.iconst 0, 1) := by decide +kernel
theorem dX7_compact_28 : decode cX7_compact 28 = .ok (.istore 5, 2) := by decide +kernel
theorem dX7_compact_30 : decode cX7_compact 30 = .ok (.iload 5, 2) := by decide +kernel
theorem dX7_compact_32 : decode cX7_compact 32 = .ok (.aload_n 0, 1) := by decide +kernel
theorem dX7_compact_33 : decode cX7_compact 33 = .ok (.iload_n 1, 1) := by decide +kernel
theorem dX7_compact_34 : decode cX7_compact 34 = .ok (.iconst 2, 1) := by decide +kernel
theorem dX7_compact_35 : decode cX7_compact 35 = .ok (.invokevirtual 155, 3) := by decide +kernel
theorem dX7_compact_38 : decode cX7_compact 38 = .ok (.if_icmp .gt 85, 3) := by decide +kernel
theorem dX7_compact_41 : decode cX7_compact 41 = .ok (.iload_n 2, 1) := by decide +kernel
theorem dX7_compact_42 : decode cX7_compact 42 = .ok (.invokestatic 178, 3) := by decide +kernel
theorem dX7_compact_45 : decode cX7_compact 45 = .ok (.bipush 12, 2) := by decide +kernel
theorem dX7_compact_47 : decode cX7_compact 47 = .ok (.iadd, 1) := by decide +kernel
theorem dX7_compact_48 : decode cX7_compact 48 = .ok (.aload_n 0, 1) := by decide +kernel
theorem dX7_compact_49 : decode cX7_compact 49 = .ok (.iload_n 1, 1) := by decide +kernel
theorem dX7_compact_50 : decode cX7_compact 50 = .ok (.iload 5, 2) := by decide +kernel
theorem dX7_compact_52 : decode cX7_compact 52 = .ok (.invokevirtual 285, 3) := by decide +kernel
theorem dX7_compact_55 : decode cX7_compact 55 = .ok (.iadd, 1) := by decide +kernel
theorem dX7_compact_56 : decode cX7_compact 56 = .ok (.istore 6, 2) := by decide +kernel
theorem dX7_compact_58 : decode cX7_compact 58 = .ok (.aload_n 0, 1) := by decide +kernel
theorem dX7_compact_59 : decode cX7_compact 59 = .ok (.iload_n 1, 1) := by decide +kernel
theorem dX7_compact_60 : decode cX7_compact 60 = .ok (.iload 6, 2) := by decide +kernel
theorem dX7_compact_62 : decode cX7_compact 62 = .ok (.invokevirtual 155, 3) := by decide +kernel
theorem dX7_compact_65 : decode cX7_compact 65 = .ok (.iconst 1, 1) := by decide +kernel
theorem dX7_compact_66 : decode cX7_compact 66 = .ok (.if_icmp .ne 51, 3) := by decide +kernel
theorem dX7_compact_69 : decode cX7_compact 69 = .ok (.aload_n 0, 1) := by decide +kernel
theorem dX7_compact_70 : decode cX7_compact 70 = .ok (.iload_n 1, 1) := by decide +kernel
theorem dX7_compact_71 : decode cX7_compact 71 = .ok (.iload 6, 2) := by decide +kernel
theorem dX7_compact_73 : decode cX7_compact 73 = .ok (.iconst 0, 1) := by decide +kernel
theorem dX7_compact_74 : decode cX7_compact 74 = .ok (.invokevirtual 151, 3) := by decide +kernel
theorem dX7_compact_77 : decode cX7_compact 77 = .ok (.aload_n 0, 1) := by decide +kernel
theorem dX7_compact_78 : decode cX7_compact 78 = .ok (.iload_n 1, 1) := by decide +kernel
theorem dX7_compact_79 : decode cX7_compact 79 = .ok (.iload_n 2, 1) := by decide +kernel
theorem dX7_compact_80 : decode cX7_compact 80 = .ok (.invokevirtual 307, 3) := by decide +kernel
theorem dX7_compact_83 : decode cX7_compact 83 = .ok (.istore 7, 2) := by decide +kernel
theorem dX7_compact_85 : decode cX7_compact 85 = .ok (.aload_n 0, 1) := by decide +kernel
theorem dX7_compact_86 : decode cX7_compact 86 = .ok (.iload_n 1, 1) := by decide +kernel
theorem dX7_compact_87 : decode cX7_compact 87 = .ok (.iload 6, 2) := by decide +kernel
theorem dX7_compact_89 : decode cX7_compact 89 = .ok (.iload 7, 2) := by decide +kernel
theorem dX7_compact_91 : decode cX7_compact 91 = .ok (.ifCond .eq 7, 3) := by decide +kernel
theorem dX7_compact_94 : decode cX7_compact 94 = .ok (.iconst 0, 1) := by decide +kernel
theorem dX7_compact_95 : decode cX7_compact 95 = .ok (.goto 4, 3) := by decide +kernel
theorem dX7_compact_98 : decode cX7_compact 98 = .ok (.iconst 1, 1) := by decide +kernel
theorem dX7_compact_99 : decode cX7_compact 99 = .ok (.invokevirtual 151, 3) := by decide +kernel
theorem dX7_compact_102 : decode cX7_compact 102 = .ok (.iload 4, 2) := by decide +kernel
theorem dX7_compact_104 : decode cX7_compact 104 = .ok (.iload 7, 2) := by decide +kernel
theorem dX7_compact_106 : decode cX7_compact 106 = .ok (.ifCond .eq 7, 3) := by decide +kernel
theorem dX7_compact_109 : decode cX7_compact 109 = .ok (.iconst 1, 1) := by decide +kernel
theorem dX7_compact_110 : decode cX7_compact 110 = .ok (.goto 4, 3) := by decide +kernel
theorem dX7_compact_113 : decode cX7_compact 113 = .ok (.iconst 0, 1) := by decide +kernel
theorem dX7_compact_114 : decode cX7_compact 114 = .ok (.iadd, 1) := by decide +kernel
theorem dX7_compact_115 : decode cX7_compact 115 = .ok (.istore 4, 2) := by decide +kernel
theorem dX7_compact_117 : decode cX7_compact 117 = .ok (.iinc 5 1, 3) := by decide +kernel
theorem dX7_compact_120 : decode cX7_compact 120 = .ok (.goto (-90), 3) := by decide +kernel
theorem dX7_compact_123 : decode cX7_compact 123 = .ok (.iload 4, 2) := by decide +kernel
theorem dX7_compact_125 : decode cX7_compact 125 = .ok (.ireturn, 1) := by decide +kernel
theorem dX7_isFolded_0 : decode cX7_isFolded 0 = .ok (.iconst 1, 1) := by decide +kernel
theorem dX7_isFolded_1 : decode cX7_isFolded 1 = .ok (.istore_n 3, 1) := by decide +kernel
theorem dX7_isFolded_2 : decode cX7_isFolded 2 = .ok (.iconst 0, 1) := by decide +kernel
theorem dX7_isFolded_3 : decode cX7_isFolded 3 = .ok (.istore 4, 2) := by decide +kernel
theorem dX7_isFolded_5 : decode cX7_isFolded 5 = .ok (.iload 4, 2) := by decide +kernel
theorem dX7_isFolded_7 : decode cX7_isFolded 7 = .ok (.aload_n 0, 1) := by decide +kernel
theorem dX7_isFolded_8 : decode cX7_isFolded 8 = .ok (.getfield 107, 3) := by decide +kernel
theorem dX7_isFolded_11 : decode cX7_isFolded 11 = .ok (.if_icmp .ge 48, 3) := by decide +kernel
theorem dX7_isFolded_14 : decode cX7_isFolded 14 = .ok (.iload_n 3, 1) := by decide +kernel
theorem dX7_isFolded_15 : decode cX7_isFolded 15 = .ok (.ifCond .eq 36, 3) := by decide +kernel
theorem dX7_isFolded_18 : decode cX7_isFolded 18 = .ok (.aload_n 0, 1) := by decide +kernel
theorem dX7_isFolded_19 : decode cX7_isFolded 19 = .ok (.iload_n 1, 1) := by decide +kernel
theorem dX7_isFolded_20 : decode cX7_isFolded 20 = .ok (.iload_n 2, 1) := by decide +kernel
theorem dX7_isFolded_21 : decode cX7_isFolded 21 = .ok (.invokestatic 178, 3) := by decide +kernel
theorem dX7_isFolded_24 : decode cX7_isFolded 24 = .ok (.iconst 3, 1) := by decide +kernel
theorem dX7_isFolded_25 : decode cX7_isFolded 25 = .ok (.iload 4, 2) := by decide +kernel
theorem dX7_isFolded_27 : decode cX7_isFolded 27 = .ok (.imul, 1) := by decide +kernel
theorem dX7_isFolded_28 : decode cX7_isFolded 28 = .ok (.iadd, 1) := by decide +kernel
theorem dX7_isFolded_29 : decode cX7_isFolded 29 = .ok (.iconst 1, 1) := by decide +kernel
theorem dX7_isFolded_30 : decode cX7_isFolded 30 = .ok (.iadd, 1) := by decide +kernel
theorem dX7_isFolded_31 : decode cX7_isFolded 31 = .ok (.invokevirtual 155, 3) := by decide +kernel
theorem dX7_isFolded_34 : decode cX7_isFolded 34 = .ok (.ifCond .eq 13, 3) := by decide +kernel
theorem dX7_isFolded_37 : decode cX7_isFolded 37 = .ok (.aload_n 0, 1) := by decide +kernel
theorem dX7_isFolded_38 : decode cX7_isFolded 38 = .ok (.getfield 22, 3) := by decide +kernel
theorem dX7_isFolded_41 : decode cX7_isFolded 41 = .ok (.iload 4, 2) := by decide +kernel
theorem dX7_isFolded_43 : decode cX7_isFolded 43 = .ok (.baload, 1) := by decide +kernel
theorem dX7_isFolded_44 : decode cX7_isFolded 44 = .ok (.ifCond .eq 7, 3) := by decide +kernel
theorem dX7_isFolded_47 : decode cX7_isFolded 47 = .ok (.iconst 1, 1) := by decide +kernel
theorem dX7_isFolded_48 : decode cX7_isFolded 48 = .ok (.goto 4, 3) := by decide +kernel
theorem dX7_isFolded_51 : decode cX7_isFolded 51 = .ok (.iconst 0, 1) := by decide +kernel
theorem dX7_isFolded_52 : decode cX7_isFolded 52 = .ok (.istore_n 3, 1) := by decide +kernel
theorem dX7_isFolded_53 : decode cX7_isFolded 53 = .ok (.iinc 4 1, 3) := by decide +kernel
theorem dX7_isFolded_56 : decode cX7_isFolded 56 = .ok (.goto (-51), 3) := by decide +kernel
theorem dX7_isFolded_59 : decode cX7_isFolded 59 = .ok (.iload_n 3, 1) := by decide +kernel
theorem dX7_isFolded_60 : decode cX7_isFolded 60 = .ok (.ireturn, 1) := by decide +kernel
theorem dX7_addMoves_0 : decode cX7_addMoves 0 = .ok (.aload_n 0, 1) := by decide +kernel
theorem dX7_addMoves_1 : decode cX7_addMoves 1 = .ok (.iload_n 1, 1) := by decide +kernel
theorem dX7_addMoves_2 : decode cX7_addMoves 2 = .ok (.iload_n 2, 1) := by decide +kernel
theorem dX7_addMoves_3 : decode cX7_addMoves 3 = .ok (.invokevirtual 229, 3) := by decide +kernel
theorem dX7_addMoves_6 : decode cX7_addMoves 6 = .ok (.lstore_n 3, 1) := by decide +kernel
theorem dX7_addMoves_7 : decode cX7_addMoves 7 = .ok (.iconst 0, 1) := by decide +kernel
theorem dX7_addMoves_8 : decode cX7_addMoves 8 = .ok (.istore 5, 2) := by decide +kernel
theorem dX7_addMoves_10 : decode cX7_addMoves 10 = .ok (.iload 5, 2) := by decide +kernel
theorem dX7_addMoves_12 : decode cX7_addMoves 12 = .ok (.aload_n 0, 1) := by decide +kernel
theorem dX7_addMoves_13 : decode cX7_addMoves 13 = .ok (.iload_n 1, 1) := by decide +kernel
theorem dX7_addMoves_14 : decode cX7_addMoves 14 = .ok (.iconst 2, 1) := by decide +kernel
theorem dX7_addMoves_15 : decode cX7_addMoves 15 = .ok (.invokevirtual 155, 3) := by decide +kernel
theorem dX7_addMoves_18 : decode cX7_addMoves 18 = .ok (.if_icmp .gt 62, 3) := by decide +kernel
theorem dX7_addMoves_21 : decode cX7_addMoves 21 = .ok (.aload_n 0, 1) := by decide +kernel
theorem dX7_addMoves_22 : decode cX7_addMoves 22 = .ok (.iload_n 1, 1) := by decide +kernel
theorem dX7_addMoves_23 : decode cX7_addMoves 23 = .ok (.iload 5, 2) := by decide +kernel
theorem dX7_addMoves_25 : decode cX7_addMoves 25 = .ok (.invokevirtual 285, 3) := by decide +kernel
theorem dX7_addMoves_28 : decode cX7_addMoves 28 = .ok (.istore 6, 2) := by decide +kernel
theorem dX7_addMoves_30 : decode cX7_addMoves 30 = .ok (.aload_n 0, 1) := by decide +kernel
theorem dX7_addMoves_31 : decode cX7_addMoves 31 = .ok (.getfield 87, 3) := by decide +kernel
theorem dX7_addMoves_34 : decode cX7_addMoves 34 = .ok (.iload 6, 2) := by decide +kernel
theorem dX7_addMoves_36 : decode cX7_addMoves 36 = .ok (.dup2, 1) := by decide +kernel
theorem dX7_addMoves_37 : decode cX7_addMoves 37 = .ok (.laload, 1) := by decide +kernel
theorem dX7_addMoves_38 : decode cX7_addMoves 38 = .ok (.lload_n 3, 1) := by decide +kernel
theorem dX7_addMoves_39 : decode cX7_addMoves 39 = .ok (.aload_n 0, 1) := by decide +kernel
theorem dX7_addMoves_40 : decode cX7_addMoves 40 = .ok (.iload_n 1, 1) := by decide +kernel
theorem dX7_addMoves_41 : decode cX7_addMoves 41 = .ok (.iload_n 2, 1) := by decide +kernel
theorem dX7_addMoves_42 : decode cX7_addMoves 42 = .ok (.iload 6, 2) := by decide +kernel
theorem dX7_addMoves_44 : decode cX7_addMoves 44 = .ok (.iconst 0, 1) := by decide +kernel
theorem dX7_addMoves_45 : decode cX7_addMoves 45 = .ok (.invokevirtual 224, 3) := by decide +kernel
theorem dX7_addMoves_48 : decode cX7_addMoves 48 = .ok (.i2l, 1) := by decide +kernel
theorem dX7_addMoves_49 : decode cX7_addMoves 49 = .ok (.lmul, 1) := by decide +kernel
theorem dX7_addMoves_50 : decode cX7_addMoves 50 = .ok (.ladd, 1) := by decide +kernel
theorem dX7_addMoves_51 : decode cX7_addMoves 51 = .ok (.lastore, 1) := by decide +kernel
theorem dX7_addMoves_52 : decode cX7_addMoves 52 = .ok (.aload_n 0, 1) := by decide +kernel
theorem dX7_addMoves_53 : decode cX7_addMoves 53 = .ok (.getfield 90, 3) := by decide +kernel
theorem dX7_addMoves_56 : decode cX7_addMoves 56 = .ok (.iload 6, 2) := by decide +kernel
theorem dX7_addMoves_58 : decode cX7_addMoves 58 = .ok (.dup2, 1) := by decide +kernel
theorem dX7_addMoves_59 : decode cX7_addMoves 59 = .ok (.laload, 1) := by decide +kernel
theorem dX7_addMoves_60 : decode cX7_addMoves 60 = .ok (.lload_n 3, 1) := by decide +kernel
theorem dX7_addMoves_61 : decode cX7_addMoves 61 = .ok (.aload_n 0, 1) := by decide +kernel
theorem dX7_addMoves_62 : decode cX7_addMoves 62 = .ok (.iload_n 1, 1) := by decide +kernel
theorem dX7_addMoves_63 : decode cX7_addMoves 63 = .ok (.iload_n 2, 1) := by decide +kernel
theorem dX7_addMoves_64 : decode cX7_addMoves 64 = .ok (.iload 6, 2) := by decide +kernel
theorem dX7_addMoves_66 : decode cX7_addMoves 66 = .ok (.iconst 1, 1) := by decide +kernel
theorem dX7_addMoves_67 : decode cX7_addMoves 67 = .ok (.invokevirtual 224, 3) := by decide +kernel
theorem dX7_addMoves_70 : decode cX7_addMoves 70 = .ok (.i2l, 1) := by decide +kernel
theorem dX7_addMoves_71 : decode cX7_addMoves 71 = .ok (.lmul, 1) := by decide +kernel
theorem dX7_addMoves_72 : decode cX7_addMoves 72 = .ok (.ladd, 1) := by decide +kernel
theorem dX7_addMoves_73 : decode cX7_addMoves 73 = .ok (.lastore, 1) := by decide +kernel
theorem dX7_addMoves_74 : decode cX7_addMoves 74 = .ok (.iinc 5 1, 3) := by decide +kernel
theorem dX7_addMoves_77 : decode cX7_addMoves 77 = .ok (.goto (-67), 3) := by decide +kernel
theorem dX7_addMoves_80 : decode cX7_addMoves 80 = .ok (.return_, 1) := by decide +kernel
theorem dX7_moveBases_0 : decode cX7_moveBases 0 = .ok (.iconst 0, 1) := by decide +kernel
theorem dX7_moveBases_1 : decode cX7_moveBases 1 = .ok (.istore_n 2, 1) := by decide +kernel
theorem dX7_moveBases_2 : decode cX7_moveBases 2 = .ok (.iload_n 2, 1) := by decide +kernel
theorem dX7_moveBases_3 : decode cX7_moveBases 3 = .ok (.aload_n 0, 1) := by decide +kernel
theorem dX7_moveBases_4 : decode cX7_moveBases 4 = .ok (.iload_n 1, 1) := by decide +kernel
theorem dX7_moveBases_5 : decode cX7_moveBases 5 = .ok (.iconst 2, 1) := by decide +kernel
theorem dX7_moveBases_6 : decode cX7_moveBases 6 = .ok (.invokevirtual 155, 3) := by decide +kernel
theorem dX7_moveBases_9 : decode cX7_moveBases 9 = .ok (.if_icmp .ge 71, 3) := by decide +kernel
theorem dX7_moveBases_12 : decode cX7_moveBases 12 = .ok (.aload_n 0, 1) := by decide +kernel
theorem dX7_moveBases_13 : decode cX7_moveBases 13 = .ok (.iload_n 1, 1) := by decide +kernel
theorem dX7_moveBases_14 : decode cX7_moveBases 14 = .ok (.iconst 4, 1) := by decide +kernel
theorem dX7_moveBases_15 : decode cX7_moveBases 15 = .ok (.iload_n 2, 1) := by decide +kernel
theorem dX7_moveBases_16 : decode cX7_moveBases 16 = .ok (.iadd, 1) := by decide +kernel
theorem dX7_moveBases_17 : decode cX7_moveBases 17 = .ok (.aload_n 0, 1) := by decide +kernel
theorem dX7_moveBases_18 : decode cX7_moveBases 18 = .ok (.iload_n 1, 1) := by decide +kernel
theorem dX7_moveBases_19 : decode cX7_moveBases 19 = .ok (.iconst 4, 1) := by decide +kernel
theorem dX7_moveBases_20 : decode cX7_moveBases 20 = .ok (.iload_n 2, 1) := by decide +kernel
theorem dX7_moveBases_21 : decode cX7_moveBases 21 = .ok (.iadd, 1) := by decide +kernel
theorem dX7_moveBases_22 : decode cX7_moveBases 22 = .ok (.invokevirtual 155, 3) := by decide +kernel
theorem dX7_moveBases_25 : decode cX7_moveBases 25 = .ok (.aload_n 0, 1) := by decide +kernel
theorem dX7_moveBases_26 : decode cX7_moveBases 26 = .ok (.getfield 87, 3) := by decide +kernel
theorem dX7_moveBases_29 : decode cX7_moveBases 29 = .ok (.iload_n 2, 1) := by decide +kernel
theorem dX7_moveBases_30 : decode cX7_moveBases 30 = .ok (.laload, 1) := by decide +kernel
theorem dX7_moveBases_31 : decode cX7_moveBases 31 = .ok (.ldc2_w 227, 3) := by decide +kernel
theorem dX7_moveBases_34 : decode cX7_moveBases 34 = .ok (.invokestatic 134, 3) := by decide +kernel
theorem dX7_moveBases_37 : decode cX7_moveBases 37 = .ok (.l2i, 1) := by decide +kernel
theorem dX7_moveBases_38 : decode cX7_moveBases 38 = .ok (.iadd, 1) := by decide +kernel
theorem dX7_moveBases_39 : decode cX7_moveBases 39 = .ok (.invokevirtual 151, 3) := by decide +kernel
theorem dX7_moveBases_42 : decode cX7_moveBases 42 = .ok (.aload_n 0, 1) := by decide +kernel
theorem dX7_moveBases_43 : decode cX7_moveBases 43 = .ok (.iload_n 1, 1) := by decide +kernel
theorem dX7_moveBases_44 : decode cX7_moveBases 44 = .ok (.bipush 28, 2) := by decide +kernel
theorem dX7_moveBases_46 : decode cX7_moveBases 46 = .ok (.iload_n 2, 1) := by decide +kernel
theorem dX7_moveBases_47 : decode cX7_moveBases 47 = .ok (.iadd, 1) := by decide +kernel
theorem dX7_moveBases_48 : decode cX7_moveBases 48 = .ok (.aload_n 0, 1) := by decide +kernel
theorem dX7_moveBases_49 : decode cX7_moveBases 49 = .ok (.iload_n 1, 1) := by decide +kernel
theorem dX7_moveBases_50 : decode cX7_moveBases 50 = .ok (.bipush 28, 2) := by decide +kernel
theorem dX7_moveBases_52 : decode cX7_moveBases 52 = .ok (.iload_n 2, 1) := by decide +kernel
theorem dX7_moveBases_53 : decode cX7_moveBases 53 = .ok (.iadd, 1) := by decide +kernel
theorem dX7_moveBases_54 : decode cX7_moveBases 54 = .ok (.invokevirtual 155, 3) := by decide +kernel
theorem dX7_moveBases_57 : decode cX7_moveBases 57 = .ok (.aload_n 0, 1) := by decide +kernel
theorem dX7_moveBases_58 : decode cX7_moveBases 58 = .ok (.getfield 90, 3) := by decide +kernel
theorem dX7_moveBases_61 : decode cX7_moveBases 61 = .ok (.iload_n 2, 1) := by decide +kernel
theorem dX7_moveBases_62 : decode cX7_moveBases 62 = .ok (.laload, 1) := by decide +kernel
theorem dX7_moveBases_63 : decode cX7_moveBases 63 = .ok (.ldc2_w 227, 3) := by decide +kernel
theorem dX7_moveBases_66 : decode cX7_moveBases 66 = .ok (.invokestatic 134, 3) := by decide +kernel
theorem dX7_moveBases_69 : decode cX7_moveBases 69 = .ok (.l2i, 1) := by decide +kernel
theorem dX7_moveBases_70 : decode cX7_moveBases 70 = .ok (.iadd, 1) := by decide +kernel
theorem dX7_moveBases_71 : decode cX7_moveBases 71 = .ok (.invokevirtual 151, 3) := by decide +kernel
theorem dX7_moveBases_74 : decode cX7_moveBases 74 = .ok (.iinc 2 1, 3) := by decide +kernel
theorem dX7_moveBases_77 : decode cX7_moveBases 77 = .ok (.goto (-75), 3) := by decide +kernel
theorem dX7_moveBases_80 : decode cX7_moveBases 80 = .ok (.aload_n 0, 1) := by decide +kernel
theorem dX7_moveBases_81 : decode cX7_moveBases 81 = .ok (.iload_n 1, 1) := by decide +kernel
theorem dX7_moveBases_82 : decode cX7_moveBases 82 = .ok (.iconst 1, 1) := by decide +kernel
theorem dX7_moveBases_83 : decode cX7_moveBases 83 = .ok (.aload_n 0, 1) := by decide +kernel
theorem dX7_moveBases_84 : decode cX7_moveBases 84 = .ok (.iload_n 1, 1) := by decide +kernel
theorem dX7_moveBases_85 : decode cX7_moveBases 85 = .ok (.iconst 1, 1) := by decide +kernel
theorem dX7_moveBases_86 : decode cX7_moveBases 86 = .ok (.invokevirtual 155, 3) := by decide +kernel
theorem dX7_moveBases_89 : decode cX7_moveBases 89 = .ok (.aload_n 0, 1) := by decide +kernel
theorem dX7_moveBases_90 : decode cX7_moveBases 90 = .ok (.getfield 87, 3) := by decide +kernel
theorem dX7_moveBases_93 : decode cX7_moveBases 93 = .ok (.bipush 24, 2) := by decide +kernel
theorem dX7_moveBases_95 : decode cX7_moveBases 95 = .ok (.laload, 1) := by decide +kernel
theorem dX7_moveBases_96 : decode cX7_moveBases 96 = .ok (.ldc2_w 227, 3) := by decide +kernel
theorem dX7_moveBases_99 : decode cX7_moveBases 99 = .ok (.invokestatic 134, 3) := by decide +kernel
theorem dX7_moveBases_102 : decode cX7_moveBases 102 = .ok (.l2i, 1) := by decide +kernel
theorem dX7_moveBases_103 : decode cX7_moveBases 103 = .ok (.iadd, 1) := by decide +kernel
theorem dX7_moveBases_104 : decode cX7_moveBases 104 = .ok (.invokevirtual 151, 3) := by decide +kernel
theorem dX7_moveBases_107 : decode cX7_moveBases 107 = .ok (.return_, 1) := by decide +kernel
theorem dX7_fold_0 : decode cX7_fold 0 = .ok (.aload_n 0, 1) := by decide +kernel
theorem dX7_fold_1 : decode cX7_fold 1 = .ok (.iload_n 1, 1) := by decide +kernel
theorem dX7_fold_2 : decode cX7_fold 2 = .ok (.invokevirtual 160, 3) := by decide +kernel
theorem dX7_fold_5 : decode cX7_fold 5 = .ok (.ifCond .eq 6, 3) := by decide +kernel
theorem dX7_fold_8 : decode cX7_fold 8 = .ok (.ldc 163, 2) := by decide +kernel
theorem dX7_fold_10 : decode cX7_fold 10 = .ok (.ireturn, 1) := by decide +kernel
theorem dX7_fold_11 : decode cX7_fold 11 = .ok (.aload_n 0, 1) := by decide +kernel
theorem dX7_fold_12 : decode cX7_fold 12 = .ok (.iload_n 1, 1) := by decide +kernel
theorem dX7_fold_13 : decode cX7_fold 13 = .ok (.invokevirtual 298, 3) := by decide +kernel
theorem dX7_fold_16 : decode cX7_fold 16 = .ok (.iconst 0, 1) := by decide +kernel
theorem dX7_fold_17 : decode cX7_fold 17 = .ok (.istore_n 2, 1) := by decide +kernel
theorem dX7_fold_18 : decode cX7_fold 18 = .ok (.iconst 0, 1) := by decide +kernel
theorem dX7_fold_19 : decode cX7_fold 19 = .ok (.istore_n 3, 1) := by decide +kernel
theorem dX7_fold_20 : decode cX7_fold 20 = .ok (.iload_n 3, 1) := by decide +kernel
theorem dX7_fold_21 : decode cX7_fold 21 = .ok (.bipush 24, 2) := by decide +kernel
theorem dX7_fold_23 : decode cX7_fold 23 = .ok (.if_icmp .gt 23, 3) := by decide +kernel
theorem dX7_fold_26 : decode cX7_fold 26 = .ok (.aload_n 0, 1) := by decide +kernel
theorem dX7_fold_27 : decode cX7_fold 27 = .ok (.getfield 87, 3) := by decide +kernel
theorem dX7_fold_30 : decode cX7_fold 30 = .ok (.iload_n 3, 1) := by decide +kernel
theorem dX7_fold_31 : decode cX7_fold 31 = .ok (.lconst 0, 1) := by decide +kernel
theorem dX7_fold_32 : decode cX7_fold 32 = .ok (.lastore, 1) := by decide +kernel
theorem dX7_fold_33 : decode cX7_fold 33 = .ok (.aload_n 0, 1) := by decide +kernel
theorem dX7_fold_34 : decode cX7_fold 34 = .ok (.getfield 90, 3) := by decide +kernel
theorem dX7_fold_37 : decode cX7_fold 37 = .ok (.iload_n 3, 1) := by decide +kernel
theorem dX7_fold_38 : decode cX7_fold 38 = .ok (.lconst 0, 1) := by decide +kernel
theorem dX7_fold_39 : decode cX7_fold 39 = .ok (.lastore, 1) := by decide +kernel
theorem dX7_fold_40 : decode cX7_fold 40 = .ok (.iinc 3 1, 3) := by decide +kernel
theorem dX7_fold_43 : decode cX7_fold 43 = .ok (.goto (-23), 3) := by decide +kernel
theorem dX7_fold_46 : decode cX7_fold 46 = .ok (.iconst 0, 1) := by decide +kernel
theorem dX7_fold_47 : decode cX7_fold 47 = .ok (.istore_n 3, 1) := by decide +kernel
theorem dX7_fold_48 : decode cX7_fold 48 = .ok (.iload_n 3, 1) := by decide +kernel
theorem dX7_fold_49 : decode cX7_fold 49 = .ok (.aload_n 0, 1) := by decide +kernel
theorem dX7_fold_50 : decode cX7_fold 50 = .ok (.iload_n 1, 1) := by decide +kernel
theorem dX7_fold_51 : decode cX7_fold 51 = .ok (.iconst 3, 1) := by decide +kernel
theorem dX7_fold_52 : decode cX7_fold 52 = .ok (.invokevirtual 155, 3) := by decide +kernel
theorem dX7_fold_55 : decode cX7_fold 55 = .ok (.if_icmp .ge 27, 3) := by decide +kernel
theorem dX7_fold_58 : decode cX7_fold 58 = .ok (.aload_n 0, 1) := by decide +kernel
theorem dX7_fold_59 : decode cX7_fold 59 = .ok (.iload_n 1, 1) := by decide +kernel
theorem dX7_fold_60 : decode cX7_fold 60 = .ok (.iload_n 3, 1) := by decide +kernel
theorem dX7_fold_61 : decode cX7_fold 61 = .ok (.invokevirtual 310, 3) := by decide +kernel
theorem dX7_fold_64 : decode cX7_fold 64 = .ok (.ifCond .eq 12, 3) := by decide +kernel
theorem dX7_fold_67 : decode cX7_fold 67 = .ok (.aload_n 0, 1) := by decide +kernel
theorem dX7_fold_68 : decode cX7_fold 68 = .ok (.iload_n 1, 1) := by decide +kernel
theorem dX7_fold_69 : decode cX7_fold 69 = .ok (.iload_n 3, 1) := by decide +kernel
theorem dX7_fold_70 : decode cX7_fold 70 = .ok (.invokevirtual 313, 3) := by decide +kernel
theorem dX7_fold_73 : decode cX7_fold 73 = .ok (.iinc 2 1, 3) := by decide +kernel
theorem dX7_fold_76 : decode cX7_fold 76 = .ok (.iinc 3 1, 3) := by decide +kernel
theorem dX7_fold_79 : decode cX7_fold 79 = .ok (.goto (-31), 3) := by decide +kernel
theorem dX7_fold_82 : decode cX7_fold 82 = .ok (.iload_n 2, 1) := by decide +kernel
theorem dX7_fold_83 : decode cX7_fold 83 = .ok (.ifCond .ne 5, 3) := by decide +kernel
theorem dX7_fold_86 : decode cX7_fold 86 = .ok (.iconst 0, 1) := by decide +kernel
theorem dX7_fold_87 : decode cX7_fold 87 = .ok (.ireturn, 1) := by decide +kernel
theorem dX7_fold_88 : decode cX7_fold 88 = .ok (.aload_n 0, 1) := by decide +kernel
theorem dX7_fold_89 : decode cX7_fold 89 = .ok (.iload_n 1, 1) := by decide +kernel
theorem dX7_fold_90 : decode cX7_fold 90 = .ok (.iconst 3, 1) := by decide +kernel
theorem dX7_fold_91 : decode cX7_fold 91 = .ok (.invokevirtual 155, 3) := by decide +kernel
theorem dX7_fold_94 : decode cX7_fold 94 = .ok (.iconst 1, 1) := by decide +kernel
theorem dX7_fold_95 : decode cX7_fold 95 = .ok (.isub, 1) := by decide +kernel
theorem dX7_fold_96 : decode cX7_fold 96 = .ok (.istore_n 3, 1) := by decide +kernel
theorem dX7_fold_97 : decode cX7_fold 97 = .ok (.iload_n 3, 1) := by decide +kernel
theorem dX7_fold_98 : decode cX7_fold 98 = .ok (.ifCond .lt 48, 3) := by decide +kernel
theorem dX7_fold_101 : decode cX7_fold 101 = .ok (.aload_n 0, 1) := by decide +kernel
theorem dX7_fold_102 : decode cX7_fold 102 = .ok (.iload_n 1, 1) := by decide +kernel
theorem dX7_fold_103 : decode cX7_fold 103 = .ok (.iload_n 3, 1) := by decide +kernel
theorem dX7_fold_104 : decode cX7_fold 104 = .ok (.invokevirtual 310, 3) := by decide +kernel
theorem dX7_fold_107 : decode cX7_fold 107 = .ok (.ifCond .eq 12, 3) := by decide +kernel
theorem dX7_fold_110 : decode cX7_fold 110 = .ok (.aload_n 0, 1) := by decide +kernel
theorem dX7_fold_111 : decode cX7_fold 111 = .ok (.iload_n 1, 1) := by decide +kernel
theorem dX7_fold_112 : decode cX7_fold 112 = .ok (.iload_n 3, 1) := by decide +kernel
theorem dX7_fold_113 : decode cX7_fold 113 = .ok (.invokevirtual 295, 3) := by decide +kernel
theorem dX7_fold_116 : decode cX7_fold 116 = .ok (.goto 24, 3) := by decide +kernel
theorem dX7_fold_119 : decode cX7_fold 119 = .ok (.aload_n 0, 1) := by decide +kernel
theorem dX7_fold_120 : decode cX7_fold 120 = .ok (.iload_n 1, 1) := by decide +kernel
theorem dX7_fold_121 : decode cX7_fold 121 = .ok (.iconst 0, 1) := by decide +kernel
theorem dX7_fold_122 : decode cX7_fold 122 = .ok (.invokevirtual 155, 3) := by decide +kernel
theorem dX7_fold_125 : decode cX7_fold 125 = .ok (.ifCond .ne 15, 3) := by decide +kernel
theorem dX7_fold_128 : decode cX7_fold 128 = .ok (.aload_n 0, 1) := by decide +kernel
theorem dX7_fold_129 : decode cX7_fold 129 = .ok (.iload_n 1, 1) := by decide +kernel
theorem dX7_fold_130 : decode cX7_fold 130 = .ok (.iload_n 3, 1) := by decide +kernel
theorem dX7_fold_131 : decode cX7_fold 131 = .ok (.invokevirtual 288, 3) := by decide +kernel
theorem dX7_fold_134 : decode cX7_fold 134 = .ok (.aload_n 0, 1) := by decide +kernel
theorem dX7_fold_135 : decode cX7_fold 135 = .ok (.iload_n 1, 1) := by decide +kernel
theorem dX7_fold_136 : decode cX7_fold 136 = .ok (.iload_n 3, 1) := by decide +kernel
theorem dX7_fold_137 : decode cX7_fold 137 = .ok (.invokevirtual 292, 3) := by decide +kernel
theorem dX7_fold_140 : decode cX7_fold 140 = .ok (.iinc 3 (-1), 3) := by decide +kernel
theorem dX7_fold_143 : decode cX7_fold 143 = .ok (.goto (-46), 3) := by decide +kernel
theorem dX7_fold_146 : decode cX7_fold 146 = .ok (.aload_n 0, 1) := by decide +kernel
theorem dX7_fold_147 : decode cX7_fold 147 = .ok (.iload_n 1, 1) := by decide +kernel
theorem dX7_fold_148 : decode cX7_fold 148 = .ok (.invokevirtual 316, 3) := by decide +kernel
theorem dX7_fold_151 : decode cX7_fold 151 = .ok (.iload_n 2, 1) := by decide +kernel
theorem dX7_fold_152 : decode cX7_fold 152 = .ok (.ireturn, 1) := by decide +kernel
theorem dX7_isNothing_0 : decode cX7_isNothing 0 = .ok (.iconst 0, 1) := by decide +kernel
theorem dX7_isNothing_1 : decode cX7_isNothing 1 = .ok (.istore_n 3, 1) := by decide +kernel
theorem dX7_isNothing_2 : decode cX7_isNothing 2 = .ok (.iload_n 3, 1) := by decide +kernel
theorem dX7_isNothing_3 : decode cX7_isNothing 3 = .ok (.aload_n 0, 1) := by decide +kernel
theorem dX7_isNothing_4 : decode cX7_isNothing 4 = .ok (.iload_n 1, 1) := by decide +kernel
theorem dX7_isNothing_5 : decode cX7_isNothing 5 = .ok (.iconst 2, 1) := by decide +kernel
theorem dX7_isNothing_6 : decode cX7_isNothing 6 = .ok (.invokevirtual 155, 3) := by decide +kernel
theorem dX7_isNothing_9 : decode cX7_isNothing 9 = .ok (.if_icmp .gt 43, 3) := by decide +kernel
theorem dX7_isNothing_12 : decode cX7_isNothing 12 = .ok (.aload_n 0, 1) := by decide +kernel
theorem dX7_isNothing_13 : decode cX7_isNothing 13 = .ok (.iload_n 1, 1) := by decide +kernel
theorem dX7_isNothing_14 : decode cX7_isNothing 14 = .ok (.iload_n 3, 1) := by decide +kernel
theorem dX7_isNothing_15 : decode cX7_isNothing 15 = .ok (.invokevirtual 285, 3) := by decide +kernel
theorem dX7_isNothing_18 : decode cX7_isNothing 18 = .ok (.istore 4, 2) := by decide +kernel
theorem dX7_isNothing_20 : decode cX7_isNothing 20 = .ok (.aload_n 0, 1) := by decide +kernel
theorem dX7_isNothing_21 : decode cX7_isNothing 21 = .ok (.iload_n 1, 1) := by decide +kernel
theorem dX7_isNothing_22 : decode cX7_isNothing 22 = .ok (.iload_n 2, 1) := by decide +kernel
theorem dX7_isNothing_23 : decode cX7_isNothing 23 = .ok (.iload 4, 2) := by decide +kernel
theorem dX7_isNothing_25 : decode cX7_isNothing 25 = .ok (.iconst 0, 1) := by decide +kernel
theorem dX7_isNothing_26 : decode cX7_isNothing 26 = .ok (.invokevirtual 224, 3) := by decide +kernel
theorem dX7_isNothing_29 : decode cX7_isNothing 29 = .ok (.ifCond .ne 15, 3) := by decide +kernel
theorem dX7_isNothing_32 : decode cX7_isNothing 32 = .ok (.aload_n 0, 1) := by decide +kernel
theorem dX7_isNothing_33 : decode cX7_isNothing 33 = .ok (.iload_n 1, 1) := by decide +kernel
theorem dX7_isNothing_34 : decode cX7_isNothing 34 = .ok (.iload_n 2, 1) := by decide +kernel
theorem dX7_isNothing_35 : decode cX7_isNothing 35 = .ok (.iload 4, 2) := by decide +kernel
theorem dX7_isNothing_37 : decode cX7_isNothing 37 = .ok (.iconst 1, 1) := by decide +kernel
theorem dX7_isNothing_38 : decode cX7_isNothing 38 = .ok (.invokevirtual 224, 3) := by decide +kernel
theorem dX7_isNothing_41 : decode cX7_isNothing 41 = .ok (.ifCond .eq 5, 3) := by decide +kernel
theorem dX7_isNothing_44 : decode cX7_isNothing 44 = .ok (.iconst 0, 1) := by decide +kernel
theorem dX7_isNothing_45 : decode cX7_isNothing 45 = .ok (.ireturn, 1) := by decide +kernel
theorem dX7_isNothing_46 : decode cX7_isNothing 46 = .ok (.iinc 3 1, 3) := by decide +kernel
theorem dX7_isNothing_49 : decode cX7_isNothing 49 = .ok (.goto (-47), 3) := by decide +kernel
theorem dX7_isNothing_52 : decode cX7_isNothing 52 = .ok (.iconst 1, 1) := by decide +kernel
theorem dX7_isNothing_53 : decode cX7_isNothing 53 = .ok (.ireturn, 1) := by decide +kernel
theorem dX7_prune_0 : decode cX7_prune 0 = .ok (.aload_n 0, 1) := by decide +kernel
theorem dX7_prune_1 : decode cX7_prune 1 = .ok (.iload_n 1, 1) := by decide +kernel
theorem dX7_prune_2 : decode cX7_prune 2 = .ok (.invokevirtual 160, 3) := by decide +kernel
theorem dX7_prune_5 : decode cX7_prune 5 = .ok (.ifCond .eq 6, 3) := by decide +kernel
theorem dX7_prune_8 : decode cX7_prune 8 = .ok (.ldc 163, 2) := by decide +kernel
theorem dX7_prune_10 : decode cX7_prune 10 = .ok (.ireturn, 1) := by decide +kernel
theorem dX7_prune_11 : decode cX7_prune 11 = .ok (.aload_n 0, 1) := by decide +kernel
theorem dX7_prune_12 : decode cX7_prune 12 = .ok (.iload_n 1, 1) := by decide +kernel
theorem dX7_prune_13 : decode cX7_prune 13 = .ok (.invokevirtual 298, 3) := by decide +kernel
theorem dX7_prune_16 : decode cX7_prune 16 = .ok (.iconst 0, 1) := by decide +kernel
theorem dX7_prune_17 : decode cX7_prune 17 = .ok (.istore_n 2, 1) := by decide +kernel
theorem dX7_prune_18 : decode cX7_prune 18 = .ok (.aload_n 0, 1) := by decide +kernel
theorem dX7_prune_19 : decode cX7_prune 19 = .ok (.iload_n 1, 1) := by decide +kernel
theorem dX7_prune_20 : decode cX7_prune 20 = .ok (.iconst 3, 1) := by decide +kernel
theorem dX7_prune_21 : decode cX7_prune 21 = .ok (.invokevirtual 155, 3) := by decide +kernel
theorem dX7_prune_24 : decode cX7_prune 24 = .ok (.iconst 1, 1) := by decide +kernel
theorem dX7_prune_25 : decode cX7_prune 25 = .ok (.isub, 1) := by decide +kernel
theorem dX7_prune_26 : decode cX7_prune 26 = .ok (.istore_n 3, 1) := by decide +kernel
theorem dX7_prune_27 : decode cX7_prune 27 = .ok (.iload_n 3, 1) := by decide +kernel
theorem dX7_prune_28 : decode cX7_prune 28 = .ok (.ifCond .lt 27, 3) := by decide +kernel
theorem dX7_prune_31 : decode cX7_prune 31 = .ok (.aload_n 0, 1) := by decide +kernel
theorem dX7_prune_32 : decode cX7_prune 32 = .ok (.iload_n 1, 1) := by decide +kernel
theorem dX7_prune_33 : decode cX7_prune 33 = .ok (.iload_n 3, 1) := by decide +kernel
theorem dX7_prune_34 : decode cX7_prune 34 = .ok (.invokevirtual 319, 3) := by decide +kernel
theorem dX7_prune_37 : decode cX7_prune 37 = .ok (.ifCond .eq 12, 3) := by decide +kernel
theorem dX7_prune_40 : decode cX7_prune 40 = .ok (.aload_n 0, 1) := by decide +kernel
theorem dX7_prune_41 : decode cX7_prune 41 = .ok (.iload_n 1, 1) := by decide +kernel
theorem dX7_prune_42 : decode cX7_prune 42 = .ok (.iload_n 3, 1) := by decide +kernel
theorem dX7_prune_43 : decode cX7_prune 43 = .ok (.invokevirtual 295, 3) := by decide +kernel
theorem dX7_prune_46 : decode cX7_prune 46 = .ok (.iinc 2 1, 3) := by decide +kernel
theorem dX7_prune_49 : decode cX7_prune 49 = .ok (.iinc 3 (-1), 3) := by decide +kernel
theorem dX7_prune_52 : decode cX7_prune 52 = .ok (.goto (-25), 3) := by decide +kernel
theorem dX7_prune_55 : decode cX7_prune 55 = .ok (.iload_n 2, 1) := by decide +kernel
theorem dX7_prune_56 : decode cX7_prune 56 = .ok (.ireturn, 1) := by decide +kernel
theorem dX7_addInstance_0 : decode cX7_addInstance 0 = .ok (.aload_n 0, 1) := by decide +kernel
theorem dX7_addInstance_1 : decode cX7_addInstance 1 = .ok (.getfield 322, 3) := by decide +kernel
theorem dX7_addInstance_4 : decode cX7_addInstance 4 = .ok (.bipush 6, 2) := by decide +kernel
theorem dX7_addInstance_6 : decode cX7_addInstance 6 = .ok (.if_icmp .ne 6, 3) := by decide +kernel
theorem dX7_addInstance_9 : decode cX7_addInstance 9 = .ok (.ldc 120, 2) := by decide +kernel
theorem dX7_addInstance_11 : decode cX7_addInstance 11 = .ok (.ireturn, 1) := by decide +kernel
theorem dX7_addInstance_12 : decode cX7_addInstance 12 = .ok (.iconst 0, 1) := by decide +kernel
theorem dX7_addInstance_13 : decode cX7_addInstance 13 = .ok (.istore_n 1, 1) := by decide +kernel
theorem dX7_addInstance_14 : decode cX7_addInstance 14 = .ok (.iload_n 1, 1) := by decide +kernel
theorem dX7_addInstance_15 : decode cX7_addInstance 15 = .ok (.iconst 4, 1) := by decide +kernel
theorem dX7_addInstance_16 : decode cX7_addInstance 16 = .ok (.if_icmp .ge 40, 3) := by decide +kernel
theorem dX7_addInstance_19 : decode cX7_addInstance 19 = .ok (.aload_n 0, 1) := by decide +kernel
theorem dX7_addInstance_20 : decode cX7_addInstance 20 = .ok (.getfield 93, 3) := by decide +kernel
theorem dX7_addInstance_23 : decode cX7_addInstance 23 = .ok (.iconst 4, 1) := by decide +kernel
theorem dX7_addInstance_24 : decode cX7_addInstance 24 = .ok (.aload_n 0, 1) := by decide +kernel
theorem dX7_addInstance_25 : decode cX7_addInstance 25 = .ok (.getfield 322, 3) := by decide +kernel
theorem dX7_addInstance_28 : decode cX7_addInstance 28 = .ok (.imul, 1) := by decide +kernel
theorem dX7_addInstance_29 : decode cX7_addInstance 29 = .ok (.iload_n 1, 1) := by decide +kernel
theorem dX7_addInstance_30 : decode cX7_addInstance 30 = .ok (.iadd, 1) := by decide +kernel
theorem dX7_addInstance_31 : decode cX7_addInstance 31 = .ok (.iload_n 1, 1) := by decide +kernel
theorem dX7_addInstance_32 : decode cX7_addInstance 32 = .ok (.aload_n 0, 1) := by decide +kernel
theorem dX7_addInstance_33 : decode cX7_addInstance 33 = .ok (.getfield 107, 3) := by decide +kernel
theorem dX7_addInstance_36 : decode cX7_addInstance 36 = .ok (.if_icmp .ge 12, 3) := by decide +kernel
theorem dX7_addInstance_39 : decode cX7_addInstance 39 = .ok (.aload_n 0, 1) := by decide +kernel
theorem dX7_addInstance_40 : decode cX7_addInstance 40 = .ok (.getfield 19, 3) := by decide +kernel
theorem dX7_addInstance_43 : decode cX7_addInstance 43 = .ok (.iload_n 1, 1) := by decide +kernel
theorem dX7_addInstance_44 : decode cX7_addInstance 44 = .ok (.iaload, 1) := by decide +kernel
theorem dX7_addInstance_45 : decode cX7_addInstance 45 = .ok (.goto 4, 3) := by decide +kernel
theorem dX7_addInstance_48 : decode cX7_addInstance 48 = .ok (.iconst 0, 1) := by decide +kernel
theorem dX7_addInstance_49 : decode cX7_addInstance 49 = .ok (.iastore, 1) := by decide +kernel
theorem dX7_addInstance_50 : decode cX7_addInstance 50 = .ok (.iinc 1 1, 3) := by decide +kernel
theorem dX7_addInstance_53 : decode cX7_addInstance 53 = .ok (.goto (-39), 3) := by decide +kernel
theorem dX7_addInstance_56 : decode cX7_addInstance 56 = .ok (.aload_n 0, 1) := by decide +kernel
theorem dX7_addInstance_57 : decode cX7_addInstance 57 = .ok (.dup, 1) := by decide +kernel
theorem dX7_addInstance_58 : decode cX7_addInstance 58 = .ok (.getfield 322, 3) := by decide +kernel
theorem dX7_addInstance_61 : decode cX7_addInstance 61 = .ok (.iconst 1, 1) := by decide +kernel
theorem dX7_addInstance_62 : decode cX7_addInstance 62 = .ok (.iadd, 1) := by decide +kernel
theorem dX7_addInstance_63 : decode cX7_addInstance 63 = .ok (.putfield 322, 3) := by decide +kernel
theorem dX7_addInstance_66 : decode cX7_addInstance 66 = .ok (.aload_n 0, 1) := by decide +kernel
theorem dX7_addInstance_67 : decode cX7_addInstance 67 = .ok (.getfield 322, 3) := by decide +kernel
theorem dX7_addInstance_70 : decode cX7_addInstance 70 = .ok (.iconst 1, 1) := by decide +kernel
theorem dX7_addInstance_71 : decode cX7_addInstance 71 = .ok (.isub, 1) := by decide +kernel
theorem dX7_addInstance_72 : decode cX7_addInstance 72 = .ok (.ireturn, 1) := by decide +kernel
theorem dX7_applyInstance_0 : decode cX7_applyInstance 0 = .ok (.iload_n 1, 1) := by decide +kernel
theorem dX7_applyInstance_1 : decode cX7_applyInstance 1 = .ok (.i2l, 1) := by decide +kernel
theorem dX7_applyInstance_2 : decode cX7_applyInstance 2 = .ok (.lconst 0, 1) := by decide +kernel
theorem dX7_applyInstance_3 : decode cX7_applyInstance 3 = .ok (.aload_n 0, 1) := by decide +kernel
theorem dX7_applyInstance_4 : decode cX7_applyInstance 4 = .ok (.getfield 322, 3) := by decide +kernel
theorem dX7_applyInstance_7 : decode cX7_applyInstance 7 = .ok (.i2l, 1) := by decide +kernel
theorem dX7_applyInstance_8 : decode cX7_applyInstance 8 = .ok (.lconst 1, 1) := by decide +kernel
theorem dX7_applyInstance_9 : decode cX7_applyInstance 9 = .ok (.lsub, 1) := by decide +kernel
theorem dX7_applyInstance_10 : decode cX7_applyInstance 10 = .ok (.invokestatic 111, 3) := by decide +kernel
theorem dX7_applyInstance_13 : decode cX7_applyInstance 13 = .ok (.ifCond .ne 6, 3) := by decide +kernel
theorem dX7_applyInstance_16 : decode cX7_applyInstance 16 = .ok (.ldc 119, 2) := by decide +kernel
theorem dX7_applyInstance_18 : decode cX7_applyInstance 18 = .ok (.ireturn, 1) := by decide +kernel
theorem dX7_applyInstance_19 : decode cX7_applyInstance 19 = .ok (.iconst 0, 1) := by decide +kernel
theorem dX7_applyInstance_20 : decode cX7_applyInstance 20 = .ok (.istore_n 2, 1) := by decide +kernel
theorem dX7_applyInstance_21 : decode cX7_applyInstance 21 = .ok (.iconst 0, 1) := by decide +kernel
theorem dX7_applyInstance_22 : decode cX7_applyInstance 22 = .ok (.istore_n 3, 1) := by decide +kernel
theorem dX7_applyInstance_23 : decode cX7_applyInstance 23 = .ok (.iload_n 3, 1) := by decide +kernel
theorem dX7_applyInstance_24 : decode cX7_applyInstance 24 = .ok (.aload_n 0, 1) := by decide +kernel
theorem dX7_applyInstance_25 : decode cX7_applyInstance 25 = .ok (.getfield 107, 3) := by decide +kernel
theorem dX7_applyInstance_28 : decode cX7_applyInstance 28 = .ok (.if_icmp .ge 52, 3) := by decide +kernel
theorem dX7_applyInstance_31 : decode cX7_applyInstance 31 = .ok (.aload_n 0, 1) := by decide +kernel
theorem dX7_applyInstance_32 : decode cX7_applyInstance 32 = .ok (.getfield 93, 3) := by decide +kernel
theorem dX7_applyInstance_35 : decode cX7_applyInstance 35 = .ok (.iconst 4, 1) := by decide +kernel
theorem dX7_applyInstance_36 : decode cX7_applyInstance 36 = .ok (.iload_n 1, 1) := by decide +kernel
theorem dX7_applyInstance_37 : decode cX7_applyInstance 37 = .ok (.imul, 1) := by decide +kernel
theorem dX7_applyInstance_38 : decode cX7_applyInstance 38 = .ok (.iload_n 3, 1) := by decide +kernel
theorem dX7_applyInstance_39 : decode cX7_applyInstance 39 = .ok (.iadd, 1) := by decide +kernel
theorem dX7_applyInstance_40 : decode cX7_applyInstance 40 = .ok (.iaload, 1) := by decide +kernel
theorem dX7_applyInstance_41 : decode cX7_applyInstance 41 = .ok (.istore 4, 2) := by decide +kernel
theorem dX7_applyInstance_43 : decode cX7_applyInstance 43 = .ok (.aload_n 0, 1) := by decide +kernel
theorem dX7_applyInstance_44 : decode cX7_applyInstance 44 = .ok (.getfield 22, 3) := by decide +kernel
theorem dX7_applyInstance_47 : decode cX7_applyInstance 47 = .ok (.iload_n 3, 1) := by decide +kernel
theorem dX7_applyInstance_48 : decode cX7_applyInstance 48 = .ok (.baload, 1) := by decide +kernel
theorem dX7_applyInstance_49 : decode cX7_applyInstance 49 = .ok (.ifCond .ne 25, 3) := by decide +kernel
theorem dX7_applyInstance_52 : decode cX7_applyInstance 52 = .ok (.aload_n 0, 1) := by decide +kernel
theorem dX7_applyInstance_53 : decode cX7_applyInstance 53 = .ok (.getfield 19, 3) := by decide +kernel
theorem dX7_applyInstance_56 : decode cX7_applyInstance 56 = .ok (.iload_n 3, 1) := by decide +kernel
theorem dX7_applyInstance_57 : decode cX7_applyInstance 57 = .ok (.iaload, 1) := by decide +kernel
theorem dX7_applyInstance_58 : decode cX7_applyInstance 58 = .ok (.iload 4, 2) := by decide +kernel
theorem dX7_applyInstance_60 : decode cX7_applyInstance 60 = .ok (.if_icmp .eq 14, 3) := by decide +kernel
theorem dX7_applyInstance_63 : decode cX7_applyInstance 63 = .ok (.aload_n 0, 1) := by decide +kernel
theorem dX7_applyInstance_64 : decode cX7_applyInstance 64 = .ok (.getfield 19, 3) := by decide +kernel
theorem dX7_applyInstance_67 : decode cX7_applyInstance 67 = .ok (.iload_n 3, 1) := by decide +kernel
theorem dX7_applyInstance_68 : decode cX7_applyInstance 68 = .ok (.iload 4, 2) := by decide +kernel
theorem dX7_applyInstance_70 : decode cX7_applyInstance 70 = .ok (.iastore, 1) := by decide +kernel
theorem dX7_applyInstance_71 : decode cX7_applyInstance 71 = .ok (.iinc 2 1, 3) := by decide +kernel
theorem dX7_applyInstance_74 : decode cX7_applyInstance 74 = .ok (.iinc 3 1, 3) := by decide +kernel
theorem dX7_applyInstance_77 : decode cX7_applyInstance 77 = .ok (.goto (-54), 3) := by decide +kernel
theorem dX7_applyInstance_80 : decode cX7_applyInstance 80 = .ok (.iload_n 2, 1) := by decide +kernel
theorem dX7_applyInstance_81 : decode cX7_applyInstance 81 = .ok (.ireturn, 1) := by decide +kernel
theorem dX7_farFrom_0 : decode cX7_farFrom 0 = .ok (.iconst 0, 1) := by decide +kernel
theorem dX7_farFrom_1 : decode cX7_farFrom 1 = .ok (.istore_n 2, 1) := by decide +kernel
theorem dX7_farFrom_2 : decode cX7_farFrom 2 = .ok (.iconst 0, 1) := by decide +kernel
theorem dX7_farFrom_3 : decode cX7_farFrom 3 = .ok (.istore_n 3, 1) := by decide +kernel
theorem dX7_farFrom_4 : decode cX7_farFrom 4 = .ok (.iload_n 3, 1) := by decide +kernel
theorem dX7_farFrom_5 : decode cX7_farFrom 5 = .ok (.aload_n 0, 1) := by decide +kernel
theorem dX7_farFrom_6 : decode cX7_farFrom 6 = .ok (.getfield 107, 3) := by decide +kernel
theorem dX7_farFrom_9 : decode cX7_farFrom 9 = .ok (.if_icmp .ge 44, 3) := by decide +kernel
theorem dX7_farFrom_12 : decode cX7_farFrom 12 = .ok (.aload_n 0, 1) := by decide +kernel
theorem dX7_farFrom_13 : decode cX7_farFrom 13 = .ok (.getfield 93, 3) := by decide +kernel
theorem dX7_farFrom_16 : decode cX7_farFrom 16 = .ok (.iconst 4, 1) := by decide +kernel
theorem dX7_farFrom_17 : decode cX7_farFrom 17 = .ok (.iload_n 1, 1) := by decide +kernel
theorem dX7_farFrom_18 : decode cX7_farFrom 18 = .ok (.imul, 1) := by decide +kernel
theorem dX7_farFrom_19 : decode cX7_farFrom 19 = .ok (.iload_n 3, 1) := by decide +kernel
theorem dX7_farFrom_20 : decode cX7_farFrom 20 = .ok (.iadd, 1) := by decide +kernel
theorem dX7_farFrom_21 : decode cX7_farFrom 21 = .ok (.iaload, 1) := by decide +kernel
theorem dX7_farFrom_22 : decode cX7_farFrom 22 = .ok (.aload_n 0, 1) := by decide +kernel
theorem dX7_farFrom_23 : decode cX7_farFrom 23 = .ok (.getfield 19, 3) := by decide +kernel
theorem dX7_farFrom_26 : decode cX7_farFrom 26 = .ok (.iload_n 3, 1) := by decide +kernel
theorem dX7_farFrom_27 : decode cX7_farFrom 27 = .ok (.iaload, 1) := by decide +kernel
theorem dX7_farFrom_28 : decode cX7_farFrom 28 = .ok (.isub, 1) := by decide +kernel
theorem dX7_farFrom_29 : decode cX7_farFrom 29 = .ok (.istore 4, 2) := by decide +kernel
theorem dX7_farFrom_31 : decode cX7_farFrom 31 = .ok (.iload_n 2, 1) := by decide +kernel
theorem dX7_farFrom_32 : decode cX7_farFrom 32 = .ok (.iload 4, 2) := by decide +kernel
theorem dX7_farFrom_34 : decode cX7_farFrom 34 = .ok (.ifCond .ge 9, 3) := by decide +kernel
theorem dX7_farFrom_37 : decode cX7_farFrom 37 = .ok (.iload 4, 2) := by decide +kernel
theorem dX7_farFrom_39 : decode cX7_farFrom 39 = .ok (.ineg, 1) := by decide +kernel
theorem dX7_farFrom_40 : decode cX7_farFrom 40 = .ok (.goto 5, 3) := by decide +kernel
theorem dX7_farFrom_43 : decode cX7_farFrom 43 = .ok (.iload 4, 2) := by decide +kernel
theorem dX7_farFrom_45 : decode cX7_farFrom 45 = .ok (.iadd, 1) := by decide +kernel
theorem dX7_farFrom_46 : decode cX7_farFrom 46 = .ok (.istore_n 2, 1) := by decide +kernel
theorem dX7_farFrom_47 : decode cX7_farFrom 47 = .ok (.iinc 3 1, 3) := by decide +kernel
theorem dX7_farFrom_50 : decode cX7_farFrom 50 = .ok (.goto (-46), 3) := by decide +kernel
theorem dX7_farFrom_53 : decode cX7_farFrom 53 = .ok (.iload_n 2, 1) := by decide +kernel
theorem dX7_farFrom_54 : decode cX7_farFrom 54 = .ok (.ireturn, 1) := by decide +kernel
theorem dX7_nearestInstance_0 : decode cX7_nearestInstance 0 = .ok (.aload_n 0, 1) := by decide +kernel
theorem dX7_nearestInstance_1 : decode cX7_nearestInstance 1 = .ok (.getfield 322, 3) := by decide +kernel
theorem dX7_nearestInstance_4 : decode cX7_nearestInstance 4 = .ok (.ifCond .ne 9, 3) := by decide +kernel
theorem dX7_nearestInstance_7 : decode cX7_nearestInstance 7 = .ok (.ldc_w 284, 3) := by decide +kernel
theorem dX7_nearestInstance_10 : decode cX7_nearestInstance 10 = .ok (.goto 4, 3) := by decide +kernel
theorem dX7_nearestInstance_13 : decode cX7_nearestInstance 13 = .ok (.iconst 0, 1) := by decide +kernel
theorem dX7_nearestInstance_14 : decode cX7_nearestInstance 14 = .ok (.istore_n 1, 1) := by decide +kernel
theorem dX7_nearestInstance_15 : decode cX7_nearestInstance 15 = .ok (.iconst 1, 1) := by decide +kernel
theorem dX7_nearestInstance_16 : decode cX7_nearestInstance 16 = .ok (.istore_n 2, 1) := by decide +kernel
theorem dX7_nearestInstance_17 : decode cX7_nearestInstance 17 = .ok (.iload_n 2, 1) := by decide +kernel
theorem dX7_nearestInstance_18 : decode cX7_nearestInstance 18 = .ok (.aload_n 0, 1) := by decide +kernel
theorem dX7_nearestInstance_19 : decode cX7_nearestInstance 19 = .ok (.getfield 322, 3) := by decide +kernel
theorem dX7_nearestInstance_22 : decode cX7_nearestInstance 22 = .ok (.if_icmp .ge 28, 3) := by decide +kernel
theorem dX7_nearestInstance_25 : decode cX7_nearestInstance 25 = .ok (.aload_n 0, 1) := by decide +kernel
theorem dX7_nearestInstance_26 : decode cX7_nearestInstance 26 = .ok (.iload_n 2, 1) := by decide +kernel
theorem dX7_nearestInstance_27 : decode cX7_nearestInstance 27 = .ok (.invokevirtual 325, 3) := by decide +kernel
theorem dX7_nearestInstance_30 : decode cX7_nearestInstance 30 = .ok (.aload_n 0, 1) := by decide +kernel
theorem dX7_nearestInstance_31 : decode cX7_nearestInstance 31 = .ok (.iload_n 1, 1) := by decide +kernel
theorem dX7_nearestInstance_32 : decode cX7_nearestInstance 32 = .ok (.invokevirtual 325, 3) := by decide +kernel
theorem dX7_nearestInstance_35 : decode cX7_nearestInstance 35 = .ok (.if_icmp .ge 7, 3) := by decide +kernel
theorem dX7_nearestInstance_38 : decode cX7_nearestInstance 38 = .ok (.iload_n 2, 1) := by decide +kernel
theorem dX7_nearestInstance_39 : decode cX7_nearestInstance 39 = .ok (.goto 4, 3) := by decide +kernel
theorem dX7_nearestInstance_42 : decode cX7_nearestInstance 42 = .ok (.iload_n 1, 1) := by decide +kernel
theorem dX7_nearestInstance_43 : decode cX7_nearestInstance 43 = .ok (.istore_n 1, 1) := by decide +kernel
theorem dX7_nearestInstance_44 : decode cX7_nearestInstance 44 = .ok (.iinc 2 1, 3) := by decide +kernel
theorem dX7_nearestInstance_47 : decode cX7_nearestInstance 47 = .ok (.goto (-30), 3) := by decide +kernel
theorem dX7_nearestInstance_50 : decode cX7_nearestInstance 50 = .ok (.iload_n 1, 1) := by decide +kernel
theorem dX7_nearestInstance_51 : decode cX7_nearestInstance 51 = .ok (.ireturn, 1) := by decide +kernel
theorem dX7_type_0 : decode cX7_type 0 = .ok (.aload_n 0, 1) := by decide +kernel
theorem dX7_type_1 : decode cX7_type 1 = .ok (.getfield 328, 3) := by decide +kernel
theorem dX7_type_4 : decode cX7_type 4 = .ok (.bipush 60, 2) := by decide +kernel
theorem dX7_type_6 : decode cX7_type 6 = .ok (.if_icmp .ne 6, 3) := by decide +kernel
theorem dX7_type_9 : decode cX7_type 9 = .ok (.ldc 120, 2) := by decide +kernel
theorem dX7_type_11 : decode cX7_type 11 = .ok (.ireturn, 1) := by decide +kernel
theorem dX7_type_12 : decode cX7_type 12 = .ok (.aload_n 0, 1) := by decide +kernel
theorem dX7_type_13 : decode cX7_type 13 = .ok (.getfield 96, 3) := by decide +kernel
theorem dX7_type_16 : decode cX7_type 16 = .ok (.aload_n 0, 1) := by decide +kernel
theorem dX7_type_17 : decode cX7_type 17 = .ok (.getfield 328, 3) := by decide +kernel
theorem dX7_type_20 : decode cX7_type 20 = .ok (.iload_n 1, 1) := by decide +kernel
theorem dX7_type_21 : decode cX7_type 21 = .ok (.castore, 1) := by decide +kernel
theorem dX7_type_22 : decode cX7_type 22 = .ok (.aload_n 0, 1) := by decide +kernel
theorem dX7_type_23 : decode cX7_type 23 = .ok (.dup, 1) := by decide +kernel
theorem dX7_type_24 : decode cX7_type 24 = .ok (.getfield 328, 3) := by decide +kernel
theorem dX7_type_27 : decode cX7_type 27 = .ok (.iconst 1, 1) := by decide +kernel
theorem dX7_type_28 : decode cX7_type 28 = .ok (.iadd, 1) := by decide +kernel
theorem dX7_type_29 : decode cX7_type 29 = .ok (.putfield 328, 3) := by decide +kernel
theorem dX7_type_32 : decode cX7_type 32 = .ok (.aload_n 0, 1) := by decide +kernel
theorem dX7_type_33 : decode cX7_type 33 = .ok (.getfield 328, 3) := by decide +kernel
theorem dX7_type_36 : decode cX7_type 36 = .ok (.ireturn, 1) := by decide +kernel
theorem dX7_clearText_0 : decode cX7_clearText 0 = .ok (.aload_n 0, 1) := by decide +kernel
theorem dX7_clearText_1 : decode cX7_clearText 1 = .ok (.getfield 328, 3) := by decide +kernel
theorem dX7_clearText_4 : decode cX7_clearText 4 = .ok (.istore_n 1, 1) := by decide +kernel
theorem dX7_clearText_5 : decode cX7_clearText 5 = .ok (.aload_n 0, 1) := by decide +kernel
theorem dX7_clearText_6 : decode cX7_clearText 6 = .ok (.iconst 0, 1) := by decide +kernel
theorem dX7_clearText_7 : decode cX7_clearText 7 = .ok (.putfield 328, 3) := by decide +kernel
theorem dX7_clearText_10 : decode cX7_clearText 10 = .ok (.iload_n 1, 1) := by decide +kernel
theorem dX7_clearText_11 : decode cX7_clearText 11 = .ok (.ireturn, 1) := by decide +kernel
theorem dX7_isDigit_0 : decode cX7_isDigit 0 = .ok (.aload_n 0, 1) := by decide +kernel
theorem dX7_isDigit_1 : decode cX7_isDigit 1 = .ok (.getfield 331, 3) := by decide +kernel
theorem dX7_isDigit_4 : decode cX7_isDigit 4 = .ok (.aload_n 0, 1) := by decide +kernel
theorem dX7_isDigit_5 : decode cX7_isDigit 5 = .ok (.getfield 328, 3) := by decide +kernel
theorem dX7_isDigit_8 : decode cX7_isDigit 8 = .ok (.if_icmp .ge 35, 3) := by decide +kernel
theorem dX7_isDigit_11 : decode cX7_isDigit 11 = .ok (.aload_n 0, 1) := by decide +kernel
theorem dX7_isDigit_12 : decode cX7_isDigit 12 = .ok (.getfield 96, 3) := by decide +kernel
theorem dX7_isDigit_15 : decode cX7_isDigit 15 = .ok (.aload_n 0, 1) := by decide +kernel
theorem dX7_isDigit_16 : decode cX7_isDigit 16 = .ok (.getfield 331, 3) := by decide +kernel
theorem dX7_isDigit_19 : decode cX7_isDigit 19 = .ok (.caload, 1) := by decide +kernel
theorem dX7_isDigit_20 : decode cX7_isDigit 20 = .ok (.bipush 48, 2) := by decide +kernel
theorem dX7_isDigit_22 : decode cX7_isDigit 22 = .ok (.if_icmp .lt 21, 3) := by decide +kernel
theorem dX7_isDigit_25 : decode cX7_isDigit 25 = .ok (.aload_n 0, 1) := by decide +kernel
theorem dX7_isDigit_26 : decode cX7_isDigit 26 = .ok (.getfield 96, 3) := by decide +kernel
theorem dX7_isDigit_29 : decode cX7_isDigit 29 = .ok (.aload_n 0, 1) := by decide +kernel
theorem dX7_isDigit_30 : decode cX7_isDigit 30 = .ok (.getfield 331, 3) := by decide +kernel
theorem dX7_isDigit_33 : decode cX7_isDigit 33 = .ok (.caload, 1) := by decide +kernel
theorem dX7_isDigit_34 : decode cX7_isDigit 34 = .ok (.bipush 57, 2) := by decide +kernel
theorem dX7_isDigit_36 : decode cX7_isDigit 36 = .ok (.if_icmp .gt 7, 3) := by decide +kernel
theorem dX7_isDigit_39 : decode cX7_isDigit 39 = .ok (.iconst 1, 1) := by decide +kernel
theorem dX7_isDigit_40 : decode cX7_isDigit 40 = .ok (.goto 4, 3) := by decide +kernel
theorem dX7_isDigit_43 : decode cX7_isDigit 43 = .ok (.iconst 0, 1) := by decide +kernel
theorem dX7_isDigit_44 : decode cX7_isDigit 44 = .ok (.ireturn, 1) := by decide +kernel
theorem dX7_readsNumber_0 : decode cX7_readsNumber 0 = .ok (.aload_n 0, 1) := by decide +kernel
theorem dX7_readsNumber_1 : decode cX7_readsNumber 1 = .ok (.getfield 331, 3) := by decide +kernel
theorem dX7_readsNumber_4 : decode cX7_readsNumber 4 = .ok (.aload_n 0, 1) := by decide +kernel
theorem dX7_readsNumber_5 : decode cX7_readsNumber 5 = .ok (.getfield 328, 3) := by decide +kernel
theorem dX7_readsNumber_8 : decode cX7_readsNumber 8 = .ok (.if_icmp .ge 21, 3) := by decide +kernel
theorem dX7_readsNumber_11 : decode cX7_readsNumber 11 = .ok (.aload_n 0, 1) := by decide +kernel
theorem dX7_readsNumber_12 : decode cX7_readsNumber 12 = .ok (.getfield 96, 3) := by decide +kernel
theorem dX7_readsNumber_15 : decode cX7_readsNumber 15 = .ok (.aload_n 0, 1) := by decide +kernel
theorem dX7_readsNumber_16 : decode cX7_readsNumber 16 = .ok (.getfield 331, 3) := by decide +kernel
theorem dX7_readsNumber_19 : decode cX7_readsNumber 19 = .ok (.caload, 1) := by decide +kernel
theorem dX7_readsNumber_20 : decode cX7_readsNumber 20 = .ok (.bipush 45, 2) := by decide +kernel
theorem dX7_readsNumber_22 : decode cX7_readsNumber 22 = .ok (.if_icmp .ne 7, 3) := by decide +kernel
theorem dX7_readsNumber_25 : decode cX7_readsNumber 25 = .ok (.iconst 1, 1) := by decide +kernel
theorem dX7_readsNumber_26 : decode cX7_readsNumber 26 = .ok (.goto 4, 3) := by decide +kernel
theorem dX7_readsNumber_29 : decode cX7_readsNumber 29 = .ok (.iconst 0, 1) := by decide +kernel
theorem dX7_readsNumber_30 : decode cX7_readsNumber 30 = .ok (.istore_n 1, 1) := by decide +kernel
theorem dX7_readsNumber_31 : decode cX7_readsNumber 31 = .ok (.aload_n 0, 1) := by decide +kernel
theorem dX7_readsNumber_32 : decode cX7_readsNumber 32 = .ok (.dup, 1) := by decide +kernel
theorem dX7_readsNumber_33 : decode cX7_readsNumber 33 = .ok (.getfield 331, 3) := by decide +kernel
theorem dX7_readsNumber_36 : decode cX7_readsNumber 36 = .ok (.iload_n 1, 1) := by decide +kernel
theorem dX7_readsNumber_37 : decode cX7_readsNumber 37 = .ok (.ifCond .eq 7, 3) := by decide +kernel
theorem dX7_readsNumber_40 : decode cX7_readsNumber 40 = .ok (.iconst 1, 1) := by decide +kernel
theorem dX7_readsNumber_41 : decode cX7_readsNumber 41 = .ok (.goto 4, 3) := by decide +kernel
theorem dX7_readsNumber_44 : decode cX7_readsNumber 44 = .ok (.iconst 0, 1) := by decide +kernel
theorem dX7_readsNumber_45 : decode cX7_readsNumber 45 = .ok (.iadd, 1) := by decide +kernel
theorem dX7_readsNumber_46 : decode cX7_readsNumber 46 = .ok (.putfield 331, 3) := by decide +kernel
theorem dX7_readsNumber_49 : decode cX7_readsNumber 49 = .ok (.iconst 0, 1) := by decide +kernel
theorem dX7_readsNumber_50 : decode cX7_readsNumber 50 = .ok (.istore_n 2, 1) := by decide +kernel
theorem dX7_readsNumber_51 : decode cX7_readsNumber 51 = .ok (.aload_n 0, 1) := by decide +kernel
theorem dX7_readsNumber_52 : decode cX7_readsNumber 52 = .ok (.iconst 0, 1) := by decide +kernel
theorem dX7_readsNumber_53 : decode cX7_readsNumber 53 = .ok (.putfield 334, 3) := by decide +kernel
theorem dX7_readsNumber_56 : decode cX7_readsNumber 56 = .ok (.iload_n 2, 1) := by decide +kernel
theorem dX7_readsNumber_57 : decode cX7_readsNumber 57 = .ok (.bipush 6, 2) := by decide +kernel
theorem dX7_readsNumber_59 : decode cX7_readsNumber 59 = .ok (.if_icmp .ge 50, 3) := by decide +kernel
theorem dX7_readsNumber_62 : decode cX7_readsNumber 62 = .ok (.aload_n 0, 1) := by decide +kernel
theorem dX7_readsNumber_63 : decode cX7_readsNumber 63 = .ok (.invokevirtual 337, 3) := by decide +kernel
theorem dX7_readsNumber_66 : decode cX7_readsNumber 66 = .ok (.ifCond .eq 43, 3) := by decide +kernel
theorem dX7_readsNumber_69 : decode cX7_readsNumber 69 = .ok (.aload_n 0, 1) := by decide +kernel
theorem dX7_readsNumber_70 : decode cX7_readsNumber 70 = .ok (.bipush 10, 2) := by decide +kernel
theorem dX7_readsNumber_72 : decode cX7_readsNumber 72 = .ok (.aload_n 0, 1) := by decide +kernel
theorem dX7_readsNumber_73 : decode cX7_readsNumber 73 = .ok (.getfield 334, 3) := by decide +kernel
theorem dX7_readsNumber_76 : decode cX7_readsNumber 76 = .ok (.imul, 1) := by decide +kernel
theorem dX7_readsNumber_77 : decode cX7_readsNumber 77 = .ok (.aload_n 0, 1) := by decide +kernel
theorem dX7_readsNumber_78 : decode cX7_readsNumber 78 = .ok (.getfield 96, 3) := by decide +kernel
theorem dX7_readsNumber_81 : decode cX7_readsNumber 81 = .ok (.aload_n 0, 1) := by decide +kernel
theorem dX7_readsNumber_82 : decode cX7_readsNumber 82 = .ok (.getfield 331, 3) := by decide +kernel
theorem dX7_readsNumber_85 : decode cX7_readsNumber 85 = .ok (.caload, 1) := by decide +kernel
theorem dX7_readsNumber_86 : decode cX7_readsNumber 86 = .ok (.iadd, 1) := by decide +kernel
theorem dX7_readsNumber_87 : decode cX7_readsNumber 87 = .ok (.bipush 48, 2) := by decide +kernel
theorem dX7_readsNumber_89 : decode cX7_readsNumber 89 = .ok (.isub, 1) := by decide +kernel
theorem dX7_readsNumber_90 : decode cX7_readsNumber 90 = .ok (.putfield 334, 3) := by decide +kernel
theorem dX7_readsNumber_93 : decode cX7_readsNumber 93 = .ok (.aload_n 0, 1) := by decide +kernel
theorem dX7_readsNumber_94 : decode cX7_readsNumber 94 = .ok (.dup, 1) := by decide +kernel
theorem dX7_readsNumber_95 : decode cX7_readsNumber 95 = .ok (.getfield 331, 3) := by decide +kernel
theorem dX7_readsNumber_98 : decode cX7_readsNumber 98 = .ok (.iconst 1, 1) := by decide +kernel
theorem dX7_readsNumber_99 : decode cX7_readsNumber 99 = .ok (.iadd, 1) := by decide +kernel
theorem dX7_readsNumber_100 : decode cX7_readsNumber 100 = .ok (.putfield 331, 3) := by decide +kernel
theorem dX7_readsNumber_103 : decode cX7_readsNumber 103 = .ok (.iinc 2 1, 3) := by decide +kernel
theorem dX7_readsNumber_106 : decode cX7_readsNumber 106 = .ok (.goto (-50), 3) := by decide +kernel
theorem dX7_readsNumber_109 : decode cX7_readsNumber 109 = .ok (.aload_n 0, 1) := by decide +kernel
theorem dX7_readsNumber_110 : decode cX7_readsNumber 110 = .ok (.iload_n 1, 1) := by decide +kernel
theorem dX7_readsNumber_111 : decode cX7_readsNumber 111 = .ok (.ifCond .eq 11, 3) := by decide +kernel
theorem dX7_readsNumber_114 : decode cX7_readsNumber 114 = .ok (.aload_n 0, 1) := by decide +kernel
theorem dX7_readsNumber_115 : decode cX7_readsNumber 115 = .ok (.getfield 334, 3) := by decide +kernel
theorem dX7_readsNumber_118 : decode cX7_readsNumber 118 = .ok (.ineg, 1) := by decide +kernel
theorem dX7_readsNumber_119 : decode cX7_readsNumber 119 = .ok (.goto 7, 3) := by decide +kernel
theorem dX7_readsNumber_122 : decode cX7_readsNumber 122 = .ok (.aload_n 0, 1) := by decide +kernel
theorem dX7_readsNumber_123 : decode cX7_readsNumber 123 = .ok (.getfield 334, 3) := by decide +kernel
theorem dX7_readsNumber_126 : decode cX7_readsNumber 126 = .ok (.putfield 334, 3) := by decide +kernel
theorem dX7_readsNumber_129 : decode cX7_readsNumber 129 = .ok (.iload_n 2, 1) := by decide +kernel
theorem dX7_readsNumber_130 : decode cX7_readsNumber 130 = .ok (.ifCond .le 7, 3) := by decide +kernel
theorem dX7_readsNumber_133 : decode cX7_readsNumber 133 = .ok (.iconst 1, 1) := by decide +kernel
theorem dX7_readsNumber_134 : decode cX7_readsNumber 134 = .ok (.goto 4, 3) := by decide +kernel
theorem dX7_readsNumber_137 : decode cX7_readsNumber 137 = .ok (.iconst 0, 1) := by decide +kernel
theorem dX7_readsNumber_138 : decode cX7_readsNumber 138 = .ok (.ireturn, 1) := by decide +kernel
theorem dX7_readsItem_0 : decode cX7_readsItem 0 = .ok (.aload_n 0, 1) := by decide +kernel
theorem dX7_readsItem_1 : decode cX7_readsItem 1 = .ok (.getfield 331, 3) := by decide +kernel
theorem dX7_readsItem_4 : decode cX7_readsItem 4 = .ok (.aload_n 0, 1) := by decide +kernel
theorem dX7_readsItem_5 : decode cX7_readsItem 5 = .ok (.getfield 328, 3) := by decide +kernel
theorem dX7_readsItem_8 : decode cX7_readsItem 8 = .ok (.if_icmp .ne 5, 3) := by decide +kernel
theorem dX7_readsItem_11 : decode cX7_readsItem 11 = .ok (.iconst 0, 1) := by decide +kernel
theorem dX7_readsItem_12 : decode cX7_readsItem 12 = .ok (.ireturn, 1) := by decide +kernel
theorem dX7_readsItem_13 : decode cX7_readsItem 13 = .ok (.aload_n 0, 1) := by decide +kernel
theorem dX7_readsItem_14 : decode cX7_readsItem 14 = .ok (.getfield 96, 3) := by decide +kernel
theorem dX7_readsItem_17 : decode cX7_readsItem 17 = .ok (.aload_n 0, 1) := by decide +kernel
theorem dX7_readsItem_18 : decode cX7_readsItem 18 = .ok (.getfield 331, 3) := by decide +kernel
theorem dX7_readsItem_21 : decode cX7_readsItem 21 = .ok (.caload, 1) := by decide +kernel
theorem dX7_readsItem_22 : decode cX7_readsItem 22 = .ok (.bipush 97, 2) := by decide +kernel
theorem dX7_readsItem_24 : decode cX7_readsItem 24 = .ok (.isub, 1) := by decide +kernel
theorem dX7_readsItem_25 : decode cX7_readsItem 25 = .ok (.istore_n 1, 1) := by decide +kernel
theorem dX7_readsItem_26 : decode cX7_readsItem 26 = .ok (.aload_n 0, 1) := by decide +kernel
theorem dX7_readsItem_27 : decode cX7_readsItem 27 = .ok (.iload_n 1, 1) := by decide +kernel
theorem dX7_readsItem_28 : decode cX7_readsItem 28 = .ok (.invokevirtual 121, 3) := by decide +kernel
theorem dX7_readsItem_31 : decode cX7_readsItem 31 = .ok (.ifCond .ne 24, 3) := by decide +kernel
theorem dX7_readsItem_34 : decode cX7_readsItem 34 = .ok (.aload_n 0, 1) := by decide +kernel
theorem dX7_readsItem_35 : decode cX7_readsItem 35 = .ok (.getfield 22, 3) := by decide +kernel
theorem dX7_readsItem_38 : decode cX7_readsItem 38 = .ok (.iload_n 1, 1) := by decide +kernel
theorem dX7_readsItem_39 : decode cX7_readsItem 39 = .ok (.baload, 1) := by decide +kernel
theorem dX7_readsItem_40 : decode cX7_readsItem 40 = .ok (.ifCond .ne 15, 3) := by decide +kernel
theorem dX7_readsItem_43 : decode cX7_readsItem 43 = .ok (.aload_n 0, 1) := by decide +kernel
theorem dX7_readsItem_44 : decode cX7_readsItem 44 = .ok (.getfield 341, 3) := by decide +kernel
theorem dX7_readsItem_47 : decode cX7_readsItem 47 = .ok (.iload_n 1, 1) := by decide +kernel
theorem dX7_readsItem_48 : decode cX7_readsItem 48 = .ok (.ishr, 1) := by decide +kernel
theorem dX7_readsItem_49 : decode cX7_readsItem 49 = .ok (.iconst 1, 1) := by decide +kernel
theorem dX7_readsItem_50 : decode cX7_readsItem 50 = .ok (.iand, 1) := by decide +kernel
theorem dX7_readsItem_51 : decode cX7_readsItem 51 = .ok (.iconst 1, 1) := by decide +kernel
theorem dX7_readsItem_52 : decode cX7_readsItem 52 = .ok (.if_icmp .ne 5, 3) := by decide +kernel
theorem dX7_readsItem_55 : decode cX7_readsItem 55 = .ok (.iconst 0, 1) := by decide +kernel
theorem dX7_readsItem_56 : decode cX7_readsItem 56 = .ok (.ireturn, 1) := by decide +kernel
theorem dX7_readsItem_57 : decode cX7_readsItem 57 = .ok (.aload_n 0, 1) := by decide +kernel
theorem dX7_readsItem_58 : decode cX7_readsItem 58 = .ok (.dup, 1) := by decide +kernel
theorem dX7_readsItem_59 : decode cX7_readsItem 59 = .ok (.getfield 331, 3) := by decide +kernel
theorem dX7_readsItem_62 : decode cX7_readsItem 62 = .ok (.iconst 1, 1) := by decide +kernel
theorem dX7_readsItem_63 : decode cX7_readsItem 63 = .ok (.iadd, 1) := by decide +kernel
theorem dX7_readsItem_64 : decode cX7_readsItem 64 = .ok (.putfield 331, 3) := by decide +kernel
theorem dX7_readsItem_67 : decode cX7_readsItem 67 = .ok (.aload_n 0, 1) := by decide +kernel
theorem dX7_readsItem_68 : decode cX7_readsItem 68 = .ok (.invokevirtual 344, 3) := by decide +kernel
theorem dX7_readsItem_71 : decode cX7_readsItem 71 = .ok (.ifCond .ne 5, 3) := by decide +kernel
theorem dX7_readsItem_74 : decode cX7_readsItem 74 = .ok (.iconst 0, 1) := by decide +kernel
theorem dX7_readsItem_75 : decode cX7_readsItem 75 = .ok (.ireturn, 1) := by decide +kernel
theorem dX7_readsItem_76 : decode cX7_readsItem 76 = .ok (.aload_n 0, 1) := by decide +kernel
theorem dX7_readsItem_77 : decode cX7_readsItem 77 = .ok (.dup, 1) := by decide +kernel
theorem dX7_readsItem_78 : decode cX7_readsItem 78 = .ok (.getfield 341, 3) := by decide +kernel
theorem dX7_readsItem_81 : decode cX7_readsItem 81 = .ok (.iconst 1, 1) := by decide +kernel
theorem dX7_readsItem_82 : decode cX7_readsItem 82 = .ok (.iload_n 1, 1) := by decide +kernel
theorem dX7_readsItem_83 : decode cX7_readsItem 83 = .ok (.ishl, 1) := by decide +kernel
theorem dX7_readsItem_84 : decode cX7_readsItem 84 = .ok (.ior, 1) := by decide +kernel
theorem dX7_readsItem_85 : decode cX7_readsItem 85 = .ok (.putfield 341, 3) := by decide +kernel
theorem dX7_readsItem_88 : decode cX7_readsItem 88 = .ok (.aload_n 0, 1) := by decide +kernel
theorem dX7_readsItem_89 : decode cX7_readsItem 89 = .ok (.getfield 100, 3) := by decide +kernel
theorem dX7_readsItem_92 : decode cX7_readsItem 92 = .ok (.iload_n 1, 1) := by decide +kernel
theorem dX7_readsItem_93 : decode cX7_readsItem 93 = .ok (.aload_n 0, 1) := by decide +kernel
theorem dX7_readsItem_94 : decode cX7_readsItem 94 = .ok (.getfield 334, 3) := by decide +kernel
theorem dX7_readsItem_97 : decode cX7_readsItem 97 = .ok (.iastore, 1) := by decide +kernel
theorem dX7_readsItem_98 : decode cX7_readsItem 98 = .ok (.iconst 1, 1) := by decide +kernel
theorem dX7_readsItem_99 : decode cX7_readsItem 99 = .ok (.ireturn, 1) := by decide +kernel
theorem dX7_readLocation_0 : decode cX7_readLocation 0 = .ok (.aload_n 0, 1) := by decide +kernel
theorem dX7_readLocation_1 : decode cX7_readLocation 1 = .ok (.iconst 0, 1) := by decide +kernel
theorem dX7_readLocation_2 : decode cX7_readLocation 2 = .ok (.putfield 331, 3) := by decide +kernel
theorem dX7_readLocation_5 : decode cX7_readLocation 5 = .ok (.aload_n 0, 1) := by decide +kernel
theorem dX7_readLocation_6 : decode cX7_readLocation 6 = .ok (.iconst 0, 1) := by decide +kernel
theorem dX7_readLocation_7 : decode cX7_readLocation 7 = .ok (.putfield 341, 3) := by decide +kernel
theorem dX7_readLocation_10 : decode cX7_readLocation 10 = .ok (.aload_n 0, 1) := by decide +kernel
theorem dX7_readLocation_11 : decode cX7_readLocation 11 = .ok (.invokevirtual 347, 3) := by decide +kernel
theorem dX7_readLocation_14 : decode cX7_readLocation 14 = .ok (.istore_n 1, 1) := by decide +kernel
theorem dX7_readLocation_15 : decode cX7_readLocation 15 = .ok (.iload_n 1, 1) := by decide +kernel
theorem dX7_readLocation_16 : decode cX7_readLocation 16 = .ok (.ifCond .eq 56, 3) := by decide +kernel
theorem dX7_readLocation_19 : decode cX7_readLocation 19 = .ok (.aload_n 0, 1) := by decide +kernel
theorem dX7_readLocation_20 : decode cX7_readLocation 20 = .ok (.getfield 331, 3) := by decide +kernel
theorem dX7_readLocation_23 : decode cX7_readLocation 23 = .ok (.aload_n 0, 1) := by decide +kernel
theorem dX7_readLocation_24 : decode cX7_readLocation 24 = .ok (.getfield 328, 3) := by decide +kernel
theorem dX7_readLocation_27 : decode cX7_readLocation 27 = .ok (.if_icmp .ge 45, 3) := by decide +kernel
theorem dX7_readLocation_30 : decode cX7_readLocation 30 = .ok (.aload_n 0, 1) := by decide +kernel
theorem dX7_readLocation_31 : decode cX7_readLocation 31 = .ok (.getfield 96, 3) := by decide +kernel
theorem dX7_readLocation_34 : decode cX7_readLocation 34 = .ok (.aload_n 0, 1) := by decide +kernel
theorem dX7_readLocation_35 : decode cX7_readLocation 35 = .ok (.getfield 331, 3) := by decide +kernel
theorem dX7_readLocation_38 : decode cX7_readLocation 38 = .ok (.caload, 1) := by decide +kernel
theorem dX7_readLocation_39 : decode cX7_readLocation 39 = .ok (.bipush 59, 2) := by decide +kernel
theorem dX7_readLocation_41 : decode cX7_readLocation 41 = .ok (.if_icmp .ne 7, 3) := by decide +kernel
theorem dX7_readLocation_44 : decode cX7_readLocation 44 = .ok (.iconst 1, 1) := by decide +kernel
theorem dX7_readLocation_45 : decode cX7_readLocation 45 = .ok (.goto 4, 3) := by decide +kernel
theorem dX7_readLocation_48 : decode cX7_readLocation 48 = .ok (.iconst 0, 1) := by decide +kernel
theorem dX7_readLocation_49 : decode cX7_readLocation 49 = .ok (.istore_n 1, 1) := by decide +kernel
theorem dX7_readLocation_50 : decode cX7_readLocation 50 = .ok (.iload_n 1, 1) := by decide +kernel
theorem dX7_readLocation_51 : decode cX7_readLocation 51 = .ok (.ifCond .eq (-36), 3) := by decide +kernel
theorem dX7_readLocation_54 : decode cX7_readLocation 54 = .ok (.aload_n 0, 1) := by decide +kernel
theorem dX7_readLocation_55 : decode cX7_readLocation 55 = .ok (.dup, 1) := by decide +kernel
theorem dX7_readLocation_56 : decode cX7_readLocation 56 = .ok (.getfield 331, 3) := by decide +kernel
theorem dX7_readLocation_59 : decode cX7_readLocation 59 = .ok (.iconst 1, 1) := by decide +kernel
theorem dX7_readLocation_60 : decode cX7_readLocation 60 = .ok (.iadd, 1) := by decide +kernel
theorem dX7_readLocation_61 : decode cX7_readLocation 61 = .ok (.putfield 331, 3) := by decide +kernel
theorem dX7_readLocation_64 : decode cX7_readLocation 64 = .ok (.aload_n 0, 1) := by decide +kernel
theorem dX7_readLocation_65 : decode cX7_readLocation 65 = .ok (.invokevirtual 347, 3) := by decide +kernel
theorem dX7_readLocation_68 : decode cX7_readLocation 68 = .ok (.istore_n 1, 1) := by decide +kernel
theorem dX7_readLocation_69 : decode cX7_readLocation 69 = .ok (.goto (-54), 3) := by decide +kernel
theorem dX7_readLocation_72 : decode cX7_readLocation 72 = .ok (.iload_n 1, 1) := by decide +kernel
theorem dX7_readLocation_73 : decode cX7_readLocation 73 = .ok (.ifCond .ne 11, 3) := by decide +kernel
theorem dX7_readLocation_76 : decode cX7_readLocation 76 = .ok (.bipush (-100), 2) := by decide +kernel
theorem dX7_readLocation_78 : decode cX7_readLocation 78 = .ok (.aload_n 0, 1) := by decide +kernel
theorem dX7_readLocation_79 : decode cX7_readLocation 79 = .ok (.getfield 331, 3) := by decide +kernel
theorem dX7_readLocation_82 : decode cX7_readLocation 82 = .ok (.isub, 1) := by decide +kernel
theorem dX7_readLocation_83 : decode cX7_readLocation 83 = .ok (.ireturn, 1) := by decide +kernel
theorem dX7_readLocation_84 : decode cX7_readLocation 84 = .ok (.iconst 0, 1) := by decide +kernel
theorem dX7_readLocation_85 : decode cX7_readLocation 85 = .ok (.istore_n 2, 1) := by decide +kernel
theorem dX7_readLocation_86 : decode cX7_readLocation 86 = .ok (.iconst 0, 1) := by decide +kernel
theorem dX7_readLocation_87 : decode cX7_readLocation 87 = .ok (.istore_n 3, 1) := by decide +kernel
theorem dX7_readLocation_88 : decode cX7_readLocation 88 = .ok (.iload_n 3, 1) := by decide +kernel
theorem dX7_readLocation_89 : decode cX7_readLocation 89 = .ok (.aload_n 0, 1) := by decide +kernel
theorem dX7_readLocation_90 : decode cX7_readLocation 90 = .ok (.getfield 107, 3) := by decide +kernel
theorem dX7_readLocation_93 : decode cX7_readLocation 93 = .ok (.if_icmp .ge 36, 3) := by decide +kernel
theorem dX7_readLocation_96 : decode cX7_readLocation 96 = .ok (.aload_n 0, 1) := by decide +kernel
theorem dX7_readLocation_97 : decode cX7_readLocation 97 = .ok (.getfield 341, 3) := by decide +kernel
theorem dX7_readLocation_100 : decode cX7_readLocation 100 = .ok (.iload_n 3, 1) := by decide +kernel
theorem dX7_readLocation_101 : decode cX7_readLocation 101 = .ok (.ishr, 1) := by decide +kernel
theorem dX7_readLocation_102 : decode cX7_readLocation 102 = .ok (.iconst 1, 1) := by decide +kernel
theorem dX7_readLocation_103 : decode cX7_readLocation 103 = .ok (.iand, 1) := by decide +kernel
theorem dX7_readLocation_104 : decode cX7_readLocation 104 = .ok (.iconst 1, 1) := by decide +kernel
theorem dX7_readLocation_105 : decode cX7_readLocation 105 = .ok (.if_icmp .ne 18, 3) := by decide +kernel
theorem dX7_readLocation_108 : decode cX7_readLocation 108 = .ok (.aload_n 0, 1) := by decide +kernel
theorem dX7_readLocation_109 : decode cX7_readLocation 109 = .ok (.iload_n 3, 1) := by decide +kernel
theorem dX7_readLocation_110 : decode cX7_readLocation 110 = .ok (.aload_n 0, 1) := by decide +kernel
theorem dX7_readLocation_111 : decode cX7_readLocation 111 = .ok (.getfield 100, 3) := by decide +kernel
theorem dX7_readLocation_114 : decode cX7_readLocation 114 = .ok (.iload_n 3, 1) := by decide +kernel
theorem dX7_readLocation_115 : decode cX7_readLocation 115 = .ok (.iaload, 1) := by decide +kernel
theorem dX7_readLocation_116 : decode cX7_readLocation 116 = .ok (.invokevirtual 350, 3) := by decide +kernel
theorem dX7_readLocation_119 : decode cX7_readLocation 119 = .ok (.pop, 1) := by decide +kernel
theorem dX7_readLocation_120 : decode cX7_readLocation 120 = .ok (.iinc 2 1, 3) := by decide +kernel
theorem dX7_readLocation_123 : decode cX7_readLocation 123 = .ok (.iinc 3 1, 3) := by decide +kernel
theorem dX7_readLocation_126 : decode cX7_readLocation 126 = .ok (.goto (-38), 3) := by decide +kernel
theorem dX7_readLocation_129 : decode cX7_readLocation 129 = .ok (.iload_n 2, 1) := by decide +kernel
theorem dX7_readLocation_130 : decode cX7_readLocation 130 = .ok (.ireturn, 1) := by decide +kernel
theorem dX7_count_0 : decode cX7_count 0 = .ok (.iload_n 1, 1) := by decide +kernel
theorem dX7_count_1 : decode cX7_count 1 = .ok (.ifCond .ne 10, 3) := by decide +kernel
theorem dX7_count_4 : decode cX7_count 4 = .ok (.aload_n 0, 1) := by decide +kernel
theorem dX7_count_5 : decode cX7_count 5 = .ok (.getfield 107, 3) := by decide +kernel
theorem dX7_count_8 : decode cX7_count 8 = .ok (.goto 41, 3) := by decide +kernel
theorem dX7_count_11 : decode cX7_count 11 = .ok (.iload_n 1, 1) := by decide +kernel
theorem dX7_count_12 : decode cX7_count 12 = .ok (.iconst 1, 1) := by decide +kernel
theorem dX7_count_13 : decode cX7_count 13 = .ok (.if_icmp .ne 10, 3) := by decide +kernel
theorem dX7_count_16 : decode cX7_count 16 = .ok (.aload_n 0, 1) := by decide +kernel
theorem dX7_count_17 : decode cX7_count 17 = .ok (.getfield 146, 3) := by decide +kernel
theorem dX7_count_20 : decode cX7_count 20 = .ok (.goto 29, 3) := by decide +kernel
theorem dX7_count_23 : decode cX7_count 23 = .ok (.iload_n 1, 1) := by decide +kernel
theorem dX7_count_24 : decode cX7_count 24 = .ok (.iconst 2, 1) := by decide +kernel
theorem dX7_count_25 : decode cX7_count 25 = .ok (.if_icmp .ne 10, 3) := by decide +kernel
theorem dX7_count_28 : decode cX7_count 28 = .ok (.aload_n 0, 1) := by decide +kernel
theorem dX7_count_29 : decode cX7_count 29 = .ok (.getfield 322, 3) := by decide +kernel
theorem dX7_count_32 : decode cX7_count 32 = .ok (.goto 17, 3) := by decide +kernel
theorem dX7_count_35 : decode cX7_count 35 = .ok (.iload_n 1, 1) := by decide +kernel
theorem dX7_count_36 : decode cX7_count 36 = .ok (.iconst 3, 1) := by decide +kernel
theorem dX7_count_37 : decode cX7_count 37 = .ok (.if_icmp .ne 10, 3) := by decide +kernel
theorem dX7_count_40 : decode cX7_count 40 = .ok (.aload_n 0, 1) := by decide +kernel
theorem dX7_count_41 : decode cX7_count 41 = .ok (.getfield 281, 3) := by decide +kernel
theorem dX7_count_44 : decode cX7_count 44 = .ok (.goto 5, 3) := by decide +kernel
theorem dX7_count_47 : decode cX7_count 47 = .ok (.ldc 119, 2) := by decide +kernel
theorem dX7_count_49 : decode cX7_count 49 = .ok (.ireturn, 1) := by decide +kernel
