theorem dX7_init_0 : decode cX7_init 0 = .ok (.aload_n 0, 1) := by decide +kernel
theorem dX7_init_1 : decode cX7_init 1 = .ok (.invokespecial 3, 3) := by decide +kernel
theorem dX7_init_4 : decode cX7_init 4 = .ok (.aload_n 0, 1) := by decide +kernel
theorem dX7_init_5 : decode cX7_init 5 = .ok (.sipush 246, 3) := by decide +kernel
theorem dX7_init_8 : decode cX7_init 8 = .ok (.newarray .int, 2) := by decide +kernel
theorem dX7_init_10 : decode cX7_init 10 = .ok (.putfield 9, 3) := by decide +kernel
theorem dX7_init_13 : decode cX7_init 13 = .ok (.aload_n 0, 1) := by decide +kernel
theorem dX7_init_14 : decode cX7_init 14 = .ok (.sipush 738, 3) := by decide +kernel
theorem dX7_init_17 : decode cX7_init 17 = .ok (.newarray .int, 2) := by decide +kernel
theorem dX7_init_19 : decode cX7_init 19 = .ok (.putfield 13, 3) := by decide +kernel
theorem dX7_init_22 : decode cX7_init 22 = .ok (.aload_n 0, 1) := by decide +kernel
theorem dX7_init_23 : decode cX7_init 23 = .ok (.iconst 3, 1) := by decide +kernel
theorem dX7_init_24 : decode cX7_init 24 = .ok (.newarray .boolean, 2) := by decide +kernel
theorem dX7_init_26 : decode cX7_init 26 = .ok (.putfield 16, 3) := by decide +kernel
theorem dX7_init_29 : decode cX7_init 29 = .ok (.aload_n 0, 1) := by decide +kernel
theorem dX7_init_30 : decode cX7_init 30 = .ok (.sipush 700, 3) := by decide +kernel
theorem dX7_init_33 : decode cX7_init 33 = .ok (.newarray .byte, 2) := by decide +kernel
theorem dX7_init_35 : decode cX7_init 35 = .ok (.putfield 20, 3) := by decide +kernel
theorem dX7_init_38 : decode cX7_init 38 = .ok (.aload_n 0, 1) := by decide +kernel
theorem dX7_init_39 : decode cX7_init 39 = .ok (.iconst 5, 1) := by decide +kernel
theorem dX7_init_40 : decode cX7_init 40 = .ok (.newarray .int, 2) := by decide +kernel
theorem dX7_init_42 : decode cX7_init 42 = .ok (.putfield 24, 3) := by decide +kernel
theorem dX7_init_45 : decode cX7_init 45 = .ok (.aload_n 0, 1) := by decide +kernel
theorem dX7_init_46 : decode cX7_init 46 = .ok (.iconst (-1), 1) := by decide +kernel
theorem dX7_init_47 : decode cX7_init 47 = .ok (.putfield 27, 3) := by decide +kernel
theorem dX7_init_50 : decode cX7_init 50 = .ok (.aload_n 0, 1) := by decide +kernel
theorem dX7_init_51 : decode cX7_init 51 = .ok (.sipush 246, 3) := by decide +kernel
theorem dX7_init_54 : decode cX7_init 54 = .ok (.newarray .int, 2) := by decide +kernel
theorem dX7_init_56 : decode cX7_init 56 = .ok (.putfield 31, 3) := by decide +kernel
theorem dX7_init_59 : decode cX7_init 59 = .ok (.aload_n 0, 1) := by decide +kernel
theorem dX7_init_60 : decode cX7_init 60 = .ok (.bipush 60, 2) := by decide +kernel
theorem dX7_init_62 : decode cX7_init 62 = .ok (.newarray .boolean, 2) := by decide +kernel
theorem dX7_init_64 : decode cX7_init 64 = .ok (.putfield 34, 3) := by decide +kernel
theorem dX7_init_67 : decode cX7_init 67 = .ok (.aload_n 0, 1) := by decide +kernel
theorem dX7_init_68 : decode cX7_init 68 = .ok (.sipush 1952, 3) := by decide +kernel
theorem dX7_init_71 : decode cX7_init 71 = .ok (.newarray .int, 2) := by decide +kernel
theorem dX7_init_73 : decode cX7_init 73 = .ok (.putfield 37, 3) := by decide +kernel
theorem dX7_init_76 : decode cX7_init 76 = .ok (.aload_n 0, 1) := by decide +kernel
theorem dX7_init_77 : decode cX7_init 77 = .ok (.sipush 1920, 3) := by decide +kernel
theorem dX7_init_80 : decode cX7_init 80 = .ok (.newarray .boolean, 2) := by decide +kernel
theorem dX7_init_82 : decode cX7_init 82 = .ok (.putfield 40, 3) := by decide +kernel
theorem dX7_init_85 : decode cX7_init 85 = .ok (.aload_n 0, 1) := by decide +kernel
theorem dX7_init_86 : decode cX7_init 86 = .ok (.bipush 60, 2) := by decide +kernel
theorem dX7_init_88 : decode cX7_init 88 = .ok (.newarray .int, 2) := by decide +kernel
theorem dX7_init_90 : decode cX7_init 90 = .ok (.putfield 43, 3) := by decide +kernel
theorem dX7_init_93 : decode cX7_init 93 = .ok (.aload_n 0, 1) := by decide +kernel
theorem dX7_init_94 : decode cX7_init 94 = .ok (.bipush 60, 2) := by decide +kernel
theorem dX7_init_96 : decode cX7_init 96 = .ok (.newarray .int, 2) := by decide +kernel
theorem dX7_init_98 : decode cX7_init 98 = .ok (.putfield 46, 3) := by decide +kernel
theorem dX7_init_101 : decode cX7_init 101 = .ok (.aload_n 0, 1) := by decide +kernel
theorem dX7_init_102 : decode cX7_init 102 = .ok (.bipush 60, 2) := by decide +kernel
theorem dX7_init_104 : decode cX7_init 104 = .ok (.newarray .int, 2) := by decide +kernel
theorem dX7_init_106 : decode cX7_init 106 = .ok (.putfield 49, 3) := by decide +kernel
theorem dX7_init_109 : decode cX7_init 109 = .ok (.aload_n 0, 1) := by decide +kernel
theorem dX7_init_110 : decode cX7_init 110 = .ok (.bipush 60, 2) := by decide +kernel
theorem dX7_init_112 : decode cX7_init 112 = .ok (.newarray .int, 2) := by decide +kernel
theorem dX7_init_114 : decode cX7_init 114 = .ok (.putfield 52, 3) := by decide +kernel
theorem dX7_init_117 : decode cX7_init 117 = .ok (.aload_n 0, 1) := by decide +kernel
theorem dX7_init_118 : decode cX7_init 118 = .ok (.bipush 60, 2) := by decide +kernel
theorem dX7_init_120 : decode cX7_init 120 = .ok (.newarray .int, 2) := by decide +kernel
theorem dX7_init_122 : decode cX7_init 122 = .ok (.putfield 55, 3) := by decide +kernel
theorem dX7_init_125 : decode cX7_init 125 = .ok (.aload_n 0, 1) := by decide +kernel
theorem dX7_init_126 : decode cX7_init 126 = .ok (.sipush 1920, 3) := by decide +kernel
theorem dX7_init_129 : decode cX7_init 129 = .ok (.newarray .boolean, 2) := by decide +kernel
theorem dX7_init_131 : decode cX7_init 131 = .ok (.putfield 58, 3) := by decide +kernel
theorem dX7_init_134 : decode cX7_init 134 = .ok (.aload_n 0, 1) := by decide +kernel
theorem dX7_init_135 : decode cX7_init 135 = .ok (.sipush 1920, 3) := by decide +kernel
theorem dX7_init_138 : decode cX7_init 138 = .ok (.newarray .boolean, 2) := by decide +kernel
theorem dX7_init_140 : decode cX7_init 140 = .ok (.putfield 61, 3) := by decide +kernel
theorem dX7_init_143 : decode cX7_init 143 = .ok (.aload_n 0, 1) := by decide +kernel
theorem dX7_init_144 : decode cX7_init 144 = .ok (.sipush 1920, 3) := by decide +kernel
theorem dX7_init_147 : decode cX7_init 147 = .ok (.newarray .int, 2) := by decide +kernel
theorem dX7_init_149 : decode cX7_init 149 = .ok (.putfield 64, 3) := by decide +kernel
theorem dX7_init_152 : decode cX7_init 152 = .ok (.aload_n 0, 1) := by decide +kernel
theorem dX7_init_153 : decode cX7_init 153 = .ok (.sipush 1920, 3) := by decide +kernel
theorem dX7_init_156 : decode cX7_init 156 = .ok (.newarray .int, 2) := by decide +kernel
theorem dX7_init_158 : decode cX7_init 158 = .ok (.putfield 67, 3) := by decide +kernel
theorem dX7_init_161 : decode cX7_init 161 = .ok (.aload_n 0, 1) := by decide +kernel
theorem dX7_init_162 : decode cX7_init 162 = .ok (.bipush 60, 2) := by decide +kernel
theorem dX7_init_164 : decode cX7_init 164 = .ok (.newarray .int, 2) := by decide +kernel
theorem dX7_init_166 : decode cX7_init 166 = .ok (.putfield 70, 3) := by decide +kernel
theorem dX7_init_169 : decode cX7_init 169 = .ok (.aload_n 0, 1) := by decide +kernel
theorem dX7_init_170 : decode cX7_init 170 = .ok (.bipush 32, 2) := by decide +kernel
theorem dX7_init_172 : decode cX7_init 172 = .ok (.newarray .int, 2) := by decide +kernel
theorem dX7_init_174 : decode cX7_init 174 = .ok (.putfield 73, 3) := by decide +kernel
theorem dX7_init_177 : decode cX7_init 177 = .ok (.aload_n 0, 1) := by decide +kernel
theorem dX7_init_178 : decode cX7_init 178 = .ok (.bipush 60, 2) := by decide +kernel
theorem dX7_init_180 : decode cX7_init 180 = .ok (.newarray .int, 2) := by decide +kernel
theorem dX7_init_182 : decode cX7_init 182 = .ok (.putfield 76, 3) := by decide +kernel
theorem dX7_init_185 : decode cX7_init 185 = .ok (.aload_n 0, 1) := by decide +kernel
theorem dX7_init_186 : decode cX7_init 186 = .ok (.bipush 32, 2) := by decide +kernel
theorem dX7_init_188 : decode cX7_init 188 = .ok (.newarray .int, 2) := by decide +kernel
theorem dX7_init_190 : decode cX7_init 190 = .ok (.putfield 79, 3) := by decide +kernel
theorem dX7_init_193 : decode cX7_init 193 = .ok (.aload_n 0, 1) := by decide +kernel
theorem dX7_init_194 : decode cX7_init 194 = .ok (.sipush 256, 3) := by decide +kernel
theorem dX7_init_197 : decode cX7_init 197 = .ok (.newarray .int, 2) := by decide +kernel
theorem dX7_init_199 : decode cX7_init 199 = .ok (.putfield 82, 3) := by decide +kernel
theorem dX7_init_202 : decode cX7_init 202 = .ok (.aload_n 0, 1) := by decide +kernel
theorem dX7_init_203 : decode cX7_init 203 = .ok (.iconst 4, 1) := by decide +kernel
theorem dX7_init_204 : decode cX7_init 204 = .ok (.newarray .int, 2) := by decide +kernel
theorem dX7_init_206 : decode cX7_init 206 = .ok (.dup, 1) := by decide +kernel
theorem dX7_init_207 : decode cX7_init 207 = .ok (.iconst 0, 1) := by decide +kernel
theorem dX7_init_208 : decode cX7_init 208 = .ok (.iconst (-1), 1) := by decide +kernel
theorem dX7_init_209 : decode cX7_init 209 = .ok (.iastore, 1) := by decide +kernel
theorem dX7_init_210 : decode cX7_init 210 = .ok (.dup, 1) := by decide +kernel
theorem dX7_init_211 : decode cX7_init 211 = .ok (.iconst 1, 1) := by decide +kernel
theorem dX7_init_212 : decode cX7_init 212 = .ok (.iconst (-1), 1) := by decide +kernel
theorem dX7_init_213 : decode cX7_init 213 = .ok (.iastore, 1) := by decide +kernel
theorem dX7_init_214 : decode cX7_init 214 = .ok (.dup, 1) := by decide +kernel
theorem dX7_init_215 : decode cX7_init 215 = .ok (.iconst 2, 1) := by decide +kernel
theorem dX7_init_216 : decode cX7_init 216 = .ok (.iconst (-1), 1) := by decide +kernel
theorem dX7_init_217 : decode cX7_init 217 = .ok (.iastore, 1) := by decide +kernel
theorem dX7_init_218 : decode cX7_init 218 = .ok (.dup, 1) := by decide +kernel
theorem dX7_init_219 : decode cX7_init 219 = .ok (.iconst 3, 1) := by decide +kernel
theorem dX7_init_220 : decode cX7_init 220 = .ok (.iconst (-1), 1) := by decide +kernel
theorem dX7_init_221 : decode cX7_init 221 = .ok (.iastore, 1) := by decide +kernel
theorem dX7_init_222 : decode cX7_init 222 = .ok (.putfield 85, 3) := by decide +kernel
theorem dX7_init_225 : decode cX7_init 225 = .ok (.aload_n 0, 1) := by decide +kernel
theorem dX7_init_226 : decode cX7_init 226 = .ok (.iconst 4, 1) := by decide +kernel
theorem dX7_init_227 : decode cX7_init 227 = .ok (.newarray .int, 2) := by decide +kernel
theorem dX7_init_229 : decode cX7_init 229 = .ok (.putfield 88, 3) := by decide +kernel
theorem dX7_init_232 : decode cX7_init 232 = .ok (.aload_n 0, 1) := by decide +kernel
theorem dX7_init_233 : decode cX7_init 233 = .ok (.sipush 240, 3) := by decide +kernel
theorem dX7_init_236 : decode cX7_init 236 = .ok (.newarray .long, 2) := by decide +kernel
theorem dX7_init_238 : decode cX7_init 238 = .ok (.putfield 91, 3) := by decide +kernel
theorem dX7_init_241 : decode cX7_init 241 = .ok (.aload_n 0, 1) := by decide +kernel
theorem dX7_init_242 : decode cX7_init 242 = .ok (.bipush 60, 2) := by decide +kernel
theorem dX7_init_244 : decode cX7_init 244 = .ok (.newarray .long, 2) := by decide +kernel
theorem dX7_init_246 : decode cX7_init 246 = .ok (.putfield 95, 3) := by decide +kernel
theorem dX7_init_249 : decode cX7_init 249 = .ok (.return_, 1) := by decide +kernel
theorem dX7_in_0 : decode cX7_in 0 = .ok (.lload_n 0, 1) := by decide +kernel
theorem dX7_in_1 : decode cX7_in 1 = .ok (.lload_n 2, 1) := by decide +kernel
theorem dX7_in_2 : decode cX7_in 2 = .ok (.lcmp, 1) := by decide +kernel
theorem dX7_in_3 : decode cX7_in 3 = .ok (.ifCond .lt 14, 3) := by decide +kernel
theorem dX7_in_6 : decode cX7_in 6 = .ok (.lload_n 0, 1) := by decide +kernel
theorem dX7_in_7 : decode cX7_in 7 = .ok (.lload 4, 2) := by decide +kernel
theorem dX7_in_9 : decode cX7_in 9 = .ok (.lcmp, 1) := by decide +kernel
theorem dX7_in_10 : decode cX7_in 10 = .ok (.ifCond .gt 7, 3) := by decide +kernel
theorem dX7_in_13 : decode cX7_in 13 = .ok (.iconst 1, 1) := by decide +kernel
theorem dX7_in_14 : decode cX7_in 14 = .ok (.goto 4, 3) := by decide +kernel
theorem dX7_in_17 : decode cX7_in 17 = .ok (.iconst 0, 1) := by decide +kernel
theorem dX7_in_18 : decode cX7_in 18 = .ok (.ireturn, 1) := by decide +kernel
theorem dX7_bit_0 : decode cX7_bit 0 = .ok (.iload_n 0, 1) := by decide +kernel
theorem dX7_bit_1 : decode cX7_bit 1 = .ok (.iload_n 1, 1) := by decide +kernel
theorem dX7_bit_2 : decode cX7_bit 2 = .ok (.ishr, 1) := by decide +kernel
theorem dX7_bit_3 : decode cX7_bit 3 = .ok (.iconst 1, 1) := by decide +kernel
theorem dX7_bit_4 : decode cX7_bit 4 = .ok (.iand, 1) := by decide +kernel
theorem dX7_bit_5 : decode cX7_bit 5 = .ok (.ireturn, 1) := by decide +kernel
theorem dX7_image_0 : decode cX7_image 0 = .ok (.iload_n 1, 1) := by decide +kernel
theorem dX7_image_1 : decode cX7_image 1 = .ok (.i2l, 1) := by decide +kernel
theorem dX7_image_2 : decode cX7_image 2 = .ok (.lconst 0, 1) := by decide +kernel
theorem dX7_image_3 : decode cX7_image 3 = .ok (.ldc2_w 101, 3) := by decide +kernel
theorem dX7_image_6 : decode cX7_image 6 = .ok (.invokestatic 103, 3) := by decide +kernel
theorem dX7_image_9 : decode cX7_image 9 = .ok (.ifCond .ne 6, 3) := by decide +kernel
theorem dX7_image_12 : decode cX7_image 12 = .ok (.bipush (-2), 2) := by decide +kernel
theorem dX7_image_14 : decode cX7_image 14 = .ok (.ireturn, 1) := by decide +kernel
theorem dX7_image_15 : decode cX7_image 15 = .ok (.iconst 0, 1) := by decide +kernel
theorem dX7_image_16 : decode cX7_image 16 = .ok (.istore_n 2, 1) := by decide +kernel
theorem dX7_image_17 : decode cX7_image 17 = .ok (.iload_n 2, 1) := by decide +kernel
theorem dX7_image_18 : decode cX7_image 18 = .ok (.sipush 246, 3) := by decide +kernel
theorem dX7_image_21 : decode cX7_image 21 = .ok (.if_icmp .ge 27, 3) := by decide +kernel
theorem dX7_image_24 : decode cX7_image 24 = .ok (.aload_n 0, 1) := by decide +kernel
theorem dX7_image_25 : decode cX7_image 25 = .ok (.getfield 13, 3) := by decide +kernel
theorem dX7_image_28 : decode cX7_image 28 = .ok (.sipush 246, 3) := by decide +kernel
theorem dX7_image_31 : decode cX7_image 31 = .ok (.iload_n 1, 1) := by decide +kernel
theorem dX7_image_32 : decode cX7_image 32 = .ok (.imul, 1) := by decide +kernel
theorem dX7_image_33 : decode cX7_image 33 = .ok (.iload_n 2, 1) := by decide +kernel
theorem dX7_image_34 : decode cX7_image 34 = .ok (.iadd, 1) := by decide +kernel
theorem dX7_image_35 : decode cX7_image 35 = .ok (.aload_n 0, 1) := by decide +kernel
theorem dX7_image_36 : decode cX7_image 36 = .ok (.getfield 9, 3) := by decide +kernel
theorem dX7_image_39 : decode cX7_image 39 = .ok (.iload_n 2, 1) := by decide +kernel
theorem dX7_image_40 : decode cX7_image 40 = .ok (.iaload, 1) := by decide +kernel
theorem dX7_image_41 : decode cX7_image 41 = .ok (.iastore, 1) := by decide +kernel
theorem dX7_image_42 : decode cX7_image 42 = .ok (.iinc 2 1, 3) := by decide +kernel
theorem dX7_image_45 : decode cX7_image 45 = .ok (.goto (-28), 3) := by decide +kernel
theorem dX7_image_48 : decode cX7_image 48 = .ok (.aload_n 0, 1) := by decide +kernel
theorem dX7_image_49 : decode cX7_image 49 = .ok (.getfield 16, 3) := by decide +kernel
theorem dX7_image_52 : decode cX7_image 52 = .ok (.iload_n 1, 1) := by decide +kernel
theorem dX7_image_53 : decode cX7_image 53 = .ok (.iconst 1, 1) := by decide +kernel
theorem dX7_image_54 : decode cX7_image 54 = .ok (.bastore, 1) := by decide +kernel
theorem dX7_image_55 : decode cX7_image 55 = .ok (.iconst 0, 1) := by decide +kernel
theorem dX7_image_56 : decode cX7_image 56 = .ok (.ireturn, 1) := by decide +kernel
theorem dX7_back_0 : decode cX7_back 0 = .ok (.iload_n 1, 1) := by decide +kernel
theorem dX7_back_1 : decode cX7_back 1 = .ok (.i2l, 1) := by decide +kernel
theorem dX7_back_2 : decode cX7_back 2 = .ok (.lconst 0, 1) := by decide +kernel
theorem dX7_back_3 : decode cX7_back 3 = .ok (.ldc2_w 101, 3) := by decide +kernel
theorem dX7_back_6 : decode cX7_back 6 = .ok (.invokestatic 103, 3) := by decide +kernel
theorem dX7_back_9 : decode cX7_back 9 = .ok (.ifCond .ne 6, 3) := by decide +kernel
theorem dX7_back_12 : decode cX7_back 12 = .ok (.bipush (-2), 2) := by decide +kernel
theorem dX7_back_14 : decode cX7_back 14 = .ok (.ireturn, 1) := by decide +kernel
theorem dX7_back_15 : decode cX7_back 15 = .ok (.aload_n 0, 1) := by decide +kernel
theorem dX7_back_16 : decode cX7_back 16 = .ok (.getfield 16, 3) := by decide +kernel
theorem dX7_back_19 : decode cX7_back 19 = .ok (.iload_n 1, 1) := by decide +kernel
theorem dX7_back_20 : decode cX7_back 20 = .ok (.baload, 1) := by decide +kernel
theorem dX7_back_21 : decode cX7_back 21 = .ok (.ifCond .ne 6, 3) := by decide +kernel
theorem dX7_back_24 : decode cX7_back 24 = .ok (.bipush (-6), 2) := by decide +kernel
theorem dX7_back_26 : decode cX7_back 26 = .ok (.ireturn, 1) := by decide +kernel
theorem dX7_back_27 : decode cX7_back 27 = .ok (.iconst 0, 1) := by decide +kernel
theorem dX7_back_28 : decode cX7_back 28 = .ok (.istore_n 2, 1) := by decide +kernel
theorem dX7_back_29 : decode cX7_back 29 = .ok (.iload_n 2, 1) := by decide +kernel
theorem dX7_back_30 : decode cX7_back 30 = .ok (.sipush 246, 3) := by decide +kernel
theorem dX7_back_33 : decode cX7_back 33 = .ok (.if_icmp .ge 27, 3) := by decide +kernel
theorem dX7_back_36 : decode cX7_back 36 = .ok (.aload_n 0, 1) := by decide +kernel
theorem dX7_back_37 : decode cX7_back 37 = .ok (.getfield 9, 3) := by decide +kernel
theorem dX7_back_40 : decode cX7_back 40 = .ok (.iload_n 2, 1) := by decide +kernel
theorem dX7_back_41 : decode cX7_back 41 = .ok (.aload_n 0, 1) := by decide +kernel
theorem dX7_back_42 : decode cX7_back 42 = .ok (.getfield 13, 3) := by decide +kernel
theorem dX7_back_45 : decode cX7_back 45 = .ok (.sipush 246, 3) := by decide +kernel
theorem dX7_back_48 : decode cX7_back 48 = .ok (.iload_n 1, 1) := by decide +kernel
theorem dX7_back_49 : decode cX7_back 49 = .ok (.imul, 1) := by decide +kernel
theorem dX7_back_50 : decode cX7_back 50 = .ok (.iload_n 2, 1) := by decide +kernel
theorem dX7_back_51 : decode cX7_back 51 = .ok (.iadd, 1) := by decide +kernel
theorem dX7_back_52 : decode cX7_back 52 = .ok (.iaload, 1) := by decide +kernel
theorem dX7_back_53 : decode cX7_back 53 = .ok (.iastore, 1) := by decide +kernel
theorem dX7_back_54 : decode cX7_back 54 = .ok (.iinc 2 1, 3) := by decide +kernel
theorem dX7_back_57 : decode cX7_back 57 = .ok (.goto (-28), 3) := by decide +kernel
theorem dX7_back_60 : decode cX7_back 60 = .ok (.iconst 0, 1) := by decide +kernel
theorem dX7_back_61 : decode cX7_back 61 = .ok (.ireturn, 1) := by decide +kernel
theorem dX7_isStore_0 : decode cX7_isStore 0 = .ok (.aload_n 0, 1) := by decide +kernel
theorem dX7_isStore_1 : decode cX7_isStore 1 = .ok (.getfield 9, 3) := by decide +kernel
theorem dX7_isStore_4 : decode cX7_isStore 4 = .ok (.iconst 5, 1) := by decide +kernel
theorem dX7_isStore_5 : decode cX7_isStore 5 = .ok (.iaload, 1) := by decide +kernel
theorem dX7_isStore_6 : decode cX7_isStore 6 = .ok (.ifCond .le 7, 3) := by decide +kernel
theorem dX7_isStore_9 : decode cX7_isStore 9 = .ok (.iconst 1, 1) := by decide +kernel
theorem dX7_isStore_10 : decode cX7_isStore 10 = .ok (.goto 4, 3) := by decide +kernel
theorem dX7_isStore_13 : decode cX7_isStore 13 = .ok (.iconst 0, 1) := by decide +kernel
theorem dX7_isStore_14 : decode cX7_isStore 14 = .ok (.ireturn, 1) := by decide +kernel
theorem dX7_cells_0 : decode cX7_cells 0 = .ok (.aload_n 0, 1) := by decide +kernel
theorem dX7_cells_1 : decode cX7_cells 1 = .ok (.getfield 9, 3) := by decide +kernel
theorem dX7_cells_4 : decode cX7_cells 4 = .ok (.iconst 0, 1) := by decide +kernel
theorem dX7_cells_5 : decode cX7_cells 5 = .ok (.iaload, 1) := by decide +kernel
theorem dX7_cells_6 : decode cX7_cells 6 = .ok (.ireturn, 1) := by decide +kernel
theorem dX7_events_0 : decode cX7_events 0 = .ok (.aload_n 0, 1) := by decide +kernel
theorem dX7_events_1 : decode cX7_events 1 = .ok (.getfield 9, 3) := by decide +kernel
theorem dX7_events_4 : decode cX7_events 4 = .ok (.iconst 3, 1) := by decide +kernel
theorem dX7_events_5 : decode cX7_events 5 = .ok (.iaload, 1) := by decide +kernel
theorem dX7_events_6 : decode cX7_events 6 = .ok (.aload_n 0, 1) := by decide +kernel
theorem dX7_events_7 : decode cX7_events 7 = .ok (.getfield 9, 3) := by decide +kernel
theorem dX7_events_10 : decode cX7_events 10 = .ok (.iconst 4, 1) := by decide +kernel
theorem dX7_events_11 : decode cX7_events 11 = .ok (.iaload, 1) := by decide +kernel
theorem dX7_events_12 : decode cX7_events 12 = .ok (.iadd, 1) := by decide +kernel
theorem dX7_events_13 : decode cX7_events 13 = .ok (.ireturn, 1) := by decide +kernel
theorem dX7_isCell_0 : decode cX7_isCell 0 = .ok (.lload_n 1, 1) := by decide +kernel
theorem dX7_isCell_1 : decode cX7_isCell 1 = .ok (.lconst 0, 1) := by decide +kernel
theorem dX7_isCell_2 : decode cX7_isCell 2 = .ok (.aload_n 0, 1) := by decide +kernel
theorem dX7_isCell_3 : decode cX7_isCell 3 = .ok (.invokevirtual 107, 3) := by decide +kernel
theorem dX7_isCell_6 : decode cX7_isCell 6 = .ok (.iconst 1, 1) := by decide +kernel
theorem dX7_isCell_7 : decode cX7_isCell 7 = .ok (.isub, 1) := by decide +kernel
theorem dX7_isCell_8 : decode cX7_isCell 8 = .ok (.i2l, 1) := by decide +kernel
theorem dX7_isCell_9 : decode cX7_isCell 9 = .ok (.invokestatic 103, 3) := by decide +kernel
theorem dX7_isCell_12 : decode cX7_isCell 12 = .ok (.ireturn, 1) := by decide +kernel
theorem dX7_isEvent_0 : decode cX7_isEvent 0 = .ok (.lload_n 1, 1) := by decide +kernel
theorem dX7_isEvent_1 : decode cX7_isEvent 1 = .ok (.lconst 0, 1) := by decide +kernel
theorem dX7_isEvent_2 : decode cX7_isEvent 2 = .ok (.aload_n 0, 1) := by decide +kernel
theorem dX7_isEvent_3 : decode cX7_isEvent 3 = .ok (.invokevirtual 111, 3) := by decide +kernel
theorem dX7_isEvent_6 : decode cX7_isEvent 6 = .ok (.iconst 1, 1) := by decide +kernel
theorem dX7_isEvent_7 : decode cX7_isEvent 7 = .ok (.isub, 1) := by decide +kernel
theorem dX7_isEvent_8 : decode cX7_isEvent 8 = .ok (.i2l, 1) := by decide +kernel
theorem dX7_isEvent_9 : decode cX7_isEvent 9 = .ok (.invokestatic 103, 3) := by decide +kernel
theorem dX7_isEvent_12 : decode cX7_isEvent 12 = .ok (.ireturn, 1) := by decide +kernel
theorem dX7_isTold_0 : decode cX7_isTold 0 = .ok (.lload_n 1, 1) := by decide +kernel
theorem dX7_isTold_1 : decode cX7_isTold 1 = .ok (.lconst 0, 1) := by decide +kernel
theorem dX7_isTold_2 : decode cX7_isTold 2 = .ok (.aload_n 0, 1) := by decide +kernel
theorem dX7_isTold_3 : decode cX7_isTold 3 = .ok (.getfield 9, 3) := by decide +kernel
theorem dX7_isTold_6 : decode cX7_isTold 6 = .ok (.iconst 3, 1) := by decide +kernel
theorem dX7_isTold_7 : decode cX7_isTold 7 = .ok (.iaload, 1) := by decide +kernel
theorem dX7_isTold_8 : decode cX7_isTold 8 = .ok (.iconst 1, 1) := by decide +kernel
theorem dX7_isTold_9 : decode cX7_isTold 9 = .ok (.isub, 1) := by decide +kernel
theorem dX7_isTold_10 : decode cX7_isTold 10 = .ok (.i2l, 1) := by decide +kernel
theorem dX7_isTold_11 : decode cX7_isTold 11 = .ok (.invokestatic 103, 3) := by decide +kernel
theorem dX7_isTold_14 : decode cX7_isTold 14 = .ok (.ireturn, 1) := by decide +kernel
theorem dX7_isTick_0 : decode cX7_isTick 0 = .ok (.aload_n 0, 1) := by decide +kernel
theorem dX7_isTick_1 : decode cX7_isTick 1 = .ok (.invokevirtual 114, 3) := by decide +kernel
theorem dX7_isTick_4 : decode cX7_isTick 4 = .ok (.ifCond .eq 20, 3) := by decide +kernel
theorem dX7_isTick_7 : decode cX7_isTick 7 = .ok (.lload_n 1, 1) := by decide +kernel
theorem dX7_isTick_8 : decode cX7_isTick 8 = .ok (.lconst 0, 1) := by decide +kernel
theorem dX7_isTick_9 : decode cX7_isTick 9 = .ok (.aload_n 0, 1) := by decide +kernel
theorem dX7_isTick_10 : decode cX7_isTick 10 = .ok (.invokevirtual 111, 3) := by decide +kernel
theorem dX7_isTick_13 : decode cX7_isTick 13 = .ok (.i2l, 1) := by decide +kernel
theorem dX7_isTick_14 : decode cX7_isTick 14 = .ok (.invokestatic 103, 3) := by decide +kernel
theorem dX7_isTick_17 : decode cX7_isTick 17 = .ok (.ifCond .eq 7, 3) := by decide +kernel
theorem dX7_isTick_20 : decode cX7_isTick 20 = .ok (.iconst 1, 1) := by decide +kernel
theorem dX7_isTick_21 : decode cX7_isTick 21 = .ok (.goto 4, 3) := by decide +kernel
theorem dX7_isTick_24 : decode cX7_isTick 24 = .ok (.iconst 0, 1) := by decide +kernel
theorem dX7_isTick_25 : decode cX7_isTick 25 = .ok (.ireturn, 1) := by decide +kernel
theorem dX7_kindOf_0 : decode cX7_kindOf 0 = .ok (.aload_n 0, 1) := by decide +kernel
theorem dX7_kindOf_1 : decode cX7_kindOf 1 = .ok (.getfield 9, 3) := by decide +kernel
theorem dX7_kindOf_4 : decode cX7_kindOf 4 = .ok (.bipush 6, 2) := by decide +kernel
theorem dX7_kindOf_6 : decode cX7_kindOf 6 = .ok (.iconst 4, 1) := by decide +kernel
theorem dX7_kindOf_7 : decode cX7_kindOf 7 = .ok (.iload_n 1, 1) := by decide +kernel
theorem dX7_kindOf_8 : decode cX7_kindOf 8 = .ok (.imul, 1) := by decide +kernel
theorem dX7_kindOf_9 : decode cX7_kindOf 9 = .ok (.iadd, 1) := by decide +kernel
theorem dX7_kindOf_10 : decode cX7_kindOf 10 = .ok (.iaload, 1) := by decide +kernel
theorem dX7_kindOf_11 : decode cX7_kindOf 11 = .ok (.ireturn, 1) := by decide +kernel
theorem dX7_numberOf_0 : decode cX7_numberOf 0 = .ok (.aload_n 0, 1) := by decide +kernel
theorem dX7_numberOf_1 : decode cX7_numberOf 1 = .ok (.getfield 9, 3) := by decide +kernel
theorem dX7_numberOf_4 : decode cX7_numberOf 4 = .ok (.bipush 6, 2) := by decide +kernel
theorem dX7_numberOf_6 : decode cX7_numberOf 6 = .ok (.iconst 4, 1) := by decide +kernel
theorem dX7_numberOf_7 : decode cX7_numberOf 7 = .ok (.iload_n 1, 1) := by decide +kernel
theorem dX7_numberOf_8 : decode cX7_numberOf 8 = .ok (.imul, 1) := by decide +kernel
theorem dX7_numberOf_9 : decode cX7_numberOf 9 = .ok (.iadd, 1) := by decide +kernel
theorem dX7_numberOf_10 : decode cX7_numberOf 10 = .ok (.iconst 1, 1) := by decide +kernel
theorem dX7_numberOf_11 : decode cX7_numberOf 11 = .ok (.iadd, 1) := by decide +kernel
theorem dX7_numberOf_12 : decode cX7_numberOf 12 = .ok (.iload_n 2, 1) := by decide +kernel
theorem dX7_numberOf_13 : decode cX7_numberOf 13 = .ok (.iadd, 1) := by decide +kernel
theorem dX7_numberOf_14 : decode cX7_numberOf 14 = .ok (.iaload, 1) := by decide +kernel
theorem dX7_numberOf_15 : decode cX7_numberOf 15 = .ok (.ireturn, 1) := by decide +kernel
theorem dX7_isCommand_0 : decode cX7_isCommand 0 = .ok (.aload_n 0, 1) := by decide +kernel
theorem dX7_isCommand_1 : decode cX7_isCommand 1 = .ok (.iload_n 1, 1) := by decide +kernel
theorem dX7_isCommand_2 : decode cX7_isCommand 2 = .ok (.invokevirtual 118, 3) := by decide +kernel
theorem dX7_isCommand_5 : decode cX7_isCommand 5 = .ok (.iconst 4, 1) := by decide +kernel
theorem dX7_isCommand_6 : decode cX7_isCommand 6 = .ok (.if_icmp .ge 7, 3) := by decide +kernel
theorem dX7_isCommand_9 : decode cX7_isCommand 9 = .ok (.iconst 1, 1) := by decide +kernel
theorem dX7_isCommand_10 : decode cX7_isCommand 10 = .ok (.goto 4, 3) := by decide +kernel
theorem dX7_isCommand_13 : decode cX7_isCommand 13 = .ok (.iconst 0, 1) := by decide +kernel
theorem dX7_isCommand_14 : decode cX7_isCommand 14 = .ok (.ireturn, 1) := by decide +kernel
theorem dX7_numbersOf_0 : decode cX7_numbersOf 0 = .ok (.iload_n 0, 1) := by decide +kernel
theorem dX7_numbersOf_1 : decode cX7_numbersOf 1 = .ok (.iconst 3, 1) := by decide +kernel
theorem dX7_numbersOf_2 : decode cX7_numbersOf 2 = .ok (.if_icmp .ge 5, 3) := by decide +kernel
theorem dX7_numbersOf_5 : decode cX7_numbersOf 5 = .ok (.iconst 2, 1) := by decide +kernel
theorem dX7_numbersOf_6 : decode cX7_numbersOf 6 = .ok (.ireturn, 1) := by decide +kernel
theorem dX7_numbersOf_7 : decode cX7_numbersOf 7 = .ok (.iload_n 0, 1) := by decide +kernel
theorem dX7_numbersOf_8 : decode cX7_numbersOf 8 = .ok (.iconst 3, 1) := by decide +kernel
theorem dX7_numbersOf_9 : decode cX7_numbersOf 9 = .ok (.if_icmp .ne 7, 3) := by decide +kernel
theorem dX7_numbersOf_12 : decode cX7_numbersOf 12 = .ok (.iconst 3, 1) := by decide +kernel
theorem dX7_numbersOf_13 : decode cX7_numbersOf 13 = .ok (.goto 14, 3) := by decide +kernel
theorem dX7_numbersOf_16 : decode cX7_numbersOf 16 = .ok (.iload_n 0, 1) := by decide +kernel
theorem dX7_numbersOf_17 : decode cX7_numbersOf 17 = .ok (.bipush 6, 2) := by decide +kernel
theorem dX7_numbersOf_19 : decode cX7_numbersOf 19 = .ok (.if_icmp .ne 7, 3) := by decide +kernel
theorem dX7_numbersOf_22 : decode cX7_numbersOf 22 = .ok (.iconst 1, 1) := by decide +kernel
theorem dX7_numbersOf_23 : decode cX7_numbersOf 23 = .ok (.goto 4, 3) := by decide +kernel
theorem dX7_numbersOf_26 : decode cX7_numbersOf 26 = .ok (.iconst 0, 1) := by decide +kernel
theorem dX7_numbersOf_27 : decode cX7_numbersOf 27 = .ok (.ireturn, 1) := by decide +kernel
theorem dX7_lowOf_0 : decode cX7_lowOf 0 = .ok (.iload_n 0, 1) := by decide +kernel
theorem dX7_lowOf_1 : decode cX7_lowOf 1 = .ok (.bipush 6, 2) := by decide +kernel
theorem dX7_lowOf_3 : decode cX7_lowOf 3 = .ok (.if_icmp .ne 5, 3) := by decide +kernel
theorem dX7_lowOf_6 : decode cX7_lowOf 6 = .ok (.iconst 1, 1) := by decide +kernel
theorem dX7_lowOf_7 : decode cX7_lowOf 7 = .ok (.ireturn, 1) := by decide +kernel
theorem dX7_lowOf_8 : decode cX7_lowOf 8 = .ok (.iload_n 0, 1) := by decide +kernel
theorem dX7_lowOf_9 : decode cX7_lowOf 9 = .ok (.iconst 3, 1) := by decide +kernel
theorem dX7_lowOf_10 : decode cX7_lowOf 10 = .ok (.if_icmp .ne 12, 3) := by decide +kernel
theorem dX7_lowOf_13 : decode cX7_lowOf 13 = .ok (.iload_n 1, 1) := by decide +kernel
theorem dX7_lowOf_14 : decode cX7_lowOf 14 = .ok (.iconst 1, 1) := by decide +kernel
theorem dX7_lowOf_15 : decode cX7_lowOf 15 = .ok (.if_icmp .ne 7, 3) := by decide +kernel
theorem dX7_lowOf_18 : decode cX7_lowOf 18 = .ok (.iload_n 2, 1) := by decide +kernel
theorem dX7_lowOf_19 : decode cX7_lowOf 19 = .ok (.goto 4, 3) := by decide +kernel
theorem dX7_lowOf_22 : decode cX7_lowOf 22 = .ok (.iconst 0, 1) := by decide +kernel
theorem dX7_lowOf_23 : decode cX7_lowOf 23 = .ok (.ireturn, 1) := by decide +kernel
theorem dX7_highOf_0 : decode cX7_highOf 0 = .ok (.iload_n 0, 1) := by decide +kernel
theorem dX7_highOf_1 : decode cX7_highOf 1 = .ok (.bipush 6, 2) := by decide +kernel
theorem dX7_highOf_3 : decode cX7_highOf 3 = .ok (.if_icmp .ne 6, 3) := by decide +kernel
theorem dX7_highOf_6 : decode cX7_highOf 6 = .ok (.bipush 32, 2) := by decide +kernel
theorem dX7_highOf_8 : decode cX7_highOf 8 = .ok (.ireturn, 1) := by decide +kernel
theorem dX7_highOf_9 : decode cX7_highOf 9 = .ok (.iload_n 1, 1) := by decide +kernel
theorem dX7_highOf_10 : decode cX7_highOf 10 = .ok (.ifCond .eq 13, 3) := by decide +kernel
theorem dX7_highOf_13 : decode cX7_highOf 13 = .ok (.iload_n 1, 1) := by decide +kernel
theorem dX7_highOf_14 : decode cX7_highOf 14 = .ok (.iconst 1, 1) := by decide +kernel
theorem dX7_highOf_15 : decode cX7_highOf 15 = .ok (.if_icmp .ne 14, 3) := by decide +kernel
theorem dX7_highOf_18 : decode cX7_highOf 18 = .ok (.iload_n 0, 1) := by decide +kernel
theorem dX7_highOf_19 : decode cX7_highOf 19 = .ok (.iconst 2, 1) := by decide +kernel
theorem dX7_highOf_20 : decode cX7_highOf 20 = .ok (.if_icmp .lt 9, 3) := by decide +kernel
theorem dX7_highOf_23 : decode cX7_highOf 23 = .ok (.iload_n 2, 1) := by decide +kernel
theorem dX7_highOf_24 : decode cX7_highOf 24 = .ok (.iconst 1, 1) := by decide +kernel
theorem dX7_highOf_25 : decode cX7_highOf 25 = .ok (.isub, 1) := by decide +kernel
theorem dX7_highOf_26 : decode cX7_highOf 26 = .ok (.goto 6, 3) := by decide +kernel
theorem dX7_highOf_29 : decode cX7_highOf 29 = .ok (.sipush 255, 3) := by decide +kernel
theorem dX7_highOf_32 : decode cX7_highOf 32 = .ok (.ireturn, 1) := by decide +kernel
theorem dX7_wordOf_0 : decode cX7_wordOf 0 = .ok (.iload_n 0, 1) := by decide +kernel
theorem dX7_wordOf_1 : decode cX7_wordOf 1 = .ok (.tableswitch 71 0 7 #[47, 50, 53, 56, 59, 62, 65, 68], 47) := by decide +kernel
theorem dX7_wordOf_48 : decode cX7_wordOf 48 = .ok (.ldc 122, 2) := by decide +kernel
theorem dX7_wordOf_50 : decode cX7_wordOf 50 = .ok (.areturn, 1) := by decide +kernel
theorem dX7_wordOf_51 : decode cX7_wordOf 51 = .ok (.ldc 124, 2) := by decide +kernel
theorem dX7_wordOf_53 : decode cX7_wordOf 53 = .ok (.areturn, 1) := by decide +kernel
theorem dX7_wordOf_54 : decode cX7_wordOf 54 = .ok (.ldc 126, 2) := by decide +kernel
theorem dX7_wordOf_56 : decode cX7_wordOf 56 = .ok (.areturn, 1) := by decide +kernel
theorem dX7_wordOf_57 : decode cX7_wordOf 57 = .ok (.ldc 128, 2) := by decide +kernel
theorem dX7_wordOf_59 : decode cX7_wordOf 59 = .ok (.areturn, 1) := by decide +kernel
theorem dX7_wordOf_60 : decode cX7_wordOf 60 = .ok (.ldc 130, 2) := by decide +kernel
theorem dX7_wordOf_62 : decode cX7_wordOf 62 = .ok (.areturn, 1) := by decide +kernel
theorem dX7_wordOf_63 : decode cX7_wordOf 63 = .ok (.ldc 132, 2) := by decide +kernel
theorem dX7_wordOf_65 : decode cX7_wordOf 65 = .ok (.areturn, 1) := by decide +kernel
theorem dX7_wordOf_66 : decode cX7_wordOf 66 = .ok (.ldc 134, 2) := by decide +kernel
theorem dX7_wordOf_68 : decode cX7_wordOf 68 = .ok (.areturn, 1) := by decide +kernel
theorem dX7_wordOf_69 : decode cX7_wordOf 69 = .ok (.ldc 136, 2) := by decide +kernel
theorem dX7_wordOf_71 : decode cX7_wordOf 71 = .ok (.areturn, 1) := by decide +kernel
theorem dX7_wordOf_72 : decode cX7_wordOf 72 = .ok (.ldc 138, 2) := by decide +kernel
theorem dX7_wordOf_74 : decode cX7_wordOf 74 = .ok (.areturn, 1) := by decide +kernel
theorem dX7_feed_0 : decode cX7_feed 0 = .ok (.aload_n 0, 1) := by decide +kernel
theorem dX7_feed_1 : decode cX7_feed 1 = .ok (.getfield 140, 3) := by decide +kernel
theorem dX7_feed_4 : decode cX7_feed 4 = .ok (.bipush 20, 2) := by decide +kernel
theorem dX7_feed_6 : decode cX7_feed 6 = .ok (.iadd, 1) := by decide +kernel
theorem dX7_feed_7 : decode cX7_feed 7 = .ok (.sipush 700, 3) := by decide +kernel
theorem dX7_feed_10 : decode cX7_feed 10 = .ok (.if_icmp .le 5, 3) := by decide +kernel
theorem dX7_feed_13 : decode cX7_feed 13 = .ok (.iconst (-1), 1) := by decide +kernel
theorem dX7_feed_14 : decode cX7_feed 14 = .ok (.ireturn, 1) := by decide +kernel
theorem dX7_feed_15 : decode cX7_feed 15 = .ok (.aload_n 0, 1) := by decide +kernel
theorem dX7_feed_16 : decode cX7_feed 16 = .ok (.getfield 24, 3) := by decide +kernel
theorem dX7_feed_19 : decode cX7_feed 19 = .ok (.iconst 0, 1) := by decide +kernel
theorem dX7_feed_20 : decode cX7_feed 20 = .ok (.iload_n 1, 1) := by decide +kernel
theorem dX7_feed_21 : decode cX7_feed 21 = .ok (.iastore, 1) := by decide +kernel
theorem dX7_feed_22 : decode cX7_feed 22 = .ok (.aload_n 0, 1) := by decide +kernel
theorem dX7_feed_23 : decode cX7_feed 23 = .ok (.getfield 24, 3) := by decide +kernel
theorem dX7_feed_26 : decode cX7_feed 26 = .ok (.iconst 1, 1) := by decide +kernel
theorem dX7_feed_27 : decode cX7_feed 27 = .ok (.iload_n 2, 1) := by decide +kernel
theorem dX7_feed_28 : decode cX7_feed 28 = .ok (.iastore, 1) := by decide +kernel
theorem dX7_feed_29 : decode cX7_feed 29 = .ok (.aload_n 0, 1) := by decide +kernel
theorem dX7_feed_30 : decode cX7_feed 30 = .ok (.getfield 24, 3) := by decide +kernel
theorem dX7_feed_33 : decode cX7_feed 33 = .ok (.iconst 2, 1) := by decide +kernel
theorem dX7_feed_34 : decode cX7_feed 34 = .ok (.iload_n 3, 1) := by decide +kernel
theorem dX7_feed_35 : decode cX7_feed 35 = .ok (.iastore, 1) := by decide +kernel
theorem dX7_feed_36 : decode cX7_feed 36 = .ok (.aload_n 0, 1) := by decide +kernel
theorem dX7_feed_37 : decode cX7_feed 37 = .ok (.getfield 24, 3) := by decide +kernel
theorem dX7_feed_40 : decode cX7_feed 40 = .ok (.iconst 3, 1) := by decide +kernel
theorem dX7_feed_41 : decode cX7_feed 41 = .ok (.iload 4, 2) := by decide +kernel
theorem dX7_feed_43 : decode cX7_feed 43 = .ok (.iastore, 1) := by decide +kernel
theorem dX7_feed_44 : decode cX7_feed 44 = .ok (.aload_n 0, 1) := by decide +kernel
theorem dX7_feed_45 : decode cX7_feed 45 = .ok (.getfield 24, 3) := by decide +kernel
theorem dX7_feed_48 : decode cX7_feed 48 = .ok (.iconst 4, 1) := by decide +kernel
theorem dX7_feed_49 : decode cX7_feed 49 = .ok (.iload 5, 2) := by decide +kernel
theorem dX7_feed_51 : decode cX7_feed 51 = .ok (.iastore, 1) := by decide +kernel
theorem dX7_feed_52 : decode cX7_feed 52 = .ok (.iconst 0, 1) := by decide +kernel
theorem dX7_feed_53 : decode cX7_feed 53 = .ok (.istore 6, 2) := by decide +kernel
theorem dX7_feed_55 : decode cX7_feed 55 = .ok (.iload 6, 2) := by decide +kernel
theorem dX7_feed_57 : decode cX7_feed 57 = .ok (.bipush 20, 2) := by decide +kernel
theorem dX7_feed_59 : decode cX7_feed 59 = .ok (.if_icmp .ge 42, 3) := by decide +kernel
theorem dX7_feed_62 : decode cX7_feed 62 = .ok (.aload_n 0, 1) := by decide +kernel
theorem dX7_feed_63 : decode cX7_feed 63 = .ok (.getfield 20, 3) := by decide +kernel
theorem dX7_feed_66 : decode cX7_feed 66 = .ok (.aload_n 0, 1) := by decide +kernel
theorem dX7_feed_67 : decode cX7_feed 67 = .ok (.getfield 140, 3) := by decide +kernel
theorem dX7_feed_70 : decode cX7_feed 70 = .ok (.iload 6, 2) := by decide +kernel
theorem dX7_feed_72 : decode cX7_feed 72 = .ok (.iadd, 1) := by decide +kernel
theorem dX7_feed_73 : decode cX7_feed 73 = .ok (.aload_n 0, 1) := by decide +kernel
theorem dX7_feed_74 : decode cX7_feed 74 = .ok (.getfield 24, 3) := by decide +kernel
theorem dX7_feed_77 : decode cX7_feed 77 = .ok (.iload 6, 2) := by decide +kernel
theorem dX7_feed_79 : decode cX7_feed 79 = .ok (.iconst 4, 1) := by decide +kernel
theorem dX7_feed_80 : decode cX7_feed 80 = .ok (.idiv, 1) := by decide +kernel
theorem dX7_feed_81 : decode cX7_feed 81 = .ok (.iaload, 1) := by decide +kernel
theorem dX7_feed_82 : decode cX7_feed 82 = .ok (.bipush 24, 2) := by decide +kernel
theorem dX7_feed_84 : decode cX7_feed 84 = .ok (.bipush 8, 2) := by decide +kernel
theorem dX7_feed_86 : decode cX7_feed 86 = .ok (.iload 6, 2) := by decide +kernel
theorem dX7_feed_88 : decode cX7_feed 88 = .ok (.iconst 4, 1) := by decide +kernel
theorem dX7_feed_89 : decode cX7_feed 89 = .ok (.irem, 1) := by decide +kernel
theorem dX7_feed_90 : decode cX7_feed 90 = .ok (.imul, 1) := by decide +kernel
theorem dX7_feed_91 : decode cX7_feed 91 = .ok (.isub, 1) := by decide +kernel
theorem dX7_feed_92 : decode cX7_feed 92 = .ok (.ishr, 1) := by decide +kernel
theorem dX7_feed_93 : decode cX7_feed 93 = .ok (.i2b, 1) := by decide +kernel
theorem dX7_feed_94 : decode cX7_feed 94 = .ok (.bastore, 1) := by decide +kernel
theorem dX7_feed_95 : decode cX7_feed 95 = .ok (.iinc 6 1, 3) := by decide +kernel
theorem dX7_feed_98 : decode cX7_feed 98 = .ok (.goto (-43), 3) := by decide +kernel
theorem dX7_feed_101 : decode cX7_feed 101 = .ok (.aload_n 0, 1) := by decide +kernel
theorem dX7_feed_102 : decode cX7_feed 102 = .ok (.dup, 1) := by decide +kernel
theorem dX7_feed_103 : decode cX7_feed 103 = .ok (.getfield 140, 3) := by decide +kernel
theorem dX7_feed_106 : decode cX7_feed 106 = .ok (.bipush 20, 2) := by decide +kernel
theorem dX7_feed_108 : decode cX7_feed 108 = .ok (.iadd, 1) := by decide +kernel
theorem dX7_feed_109 : decode cX7_feed 109 = .ok (.putfield 140, 3) := by decide +kernel
theorem dX7_feed_112 : decode cX7_feed 112 = .ok (.aload_n 0, 1) := by decide +kernel
theorem dX7_feed_113 : decode cX7_feed 113 = .ok (.getfield 140, 3) := by decide +kernel
theorem dX7_feed_116 : decode cX7_feed 116 = .ok (.ireturn, 1) := by decide +kernel
theorem dX7_end_0 : decode cX7_end 0 = .ok (.iload_n 1, 1) := by decide +kernel
theorem dX7_end_1 : decode cX7_end 1 = .ok (.i2l, 1) := by decide +kernel
theorem dX7_end_2 : decode cX7_end 2 = .ok (.lconst 0, 1) := by decide +kernel
theorem dX7_end_3 : decode cX7_end 3 = .ok (.aload_n 0, 1) := by decide +kernel
theorem dX7_end_4 : decode cX7_end 4 = .ok (.getfield 140, 3) := by decide +kernel
theorem dX7_end_7 : decode cX7_end 7 = .ok (.i2l, 1) := by decide +kernel
theorem dX7_end_8 : decode cX7_end 8 = .ok (.invokestatic 103, 3) := by decide +kernel
theorem dX7_end_11 : decode cX7_end 11 = .ok (.ifCond .ne 5, 3) := by decide +kernel
theorem dX7_end_14 : decode cX7_end 14 = .ok (.iconst (-1), 1) := by decide +kernel
theorem dX7_end_15 : decode cX7_end 15 = .ok (.ireturn, 1) := by decide +kernel
theorem dX7_end_16 : decode cX7_end 16 = .ok (.aload_n 0, 1) := by decide +kernel
theorem dX7_end_17 : decode cX7_end 17 = .ok (.iload_n 1, 1) := by decide +kernel
theorem dX7_end_18 : decode cX7_end 18 = .ok (.putfield 140, 3) := by decide +kernel
theorem dX7_end_21 : decode cX7_end 21 = .ok (.iload_n 1, 1) := by decide +kernel
theorem dX7_end_22 : decode cX7_end 22 = .ok (.ireturn, 1) := by decide +kernel
theorem dX7_see_0 : decode cX7_see 0 = .ok (.iload_n 1, 1) := by decide +kernel
theorem dX7_see_1 : decode cX7_see 1 = .ok (.aload_n 0, 1) := by decide +kernel
theorem dX7_see_2 : decode cX7_see 2 = .ok (.getfield 143, 3) := by decide +kernel
theorem dX7_see_5 : decode cX7_see 5 = .ok (.if_icmp .ge 16, 3) := by decide +kernel
theorem dX7_see_8 : decode cX7_see 8 = .ok (.aload_n 0, 1) := by decide +kernel
theorem dX7_see_9 : decode cX7_see 9 = .ok (.getfield 20, 3) := by decide +kernel
theorem dX7_see_12 : decode cX7_see 12 = .ok (.iload_n 1, 1) := by decide +kernel
theorem dX7_see_13 : decode cX7_see 13 = .ok (.baload, 1) := by decide +kernel
theorem dX7_see_14 : decode cX7_see 14 = .ok (.sipush 255, 3) := by decide +kernel
theorem dX7_see_17 : decode cX7_see 17 = .ok (.iand, 1) := by decide +kernel
theorem dX7_see_18 : decode cX7_see 18 = .ok (.goto 4, 3) := by decide +kernel
theorem dX7_see_21 : decode cX7_see 21 = .ok (.iconst (-1), 1) := by decide +kernel
theorem dX7_see_22 : decode cX7_see 22 = .ok (.ireturn, 1) := by decide +kernel
theorem dX7_advance_0 : decode cX7_advance 0 = .ok (.aload_n 0, 1) := by decide +kernel
theorem dX7_advance_1 : decode cX7_advance 1 = .ok (.aload_n 0, 1) := by decide +kernel
theorem dX7_advance_2 : decode cX7_advance 2 = .ok (.getfield 146, 3) := by decide +kernel
theorem dX7_advance_5 : decode cX7_advance 5 = .ok (.invokevirtual 149, 3) := by decide +kernel
theorem dX7_advance_8 : decode cX7_advance 8 = .ok (.bipush 32, 2) := by decide +kernel
theorem dX7_advance_10 : decode cX7_advance 10 = .ok (.if_icmp .eq 16, 3) := by decide +kernel
theorem dX7_advance_13 : decode cX7_advance 13 = .ok (.aload_n 0, 1) := by decide +kernel
theorem dX7_advance_14 : decode cX7_advance 14 = .ok (.aload_n 0, 1) := by decide +kernel
theorem dX7_advance_15 : decode cX7_advance 15 = .ok (.getfield 146, 3) := by decide +kernel
theorem dX7_advance_18 : decode cX7_advance 18 = .ok (.invokevirtual 149, 3) := by decide +kernel
theorem dX7_advance_21 : decode cX7_advance 21 = .ok (.bipush 10, 2) := by decide +kernel
theorem dX7_advance_23 : decode cX7_advance 23 = .ok (.if_icmp .ne 16, 3) := by decide +kernel
theorem dX7_advance_26 : decode cX7_advance 26 = .ok (.aload_n 0, 1) := by decide +kernel
theorem dX7_advance_27 : decode cX7_advance 27 = .ok (.dup, 1) := by decide +kernel
theorem dX7_advance_28 : decode cX7_advance 28 = .ok (.getfield 146, 3) := by decide +kernel
theorem dX7_advance_31 : decode cX7_advance 31 = .ok (.iconst 1, 1) := by decide +kernel
theorem dX7_advance_32 : decode cX7_advance 32 = .ok (.iadd, 1) := by decide +kernel
theorem dX7_advance_33 : decode cX7_advance 33 = .ok (.putfield 146, 3) := by decide +kernel
theorem dX7_advance_36 : decode cX7_advance 36 = .ok (.goto (-36), 3) := by decide +kernel
theorem dX7_advance_39 : decode cX7_advance 39 = .ok (.aload_n 0, 1) := by decide +kernel
theorem dX7_advance_40 : decode cX7_advance 40 = .ok (.aload_n 0, 1) := by decide +kernel
theorem dX7_advance_41 : decode cX7_advance 41 = .ok (.getfield 146, 3) := by decide +kernel
theorem dX7_advance_44 : decode cX7_advance 44 = .ok (.putfield 152, 3) := by decide +kernel
theorem dX7_advance_47 : decode cX7_advance 47 = .ok (.aload_n 0, 1) := by decide +kernel
theorem dX7_advance_48 : decode cX7_advance 48 = .ok (.aload_n 0, 1) := by decide +kernel
theorem dX7_advance_49 : decode cX7_advance 49 = .ok (.getfield 146, 3) := by decide +kernel
theorem dX7_advance_52 : decode cX7_advance 52 = .ok (.invokevirtual 149, 3) := by decide +kernel
theorem dX7_advance_55 : decode cX7_advance 55 = .ok (.istore_n 1, 1) := by decide +kernel
theorem dX7_advance_56 : decode cX7_advance 56 = .ok (.iload_n 1, 1) := by decide +kernel
theorem dX7_advance_57 : decode cX7_advance 57 = .ok (.iconst (-1), 1) := by decide +kernel
theorem dX7_advance_58 : decode cX7_advance 58 = .ok (.if_icmp .ne 11, 3) := by decide +kernel
theorem dX7_advance_61 : decode cX7_advance 61 = .ok (.aload_n 0, 1) := by decide +kernel
theorem dX7_advance_62 : decode cX7_advance 62 = .ok (.iconst 0, 1) := by decide +kernel
theorem dX7_advance_63 : decode cX7_advance 63 = .ok (.putfield 155, 3) := by decide +kernel
theorem dX7_advance_66 : decode cX7_advance 66 = .ok (.goto 173, 3) := by decide +kernel
theorem dX7_advance_69 : decode cX7_advance 69 = .ok (.iload_n 1, 1) := by decide +kernel
theorem dX7_advance_70 : decode cX7_advance 70 = .ok (.i2l, 1) := by decide +kernel
theorem dX7_advance_71 : decode cX7_advance 71 = .ok (.ldc2_w 158, 3) := by decide +kernel
theorem dX7_advance_74 : decode cX7_advance 74 = .ok (.ldc2_w 160, 3) := by decide +kernel
theorem dX7_advance_77 : decode cX7_advance 77 = .ok (.invokestatic 103, 3) := by decide +kernel
theorem dX7_advance_80 : decode cX7_advance 80 = .ok (.ifCond .eq 45, 3) := by decide +kernel
theorem dX7_advance_83 : decode cX7_advance 83 = .ok (.aload_n 0, 1) := by decide +kernel
theorem dX7_advance_84 : decode cX7_advance 84 = .ok (.aload_n 0, 1) := by decide +kernel
theorem dX7_advance_85 : decode cX7_advance 85 = .ok (.getfield 146, 3) := by decide +kernel
theorem dX7_advance_88 : decode cX7_advance 88 = .ok (.invokevirtual 149, 3) := by decide +kernel
theorem dX7_advance_91 : decode cX7_advance 91 = .ok (.i2l, 1) := by decide +kernel
theorem dX7_advance_92 : decode cX7_advance 92 = .ok (.ldc2_w 158, 3) := by decide +kernel
theorem dX7_advance_95 : decode cX7_advance 95 = .ok (.ldc2_w 160, 3) := by decide +kernel
theorem dX7_advance_98 : decode cX7_advance 98 = .ok (.invokestatic 103, 3) := by decide +kernel
theorem dX7_advance_101 : decode cX7_advance 101 = .ok (.ifCond .eq 16, 3) := by decide +kernel
theorem dX7_advance_104 : decode cX7_advance 104 = .ok (.aload_n 0, 1) := by decide +kernel
theorem dX7_advance_105 : decode cX7_advance 105 = .ok (.dup, 1) := by decide +kernel
theorem dX7_advance_106 : decode cX7_advance 106 = .ok (.getfield 146, 3) := by decide +kernel
theorem dX7_advance_109 : decode cX7_advance 109 = .ok (.iconst 1, 1) := by decide +kernel
theorem dX7_advance_110 : decode cX7_advance 110 = .ok (.iadd, 1) := by decide +kernel
theorem dX7_advance_111 : decode cX7_advance 111 = .ok (.putfield 146, 3) := by decide +kernel
theorem dX7_advance_114 : decode cX7_advance 114 = .ok (.goto (-31), 3) := by decide +kernel
theorem dX7_advance_117 : decode cX7_advance 117 = .ok (.aload_n 0, 1) := by decide +kernel
theorem dX7_advance_118 : decode cX7_advance 118 = .ok (.iconst 1, 1) := by decide +kernel
theorem dX7_advance_119 : decode cX7_advance 119 = .ok (.putfield 155, 3) := by decide +kernel
theorem dX7_advance_122 : decode cX7_advance 122 = .ok (.goto 117, 3) := by decide +kernel
theorem dX7_advance_125 : decode cX7_advance 125 = .ok (.iload_n 1, 1) := by decide +kernel
theorem dX7_advance_126 : decode cX7_advance 126 = .ok (.i2l, 1) := by decide +kernel
theorem dX7_advance_127 : decode cX7_advance 127 = .ok (.ldc2_w 162, 3) := by decide +kernel
theorem dX7_advance_130 : decode cX7_advance 130 = .ok (.ldc2_w 164, 3) := by decide +kernel
theorem dX7_advance_133 : decode cX7_advance 133 = .ok (.invokestatic 103, 3) := by decide +kernel
theorem dX7_advance_136 : decode cX7_advance 136 = .ok (.ifCond .eq 78, 3) := by decide +kernel
theorem dX7_advance_139 : decode cX7_advance 139 = .ok (.aload_n 0, 1) := by decide +kernel
theorem dX7_advance_140 : decode cX7_advance 140 = .ok (.iconst 0, 1) := by decide +kernel
theorem dX7_advance_141 : decode cX7_advance 141 = .ok (.putfield 166, 3) := by decide +kernel
theorem dX7_advance_144 : decode cX7_advance 144 = .ok (.aload_n 0, 1) := by decide +kernel
theorem dX7_advance_145 : decode cX7_advance 145 = .ok (.aload_n 0, 1) := by decide +kernel
theorem dX7_advance_146 : decode cX7_advance 146 = .ok (.getfield 146, 3) := by decide +kernel
theorem dX7_advance_149 : decode cX7_advance 149 = .ok (.invokevirtual 149, 3) := by decide +kernel
theorem dX7_advance_152 : decode cX7_advance 152 = .ok (.i2l, 1) := by decide +kernel
theorem dX7_advance_153 : decode cX7_advance 153 = .ok (.ldc2_w 162, 3) := by decide +kernel
theorem dX7_advance_156 : decode cX7_advance 156 = .ok (.ldc2_w 164, 3) := by decide +kernel
theorem dX7_advance_159 : decode cX7_advance 159 = .ok (.invokestatic 103, 3) := by decide +kernel
theorem dX7_advance_162 : decode cX7_advance 162 = .ok (.ifCond .eq 44, 3) := by decide +kernel
theorem dX7_advance_165 : decode cX7_advance 165 = .ok (.aload_n 0, 1) := by decide +kernel
theorem dX7_advance_166 : decode cX7_advance 166 = .ok (.ldc 169, 2) := by decide +kernel
theorem dX7_advance_168 : decode cX7_advance 168 = .ok (.bipush 10, 2) := by decide +kernel
theorem dX7_advance_170 : decode cX7_advance 170 = .ok (.aload_n 0, 1) := by decide +kernel
theorem dX7_advance_171 : decode cX7_advance 171 = .ok (.getfield 166, 3) := by decide +kernel
theorem dX7_advance_174 : decode cX7_advance 174 = .ok (.imul, 1) := by decide +kernel
theorem dX7_advance_175 : decode cX7_advance 175 = .ok (.aload_n 0, 1) := by decide +kernel
theorem dX7_advance_176 : decode cX7_advance 176 = .ok (.aload_n 0, 1) := by decide +kernel
theorem dX7_advance_177 : decode cX7_advance 177 = .ok (.getfield 146, 3) := by decide +kernel
theorem dX7_advance_180 : decode cX7_advance 180 = .ok (.invokevirtual 149, 3) := by decide +kernel
theorem dX7_advance_183 : decode cX7_advance 183 = .ok (.iadd, 1) := by decide +kernel
theorem dX7_advance_184 : decode cX7_advance 184 = .ok (.bipush 48, 2) := by decide +kernel
theorem dX7_advance_186 : decode cX7_advance 186 = .ok (.isub, 1) := by decide +kernel
theorem dX7_advance_187 : decode cX7_advance 187 = .ok (.invokestatic 170, 3) := by decide +kernel
theorem dX7_advance_190 : decode cX7_advance 190 = .ok (.putfield 166, 3) := by decide +kernel
theorem dX7_advance_193 : decode cX7_advance 193 = .ok (.aload_n 0, 1) := by decide +kernel
theorem dX7_advance_194 : decode cX7_advance 194 = .ok (.dup, 1) := by decide +kernel
theorem dX7_advance_195 : decode cX7_advance 195 = .ok (.getfield 146, 3) := by decide +kernel
theorem dX7_advance_198 : decode cX7_advance 198 = .ok (.iconst 1, 1) := by decide +kernel
theorem dX7_advance_199 : decode cX7_advance 199 = .ok (.iadd, 1) := by decide +kernel
theorem dX7_advance_200 : decode cX7_advance 200 = .ok (.putfield 146, 3) := by decide +kernel
theorem dX7_advance_203 : decode cX7_advance 203 = .ok (.goto (-59), 3) := by decide +kernel
theorem dX7_advance_206 : decode cX7_advance 206 = .ok (.aload_n 0, 1) := by decide +kernel
theorem dX7_advance_207 : decode cX7_advance 207 = .ok (.iconst 2, 1) := by decide +kernel
theorem dX7_advance_208 : decode cX7_advance 208 = .ok (.putfield 155, 3) := by decide +kernel
theorem dX7_advance_211 : decode cX7_advance 211 = .ok (.goto 28, 3) := by decide +kernel
theorem dX7_advance_214 : decode cX7_advance 214 = .ok (.aload_n 0, 1) := by decide +kernel
theorem dX7_advance_215 : decode cX7_advance 215 = .ok (.iload_n 1, 1) := by decide +kernel
theorem dX7_advance_216 : decode cX7_advance 216 = .ok (.bipush 59, 2) := by decide +kernel
theorem dX7_advance_218 : decode cX7_advance 218 = .ok (.if_icmp .ne 7, 3) := by decide +kernel
theorem dX7_advance_221 : decode cX7_advance 221 = .ok (.iconst 3, 1) := by decide +kernel
theorem dX7_advance_222 : decode cX7_advance 222 = .ok (.goto 4, 3) := by decide +kernel
theorem dX7_advance_225 : decode cX7_advance 225 = .ok (.iconst 4, 1) := by decide +kernel
theorem dX7_advance_226 : decode cX7_advance 226 = .ok (.putfield 155, 3) := by decide +kernel
theorem dX7_advance_229 : decode cX7_advance 229 = .ok (.aload_n 0, 1) := by decide +kernel
theorem dX7_advance_230 : decode cX7_advance 230 = .ok (.dup, 1) := by decide +kernel
theorem dX7_advance_231 : decode cX7_advance 231 = .ok (.getfield 146, 3) := by decide +kernel
theorem dX7_advance_234 : decode cX7_advance 234 = .ok (.iconst 1, 1) := by decide +kernel
theorem dX7_advance_235 : decode cX7_advance 235 = .ok (.iadd, 1) := by decide +kernel
theorem dX7_advance_236 : decode cX7_advance 236 = .ok (.putfield 146, 3) := by decide +kernel
theorem dX7_advance_239 : decode cX7_advance 239 = .ok (.return_, 1) := by decide +kernel
theorem dX7_good_0 : decode cX7_good 0 = .ok (.aload_n 0, 1) := by decide +kernel
theorem dX7_good_1 : decode cX7_good 1 = .ok (.getfield 176, 3) := by decide +kernel
theorem dX7_good_4 : decode cX7_good 4 = .ok (.ifCond .ne 7, 3) := by decide +kernel
theorem dX7_good_7 : decode cX7_good 7 = .ok (.iconst 1, 1) := by decide +kernel
theorem dX7_good_8 : decode cX7_good 8 = .ok (.goto 4, 3) := by decide +kernel
theorem dX7_good_11 : decode cX7_good 11 = .ok (.iconst 0, 1) := by decide +kernel
theorem dX7_good_12 : decode cX7_good 12 = .ok (.ireturn, 1) := by decide +kernel
theorem dX7_errs_0 : decode cX7_errs 0 = .ok (.aload_n 0, 1) := by decide +kernel
theorem dX7_errs_1 : decode cX7_errs 1 = .ok (.invokevirtual 179, 3) := by decide +kernel
theorem dX7_errs_4 : decode cX7_errs 4 = .ok (.ifCond .ne 4, 3) := by decide +kernel
theorem dX7_errs_7 : decode cX7_errs 7 = .ok (.return_, 1) := by decide +kernel
theorem dX7_errs_8 : decode cX7_errs 8 = .ok (.aload_n 0, 1) := by decide +kernel
theorem dX7_errs_9 : decode cX7_errs 9 = .ok (.iload_n 1, 1) := by decide +kernel
theorem dX7_errs_10 : decode cX7_errs 10 = .ok (.putfield 176, 3) := by decide +kernel
theorem dX7_errs_13 : decode cX7_errs 13 = .ok (.aload_n 0, 1) := by decide +kernel
theorem dX7_errs_14 : decode cX7_errs 14 = .ok (.aload_n 0, 1) := by decide +kernel
theorem dX7_errs_15 : decode cX7_errs 15 = .ok (.getfield 152, 3) := by decide +kernel
theorem dX7_errs_18 : decode cX7_errs 18 = .ok (.putfield 27, 3) := by decide +kernel
theorem dX7_errs_21 : decode cX7_errs 21 = .ok (.return_, 1) := by decide +kernel
theorem dX7_is_0 : decode cX7_is 0 = .ok (.aload_n 0, 1) := by decide +kernel
theorem dX7_is_1 : decode cX7_is 1 = .ok (.invokevirtual 179, 3) := by decide +kernel
theorem dX7_is_4 : decode cX7_is 4 = .ok (.ifCond .eq 31, 3) := by decide +kernel
theorem dX7_is_7 : decode cX7_is 7 = .ok (.aload_n 0, 1) := by decide +kernel
theorem dX7_is_8 : decode cX7_is 8 = .ok (.getfield 155, 3) := by decide +kernel
theorem dX7_is_11 : decode cX7_is 11 = .ok (.iconst 1, 1) := by decide +kernel
theorem dX7_is_12 : decode cX7_is 12 = .ok (.if_icmp .ne 23, 3) := by decide +kernel
theorem dX7_is_15 : decode cX7_is 15 = .ok (.aload_n 0, 1) := by decide +kernel
theorem dX7_is_16 : decode cX7_is 16 = .ok (.getfield 146, 3) := by decide +kernel
theorem dX7_is_19 : decode cX7_is 19 = .ok (.aload_n 0, 1) := by decide +kernel
theorem dX7_is_20 : decode cX7_is 20 = .ok (.getfield 152, 3) := by decide +kernel
theorem dX7_is_23 : decode cX7_is 23 = .ok (.isub, 1) := by decide +kernel
theorem dX7_is_24 : decode cX7_is 24 = .ok (.aload_n 1, 1) := by decide +kernel
theorem dX7_is_25 : decode cX7_is 25 = .ok (.invokevirtual 182, 3) := by decide +kernel
theorem dX7_is_28 : decode cX7_is 28 = .ok (.if_icmp .ne 7, 3) := by decide +kernel
theorem dX7_is_31 : decode cX7_is 31 = .ok (.iconst 1, 1) := by decide +kernel
theorem dX7_is_32 : decode cX7_is 32 = .ok (.goto 4, 3) := by decide +kernel
theorem dX7_is_35 : decode cX7_is 35 = .ok (.iconst 0, 1) := by decide +kernel
theorem dX7_is_36 : decode cX7_is 36 = .ok (.istore_n 2, 1) := by decide +kernel
theorem dX7_is_37 : decode cX7_is 37 = .ok (.iconst 0, 1) := by decide +kernel
theorem dX7_is_38 : decode cX7_is 38 = .ok (.istore_n 3, 1) := by decide +kernel
theorem dX7_is_39 : decode cX7_is 39 = .ok (.iload_n 3, 1) := by decide +kernel
theorem dX7_is_40 : decode cX7_is 40 = .ok (.aload_n 1, 1) := by decide +kernel
theorem dX7_is_41 : decode cX7_is 41 = .ok (.invokevirtual 182, 3) := by decide +kernel
theorem dX7_is_44 : decode cX7_is 44 = .ok (.if_icmp .ge 38, 3) := by decide +kernel
theorem dX7_is_47 : decode cX7_is 47 = .ok (.iload_n 2, 1) := by decide +kernel
theorem dX7_is_48 : decode cX7_is 48 = .ok (.ifCond .eq 34, 3) := by decide +kernel
theorem dX7_is_51 : decode cX7_is 51 = .ok (.aload_n 0, 1) := by decide +kernel
theorem dX7_is_52 : decode cX7_is 52 = .ok (.getfield 20, 3) := by decide +kernel
theorem dX7_is_55 : decode cX7_is 55 = .ok (.aload_n 0, 1) := by decide +kernel
theorem dX7_is_56 : decode cX7_is 56 = .ok (.getfield 152, 3) := by decide +kernel
theorem dX7_is_59 : decode cX7_is 59 = .ok (.iload_n 3, 1) := by decide +kernel
theorem dX7_is_60 : decode cX7_is 60 = .ok (.iadd, 1) := by decide +kernel
theorem dX7_is_61 : decode cX7_is 61 = .ok (.baload, 1) := by decide +kernel
theorem dX7_is_62 : decode cX7_is 62 = .ok (.aload_n 1, 1) := by decide +kernel
theorem dX7_is_63 : decode cX7_is 63 = .ok (.iload_n 3, 1) := by decide +kernel
theorem dX7_is_64 : decode cX7_is 64 = .ok (.invokevirtual 187, 3) := by decide +kernel
theorem dX7_is_67 : decode cX7_is 67 = .ok (.if_icmp .ne 7, 3) := by decide +kernel
theorem dX7_is_70 : decode cX7_is 70 = .ok (.iconst 1, 1) := by decide +kernel
theorem dX7_is_71 : decode cX7_is 71 = .ok (.goto 4, 3) := by decide +kernel
theorem dX7_is_74 : decode cX7_is 74 = .ok (.iconst 0, 1) := by decide +kernel
theorem dX7_is_75 : decode cX7_is 75 = .ok (.istore_n 2, 1) := by decide +kernel
theorem dX7_is_76 : decode cX7_is 76 = .ok (.iinc 3 1, 3) := by decide +kernel
theorem dX7_is_79 : decode cX7_is 79 = .ok (.goto (-40), 3) := by decide +kernel
theorem dX7_is_82 : decode cX7_is 82 = .ok (.iload_n 2, 1) := by decide +kernel
theorem dX7_is_83 : decode cX7_is 83 = .ok (.ireturn, 1) := by decide +kernel
theorem dX7_expects_0 : decode cX7_expects 0 = .ok (.aload_n 0, 1) := by decide +kernel
theorem dX7_expects_1 : decode cX7_expects 1 = .ok (.aload_n 1, 1) := by decide +kernel
theorem dX7_expects_2 : decode cX7_expects 2 = .ok (.invokevirtual 191, 3) := by decide +kernel
theorem dX7_expects_5 : decode cX7_expects 5 = .ok (.ifCond .eq 10, 3) := by decide +kernel
theorem dX7_expects_8 : decode cX7_expects 8 = .ok (.aload_n 0, 1) := by decide +kernel
theorem dX7_expects_9 : decode cX7_expects 9 = .ok (.invokevirtual 195, 3) := by decide +kernel
theorem dX7_expects_12 : decode cX7_expects 12 = .ok (.goto 8, 3) := by decide +kernel
theorem dX7_expects_15 : decode cX7_expects 15 = .ok (.aload_n 0, 1) := by decide +kernel
theorem dX7_expects_16 : decode cX7_expects 16 = .ok (.iconst 1, 1) := by decide +kernel
theorem dX7_expects_17 : decode cX7_expects 17 = .ok (.invokevirtual 198, 3) := by decide +kernel
theorem dX7_expects_20 : decode cX7_expects 20 = .ok (.return_, 1) := by decide +kernel
theorem dX7_number_0 : decode cX7_number 0 = .ok (.aload_n 0, 1) := by decide +kernel
theorem dX7_number_1 : decode cX7_number 1 = .ok (.invokevirtual 179, 3) := by decide +kernel
theorem dX7_number_4 : decode cX7_number 4 = .ok (.ifCond .eq 16, 3) := by decide +kernel
theorem dX7_number_7 : decode cX7_number 7 = .ok (.aload_n 0, 1) := by decide +kernel
theorem dX7_number_8 : decode cX7_number 8 = .ok (.getfield 155, 3) := by decide +kernel
theorem dX7_number_11 : decode cX7_number 11 = .ok (.iconst 2, 1) := by decide +kernel
theorem dX7_number_12 : decode cX7_number 12 = .ok (.if_icmp .eq 8, 3) := by decide +kernel
theorem dX7_number_15 : decode cX7_number 15 = .ok (.aload_n 0, 1) := by decide +kernel
theorem dX7_number_16 : decode cX7_number 16 = .ok (.iconst 1, 1) := by decide +kernel
theorem dX7_number_17 : decode cX7_number 17 = .ok (.invokevirtual 198, 3) := by decide +kernel
theorem dX7_number_20 : decode cX7_number 20 = .ok (.aload_n 0, 1) := by decide +kernel
theorem dX7_number_21 : decode cX7_number 21 = .ok (.invokevirtual 179, 3) := by decide +kernel
theorem dX7_number_24 : decode cX7_number 24 = .ok (.ifCond .eq 23, 3) := by decide +kernel
theorem dX7_number_27 : decode cX7_number 27 = .ok (.aload_n 0, 1) := by decide +kernel
theorem dX7_number_28 : decode cX7_number 28 = .ok (.getfield 166, 3) := by decide +kernel
theorem dX7_number_31 : decode cX7_number 31 = .ok (.i2l, 1) := by decide +kernel
theorem dX7_number_32 : decode cX7_number 32 = .ok (.iload_n 1, 1) := by decide +kernel
theorem dX7_number_33 : decode cX7_number 33 = .ok (.i2l, 1) := by decide +kernel
theorem dX7_number_34 : decode cX7_number 34 = .ok (.iload_n 2, 1) := by decide +kernel
theorem dX7_number_35 : decode cX7_number 35 = .ok (.i2l, 1) := by decide +kernel
theorem dX7_number_36 : decode cX7_number 36 = .ok (.invokestatic 103, 3) := by decide +kernel
theorem dX7_number_39 : decode cX7_number 39 = .ok (.ifCond .ne 8, 3) := by decide +kernel
theorem dX7_number_42 : decode cX7_number 42 = .ok (.aload_n 0, 1) := by decide +kernel
theorem dX7_number_43 : decode cX7_number 43 = .ok (.iconst 2, 1) := by decide +kernel
theorem dX7_number_44 : decode cX7_number 44 = .ok (.invokevirtual 198, 3) := by decide +kernel
theorem dX7_number_47 : decode cX7_number 47 = .ok (.aload_n 0, 1) := by decide +kernel
theorem dX7_number_48 : decode cX7_number 48 = .ok (.invokevirtual 179, 3) := by decide +kernel
theorem dX7_number_51 : decode cX7_number 51 = .ok (.ifCond .ne 5, 3) := by decide +kernel
theorem dX7_number_54 : decode cX7_number 54 = .ok (.iconst 0, 1) := by decide +kernel
theorem dX7_number_55 : decode cX7_number 55 = .ok (.ireturn, 1) := by decide +kernel
theorem dX7_number_56 : decode cX7_number 56 = .ok (.aload_n 0, 1) := by decide +kernel
theorem dX7_number_57 : decode cX7_number 57 = .ok (.getfield 166, 3) := by decide +kernel
theorem dX7_number_60 : decode cX7_number 60 = .ok (.istore_n 3, 1) := by decide +kernel
theorem dX7_number_61 : decode cX7_number 61 = .ok (.aload_n 0, 1) := by decide +kernel
theorem dX7_number_62 : decode cX7_number 62 = .ok (.invokevirtual 195, 3) := by decide +kernel
theorem dX7_number_65 : decode cX7_number 65 = .ok (.iload_n 3, 1) := by decide +kernel
theorem dX7_number_66 : decode cX7_number 66 = .ok (.ireturn, 1) := by decide +kernel
theorem dX7_toldBy_0 : decode cX7_toldBy 0 = .ok (.aload_n 0, 1) := by decide +kernel
theorem dX7_toldBy_1 : decode cX7_toldBy 1 = .ok (.aload_n 1, 1) := by decide +kernel
theorem dX7_toldBy_2 : decode cX7_toldBy 2 = .ok (.invokevirtual 202, 3) := by decide +kernel
theorem dX7_toldBy_5 : decode cX7_toldBy 5 = .ok (.aload_n 0, 1) := by decide +kernel
theorem dX7_toldBy_6 : decode cX7_toldBy 6 = .ok (.iload_n 2, 1) := by decide +kernel
theorem dX7_toldBy_7 : decode cX7_toldBy 7 = .ok (.iload_n 3, 1) := by decide +kernel
theorem dX7_toldBy_8 : decode cX7_toldBy 8 = .ok (.invokevirtual 206, 3) := by decide +kernel
theorem dX7_toldBy_11 : decode cX7_toldBy 11 = .ok (.ireturn, 1) := by decide +kernel
theorem dX7_fault_0 : decode cX7_fault 0 = .ok (.iload_n 1, 1) := by decide +kernel
theorem dX7_fault_1 : decode cX7_fault 1 = .ok (.ifCond .ne 10, 3) := by decide +kernel
theorem dX7_fault_4 : decode cX7_fault 4 = .ok (.aload_n 0, 1) := by decide +kernel
theorem dX7_fault_5 : decode cX7_fault 5 = .ok (.getfield 176, 3) := by decide +kernel
theorem dX7_fault_8 : decode cX7_fault 8 = .ok (.goto 16, 3) := by decide +kernel
theorem dX7_fault_11 : decode cX7_fault 11 = .ok (.iload_n 1, 1) := by decide +kernel
theorem dX7_fault_12 : decode cX7_fault 12 = .ok (.iconst 1, 1) := by decide +kernel
theorem dX7_fault_13 : decode cX7_fault 13 = .ok (.if_icmp .ne 10, 3) := by decide +kernel
theorem dX7_fault_16 : decode cX7_fault 16 = .ok (.aload_n 0, 1) := by decide +kernel
theorem dX7_fault_17 : decode cX7_fault 17 = .ok (.getfield 27, 3) := by decide +kernel
theorem dX7_fault_20 : decode cX7_fault 20 = .ok (.goto 4, 3) := by decide +kernel
theorem dX7_fault_23 : decode cX7_fault 23 = .ok (.iconst (-1), 1) := by decide +kernel
theorem dX7_fault_24 : decode cX7_fault 24 = .ok (.ireturn, 1) := by decide +kernel
theorem dX7_readFirst_0 : decode cX7_readFirst 0 = .ok (.aload_n 0, 1) := by decide +kernel
theorem dX7_readFirst_1 : decode cX7_readFirst 1 = .ok (.ldc 209, 2) := by decide +kernel
theorem dX7_readFirst_3 : decode cX7_readFirst 3 = .ok (.invokevirtual 202, 3) := by decide +kernel
theorem dX7_readFirst_6 : decode cX7_readFirst 6 = .ok (.aload_n 0, 1) := by decide +kernel
theorem dX7_readFirst_7 : decode cX7_readFirst 7 = .ok (.getfield 31, 3) := by decide +kernel
theorem dX7_readFirst_10 : decode cX7_readFirst 10 = .ok (.iconst 0, 1) := by decide +kernel
theorem dX7_readFirst_11 : decode cX7_readFirst 11 = .ok (.aload_n 0, 1) := by decide +kernel
theorem dX7_readFirst_12 : decode cX7_readFirst 12 = .ok (.ldc 211, 2) := by decide +kernel
theorem dX7_readFirst_14 : decode cX7_readFirst 14 = .ok (.iconst 2, 1) := by decide +kernel
theorem dX7_readFirst_15 : decode cX7_readFirst 15 = .ok (.bipush 32, 2) := by decide +kernel
theorem dX7_readFirst_17 : decode cX7_readFirst 17 = .ok (.invokevirtual 212, 3) := by decide +kernel
theorem dX7_readFirst_20 : decode cX7_readFirst 20 = .ok (.iastore, 1) := by decide +kernel
theorem dX7_readFirst_21 : decode cX7_readFirst 21 = .ok (.aload_n 0, 1) := by decide +kernel
theorem dX7_readFirst_22 : decode cX7_readFirst 22 = .ok (.getfield 31, 3) := by decide +kernel
theorem dX7_readFirst_25 : decode cX7_readFirst 25 = .ok (.iconst 1, 1) := by decide +kernel
theorem dX7_readFirst_26 : decode cX7_readFirst 26 = .ok (.aload_n 0, 1) := by decide +kernel
theorem dX7_readFirst_27 : decode cX7_readFirst 27 = .ok (.ldc 216, 2) := by decide +kernel
theorem dX7_readFirst_29 : decode cX7_readFirst 29 = .ok (.iconst 0, 1) := by decide +kernel
theorem dX7_readFirst_30 : decode cX7_readFirst 30 = .ok (.iconst 3, 1) := by decide +kernel
theorem dX7_readFirst_31 : decode cX7_readFirst 31 = .ok (.invokevirtual 212, 3) := by decide +kernel
theorem dX7_readFirst_34 : decode cX7_readFirst 34 = .ok (.iastore, 1) := by decide +kernel
theorem dX7_readFirst_35 : decode cX7_readFirst 35 = .ok (.aload_n 0, 1) := by decide +kernel
theorem dX7_readFirst_36 : decode cX7_readFirst 36 = .ok (.getfield 31, 3) := by decide +kernel
theorem dX7_readFirst_39 : decode cX7_readFirst 39 = .ok (.iconst 2, 1) := by decide +kernel
theorem dX7_readFirst_40 : decode cX7_readFirst 40 = .ok (.aload_n 0, 1) := by decide +kernel
theorem dX7_readFirst_41 : decode cX7_readFirst 41 = .ok (.ldc 218, 2) := by decide +kernel
theorem dX7_readFirst_43 : decode cX7_readFirst 43 = .ok (.iconst 0, 1) := by decide +kernel
theorem dX7_readFirst_44 : decode cX7_readFirst 44 = .ok (.bipush 10, 2) := by decide +kernel
theorem dX7_readFirst_46 : decode cX7_readFirst 46 = .ok (.invokevirtual 212, 3) := by decide +kernel
theorem dX7_readFirst_49 : decode cX7_readFirst 49 = .ok (.iastore, 1) := by decide +kernel
theorem dX7_readFirst_50 : decode cX7_readFirst 50 = .ok (.return_, 1) := by decide +kernel
theorem dX7_kindRead_0 : decode cX7_kindRead 0 = .ok (.iconst 0, 1) := by decide +kernel
theorem dX7_kindRead_1 : decode cX7_kindRead 1 = .ok (.istore_n 1, 1) := by decide +kernel
theorem dX7_kindRead_2 : decode cX7_kindRead 2 = .ok (.iload_n 1, 1) := by decide +kernel
theorem dX7_kindRead_3 : decode cX7_kindRead 3 = .ok (.bipush 8, 2) := by decide +kernel
theorem dX7_kindRead_5 : decode cX7_kindRead 5 = .ok (.if_icmp .gt 22, 3) := by decide +kernel
theorem dX7_kindRead_8 : decode cX7_kindRead 8 = .ok (.aload_n 0, 1) := by decide +kernel
theorem dX7_kindRead_9 : decode cX7_kindRead 9 = .ok (.iload_n 1, 1) := by decide +kernel
theorem dX7_kindRead_10 : decode cX7_kindRead 10 = .ok (.invokestatic 220, 3) := by decide +kernel
theorem dX7_kindRead_13 : decode cX7_kindRead 13 = .ok (.invokevirtual 191, 3) := by decide +kernel
theorem dX7_kindRead_16 : decode cX7_kindRead 16 = .ok (.ifCond .eq 5, 3) := by decide +kernel
theorem dX7_kindRead_19 : decode cX7_kindRead 19 = .ok (.iload_n 1, 1) := by decide +kernel
theorem dX7_kindRead_20 : decode cX7_kindRead 20 = .ok (.ireturn, 1) := by decide +kernel
theorem dX7_kindRead_21 : decode cX7_kindRead 21 = .ok (.iinc 1 1, 3) := by decide +kernel
theorem dX7_kindRead_24 : decode cX7_kindRead 24 = .ok (.goto (-22), 3) := by decide +kernel
theorem dX7_kindRead_27 : decode cX7_kindRead 27 = .ok (.iconst (-1), 1) := by decide +kernel
theorem dX7_kindRead_28 : decode cX7_kindRead 28 = .ok (.ireturn, 1) := by decide +kernel
theorem dX7_readNext_0 : decode cX7_readNext 0 = .ok (.aload_n 0, 1) := by decide +kernel
theorem dX7_readNext_1 : decode cX7_readNext 1 = .ok (.invokevirtual 224, 3) := by decide +kernel
theorem dX7_readNext_4 : decode cX7_readNext 4 = .ok (.istore_n 1, 1) := by decide +kernel
theorem dX7_readNext_5 : decode cX7_readNext 5 = .ok (.iload_n 1, 1) := by decide +kernel
theorem dX7_readNext_6 : decode cX7_readNext 6 = .ok (.iconst (-1), 1) := by decide +kernel
theorem dX7_readNext_7 : decode cX7_readNext 7 = .ok (.if_icmp .ne 8, 3) := by decide +kernel
theorem dX7_readNext_10 : decode cX7_readNext 10 = .ok (.aload_n 0, 1) := by decide +kernel
theorem dX7_readNext_11 : decode cX7_readNext 11 = .ok (.iconst 1, 1) := by decide +kernel
theorem dX7_readNext_12 : decode cX7_readNext 12 = .ok (.invokevirtual 198, 3) := by decide +kernel
theorem dX7_readNext_15 : decode cX7_readNext 15 = .ok (.aload_n 0, 1) := by decide +kernel
theorem dX7_readNext_16 : decode cX7_readNext 16 = .ok (.getfield 31, 3) := by decide +kernel
theorem dX7_readNext_19 : decode cX7_readNext 19 = .ok (.iconst 3, 1) := by decide +kernel
theorem dX7_readNext_20 : decode cX7_readNext 20 = .ok (.iaload, 1) := by decide +kernel
theorem dX7_readNext_21 : decode cX7_readNext 21 = .ok (.bipush 40, 2) := by decide +kernel
theorem dX7_readNext_23 : decode cX7_readNext 23 = .ok (.if_icmp .ne 8, 3) := by decide +kernel
theorem dX7_readNext_26 : decode cX7_readNext 26 = .ok (.aload_n 0, 1) := by decide +kernel
theorem dX7_readNext_27 : decode cX7_readNext 27 = .ok (.iconst 3, 1) := by decide +kernel
theorem dX7_readNext_28 : decode cX7_readNext 28 = .ok (.invokevirtual 198, 3) := by decide +kernel
theorem dX7_readNext_31 : decode cX7_readNext 31 = .ok (.aload_n 0, 1) := by decide +kernel
theorem dX7_readNext_32 : decode cX7_readNext 32 = .ok (.invokevirtual 179, 3) := by decide +kernel
theorem dX7_readNext_35 : decode cX7_readNext 35 = .ok (.ifCond .ne 4, 3) := by decide +kernel
theorem dX7_readNext_38 : decode cX7_readNext 38 = .ok (.return_, 1) := by decide +kernel
theorem dX7_readNext_39 : decode cX7_readNext 39 = .ok (.aload_n 0, 1) := by decide +kernel
theorem dX7_readNext_40 : decode cX7_readNext 40 = .ok (.invokevirtual 195, 3) := by decide +kernel
theorem dX7_readNext_43 : decode cX7_readNext 43 = .ok (.bipush 6, 2) := by decide +kernel
theorem dX7_readNext_45 : decode cX7_readNext 45 = .ok (.iconst 4, 1) := by decide +kernel
theorem dX7_readNext_46 : decode cX7_readNext 46 = .ok (.aload_n 0, 1) := by decide +kernel
theorem dX7_readNext_47 : decode cX7_readNext 47 = .ok (.getfield 31, 3) := by decide +kernel
theorem dX7_readNext_50 : decode cX7_readNext 50 = .ok (.iconst 3, 1) := by decide +kernel
theorem dX7_readNext_51 : decode cX7_readNext 51 = .ok (.iaload, 1) := by decide +kernel
theorem dX7_readNext_52 : decode cX7_readNext 52 = .ok (.imul, 1) := by decide +kernel
theorem dX7_readNext_53 : decode cX7_readNext 53 = .ok (.iadd, 1) := by decide +kernel
theorem dX7_readNext_54 : decode cX7_readNext 54 = .ok (.istore_n 2, 1) := by decide +kernel
theorem dX7_readNext_55 : decode cX7_readNext 55 = .ok (.aload_n 0, 1) := by decide +kernel
theorem dX7_readNext_56 : decode cX7_readNext 56 = .ok (.getfield 31, 3) := by decide +kernel
theorem dX7_readNext_59 : decode cX7_readNext 59 = .ok (.iload_n 2, 1) := by decide +kernel
theorem dX7_readNext_60 : decode cX7_readNext 60 = .ok (.iload_n 1, 1) := by decide +kernel
theorem dX7_readNext_61 : decode cX7_readNext 61 = .ok (.iastore, 1) := by decide +kernel
theorem dX7_readNext_62 : decode cX7_readNext 62 = .ok (.iconst 0, 1) := by decide +kernel
theorem dX7_readNext_63 : decode cX7_readNext 63 = .ok (.istore_n 3, 1) := by decide +kernel
theorem dX7_readNext_64 : decode cX7_readNext 64 = .ok (.iload_n 3, 1) := by decide +kernel
theorem dX7_readNext_65 : decode cX7_readNext 65 = .ok (.iconst 3, 1) := by decide +kernel
theorem dX7_readNext_66 : decode cX7_readNext 66 = .ok (.if_icmp .ge 114, 3) := by decide +kernel
theorem dX7_readNext_69 : decode cX7_readNext 69 = .ok (.aload_n 0, 1) := by decide +kernel
theorem dX7_readNext_70 : decode cX7_readNext 70 = .ok (.getfield 31, 3) := by decide +kernel
theorem dX7_readNext_73 : decode cX7_readNext 73 = .ok (.iload_n 2, 1) := by decide +kernel
theorem dX7_readNext_74 : decode cX7_readNext 74 = .ok (.iconst 1, 1) := by decide +kernel
theorem dX7_readNext_75 : decode cX7_readNext 75 = .ok (.iadd, 1) := by decide +kernel
theorem dX7_readNext_76 : decode cX7_readNext 76 = .ok (.iload_n 3, 1) := by decide +kernel
theorem dX7_readNext_77 : decode cX7_readNext 77 = .ok (.iadd, 1) := by decide +kernel
theorem dX7_readNext_78 : decode cX7_readNext 78 = .ok (.iconst (-1), 1) := by decide +kernel
theorem dX7_readNext_79 : decode cX7_readNext 79 = .ok (.iastore, 1) := by decide +kernel
theorem dX7_readNext_80 : decode cX7_readNext 80 = .ok (.iload_n 3, 1) := by decide +kernel
theorem dX7_readNext_81 : decode cX7_readNext 81 = .ok (.iload_n 1, 1) := by decide +kernel
theorem dX7_readNext_82 : decode cX7_readNext 82 = .ok (.invokestatic 227, 3) := by decide +kernel
theorem dX7_readNext_85 : decode cX7_readNext 85 = .ok (.if_icmp .lt 6, 3) := by decide +kernel
theorem dX7_readNext_88 : decode cX7_readNext 88 = .ok (.goto 86, 3) := by decide +kernel
theorem dX7_readNext_91 : decode cX7_readNext 91 = .ok (.aload_n 0, 1) := by decide +kernel
theorem dX7_readNext_92 : decode cX7_readNext 92 = .ok (.invokevirtual 179, 3) := by decide +kernel
theorem dX7_readNext_95 : decode cX7_readNext 95 = .ok (.ifCond .eq 41, 3) := by decide +kernel
theorem dX7_readNext_98 : decode cX7_readNext 98 = .ok (.iload_n 1, 1) := by decide +kernel
theorem dX7_readNext_99 : decode cX7_readNext 99 = .ok (.iconst 2, 1) := by decide +kernel
theorem dX7_readNext_100 : decode cX7_readNext 100 = .ok (.if_icmp .ne 36, 3) := by decide +kernel
theorem dX7_readNext_103 : decode cX7_readNext 103 = .ok (.iload_n 3, 1) := by decide +kernel
theorem dX7_readNext_104 : decode cX7_readNext 104 = .ok (.iconst 1, 1) := by decide +kernel
theorem dX7_readNext_105 : decode cX7_readNext 105 = .ok (.if_icmp .ne 31, 3) := by decide +kernel
theorem dX7_readNext_108 : decode cX7_readNext 108 = .ok (.aload_n 0, 1) := by decide +kernel
theorem dX7_readNext_109 : decode cX7_readNext 109 = .ok (.getfield 155, 3) := by decide +kernel
theorem dX7_readNext_112 : decode cX7_readNext 112 = .ok (.iconst 2, 1) := by decide +kernel
theorem dX7_readNext_113 : decode cX7_readNext 113 = .ok (.if_icmp .ne 23, 3) := by decide +kernel
theorem dX7_readNext_116 : decode cX7_readNext 116 = .ok (.aload_n 0, 1) := by decide +kernel
theorem dX7_readNext_117 : decode cX7_readNext 117 = .ok (.getfield 166, 3) := by decide +kernel
theorem dX7_readNext_120 : decode cX7_readNext 120 = .ok (.aload_n 0, 1) := by decide +kernel
theorem dX7_readNext_121 : decode cX7_readNext 121 = .ok (.getfield 31, 3) := by decide +kernel
theorem dX7_readNext_124 : decode cX7_readNext 124 = .ok (.iload_n 2, 1) := by decide +kernel
theorem dX7_readNext_125 : decode cX7_readNext 125 = .ok (.iconst 1, 1) := by decide +kernel
theorem dX7_readNext_126 : decode cX7_readNext 126 = .ok (.iadd, 1) := by decide +kernel
theorem dX7_readNext_127 : decode cX7_readNext 127 = .ok (.iaload, 1) := by decide +kernel
theorem dX7_readNext_128 : decode cX7_readNext 128 = .ok (.if_icmp .ne 8, 3) := by decide +kernel
theorem dX7_readNext_131 : decode cX7_readNext 131 = .ok (.aload_n 0, 1) := by decide +kernel
theorem dX7_readNext_132 : decode cX7_readNext 132 = .ok (.iconst 2, 1) := by decide +kernel
theorem dX7_readNext_133 : decode cX7_readNext 133 = .ok (.invokevirtual 198, 3) := by decide +kernel
theorem dX7_readNext_136 : decode cX7_readNext 136 = .ok (.aload_n 0, 1) := by decide +kernel
theorem dX7_readNext_137 : decode cX7_readNext 137 = .ok (.getfield 31, 3) := by decide +kernel
theorem dX7_readNext_140 : decode cX7_readNext 140 = .ok (.iload_n 2, 1) := by decide +kernel
theorem dX7_readNext_141 : decode cX7_readNext 141 = .ok (.iconst 1, 1) := by decide +kernel
theorem dX7_readNext_142 : decode cX7_readNext 142 = .ok (.iadd, 1) := by decide +kernel
theorem dX7_readNext_143 : decode cX7_readNext 143 = .ok (.iload_n 3, 1) := by decide +kernel
theorem dX7_readNext_144 : decode cX7_readNext 144 = .ok (.iadd, 1) := by decide +kernel
theorem dX7_readNext_145 : decode cX7_readNext 145 = .ok (.aload_n 0, 1) := by decide +kernel
theorem dX7_readNext_146 : decode cX7_readNext 146 = .ok (.iload_n 1, 1) := by decide +kernel
theorem dX7_readNext_147 : decode cX7_readNext 147 = .ok (.iload_n 3, 1) := by decide +kernel
theorem dX7_readNext_148 : decode cX7_readNext 148 = .ok (.aload_n 0, 1) := by decide +kernel
theorem dX7_readNext_149 : decode cX7_readNext 149 = .ok (.getfield 31, 3) := by decide +kernel
theorem dX7_readNext_152 : decode cX7_readNext 152 = .ok (.iload_n 2, 1) := by decide +kernel
theorem dX7_readNext_153 : decode cX7_readNext 153 = .ok (.iconst 1, 1) := by decide +kernel
theorem dX7_readNext_154 : decode cX7_readNext 154 = .ok (.iadd, 1) := by decide +kernel
theorem dX7_readNext_155 : decode cX7_readNext 155 = .ok (.iaload, 1) := by decide +kernel
theorem dX7_readNext_156 : decode cX7_readNext 156 = .ok (.invokestatic 230, 3) := by decide +kernel
theorem dX7_readNext_159 : decode cX7_readNext 159 = .ok (.iload_n 1, 1) := by decide +kernel
theorem dX7_readNext_160 : decode cX7_readNext 160 = .ok (.iload_n 3, 1) := by decide +kernel
theorem dX7_readNext_161 : decode cX7_readNext 161 = .ok (.aload_n 0, 1) := by decide +kernel
theorem dX7_readNext_162 : decode cX7_readNext 162 = .ok (.getfield 31, 3) := by decide +kernel
theorem dX7_readNext_165 : decode cX7_readNext 165 = .ok (.iconst 0, 1) := by decide +kernel
theorem dX7_readNext_166 : decode cX7_readNext 166 = .ok (.iaload, 1) := by decide +kernel
theorem dX7_readNext_167 : decode cX7_readNext 167 = .ok (.invokestatic 234, 3) := by decide +kernel
theorem dX7_readNext_170 : decode cX7_readNext 170 = .ok (.invokevirtual 206, 3) := by decide +kernel
theorem dX7_readNext_173 : decode cX7_readNext 173 = .ok (.iastore, 1) := by decide +kernel
theorem dX7_readNext_174 : decode cX7_readNext 174 = .ok (.iinc 3 1, 3) := by decide +kernel
theorem dX7_readNext_177 : decode cX7_readNext 177 = .ok (.goto (-113), 3) := by decide +kernel
theorem dX7_readNext_180 : decode cX7_readNext 180 = .ok (.aload_n 0, 1) := by decide +kernel
theorem dX7_readNext_181 : decode cX7_readNext 181 = .ok (.getfield 31, 3) := by decide +kernel
theorem dX7_readNext_184 : decode cX7_readNext 184 = .ok (.iconst 3, 1) := by decide +kernel
theorem dX7_readNext_185 : decode cX7_readNext 185 = .ok (.dup2, 1) := by decide +kernel
theorem dX7_readNext_186 : decode cX7_readNext 186 = .ok (.iaload, 1) := by decide +kernel
theorem dX7_readNext_187 : decode cX7_readNext 187 = .ok (.iconst 1, 1) := by decide +kernel
theorem dX7_readNext_188 : decode cX7_readNext 188 = .ok (.iadd, 1) := by decide +kernel
theorem dX7_readNext_189 : decode cX7_readNext 189 = .ok (.iastore, 1) := by decide +kernel
theorem dX7_readNext_190 : decode cX7_readNext 190 = .ok (.return_, 1) := by decide +kernel
theorem dX7_readText_0 : decode cX7_readText 0 = .ok (.aload_n 0, 1) := by decide +kernel
theorem dX7_readText_1 : decode cX7_readText 1 = .ok (.getfield 31, 3) := by decide +kernel
theorem dX7_readText_4 : decode cX7_readText 4 = .ok (.iconst 5, 1) := by decide +kernel
theorem dX7_readText_5 : decode cX7_readText 5 = .ok (.iaload, 1) := by decide +kernel
theorem dX7_readText_6 : decode cX7_readText 6 = .ok (.ifCond .ne 10, 3) := by decide +kernel
theorem dX7_readText_9 : decode cX7_readText 9 = .ok (.aload_n 0, 1) := by decide +kernel
theorem dX7_readText_10 : decode cX7_readText 10 = .ok (.invokevirtual 237, 3) := by decide +kernel
theorem dX7_readText_13 : decode cX7_readText 13 = .ok (.goto 7, 3) := by decide +kernel
theorem dX7_readText_16 : decode cX7_readText 16 = .ok (.aload_n 0, 1) := by decide +kernel
theorem dX7_readText_17 : decode cX7_readText 17 = .ok (.invokevirtual 240, 3) := by decide +kernel
theorem dX7_readText_20 : decode cX7_readText 20 = .ok (.aload_n 0, 1) := by decide +kernel
theorem dX7_readText_21 : decode cX7_readText 21 = .ok (.invokevirtual 179, 3) := by decide +kernel
theorem dX7_readText_24 : decode cX7_readText 24 = .ok (.ifCond .eq 16, 3) := by decide +kernel
theorem dX7_readText_27 : decode cX7_readText 27 = .ok (.aload_n 0, 1) := by decide +kernel
theorem dX7_readText_28 : decode cX7_readText 28 = .ok (.getfield 155, 3) := by decide +kernel
theorem dX7_readText_31 : decode cX7_readText 31 = .ok (.iconst 3, 1) := by decide +kernel
theorem dX7_readText_32 : decode cX7_readText 32 = .ok (.if_icmp .eq 8, 3) := by decide +kernel
theorem dX7_readText_35 : decode cX7_readText 35 = .ok (.aload_n 0, 1) := by decide +kernel
theorem dX7_readText_36 : decode cX7_readText 36 = .ok (.iconst 1, 1) := by decide +kernel
theorem dX7_readText_37 : decode cX7_readText 37 = .ok (.invokevirtual 198, 3) := by decide +kernel
theorem dX7_readText_40 : decode cX7_readText 40 = .ok (.aload_n 0, 1) := by decide +kernel
theorem dX7_readText_41 : decode cX7_readText 41 = .ok (.invokevirtual 179, 3) := by decide +kernel
theorem dX7_readText_44 : decode cX7_readText 44 = .ok (.ifCond .eq 7, 3) := by decide +kernel
theorem dX7_readText_47 : decode cX7_readText 47 = .ok (.aload_n 0, 1) := by decide +kernel
theorem dX7_readText_48 : decode cX7_readText 48 = .ok (.invokevirtual 195, 3) := by decide +kernel
theorem dX7_readText_51 : decode cX7_readText 51 = .ok (.aload_n 0, 1) := by decide +kernel
theorem dX7_readText_52 : decode cX7_readText 52 = .ok (.getfield 31, 3) := by decide +kernel
theorem dX7_readText_55 : decode cX7_readText 55 = .ok (.iconst 5, 1) := by decide +kernel
theorem dX7_readText_56 : decode cX7_readText 56 = .ok (.dup2, 1) := by decide +kernel
theorem dX7_readText_57 : decode cX7_readText 57 = .ok (.iaload, 1) := by decide +kernel
theorem dX7_readText_58 : decode cX7_readText 58 = .ok (.iconst 1, 1) := by decide +kernel
theorem dX7_readText_59 : decode cX7_readText 59 = .ok (.iadd, 1) := by decide +kernel
theorem dX7_readText_60 : decode cX7_readText 60 = .ok (.iastore, 1) := by decide +kernel
theorem dX7_readText_61 : decode cX7_readText 61 = .ok (.return_, 1) := by decide +kernel
theorem dX7_store_0 : decode cX7_store 0 = .ok (.aload_n 0, 1) := by decide +kernel
theorem dX7_store_1 : decode cX7_store 1 = .ok (.aload_n 0, 1) := by decide +kernel
theorem dX7_store_2 : decode cX7_store 2 = .ok (.getfield 140, 3) := by decide +kernel
theorem dX7_store_5 : decode cX7_store 5 = .ok (.putfield 143, 3) := by decide +kernel
theorem dX7_store_8 : decode cX7_store 8 = .ok (.aload_n 0, 1) := by decide +kernel
theorem dX7_store_9 : decode cX7_store 9 = .ok (.iconst 0, 1) := by decide +kernel
theorem dX7_store_10 : decode cX7_store 10 = .ok (.putfield 140, 3) := by decide +kernel
theorem dX7_store_13 : decode cX7_store 13 = .ok (.aload_n 0, 1) := by decide +kernel
theorem dX7_store_14 : decode cX7_store 14 = .ok (.iconst 0, 1) := by decide +kernel
theorem dX7_store_15 : decode cX7_store 15 = .ok (.putfield 146, 3) := by decide +kernel
theorem dX7_store_18 : decode cX7_store 18 = .ok (.aload_n 0, 1) := by decide +kernel
theorem dX7_store_19 : decode cX7_store 19 = .ok (.iconst 0, 1) := by decide +kernel
theorem dX7_store_20 : decode cX7_store 20 = .ok (.putfield 176, 3) := by decide +kernel
theorem dX7_store_23 : decode cX7_store 23 = .ok (.aload_n 0, 1) := by decide +kernel
theorem dX7_store_24 : decode cX7_store 24 = .ok (.iconst (-1), 1) := by decide +kernel
theorem dX7_store_25 : decode cX7_store 25 = .ok (.putfield 27, 3) := by decide +kernel
theorem dX7_store_28 : decode cX7_store 28 = .ok (.iconst 0, 1) := by decide +kernel
theorem dX7_store_29 : decode cX7_store 29 = .ok (.istore_n 1, 1) := by decide +kernel
theorem dX7_store_30 : decode cX7_store 30 = .ok (.iload_n 1, 1) := by decide +kernel
theorem dX7_store_31 : decode cX7_store 31 = .ok (.sipush 246, 3) := by decide +kernel
theorem dX7_store_34 : decode cX7_store 34 = .ok (.if_icmp .ge 16, 3) := by decide +kernel
theorem dX7_store_37 : decode cX7_store 37 = .ok (.aload_n 0, 1) := by decide +kernel
theorem dX7_store_38 : decode cX7_store 38 = .ok (.getfield 31, 3) := by decide +kernel
theorem dX7_store_41 : decode cX7_store 41 = .ok (.iload_n 1, 1) := by decide +kernel
theorem dX7_store_42 : decode cX7_store 42 = .ok (.iconst 0, 1) := by decide +kernel
theorem dX7_store_43 : decode cX7_store 43 = .ok (.iastore, 1) := by decide +kernel
theorem dX7_store_44 : decode cX7_store 44 = .ok (.iinc 1 1, 3) := by decide +kernel
theorem dX7_store_47 : decode cX7_store 47 = .ok (.goto (-17), 3) := by decide +kernel
theorem dX7_store_50 : decode cX7_store 50 = .ok (.aload_n 0, 1) := by decide +kernel
theorem dX7_store_51 : decode cX7_store 51 = .ok (.invokevirtual 195, 3) := by decide +kernel
theorem dX7_store_54 : decode cX7_store 54 = .ok (.aload_n 0, 1) := by decide +kernel
theorem dX7_store_55 : decode cX7_store 55 = .ok (.invokevirtual 179, 3) := by decide +kernel
theorem dX7_store_58 : decode cX7_store 58 = .ok (.ifCond .eq 17, 3) := by decide +kernel
theorem dX7_store_61 : decode cX7_store 61 = .ok (.aload_n 0, 1) := by decide +kernel
theorem dX7_store_62 : decode cX7_store 62 = .ok (.getfield 155, 3) := by decide +kernel
theorem dX7_store_65 : decode cX7_store 65 = .ok (.ifCond .eq 10, 3) := by decide +kernel
theorem dX7_store_68 : decode cX7_store 68 = .ok (.aload_n 0, 1) := by decide +kernel
theorem dX7_store_69 : decode cX7_store 69 = .ok (.invokevirtual 243, 3) := by decide +kernel
theorem dX7_store_72 : decode cX7_store 72 = .ok (.goto (-18), 3) := by decide +kernel
theorem dX7_store_75 : decode cX7_store 75 = .ok (.aload_n 0, 1) := by decide +kernel
theorem dX7_store_76 : decode cX7_store 76 = .ok (.invokevirtual 179, 3) := by decide +kernel
theorem dX7_store_79 : decode cX7_store 79 = .ok (.ifCond .ne 6, 3) := by decide +kernel
theorem dX7_store_82 : decode cX7_store 82 = .ok (.bipush (-4), 2) := by decide +kernel
theorem dX7_store_84 : decode cX7_store 84 = .ok (.ireturn, 1) := by decide +kernel
theorem dX7_store_85 : decode cX7_store 85 = .ok (.iconst 0, 1) := by decide +kernel
theorem dX7_store_86 : decode cX7_store 86 = .ok (.istore_n 1, 1) := by decide +kernel
theorem dX7_store_87 : decode cX7_store 87 = .ok (.iload_n 1, 1) := by decide +kernel
theorem dX7_store_88 : decode cX7_store 88 = .ok (.sipush 246, 3) := by decide +kernel
theorem dX7_store_91 : decode cX7_store 91 = .ok (.if_icmp .ge 21, 3) := by decide +kernel
theorem dX7_store_94 : decode cX7_store 94 = .ok (.aload_n 0, 1) := by decide +kernel
theorem dX7_store_95 : decode cX7_store 95 = .ok (.getfield 9, 3) := by decide +kernel
theorem dX7_store_98 : decode cX7_store 98 = .ok (.iload_n 1, 1) := by decide +kernel
theorem dX7_store_99 : decode cX7_store 99 = .ok (.aload_n 0, 1) := by decide +kernel
theorem dX7_store_100 : decode cX7_store 100 = .ok (.getfield 31, 3) := by decide +kernel
theorem dX7_store_103 : decode cX7_store 103 = .ok (.iload_n 1, 1) := by decide +kernel
theorem dX7_store_104 : decode cX7_store 104 = .ok (.iaload, 1) := by decide +kernel
theorem dX7_store_105 : decode cX7_store 105 = .ok (.iastore, 1) := by decide +kernel
theorem dX7_store_106 : decode cX7_store 106 = .ok (.iinc 1 1, 3) := by decide +kernel
theorem dX7_store_109 : decode cX7_store 109 = .ok (.goto (-22), 3) := by decide +kernel
theorem dX7_store_112 : decode cX7_store 112 = .ok (.aload_n 0, 1) := by decide +kernel
theorem dX7_store_113 : decode cX7_store 113 = .ok (.getfield 9, 3) := by decide +kernel
theorem dX7_store_116 : decode cX7_store 116 = .ok (.iconst 5, 1) := by decide +kernel
theorem dX7_store_117 : decode cX7_store 117 = .ok (.iaload, 1) := by decide +kernel
theorem dX7_store_118 : decode cX7_store 118 = .ok (.ireturn, 1) := by decide +kernel
theorem dX7_nothingGone_0 : decode cX7_nothingGone 0 = .ok (.iconst 0, 1) := by decide +kernel
theorem dX7_nothingGone_1 : decode cX7_nothingGone 1 = .ok (.istore_n 1, 1) := by decide +kernel
theorem dX7_nothingGone_2 : decode cX7_nothingGone 2 = .ok (.iload_n 1, 1) := by decide +kernel
theorem dX7_nothingGone_3 : decode cX7_nothingGone 3 = .ok (.bipush 60, 2) := by decide +kernel
theorem dX7_nothingGone_5 : decode cX7_nothingGone 5 = .ok (.if_icmp .ge 16, 3) := by decide +kernel
theorem dX7_nothingGone_8 : decode cX7_nothingGone 8 = .ok (.aload_n 0, 1) := by decide +kernel
theorem dX7_nothingGone_9 : decode cX7_nothingGone 9 = .ok (.getfield 34, 3) := by decide +kernel
theorem dX7_nothingGone_12 : decode cX7_nothingGone 12 = .ok (.iload_n 1, 1) := by decide +kernel
theorem dX7_nothingGone_13 : decode cX7_nothingGone 13 = .ok (.iconst 0, 1) := by decide +kernel
theorem dX7_nothingGone_14 : decode cX7_nothingGone 14 = .ok (.bastore, 1) := by decide +kernel
theorem dX7_nothingGone_15 : decode cX7_nothingGone 15 = .ok (.iinc 1 1, 3) := by decide +kernel
theorem dX7_nothingGone_18 : decode cX7_nothingGone 18 = .ok (.goto (-16), 3) := by decide +kernel
theorem dX7_nothingGone_21 : decode cX7_nothingGone 21 = .ok (.return_, 1) := by decide +kernel
theorem dX7_obey_0 : decode cX7_obey 0 = .ok (.aload_n 0, 1) := by decide +kernel
theorem dX7_obey_1 : decode cX7_obey 1 = .ok (.iload_n 1, 1) := by decide +kernel
theorem dX7_obey_2 : decode cX7_obey 2 = .ok (.iconst 0, 1) := by decide +kernel
theorem dX7_obey_3 : decode cX7_obey 3 = .ok (.invokevirtual 246, 3) := by decide +kernel
theorem dX7_obey_6 : decode cX7_obey 6 = .ok (.istore 4, 2) := by decide +kernel
theorem dX7_obey_8 : decode cX7_obey 8 = .ok (.aload_n 0, 1) := by decide +kernel
theorem dX7_obey_9 : decode cX7_obey 9 = .ok (.iload_n 1, 1) := by decide +kernel
theorem dX7_obey_10 : decode cX7_obey 10 = .ok (.iconst 1, 1) := by decide +kernel
theorem dX7_obey_11 : decode cX7_obey 11 = .ok (.invokevirtual 246, 3) := by decide +kernel
theorem dX7_obey_14 : decode cX7_obey 14 = .ok (.istore 5, 2) := by decide +kernel
theorem dX7_obey_16 : decode cX7_obey 16 = .ok (.aload_n 2, 1) := by decide +kernel
theorem dX7_obey_17 : decode cX7_obey 17 = .ok (.iload_n 3, 1) := by decide +kernel
theorem dX7_obey_18 : decode cX7_obey 18 = .ok (.iload 4, 2) := by decide +kernel
theorem dX7_obey_20 : decode cX7_obey 20 = .ok (.iadd, 1) := by decide +kernel
theorem dX7_obey_21 : decode cX7_obey 21 = .ok (.iaload, 1) := by decide +kernel
theorem dX7_obey_22 : decode cX7_obey 22 = .ok (.istore 6, 2) := by decide +kernel
theorem dX7_obey_24 : decode cX7_obey 24 = .ok (.aload_n 0, 1) := by decide +kernel
theorem dX7_obey_25 : decode cX7_obey 25 = .ok (.iload_n 1, 1) := by decide +kernel
theorem dX7_obey_26 : decode cX7_obey 26 = .ok (.invokevirtual 118, 3) := by decide +kernel
theorem dX7_obey_29 : decode cX7_obey 29 = .ok (.tableswitch 79 0 2 #[27, 38, 56], 27) := by decide +kernel
theorem dX7_obey_56 : decode cX7_obey 56 = .ok (.aload_n 2, 1) := by decide +kernel
theorem dX7_obey_57 : decode cX7_obey 57 = .ok (.iload_n 3, 1) := by decide +kernel
theorem dX7_obey_58 : decode cX7_obey 58 = .ok (.iload 4, 2) := by decide +kernel
theorem dX7_obey_60 : decode cX7_obey 60 = .ok (.iadd, 1) := by decide +kernel
theorem dX7_obey_61 : decode cX7_obey 61 = .ok (.iload 5, 2) := by decide +kernel
theorem dX7_obey_63 : decode cX7_obey 63 = .ok (.iastore, 1) := by decide +kernel
theorem dX7_obey_64 : decode cX7_obey 64 = .ok (.goto 73, 3) := by decide +kernel
theorem dX7_obey_67 : decode cX7_obey 67 = .ok (.aload_n 2, 1) := by decide +kernel
theorem dX7_obey_68 : decode cX7_obey 68 = .ok (.iload_n 3, 1) := by decide +kernel
theorem dX7_obey_69 : decode cX7_obey 69 = .ok (.iload 4, 2) := by decide +kernel
theorem dX7_obey_71 : decode cX7_obey 71 = .ok (.iadd, 1) := by decide +kernel
theorem dX7_obey_72 : decode cX7_obey 72 = .ok (.iload 6, 2) := by decide +kernel
theorem dX7_obey_74 : decode cX7_obey 74 = .ok (.iload 5, 2) := by decide +kernel
theorem dX7_obey_76 : decode cX7_obey 76 = .ok (.iadd, 1) := by decide +kernel
theorem dX7_obey_77 : decode cX7_obey 77 = .ok (.sipush 256, 3) := by decide +kernel
theorem dX7_obey_80 : decode cX7_obey 80 = .ok (.irem, 1) := by decide +kernel
theorem dX7_obey_81 : decode cX7_obey 81 = .ok (.iastore, 1) := by decide +kernel
theorem dX7_obey_82 : decode cX7_obey 82 = .ok (.goto 55, 3) := by decide +kernel
theorem dX7_obey_85 : decode cX7_obey 85 = .ok (.aload_n 2, 1) := by decide +kernel
theorem dX7_obey_86 : decode cX7_obey 86 = .ok (.iload_n 3, 1) := by decide +kernel
theorem dX7_obey_87 : decode cX7_obey 87 = .ok (.iload 4, 2) := by decide +kernel
theorem dX7_obey_89 : decode cX7_obey 89 = .ok (.iadd, 1) := by decide +kernel
theorem dX7_obey_90 : decode cX7_obey 90 = .ok (.aload_n 2, 1) := by decide +kernel
theorem dX7_obey_91 : decode cX7_obey 91 = .ok (.iload_n 3, 1) := by decide +kernel
theorem dX7_obey_92 : decode cX7_obey 92 = .ok (.iload 5, 2) := by decide +kernel
theorem dX7_obey_94 : decode cX7_obey 94 = .ok (.iadd, 1) := by decide +kernel
theorem dX7_obey_95 : decode cX7_obey 95 = .ok (.iaload, 1) := by decide +kernel
theorem dX7_obey_96 : decode cX7_obey 96 = .ok (.iastore, 1) := by decide +kernel
theorem dX7_obey_97 : decode cX7_obey 97 = .ok (.aload_n 2, 1) := by decide +kernel
theorem dX7_obey_98 : decode cX7_obey 98 = .ok (.iload_n 3, 1) := by decide +kernel
theorem dX7_obey_99 : decode cX7_obey 99 = .ok (.iload 5, 2) := by decide +kernel
theorem dX7_obey_101 : decode cX7_obey 101 = .ok (.iadd, 1) := by decide +kernel
theorem dX7_obey_102 : decode cX7_obey 102 = .ok (.iload 6, 2) := by decide +kernel
theorem dX7_obey_104 : decode cX7_obey 104 = .ok (.iastore, 1) := by decide +kernel
theorem dX7_obey_105 : decode cX7_obey 105 = .ok (.goto 32, 3) := by decide +kernel
theorem dX7_obey_108 : decode cX7_obey 108 = .ok (.iload 4, 2) := by decide +kernel
theorem dX7_obey_110 : decode cX7_obey 110 = .ok (.istore 7, 2) := by decide +kernel
theorem dX7_obey_112 : decode cX7_obey 112 = .ok (.iload 7, 2) := by decide +kernel
theorem dX7_obey_114 : decode cX7_obey 114 = .ok (.iload 5, 2) := by decide +kernel
theorem dX7_obey_116 : decode cX7_obey 116 = .ok (.if_icmp .gt 21, 3) := by decide +kernel
theorem dX7_obey_119 : decode cX7_obey 119 = .ok (.aload_n 2, 1) := by decide +kernel
theorem dX7_obey_120 : decode cX7_obey 120 = .ok (.iload_n 3, 1) := by decide +kernel
theorem dX7_obey_121 : decode cX7_obey 121 = .ok (.iload 7, 2) := by decide +kernel
theorem dX7_obey_123 : decode cX7_obey 123 = .ok (.iadd, 1) := by decide +kernel
theorem dX7_obey_124 : decode cX7_obey 124 = .ok (.aload_n 0, 1) := by decide +kernel
theorem dX7_obey_125 : decode cX7_obey 125 = .ok (.iload_n 1, 1) := by decide +kernel
theorem dX7_obey_126 : decode cX7_obey 126 = .ok (.iconst 2, 1) := by decide +kernel
theorem dX7_obey_127 : decode cX7_obey 127 = .ok (.invokevirtual 246, 3) := by decide +kernel
theorem dX7_obey_130 : decode cX7_obey 130 = .ok (.iastore, 1) := by decide +kernel
theorem dX7_obey_131 : decode cX7_obey 131 = .ok (.iinc 7 1, 3) := by decide +kernel
theorem dX7_obey_134 : decode cX7_obey 134 = .ok (.goto (-22), 3) := by decide +kernel
theorem dX7_obey_137 : decode cX7_obey 137 = .ok (.return_, 1) := by decide +kernel
theorem dX7_layValues_0 : decode cX7_layValues 0 = .ok (.iconst 0, 1) := by decide +kernel
theorem dX7_layValues_1 : decode cX7_layValues 1 = .ok (.istore_n 1, 1) := by decide +kernel
theorem dX7_layValues_2 : decode cX7_layValues 2 = .ok (.iload_n 1, 1) := by decide +kernel
theorem dX7_layValues_3 : decode cX7_layValues 3 = .ok (.bipush 32, 2) := by decide +kernel
theorem dX7_layValues_5 : decode cX7_layValues 5 = .ok (.if_icmp .ge 16, 3) := by decide +kernel
theorem dX7_layValues_8 : decode cX7_layValues 8 = .ok (.aload_n 0, 1) := by decide +kernel
theorem dX7_layValues_9 : decode cX7_layValues 9 = .ok (.getfield 37, 3) := by decide +kernel
theorem dX7_layValues_12 : decode cX7_layValues 12 = .ok (.iload_n 1, 1) := by decide +kernel
theorem dX7_layValues_13 : decode cX7_layValues 13 = .ok (.iconst 0, 1) := by decide +kernel
theorem dX7_layValues_14 : decode cX7_layValues 14 = .ok (.iastore, 1) := by decide +kernel
theorem dX7_layValues_15 : decode cX7_layValues 15 = .ok (.iinc 1 1, 3) := by decide +kernel
theorem dX7_layValues_18 : decode cX7_layValues 18 = .ok (.goto (-16), 3) := by decide +kernel
theorem dX7_layValues_21 : decode cX7_layValues 21 = .ok (.iconst 0, 1) := by decide +kernel
theorem dX7_layValues_22 : decode cX7_layValues 22 = .ok (.istore_n 1, 1) := by decide +kernel
theorem dX7_layValues_23 : decode cX7_layValues 23 = .ok (.iload_n 1, 1) := by decide +kernel
theorem dX7_layValues_24 : decode cX7_layValues 24 = .ok (.aload_n 0, 1) := by decide +kernel
theorem dX7_layValues_25 : decode cX7_layValues 25 = .ok (.invokevirtual 111, 3) := by decide +kernel
theorem dX7_layValues_28 : decode cX7_layValues 28 = .ok (.if_icmp .ge 131, 3) := by decide +kernel
theorem dX7_layValues_31 : decode cX7_layValues 31 = .ok (.bipush 32, 2) := by decide +kernel
theorem dX7_layValues_33 : decode cX7_layValues 33 = .ok (.iload_n 1, 1) := by decide +kernel
theorem dX7_layValues_34 : decode cX7_layValues 34 = .ok (.imul, 1) := by decide +kernel
theorem dX7_layValues_35 : decode cX7_layValues 35 = .ok (.istore_n 2, 1) := by decide +kernel
theorem dX7_layValues_36 : decode cX7_layValues 36 = .ok (.iload_n 2, 1) := by decide +kernel
theorem dX7_layValues_37 : decode cX7_layValues 37 = .ok (.bipush 32, 2) := by decide +kernel
theorem dX7_layValues_39 : decode cX7_layValues 39 = .ok (.iadd, 1) := by decide +kernel
theorem dX7_layValues_40 : decode cX7_layValues 40 = .ok (.istore_n 3, 1) := by decide +kernel
theorem dX7_layValues_41 : decode cX7_layValues 41 = .ok (.iconst 0, 1) := by decide +kernel
theorem dX7_layValues_42 : decode cX7_layValues 42 = .ok (.istore 4, 2) := by decide +kernel
theorem dX7_layValues_44 : decode cX7_layValues 44 = .ok (.iload 4, 2) := by decide +kernel
theorem dX7_layValues_46 : decode cX7_layValues 46 = .ok (.bipush 32, 2) := by decide +kernel
theorem dX7_layValues_48 : decode cX7_layValues 48 = .ok (.if_icmp .ge 27, 3) := by decide +kernel
theorem dX7_layValues_51 : decode cX7_layValues 51 = .ok (.aload_n 0, 1) := by decide +kernel
theorem dX7_layValues_52 : decode cX7_layValues 52 = .ok (.getfield 37, 3) := by decide +kernel
theorem dX7_layValues_55 : decode cX7_layValues 55 = .ok (.iload_n 3, 1) := by decide +kernel
theorem dX7_layValues_56 : decode cX7_layValues 56 = .ok (.iload 4, 2) := by decide +kernel
theorem dX7_layValues_58 : decode cX7_layValues 58 = .ok (.iadd, 1) := by decide +kernel
theorem dX7_layValues_59 : decode cX7_layValues 59 = .ok (.aload_n 0, 1) := by decide +kernel
theorem dX7_layValues_60 : decode cX7_layValues 60 = .ok (.getfield 37, 3) := by decide +kernel
theorem dX7_layValues_63 : decode cX7_layValues 63 = .ok (.iload_n 2, 1) := by decide +kernel
theorem dX7_layValues_64 : decode cX7_layValues 64 = .ok (.iload 4, 2) := by decide +kernel
theorem dX7_layValues_66 : decode cX7_layValues 66 = .ok (.iadd, 1) := by decide +kernel
theorem dX7_layValues_67 : decode cX7_layValues 67 = .ok (.iaload, 1) := by decide +kernel
theorem dX7_layValues_68 : decode cX7_layValues 68 = .ok (.iastore, 1) := by decide +kernel
theorem dX7_layValues_69 : decode cX7_layValues 69 = .ok (.iinc 4 1, 3) := by decide +kernel
theorem dX7_layValues_72 : decode cX7_layValues 72 = .ok (.goto (-28), 3) := by decide +kernel
theorem dX7_layValues_75 : decode cX7_layValues 75 = .ok (.aload_n 0, 1) := by decide +kernel
theorem dX7_layValues_76 : decode cX7_layValues 76 = .ok (.getfield 34, 3) := by decide +kernel
theorem dX7_layValues_79 : decode cX7_layValues 79 = .ok (.iload_n 1, 1) := by decide +kernel
theorem dX7_layValues_80 : decode cX7_layValues 80 = .ok (.baload, 1) := by decide +kernel
theorem dX7_layValues_81 : decode cX7_layValues 81 = .ok (.ifCond .ne 21, 3) := by decide +kernel
theorem dX7_layValues_84 : decode cX7_layValues 84 = .ok (.aload_n 0, 1) := by decide +kernel
theorem dX7_layValues_85 : decode cX7_layValues 85 = .ok (.iload_n 1, 1) := by decide +kernel
theorem dX7_layValues_86 : decode cX7_layValues 86 = .ok (.invokevirtual 249, 3) := by decide +kernel
theorem dX7_layValues_89 : decode cX7_layValues 89 = .ok (.ifCond .eq 13, 3) := by decide +kernel
theorem dX7_layValues_92 : decode cX7_layValues 92 = .ok (.aload_n 0, 1) := by decide +kernel
theorem dX7_layValues_93 : decode cX7_layValues 93 = .ok (.iload_n 1, 1) := by decide +kernel
theorem dX7_layValues_94 : decode cX7_layValues 94 = .ok (.aload_n 0, 1) := by decide +kernel
theorem dX7_layValues_95 : decode cX7_layValues 95 = .ok (.getfield 37, 3) := by decide +kernel
theorem dX7_layValues_98 : decode cX7_layValues 98 = .ok (.iload_n 3, 1) := by decide +kernel
theorem dX7_layValues_99 : decode cX7_layValues 99 = .ok (.invokevirtual 253, 3) := by decide +kernel
theorem dX7_layValues_102 : decode cX7_layValues 102 = .ok (.iconst 0, 1) := by decide +kernel
theorem dX7_layValues_103 : decode cX7_layValues 103 = .ok (.istore 4, 2) := by decide +kernel
theorem dX7_layValues_105 : decode cX7_layValues 105 = .ok (.iload 4, 2) := by decide +kernel
theorem dX7_layValues_107 : decode cX7_layValues 107 = .ok (.bipush 32, 2) := by decide +kernel
theorem dX7_layValues_109 : decode cX7_layValues 109 = .ok (.if_icmp .ge 44, 3) := by decide +kernel
theorem dX7_layValues_112 : decode cX7_layValues 112 = .ok (.aload_n 0, 1) := by decide +kernel
theorem dX7_layValues_113 : decode cX7_layValues 113 = .ok (.getfield 40, 3) := by decide +kernel
theorem dX7_layValues_116 : decode cX7_layValues 116 = .ok (.iload_n 2, 1) := by decide +kernel
theorem dX7_layValues_117 : decode cX7_layValues 117 = .ok (.iload 4, 2) := by decide +kernel
theorem dX7_layValues_119 : decode cX7_layValues 119 = .ok (.iadd, 1) := by decide +kernel
theorem dX7_layValues_120 : decode cX7_layValues 120 = .ok (.aload_n 0, 1) := by decide +kernel
theorem dX7_layValues_121 : decode cX7_layValues 121 = .ok (.getfield 37, 3) := by decide +kernel
theorem dX7_layValues_124 : decode cX7_layValues 124 = .ok (.iload_n 2, 1) := by decide +kernel
theorem dX7_layValues_125 : decode cX7_layValues 125 = .ok (.iload 4, 2) := by decide +kernel
theorem dX7_layValues_127 : decode cX7_layValues 127 = .ok (.iadd, 1) := by decide +kernel
theorem dX7_layValues_128 : decode cX7_layValues 128 = .ok (.iaload, 1) := by decide +kernel
theorem dX7_layValues_129 : decode cX7_layValues 129 = .ok (.aload_n 0, 1) := by decide +kernel
theorem dX7_layValues_130 : decode cX7_layValues 130 = .ok (.getfield 37, 3) := by decide +kernel
theorem dX7_layValues_133 : decode cX7_layValues 133 = .ok (.iload_n 3, 1) := by decide +kernel
theorem dX7_layValues_134 : decode cX7_layValues 134 = .ok (.iload 4, 2) := by decide +kernel
theorem dX7_layValues_136 : decode cX7_layValues 136 = .ok (.iadd, 1) := by decide +kernel
theorem dX7_layValues_137 : decode cX7_layValues 137 = .ok (.iaload, 1) := by decide +kernel
theorem dX7_layValues_138 : decode cX7_layValues 138 = .ok (.if_icmp .eq 7, 3) := by decide +kernel
theorem dX7_layValues_141 : decode cX7_layValues 141 = .ok (.iconst 1, 1) := by decide +kernel
theorem dX7_layValues_142 : decode cX7_layValues 142 = .ok (.goto 4, 3) := by decide +kernel
theorem dX7_layValues_145 : decode cX7_layValues 145 = .ok (.iconst 0, 1) := by decide +kernel
theorem dX7_layValues_146 : decode cX7_layValues 146 = .ok (.bastore, 1) := by decide +kernel
theorem dX7_layValues_147 : decode cX7_layValues 147 = .ok (.iinc 4 1, 3) := by decide +kernel
theorem dX7_layValues_150 : decode cX7_layValues 150 = .ok (.goto (-45), 3) := by decide +kernel
theorem dX7_layValues_153 : decode cX7_layValues 153 = .ok (.iinc 1 1, 3) := by decide +kernel
theorem dX7_layValues_156 : decode cX7_layValues 156 = .ok (.goto (-133), 3) := by decide +kernel
theorem dX7_layValues_159 : decode cX7_layValues 159 = .ok (.return_, 1) := by decide +kernel
theorem dX7_valueAt_0 : decode cX7_valueAt 0 = .ok (.aload_n 0, 1) := by decide +kernel
theorem dX7_valueAt_1 : decode cX7_valueAt 1 = .ok (.getfield 37, 3) := by decide +kernel
theorem dX7_valueAt_4 : decode cX7_valueAt 4 = .ok (.bipush 32, 2) := by decide +kernel
theorem dX7_valueAt_6 : decode cX7_valueAt 6 = .ok (.iload_n 2, 1) := by decide +kernel
theorem dX7_valueAt_7 : decode cX7_valueAt 7 = .ok (.imul, 1) := by decide +kernel
theorem dX7_valueAt_8 : decode cX7_valueAt 8 = .ok (.iload_n 1, 1) := by decide +kernel
theorem dX7_valueAt_9 : decode cX7_valueAt 9 = .ok (.iadd, 1) := by decide +kernel
theorem dX7_valueAt_10 : decode cX7_valueAt 10 = .ok (.iaload, 1) := by decide +kernel
theorem dX7_valueAt_11 : decode cX7_valueAt 11 = .ok (.ireturn, 1) := by decide +kernel
theorem dX7_latestAt_0 : decode cX7_latestAt 0 = .ok (.iload_n 2, 1) := by decide +kernel
theorem dX7_latestAt_1 : decode cX7_latestAt 1 = .ok (.iconst 1, 1) := by decide +kernel
theorem dX7_latestAt_2 : decode cX7_latestAt 2 = .ok (.isub, 1) := by decide +kernel
theorem dX7_latestAt_3 : decode cX7_latestAt 3 = .ok (.istore_n 3, 1) := by decide +kernel
theorem dX7_latestAt_4 : decode cX7_latestAt 4 = .ok (.iload_n 3, 1) := by decide +kernel
theorem dX7_latestAt_5 : decode cX7_latestAt 5 = .ok (.ifCond .lt 23, 3) := by decide +kernel
theorem dX7_latestAt_8 : decode cX7_latestAt 8 = .ok (.aload_n 0, 1) := by decide +kernel
theorem dX7_latestAt_9 : decode cX7_latestAt 9 = .ok (.getfield 40, 3) := by decide +kernel
theorem dX7_latestAt_12 : decode cX7_latestAt 12 = .ok (.bipush 32, 2) := by decide +kernel
theorem dX7_latestAt_14 : decode cX7_latestAt 14 = .ok (.iload_n 3, 1) := by decide +kernel
theorem dX7_latestAt_15 : decode cX7_latestAt 15 = .ok (.imul, 1) := by decide +kernel
theorem dX7_latestAt_16 : decode cX7_latestAt 16 = .ok (.iload_n 1, 1) := by decide +kernel
theorem dX7_latestAt_17 : decode cX7_latestAt 17 = .ok (.iadd, 1) := by decide +kernel
theorem dX7_latestAt_18 : decode cX7_latestAt 18 = .ok (.baload, 1) := by decide +kernel
theorem dX7_latestAt_19 : decode cX7_latestAt 19 = .ok (.ifCond .ne 9, 3) := by decide +kernel
theorem dX7_latestAt_22 : decode cX7_latestAt 22 = .ok (.iinc 3 (-1), 3) := by decide +kernel
theorem dX7_latestAt_25 : decode cX7_latestAt 25 = .ok (.goto (-21), 3) := by decide +kernel
theorem dX7_latestAt_28 : decode cX7_latestAt 28 = .ok (.iload_n 3, 1) := by decide +kernel
theorem dX7_latestAt_29 : decode cX7_latestAt 29 = .ok (.ireturn, 1) := by decide +kernel
theorem dX7_isWholeBy_0 : decode cX7_isWholeBy 0 = .ok (.aload_n 0, 1) := by decide +kernel
theorem dX7_isWholeBy_1 : decode cX7_isWholeBy 1 = .ok (.getfield 49, 3) := by decide +kernel
theorem dX7_isWholeBy_4 : decode cX7_isWholeBy 4 = .ok (.iload_n 1, 1) := by decide +kernel
theorem dX7_isWholeBy_5 : decode cX7_isWholeBy 5 = .ok (.iaload, 1) := by decide +kernel
theorem dX7_isWholeBy_6 : decode cX7_isWholeBy 6 = .ok (.iconst 1, 1) := by decide +kernel
theorem dX7_isWholeBy_7 : decode cX7_isWholeBy 7 = .ok (.if_icmp .ne 17, 3) := by decide +kernel
theorem dX7_isWholeBy_10 : decode cX7_isWholeBy 10 = .ok (.aload_n 0, 1) := by decide +kernel
theorem dX7_isWholeBy_11 : decode cX7_isWholeBy 11 = .ok (.getfield 52, 3) := by decide +kernel
theorem dX7_isWholeBy_14 : decode cX7_isWholeBy 14 = .ok (.iload_n 1, 1) := by decide +kernel
theorem dX7_isWholeBy_15 : decode cX7_isWholeBy 15 = .ok (.iaload, 1) := by decide +kernel
theorem dX7_isWholeBy_16 : decode cX7_isWholeBy 16 = .ok (.iload_n 2, 1) := by decide +kernel
theorem dX7_isWholeBy_17 : decode cX7_isWholeBy 17 = .ok (.if_icmp .gt 7, 3) := by decide +kernel
theorem dX7_isWholeBy_20 : decode cX7_isWholeBy 20 = .ok (.iconst 1, 1) := by decide +kernel
theorem dX7_isWholeBy_21 : decode cX7_isWholeBy 21 = .ok (.goto 4, 3) := by decide +kernel
theorem dX7_isWholeBy_24 : decode cX7_isWholeBy 24 = .ok (.iconst 0, 1) := by decide +kernel
theorem dX7_isWholeBy_25 : decode cX7_isWholeBy 25 = .ok (.ireturn, 1) := by decide +kernel
theorem dX7_baseAt_0 : decode cX7_baseAt 0 = .ok (.iconst 0, 1) := by decide +kernel
theorem dX7_baseAt_1 : decode cX7_baseAt 1 = .ok (.istore_n 2, 1) := by decide +kernel
theorem dX7_baseAt_2 : decode cX7_baseAt 2 = .ok (.iconst 0, 1) := by decide +kernel
theorem dX7_baseAt_3 : decode cX7_baseAt 3 = .ok (.istore_n 3, 1) := by decide +kernel
theorem dX7_baseAt_4 : decode cX7_baseAt 4 = .ok (.iload_n 3, 1) := by decide +kernel
theorem dX7_baseAt_5 : decode cX7_baseAt 5 = .ok (.aload_n 0, 1) := by decide +kernel
theorem dX7_baseAt_6 : decode cX7_baseAt 6 = .ok (.getfield 257, 3) := by decide +kernel
theorem dX7_baseAt_9 : decode cX7_baseAt 9 = .ok (.if_icmp .ge 25, 3) := by decide +kernel
theorem dX7_baseAt_12 : decode cX7_baseAt 12 = .ok (.aload_n 0, 1) := by decide +kernel
theorem dX7_baseAt_13 : decode cX7_baseAt 13 = .ok (.iload_n 3, 1) := by decide +kernel
theorem dX7_baseAt_14 : decode cX7_baseAt 14 = .ok (.iload_n 1, 1) := by decide +kernel
theorem dX7_baseAt_15 : decode cX7_baseAt 15 = .ok (.invokevirtual 260, 3) := by decide +kernel
theorem dX7_baseAt_18 : decode cX7_baseAt 18 = .ok (.ifCond .eq 10, 3) := by decide +kernel
theorem dX7_baseAt_21 : decode cX7_baseAt 21 = .ok (.aload_n 0, 1) := by decide +kernel
theorem dX7_baseAt_22 : decode cX7_baseAt 22 = .ok (.getfield 46, 3) := by decide +kernel
theorem dX7_baseAt_25 : decode cX7_baseAt 25 = .ok (.iload_n 3, 1) := by decide +kernel
theorem dX7_baseAt_26 : decode cX7_baseAt 26 = .ok (.iaload, 1) := by decide +kernel
theorem dX7_baseAt_27 : decode cX7_baseAt 27 = .ok (.istore_n 2, 1) := by decide +kernel
theorem dX7_baseAt_28 : decode cX7_baseAt 28 = .ok (.iinc 3 1, 3) := by decide +kernel
theorem dX7_baseAt_31 : decode cX7_baseAt 31 = .ok (.goto (-27), 3) := by decide +kernel
theorem dX7_baseAt_34 : decode cX7_baseAt 34 = .ok (.iload_n 2, 1) := by decide +kernel
theorem dX7_baseAt_35 : decode cX7_baseAt 35 = .ok (.ireturn, 1) := by decide +kernel
theorem dX7_isDirtyAt_0 : decode cX7_isDirtyAt 0 = .ok (.aload_n 0, 1) := by decide +kernel
theorem dX7_isDirtyAt_1 : decode cX7_isDirtyAt 1 = .ok (.iload_n 1, 1) := by decide +kernel
theorem dX7_isDirtyAt_2 : decode cX7_isDirtyAt 2 = .ok (.iload_n 2, 1) := by decide +kernel
theorem dX7_isDirtyAt_3 : decode cX7_isDirtyAt 3 = .ok (.invokevirtual 264, 3) := by decide +kernel
theorem dX7_isDirtyAt_6 : decode cX7_isDirtyAt 6 = .ok (.aload_n 0, 1) := by decide +kernel
theorem dX7_isDirtyAt_7 : decode cX7_isDirtyAt 7 = .ok (.iload_n 2, 1) := by decide +kernel
theorem dX7_isDirtyAt_8 : decode cX7_isDirtyAt 8 = .ok (.invokevirtual 267, 3) := by decide +kernel
theorem dX7_isDirtyAt_11 : decode cX7_isDirtyAt 11 = .ok (.if_icmp .lt 7, 3) := by decide +kernel
theorem dX7_isDirtyAt_14 : decode cX7_isDirtyAt 14 = .ok (.iconst 1, 1) := by decide +kernel
theorem dX7_isDirtyAt_15 : decode cX7_isDirtyAt 15 = .ok (.goto 4, 3) := by decide +kernel
theorem dX7_isDirtyAt_18 : decode cX7_isDirtyAt 18 = .ok (.iconst 0, 1) := by decide +kernel
theorem dX7_isDirtyAt_19 : decode cX7_isDirtyAt 19 = .ok (.ireturn, 1) := by decide +kernel
theorem dX7_isLeft_0 : decode cX7_isLeft 0 = .ok (.aload_n 0, 1) := by decide +kernel
theorem dX7_isLeft_1 : decode cX7_isLeft 1 = .ok (.getfield 58, 3) := by decide +kernel
theorem dX7_isLeft_4 : decode cX7_isLeft 4 = .ok (.bipush 32, 2) := by decide +kernel
theorem dX7_isLeft_6 : decode cX7_isLeft 6 = .ok (.iload_n 1, 1) := by decide +kernel
theorem dX7_isLeft_7 : decode cX7_isLeft 7 = .ok (.imul, 1) := by decide +kernel
theorem dX7_isLeft_8 : decode cX7_isLeft 8 = .ok (.iload_n 2, 1) := by decide +kernel
theorem dX7_isLeft_9 : decode cX7_isLeft 9 = .ok (.iadd, 1) := by decide +kernel
theorem dX7_isLeft_10 : decode cX7_isLeft 10 = .ok (.baload, 1) := by decide +kernel
theorem dX7_isLeft_11 : decode cX7_isLeft 11 = .ok (.ifCond .eq 22, 3) := by decide +kernel
theorem dX7_isLeft_14 : decode cX7_isLeft 14 = .ok (.aload_n 0, 1) := by decide +kernel
theorem dX7_isLeft_15 : decode cX7_isLeft 15 = .ok (.getfield 64, 3) := by decide +kernel
theorem dX7_isLeft_18 : decode cX7_isLeft 18 = .ok (.bipush 32, 2) := by decide +kernel
theorem dX7_isLeft_20 : decode cX7_isLeft 20 = .ok (.iload_n 1, 1) := by decide +kernel
theorem dX7_isLeft_21 : decode cX7_isLeft 21 = .ok (.imul, 1) := by decide +kernel
theorem dX7_isLeft_22 : decode cX7_isLeft 22 = .ok (.iload_n 2, 1) := by decide +kernel
theorem dX7_isLeft_23 : decode cX7_isLeft 23 = .ok (.iadd, 1) := by decide +kernel
theorem dX7_isLeft_24 : decode cX7_isLeft 24 = .ok (.iaload, 1) := by decide +kernel
theorem dX7_isLeft_25 : decode cX7_isLeft 25 = .ok (.iconst (-1), 1) := by decide +kernel
theorem dX7_isLeft_26 : decode cX7_isLeft 26 = .ok (.if_icmp .ne 7, 3) := by decide +kernel
theorem dX7_isLeft_29 : decode cX7_isLeft 29 = .ok (.iconst 1, 1) := by decide +kernel
theorem dX7_isLeft_30 : decode cX7_isLeft 30 = .ok (.goto 4, 3) := by decide +kernel
theorem dX7_isLeft_33 : decode cX7_isLeft 33 = .ok (.iconst 0, 1) := by decide +kernel
theorem dX7_isLeft_34 : decode cX7_isLeft 34 = .ok (.ireturn, 1) := by decide +kernel
theorem dX7_keep_0 : decode cX7_keep 0 = .ok (.bipush 32, 2) := by decide +kernel
theorem dX7_keep_2 : decode cX7_keep 2 = .ok (.aload_n 0, 1) := by decide +kernel
theorem dX7_keep_3 : decode cX7_keep 3 = .ok (.getfield 270, 3) := by decide +kernel
theorem dX7_keep_6 : decode cX7_keep 6 = .ok (.imul, 1) := by decide +kernel
theorem dX7_keep_7 : decode cX7_keep 7 = .ok (.istore 4, 2) := by decide +kernel
theorem dX7_keep_9 : decode cX7_keep 9 = .ok (.aload_n 0, 1) := by decide +kernel
theorem dX7_keep_10 : decode cX7_keep 10 = .ok (.getfield 64, 3) := by decide +kernel
theorem dX7_keep_13 : decode cX7_keep 13 = .ok (.iload 4, 2) := by decide +kernel
theorem dX7_keep_15 : decode cX7_keep 15 = .ok (.iload_n 1, 1) := by decide +kernel
theorem dX7_keep_16 : decode cX7_keep 16 = .ok (.iadd, 1) := by decide +kernel
theorem dX7_keep_17 : decode cX7_keep 17 = .ok (.iload_n 2, 1) := by decide +kernel
theorem dX7_keep_18 : decode cX7_keep 18 = .ok (.iastore, 1) := by decide +kernel
theorem dX7_keep_19 : decode cX7_keep 19 = .ok (.aload_n 0, 1) := by decide +kernel
theorem dX7_keep_20 : decode cX7_keep 20 = .ok (.getfield 61, 3) := by decide +kernel
theorem dX7_keep_23 : decode cX7_keep 23 = .ok (.iload 4, 2) := by decide +kernel
theorem dX7_keep_25 : decode cX7_keep 25 = .ok (.iload_n 1, 1) := by decide +kernel
theorem dX7_keep_26 : decode cX7_keep 26 = .ok (.iadd, 1) := by decide +kernel
theorem dX7_keep_27 : decode cX7_keep 27 = .ok (.iload_n 3, 1) := by decide +kernel
theorem dX7_keep_28 : decode cX7_keep 28 = .ok (.bastore, 1) := by decide +kernel
theorem dX7_keep_29 : decode cX7_keep 29 = .ok (.aload_n 0, 1) := by decide +kernel
theorem dX7_keep_30 : decode cX7_keep 30 = .ok (.getfield 67, 3) := by decide +kernel
theorem dX7_keep_33 : decode cX7_keep 33 = .ok (.iload 4, 2) := by decide +kernel
theorem dX7_keep_35 : decode cX7_keep 35 = .ok (.aload_n 0, 1) := by decide +kernel
theorem dX7_keep_36 : decode cX7_keep 36 = .ok (.getfield 55, 3) := by decide +kernel
theorem dX7_keep_39 : decode cX7_keep 39 = .ok (.aload_n 0, 1) := by decide +kernel
theorem dX7_keep_40 : decode cX7_keep 40 = .ok (.getfield 270, 3) := by decide +kernel
theorem dX7_keep_43 : decode cX7_keep 43 = .ok (.iaload, 1) := by decide +kernel
theorem dX7_keep_44 : decode cX7_keep 44 = .ok (.iadd, 1) := by decide +kernel
theorem dX7_keep_45 : decode cX7_keep 45 = .ok (.iload_n 1, 1) := by decide +kernel
theorem dX7_keep_46 : decode cX7_keep 46 = .ok (.iastore, 1) := by decide +kernel
theorem dX7_keep_47 : decode cX7_keep 47 = .ok (.aload_n 0, 1) := by decide +kernel
theorem dX7_keep_48 : decode cX7_keep 48 = .ok (.getfield 55, 3) := by decide +kernel
theorem dX7_keep_51 : decode cX7_keep 51 = .ok (.aload_n 0, 1) := by decide +kernel
theorem dX7_keep_52 : decode cX7_keep 52 = .ok (.getfield 270, 3) := by decide +kernel
theorem dX7_keep_55 : decode cX7_keep 55 = .ok (.dup2, 1) := by decide +kernel
theorem dX7_keep_56 : decode cX7_keep 56 = .ok (.iaload, 1) := by decide +kernel
theorem dX7_keep_57 : decode cX7_keep 57 = .ok (.iconst 1, 1) := by decide +kernel
theorem dX7_keep_58 : decode cX7_keep 58 = .ok (.iadd, 1) := by decide +kernel
theorem dX7_keep_59 : decode cX7_keep 59 = .ok (.iastore, 1) := by decide +kernel
theorem dX7_keep_60 : decode cX7_keep 60 = .ok (.return_, 1) := by decide +kernel
theorem dX7_rankBy_0 : decode cX7_rankBy 0 = .ok (.iload_n 1, 1) := by decide +kernel
theorem dX7_rankBy_1 : decode cX7_rankBy 1 = .ok (.tableswitch 44 0 2 #[27, 29, 32], 27) := by decide +kernel
theorem dX7_rankBy_28 : decode cX7_rankBy 28 = .ok (.iload_n 2, 1) := by decide +kernel
theorem dX7_rankBy_29 : decode cX7_rankBy 29 = .ok (.ireturn, 1) := by decide +kernel
theorem dX7_rankBy_30 : decode cX7_rankBy 30 = .ok (.iload_n 2, 1) := by decide +kernel
theorem dX7_rankBy_31 : decode cX7_rankBy 31 = .ok (.ineg, 1) := by decide +kernel
theorem dX7_rankBy_32 : decode cX7_rankBy 32 = .ok (.ireturn, 1) := by decide +kernel
theorem dX7_rankBy_33 : decode cX7_rankBy 33 = .ok (.iload_n 2, 1) := by decide +kernel
theorem dX7_rankBy_34 : decode cX7_rankBy 34 = .ok (.bipush 100, 2) := by decide +kernel
theorem dX7_rankBy_36 : decode cX7_rankBy 36 = .ok (.aload_n 0, 1) := by decide +kernel
theorem dX7_rankBy_37 : decode cX7_rankBy 37 = .ok (.iload_n 2, 1) := by decide +kernel
theorem dX7_rankBy_38 : decode cX7_rankBy 38 = .ok (.iload_n 3, 1) := by decide +kernel
theorem dX7_rankBy_39 : decode cX7_rankBy 39 = .ok (.invokevirtual 264, 3) := by decide +kernel
theorem dX7_rankBy_42 : decode cX7_rankBy 42 = .ok (.imul, 1) := by decide +kernel
theorem dX7_rankBy_43 : decode cX7_rankBy 43 = .ok (.isub, 1) := by decide +kernel
theorem dX7_rankBy_44 : decode cX7_rankBy 44 = .ok (.ireturn, 1) := by decide +kernel
theorem dX7_rankBy_45 : decode cX7_rankBy 45 = .ok (.iload_n 2, 1) := by decide +kernel
theorem dX7_rankBy_46 : decode cX7_rankBy 46 = .ok (.bipush 100, 2) := by decide +kernel
theorem dX7_rankBy_48 : decode cX7_rankBy 48 = .ok (.iload_n 2, 1) := by decide +kernel
theorem dX7_rankBy_49 : decode cX7_rankBy 49 = .ok (.iconst 2, 1) := by decide +kernel
theorem dX7_rankBy_50 : decode cX7_rankBy 50 = .ok (.irem, 1) := by decide +kernel
theorem dX7_rankBy_51 : decode cX7_rankBy 51 = .ok (.imul, 1) := by decide +kernel
theorem dX7_rankBy_52 : decode cX7_rankBy 52 = .ok (.iadd, 1) := by decide +kernel
theorem dX7_rankBy_53 : decode cX7_rankBy 53 = .ok (.ireturn, 1) := by decide +kernel
theorem dX7_scanOn_0 : decode cX7_scanOn 0 = .ok (.iconst 0, 1) := by decide +kernel
theorem dX7_scanOn_1 : decode cX7_scanOn 1 = .ok (.istore 4, 2) := by decide +kernel
theorem dX7_scanOn_3 : decode cX7_scanOn 3 = .ok (.iload 4, 2) := by decide +kernel
theorem dX7_scanOn_5 : decode cX7_scanOn 5 = .ok (.iload_n 1, 1) := by decide +kernel
theorem dX7_scanOn_6 : decode cX7_scanOn 6 = .ok (.if_icmp .ge 87, 3) := by decide +kernel
theorem dX7_scanOn_9 : decode cX7_scanOn 9 = .ok (.iconst (-1), 1) := by decide +kernel
theorem dX7_scanOn_10 : decode cX7_scanOn 10 = .ok (.istore 5, 2) := by decide +kernel
theorem dX7_scanOn_12 : decode cX7_scanOn 12 = .ok (.iconst 0, 1) := by decide +kernel
theorem dX7_scanOn_13 : decode cX7_scanOn 13 = .ok (.istore 6, 2) := by decide +kernel
theorem dX7_scanOn_15 : decode cX7_scanOn 15 = .ok (.iload 6, 2) := by decide +kernel
theorem dX7_scanOn_17 : decode cX7_scanOn 17 = .ok (.aload_n 0, 1) := by decide +kernel
theorem dX7_scanOn_18 : decode cX7_scanOn 18 = .ok (.invokevirtual 107, 3) := by decide +kernel
theorem dX7_scanOn_21 : decode cX7_scanOn 21 = .ok (.if_icmp .ge 51, 3) := by decide +kernel
theorem dX7_scanOn_24 : decode cX7_scanOn 24 = .ok (.aload_n 0, 1) := by decide +kernel
theorem dX7_scanOn_25 : decode cX7_scanOn 25 = .ok (.aload_n 0, 1) := by decide +kernel
theorem dX7_scanOn_26 : decode cX7_scanOn 26 = .ok (.getfield 270, 3) := by decide +kernel
theorem dX7_scanOn_29 : decode cX7_scanOn 29 = .ok (.iload 6, 2) := by decide +kernel
theorem dX7_scanOn_31 : decode cX7_scanOn 31 = .ok (.invokevirtual 273, 3) := by decide +kernel
theorem dX7_scanOn_34 : decode cX7_scanOn 34 = .ok (.ifCond .eq 32, 3) := by decide +kernel
theorem dX7_scanOn_37 : decode cX7_scanOn 37 = .ok (.iload 5, 2) := by decide +kernel
theorem dX7_scanOn_39 : decode cX7_scanOn 39 = .ok (.iconst (-1), 1) := by decide +kernel
theorem dX7_scanOn_40 : decode cX7_scanOn 40 = .ok (.if_icmp .eq 22, 3) := by decide +kernel
theorem dX7_scanOn_43 : decode cX7_scanOn 43 = .ok (.aload_n 0, 1) := by decide +kernel
theorem dX7_scanOn_44 : decode cX7_scanOn 44 = .ok (.iload_n 3, 1) := by decide +kernel
theorem dX7_scanOn_45 : decode cX7_scanOn 45 = .ok (.iload 6, 2) := by decide +kernel
theorem dX7_scanOn_47 : decode cX7_scanOn 47 = .ok (.iload_n 2, 1) := by decide +kernel
theorem dX7_scanOn_48 : decode cX7_scanOn 48 = .ok (.invokevirtual 276, 3) := by decide +kernel
theorem dX7_scanOn_51 : decode cX7_scanOn 51 = .ok (.aload_n 0, 1) := by decide +kernel
theorem dX7_scanOn_52 : decode cX7_scanOn 52 = .ok (.iload_n 3, 1) := by decide +kernel
theorem dX7_scanOn_53 : decode cX7_scanOn 53 = .ok (.iload 5, 2) := by decide +kernel
theorem dX7_scanOn_55 : decode cX7_scanOn 55 = .ok (.iload_n 2, 1) := by decide +kernel
theorem dX7_scanOn_56 : decode cX7_scanOn 56 = .ok (.invokevirtual 276, 3) := by decide +kernel
theorem dX7_scanOn_59 : decode cX7_scanOn 59 = .ok (.if_icmp .ge 7, 3) := by decide +kernel
theorem dX7_scanOn_62 : decode cX7_scanOn 62 = .ok (.iload 6, 2) := by decide +kernel
theorem dX7_scanOn_64 : decode cX7_scanOn 64 = .ok (.istore 5, 2) := by decide +kernel
theorem dX7_scanOn_66 : decode cX7_scanOn 66 = .ok (.iinc 6 1, 3) := by decide +kernel
theorem dX7_scanOn_69 : decode cX7_scanOn 69 = .ok (.goto (-54), 3) := by decide +kernel
theorem dX7_scanOn_72 : decode cX7_scanOn 72 = .ok (.iload 5, 2) := by decide +kernel
theorem dX7_scanOn_74 : decode cX7_scanOn 74 = .ok (.iconst (-1), 1) := by decide +kernel
theorem dX7_scanOn_75 : decode cX7_scanOn 75 = .ok (.if_icmp .ne 4, 3) := by decide +kernel
theorem dX7_scanOn_78 : decode cX7_scanOn 78 = .ok (.return_, 1) := by decide +kernel
theorem dX7_scanOn_79 : decode cX7_scanOn 79 = .ok (.aload_n 0, 1) := by decide +kernel
theorem dX7_scanOn_80 : decode cX7_scanOn 80 = .ok (.iload 5, 2) := by decide +kernel
theorem dX7_scanOn_82 : decode cX7_scanOn 82 = .ok (.iload_n 2, 1) := by decide +kernel
theorem dX7_scanOn_83 : decode cX7_scanOn 83 = .ok (.iconst 0, 1) := by decide +kernel
theorem dX7_scanOn_84 : decode cX7_scanOn 84 = .ok (.invokevirtual 279, 3) := by decide +kernel
theorem dX7_scanOn_87 : decode cX7_scanOn 87 = .ok (.iinc 4 1, 3) := by decide +kernel
theorem dX7_scanOn_90 : decode cX7_scanOn 90 = .ok (.goto (-87), 3) := by decide +kernel
theorem dX7_scanOn_93 : decode cX7_scanOn 93 = .ok (.return_, 1) := by decide +kernel
theorem dX7_begin_0 : decode cX7_begin 0 = .ok (.aload_n 0, 1) := by decide +kernel
theorem dX7_begin_1 : decode cX7_begin 1 = .ok (.aload_n 0, 1) := by decide +kernel
theorem dX7_begin_2 : decode cX7_begin 2 = .ok (.getfield 257, 3) := by decide +kernel
theorem dX7_begin_5 : decode cX7_begin 5 = .ok (.putfield 270, 3) := by decide +kernel
theorem dX7_begin_8 : decode cX7_begin 8 = .ok (.aload_n 0, 1) := by decide +kernel
theorem dX7_begin_9 : decode cX7_begin 9 = .ok (.dup, 1) := by decide +kernel
theorem dX7_begin_10 : decode cX7_begin 10 = .ok (.getfield 257, 3) := by decide +kernel
theorem dX7_begin_13 : decode cX7_begin 13 = .ok (.iconst 1, 1) := by decide +kernel
theorem dX7_begin_14 : decode cX7_begin 14 = .ok (.iadd, 1) := by decide +kernel
theorem dX7_begin_15 : decode cX7_begin 15 = .ok (.putfield 257, 3) := by decide +kernel
theorem dX7_begin_18 : decode cX7_begin 18 = .ok (.aload_n 0, 1) := by decide +kernel
theorem dX7_begin_19 : decode cX7_begin 19 = .ok (.getfield 43, 3) := by decide +kernel
theorem dX7_begin_22 : decode cX7_begin 22 = .ok (.aload_n 0, 1) := by decide +kernel
theorem dX7_begin_23 : decode cX7_begin 23 = .ok (.getfield 270, 3) := by decide +kernel
theorem dX7_begin_26 : decode cX7_begin 26 = .ok (.iload_n 2, 1) := by decide +kernel
theorem dX7_begin_27 : decode cX7_begin 27 = .ok (.ifCond .eq 7, 3) := by decide +kernel
theorem dX7_begin_30 : decode cX7_begin 30 = .ok (.iconst 1, 1) := by decide +kernel
theorem dX7_begin_31 : decode cX7_begin 31 = .ok (.goto 4, 3) := by decide +kernel
theorem dX7_begin_34 : decode cX7_begin 34 = .ok (.iconst 0, 1) := by decide +kernel
theorem dX7_begin_35 : decode cX7_begin 35 = .ok (.iastore, 1) := by decide +kernel
theorem dX7_begin_36 : decode cX7_begin 36 = .ok (.aload_n 0, 1) := by decide +kernel
theorem dX7_begin_37 : decode cX7_begin 37 = .ok (.getfield 46, 3) := by decide +kernel
theorem dX7_begin_40 : decode cX7_begin 40 = .ok (.aload_n 0, 1) := by decide +kernel
theorem dX7_begin_41 : decode cX7_begin 41 = .ok (.getfield 270, 3) := by decide +kernel
theorem dX7_begin_44 : decode cX7_begin 44 = .ok (.iload_n 1, 1) := by decide +kernel
theorem dX7_begin_45 : decode cX7_begin 45 = .ok (.iastore, 1) := by decide +kernel
theorem dX7_begin_46 : decode cX7_begin 46 = .ok (.aload_n 0, 1) := by decide +kernel
theorem dX7_begin_47 : decode cX7_begin 47 = .ok (.getfield 49, 3) := by decide +kernel
theorem dX7_begin_50 : decode cX7_begin 50 = .ok (.aload_n 0, 1) := by decide +kernel
theorem dX7_begin_51 : decode cX7_begin 51 = .ok (.getfield 270, 3) := by decide +kernel
theorem dX7_begin_54 : decode cX7_begin 54 = .ok (.iconst 0, 1) := by decide +kernel
theorem dX7_begin_55 : decode cX7_begin 55 = .ok (.iastore, 1) := by decide +kernel
theorem dX7_begin_56 : decode cX7_begin 56 = .ok (.aload_n 0, 1) := by decide +kernel
theorem dX7_begin_57 : decode cX7_begin 57 = .ok (.getfield 52, 3) := by decide +kernel
theorem dX7_begin_60 : decode cX7_begin 60 = .ok (.aload_n 0, 1) := by decide +kernel
theorem dX7_begin_61 : decode cX7_begin 61 = .ok (.getfield 270, 3) := by decide +kernel
theorem dX7_begin_64 : decode cX7_begin 64 = .ok (.iconst (-1), 1) := by decide +kernel
theorem dX7_begin_65 : decode cX7_begin 65 = .ok (.iastore, 1) := by decide +kernel
theorem dX7_begin_66 : decode cX7_begin 66 = .ok (.aload_n 0, 1) := by decide +kernel
theorem dX7_begin_67 : decode cX7_begin 67 = .ok (.getfield 55, 3) := by decide +kernel
theorem dX7_begin_70 : decode cX7_begin 70 = .ok (.aload_n 0, 1) := by decide +kernel
theorem dX7_begin_71 : decode cX7_begin 71 = .ok (.getfield 270, 3) := by decide +kernel
theorem dX7_begin_74 : decode cX7_begin 74 = .ok (.iconst 0, 1) := by decide +kernel
theorem dX7_begin_75 : decode cX7_begin 75 = .ok (.iastore, 1) := by decide +kernel
theorem dX7_begin_76 : decode cX7_begin 76 = .ok (.iconst 0, 1) := by decide +kernel
theorem dX7_begin_77 : decode cX7_begin 77 = .ok (.istore_n 3, 1) := by decide +kernel
theorem dX7_begin_78 : decode cX7_begin 78 = .ok (.iload_n 3, 1) := by decide +kernel
theorem dX7_begin_79 : decode cX7_begin 79 = .ok (.bipush 32, 2) := by decide +kernel
theorem dX7_begin_81 : decode cX7_begin 81 = .ok (.if_icmp .ge 77, 3) := by decide +kernel
theorem dX7_begin_84 : decode cX7_begin 84 = .ok (.bipush 32, 2) := by decide +kernel
theorem dX7_begin_86 : decode cX7_begin 86 = .ok (.aload_n 0, 1) := by decide +kernel
theorem dX7_begin_87 : decode cX7_begin 87 = .ok (.getfield 270, 3) := by decide +kernel
theorem dX7_begin_90 : decode cX7_begin 90 = .ok (.imul, 1) := by decide +kernel
theorem dX7_begin_91 : decode cX7_begin 91 = .ok (.iload_n 3, 1) := by decide +kernel
theorem dX7_begin_92 : decode cX7_begin 92 = .ok (.iadd, 1) := by decide +kernel
theorem dX7_begin_93 : decode cX7_begin 93 = .ok (.istore 4, 2) := by decide +kernel
theorem dX7_begin_95 : decode cX7_begin 95 = .ok (.aload_n 0, 1) := by decide +kernel
theorem dX7_begin_96 : decode cX7_begin 96 = .ok (.getfield 58, 3) := by decide +kernel
theorem dX7_begin_99 : decode cX7_begin 99 = .ok (.iload 4, 2) := by decide +kernel
theorem dX7_begin_101 : decode cX7_begin 101 = .ok (.iload_n 3, 1) := by decide +kernel
theorem dX7_begin_102 : decode cX7_begin 102 = .ok (.aload_n 0, 1) := by decide +kernel
theorem dX7_begin_103 : decode cX7_begin 103 = .ok (.invokevirtual 107, 3) := by decide +kernel
theorem dX7_begin_106 : decode cX7_begin 106 = .ok (.if_icmp .ge 20, 3) := by decide +kernel
theorem dX7_begin_109 : decode cX7_begin 109 = .ok (.iload_n 2, 1) := by decide +kernel
theorem dX7_begin_110 : decode cX7_begin 110 = .ok (.ifCond .ne 12, 3) := by decide +kernel
theorem dX7_begin_113 : decode cX7_begin 113 = .ok (.aload_n 0, 1) := by decide +kernel
theorem dX7_begin_114 : decode cX7_begin 114 = .ok (.iload_n 3, 1) := by decide +kernel
theorem dX7_begin_115 : decode cX7_begin 115 = .ok (.iload_n 1, 1) := by decide +kernel
theorem dX7_begin_116 : decode cX7_begin 116 = .ok (.invokevirtual 283, 3) := by decide +kernel
theorem dX7_begin_119 : decode cX7_begin 119 = .ok (.ifCond .eq 7, 3) := by decide +kernel
theorem dX7_begin_122 : decode cX7_begin 122 = .ok (.iconst 1, 1) := by decide +kernel
theorem dX7_begin_123 : decode cX7_begin 123 = .ok (.goto 4, 3) := by decide +kernel
theorem dX7_begin_126 : decode cX7_begin 126 = .ok (.iconst 0, 1) := by decide +kernel
theorem dX7_begin_127 : decode cX7_begin 127 = .ok (.bastore, 1) := by decide +kernel
theorem dX7_begin_128 : decode cX7_begin 128 = .ok (.aload_n 0, 1) := by decide +kernel
theorem dX7_begin_129 : decode cX7_begin 129 = .ok (.getfield 61, 3) := by decide +kernel
theorem dX7_begin_132 : decode cX7_begin 132 = .ok (.iload 4, 2) := by decide +kernel
theorem dX7_begin_134 : decode cX7_begin 134 = .ok (.iconst 0, 1) := by decide +kernel
theorem dX7_begin_135 : decode cX7_begin 135 = .ok (.bastore, 1) := by decide +kernel
theorem dX7_begin_136 : decode cX7_begin 136 = .ok (.aload_n 0, 1) := by decide +kernel
theorem dX7_begin_137 : decode cX7_begin 137 = .ok (.getfield 64, 3) := by decide +kernel
theorem dX7_begin_140 : decode cX7_begin 140 = .ok (.iload 4, 2) := by decide +kernel
theorem dX7_begin_142 : decode cX7_begin 142 = .ok (.iconst (-1), 1) := by decide +kernel
theorem dX7_begin_143 : decode cX7_begin 143 = .ok (.iastore, 1) := by decide +kernel
theorem dX7_begin_144 : decode cX7_begin 144 = .ok (.aload_n 0, 1) := by decide +kernel
theorem dX7_begin_145 : decode cX7_begin 145 = .ok (.getfield 67, 3) := by decide +kernel
theorem dX7_begin_148 : decode cX7_begin 148 = .ok (.iload 4, 2) := by decide +kernel
theorem dX7_begin_150 : decode cX7_begin 150 = .ok (.iconst (-1), 1) := by decide +kernel
theorem dX7_begin_151 : decode cX7_begin 151 = .ok (.iastore, 1) := by decide +kernel
theorem dX7_begin_152 : decode cX7_begin 152 = .ok (.iinc 3 1, 3) := by decide +kernel
theorem dX7_begin_155 : decode cX7_begin 155 = .ok (.goto (-77), 3) := by decide +kernel
theorem dX7_begin_158 : decode cX7_begin 158 = .ok (.return_, 1) := by decide +kernel
theorem dX7_close_0 : decode cX7_close 0 = .ok (.aload_n 0, 1) := by decide +kernel
theorem dX7_close_1 : decode cX7_close 1 = .ok (.getfield 49, 3) := by decide +kernel
theorem dX7_close_4 : decode cX7_close 4 = .ok (.aload_n 0, 1) := by decide +kernel
theorem dX7_close_5 : decode cX7_close 5 = .ok (.getfield 270, 3) := by decide +kernel
theorem dX7_close_8 : decode cX7_close 8 = .ok (.iload_n 2, 1) := by decide +kernel
theorem dX7_close_9 : decode cX7_close 9 = .ok (.iastore, 1) := by decide +kernel
theorem dX7_close_10 : decode cX7_close 10 = .ok (.aload_n 0, 1) := by decide +kernel
theorem dX7_close_11 : decode cX7_close 11 = .ok (.getfield 52, 3) := by decide +kernel
theorem dX7_close_14 : decode cX7_close 14 = .ok (.aload_n 0, 1) := by decide +kernel
theorem dX7_close_15 : decode cX7_close 15 = .ok (.getfield 270, 3) := by decide +kernel
theorem dX7_close_18 : decode cX7_close 18 = .ok (.iload_n 1, 1) := by decide +kernel
theorem dX7_close_19 : decode cX7_close 19 = .ok (.iconst 1, 1) := by decide +kernel
theorem dX7_close_20 : decode cX7_close 20 = .ok (.iadd, 1) := by decide +kernel
theorem dX7_close_21 : decode cX7_close 21 = .ok (.iastore, 1) := by decide +kernel
theorem dX7_close_22 : decode cX7_close 22 = .ok (.aload_n 0, 1) := by decide +kernel
theorem dX7_close_23 : decode cX7_close 23 = .ok (.iconst (-1), 1) := by decide +kernel
theorem dX7_close_24 : decode cX7_close 24 = .ok (.putfield 270, 3) := by decide +kernel
theorem dX7_close_27 : decode cX7_close 27 = .ok (.return_, 1) := by decide +kernel
theorem dX7_hasWhole_0 : decode cX7_hasWhole 0 = .ok (.iconst 0, 1) := by decide +kernel
theorem dX7_hasWhole_1 : decode cX7_hasWhole 1 = .ok (.istore_n 1, 1) := by decide +kernel
theorem dX7_hasWhole_2 : decode cX7_hasWhole 2 = .ok (.iconst 0, 1) := by decide +kernel
theorem dX7_hasWhole_3 : decode cX7_hasWhole 3 = .ok (.istore_n 2, 1) := by decide +kernel
theorem dX7_hasWhole_4 : decode cX7_hasWhole 4 = .ok (.iload_n 2, 1) := by decide +kernel
theorem dX7_hasWhole_5 : decode cX7_hasWhole 5 = .ok (.aload_n 0, 1) := by decide +kernel
theorem dX7_hasWhole_6 : decode cX7_hasWhole 6 = .ok (.getfield 257, 3) := by decide +kernel
theorem dX7_hasWhole_9 : decode cX7_hasWhole 9 = .ok (.if_icmp .ge 29, 3) := by decide +kernel
theorem dX7_hasWhole_12 : decode cX7_hasWhole 12 = .ok (.iload_n 1, 1) := by decide +kernel
theorem dX7_hasWhole_13 : decode cX7_hasWhole 13 = .ok (.ifCond .ne 13, 3) := by decide +kernel
theorem dX7_hasWhole_16 : decode cX7_hasWhole 16 = .ok (.aload_n 0, 1) := by decide +kernel
theorem dX7_hasWhole_17 : decode cX7_hasWhole 17 = .ok (.getfield 49, 3) := by decide +kernel
theorem dX7_hasWhole_20 : decode cX7_hasWhole 20 = .ok (.iload_n 2, 1) := by decide +kernel
theorem dX7_hasWhole_21 : decode cX7_hasWhole 21 = .ok (.iaload, 1) := by decide +kernel
theorem dX7_hasWhole_22 : decode cX7_hasWhole 22 = .ok (.iconst 1, 1) := by decide +kernel
theorem dX7_hasWhole_23 : decode cX7_hasWhole 23 = .ok (.if_icmp .ne 7, 3) := by decide +kernel
theorem dX7_hasWhole_26 : decode cX7_hasWhole 26 = .ok (.iconst 1, 1) := by decide +kernel
theorem dX7_hasWhole_27 : decode cX7_hasWhole 27 = .ok (.goto 4, 3) := by decide +kernel
theorem dX7_hasWhole_30 : decode cX7_hasWhole 30 = .ok (.iconst 0, 1) := by decide +kernel
theorem dX7_hasWhole_31 : decode cX7_hasWhole 31 = .ok (.istore_n 1, 1) := by decide +kernel
theorem dX7_hasWhole_32 : decode cX7_hasWhole 32 = .ok (.iinc 2 1, 3) := by decide +kernel
theorem dX7_hasWhole_35 : decode cX7_hasWhole 35 = .ok (.goto (-31), 3) := by decide +kernel
theorem dX7_hasWhole_38 : decode cX7_hasWhole 38 = .ok (.iload_n 1, 1) := by decide +kernel
theorem dX7_hasWhole_39 : decode cX7_hasWhole 39 = .ok (.ireturn, 1) := by decide +kernel
theorem dX7_whyNot_0 : decode cX7_whyNot 0 = .ok (.iload_n 1, 1) := by decide +kernel
theorem dX7_whyNot_1 : decode cX7_whyNot 1 = .ok (.iconst 4, 1) := by decide +kernel
theorem dX7_whyNot_2 : decode cX7_whyNot 2 = .ok (.if_icmp .ge 5, 3) := by decide +kernel
theorem dX7_whyNot_5 : decode cX7_whyNot 5 = .ok (.iconst 0, 1) := by decide +kernel
theorem dX7_whyNot_6 : decode cX7_whyNot 6 = .ok (.ireturn, 1) := by decide +kernel
theorem dX7_whyNot_7 : decode cX7_whyNot 7 = .ok (.iload_n 1, 1) := by decide +kernel
theorem dX7_whyNot_8 : decode cX7_whyNot 8 = .ok (.iconst 5, 1) := by decide +kernel
theorem dX7_whyNot_9 : decode cX7_whyNot 9 = .ok (.if_icmp .le 17, 3) := by decide +kernel
theorem dX7_whyNot_12 : decode cX7_whyNot 12 = .ok (.aload_n 0, 1) := by decide +kernel
theorem dX7_whyNot_13 : decode cX7_whyNot 13 = .ok (.getfield 270, 3) := by decide +kernel
theorem dX7_whyNot_16 : decode cX7_whyNot 16 = .ok (.iconst (-1), 1) := by decide +kernel
theorem dX7_whyNot_17 : decode cX7_whyNot 17 = .ok (.if_icmp .ne 7, 3) := by decide +kernel
theorem dX7_whyNot_20 : decode cX7_whyNot 20 = .ok (.iconst 2, 1) := by decide +kernel
theorem dX7_whyNot_21 : decode cX7_whyNot 21 = .ok (.goto 4, 3) := by decide +kernel
theorem dX7_whyNot_24 : decode cX7_whyNot 24 = .ok (.iconst 0, 1) := by decide +kernel
theorem dX7_whyNot_25 : decode cX7_whyNot 25 = .ok (.ireturn, 1) := by decide +kernel
theorem dX7_whyNot_26 : decode cX7_whyNot 26 = .ok (.aload_n 0, 1) := by decide +kernel
theorem dX7_whyNot_27 : decode cX7_whyNot 27 = .ok (.getfield 270, 3) := by decide +kernel
theorem dX7_whyNot_30 : decode cX7_whyNot 30 = .ok (.iconst (-1), 1) := by decide +kernel
theorem dX7_whyNot_31 : decode cX7_whyNot 31 = .ok (.if_icmp .eq 5, 3) := by decide +kernel
theorem dX7_whyNot_34 : decode cX7_whyNot 34 = .ok (.iconst 1, 1) := by decide +kernel
theorem dX7_whyNot_35 : decode cX7_whyNot 35 = .ok (.ireturn, 1) := by decide +kernel
theorem dX7_whyNot_36 : decode cX7_whyNot 36 = .ok (.iload_n 1, 1) := by decide +kernel
theorem dX7_whyNot_37 : decode cX7_whyNot 37 = .ok (.iconst 5, 1) := by decide +kernel
theorem dX7_whyNot_38 : decode cX7_whyNot 38 = .ok (.if_icmp .ne 14, 3) := by decide +kernel
theorem dX7_whyNot_41 : decode cX7_whyNot 41 = .ok (.aload_n 0, 1) := by decide +kernel
theorem dX7_whyNot_42 : decode cX7_whyNot 42 = .ok (.invokevirtual 286, 3) := by decide +kernel
theorem dX7_whyNot_45 : decode cX7_whyNot 45 = .ok (.ifCond .ne 7, 3) := by decide +kernel
theorem dX7_whyNot_48 : decode cX7_whyNot 48 = .ok (.iconst 3, 1) := by decide +kernel
theorem dX7_whyNot_49 : decode cX7_whyNot 49 = .ok (.goto 4, 3) := by decide +kernel
theorem dX7_whyNot_52 : decode cX7_whyNot 52 = .ok (.iconst 0, 1) := by decide +kernel
theorem dX7_whyNot_53 : decode cX7_whyNot 53 = .ok (.ireturn, 1) := by decide +kernel
theorem dX7_goOn_0 : decode cX7_goOn 0 = .ok (.aload_n 0, 1) := by decide +kernel
theorem dX7_goOn_1 : decode cX7_goOn 1 = .ok (.iload_n 1, 1) := by decide +kernel
theorem dX7_goOn_2 : decode cX7_goOn 2 = .ok (.invokevirtual 118, 3) := by decide +kernel
theorem dX7_goOn_5 : decode cX7_goOn 5 = .ok (.istore_n 3, 1) := by decide +kernel
theorem dX7_goOn_6 : decode cX7_goOn 6 = .ok (.aload_n 0, 1) := by decide +kernel
theorem dX7_goOn_7 : decode cX7_goOn 7 = .ok (.getfield 70, 3) := by decide +kernel
theorem dX7_goOn_10 : decode cX7_goOn 10 = .ok (.iload_n 1, 1) := by decide +kernel
theorem dX7_goOn_11 : decode cX7_goOn 11 = .ok (.aload_n 0, 1) := by decide +kernel
theorem dX7_goOn_12 : decode cX7_goOn 12 = .ok (.iload_n 3, 1) := by decide +kernel
theorem dX7_goOn_13 : decode cX7_goOn 13 = .ok (.invokevirtual 289, 3) := by decide +kernel
theorem dX7_goOn_16 : decode cX7_goOn 16 = .ok (.iastore, 1) := by decide +kernel
theorem dX7_goOn_17 : decode cX7_goOn 17 = .ok (.aload_n 0, 1) := by decide +kernel
theorem dX7_goOn_18 : decode cX7_goOn 18 = .ok (.getfield 70, 3) := by decide +kernel
theorem dX7_goOn_21 : decode cX7_goOn 21 = .ok (.iload_n 1, 1) := by decide +kernel
theorem dX7_goOn_22 : decode cX7_goOn 22 = .ok (.iaload, 1) := by decide +kernel
theorem dX7_goOn_23 : decode cX7_goOn 23 = .ok (.ifCond .le 4, 3) := by decide +kernel
theorem dX7_goOn_26 : decode cX7_goOn 26 = .ok (.return_, 1) := by decide +kernel
theorem dX7_goOn_27 : decode cX7_goOn 27 = .ok (.iload_n 3, 1) := by decide +kernel
theorem dX7_goOn_28 : decode cX7_goOn 28 = .ok (.iconst 4, 1) := by decide +kernel
theorem dX7_goOn_29 : decode cX7_goOn 29 = .ok (.if_icmp .ge 68, 3) := by decide +kernel
theorem dX7_goOn_32 : decode cX7_goOn 32 = .ok (.iconst 0, 1) := by decide +kernel
theorem dX7_goOn_33 : decode cX7_goOn 33 = .ok (.istore 4, 2) := by decide +kernel
theorem dX7_goOn_35 : decode cX7_goOn 35 = .ok (.iload 4, 2) := by decide +kernel
theorem dX7_goOn_37 : decode cX7_goOn 37 = .ok (.aload_n 0, 1) := by decide +kernel
theorem dX7_goOn_38 : decode cX7_goOn 38 = .ok (.invokevirtual 107, 3) := by decide +kernel
theorem dX7_goOn_41 : decode cX7_goOn 41 = .ok (.if_icmp .ge 53, 3) := by decide +kernel
theorem dX7_goOn_44 : decode cX7_goOn 44 = .ok (.aload_n 0, 1) := by decide +kernel
theorem dX7_goOn_45 : decode cX7_goOn 45 = .ok (.getfield 270, 3) := by decide +kernel
theorem dX7_goOn_48 : decode cX7_goOn 48 = .ok (.iconst (-1), 1) := by decide +kernel
theorem dX7_goOn_49 : decode cX7_goOn 49 = .ok (.if_icmp .eq 39, 3) := by decide +kernel
theorem dX7_goOn_52 : decode cX7_goOn 52 = .ok (.aload_n 0, 1) := by decide +kernel
theorem dX7_goOn_53 : decode cX7_goOn 53 = .ok (.getfield 40, 3) := by decide +kernel
theorem dX7_goOn_56 : decode cX7_goOn 56 = .ok (.bipush 32, 2) := by decide +kernel
theorem dX7_goOn_58 : decode cX7_goOn 58 = .ok (.iload_n 1, 1) := by decide +kernel
theorem dX7_goOn_59 : decode cX7_goOn 59 = .ok (.imul, 1) := by decide +kernel
theorem dX7_goOn_60 : decode cX7_goOn 60 = .ok (.iload 4, 2) := by decide +kernel
theorem dX7_goOn_62 : decode cX7_goOn 62 = .ok (.iadd, 1) := by decide +kernel
theorem dX7_goOn_63 : decode cX7_goOn 63 = .ok (.baload, 1) := by decide +kernel
theorem dX7_goOn_64 : decode cX7_goOn 64 = .ok (.ifCond .eq 24, 3) := by decide +kernel
theorem dX7_goOn_67 : decode cX7_goOn 67 = .ok (.aload_n 0, 1) := by decide +kernel
theorem dX7_goOn_68 : decode cX7_goOn 68 = .ok (.aload_n 0, 1) := by decide +kernel
theorem dX7_goOn_69 : decode cX7_goOn 69 = .ok (.getfield 270, 3) := by decide +kernel
theorem dX7_goOn_72 : decode cX7_goOn 72 = .ok (.iload 4, 2) := by decide +kernel
theorem dX7_goOn_74 : decode cX7_goOn 74 = .ok (.invokevirtual 273, 3) := by decide +kernel
theorem dX7_goOn_77 : decode cX7_goOn 77 = .ok (.ifCond .eq 11, 3) := by decide +kernel
theorem dX7_goOn_80 : decode cX7_goOn 80 = .ok (.aload_n 0, 1) := by decide +kernel
theorem dX7_goOn_81 : decode cX7_goOn 81 = .ok (.iload 4, 2) := by decide +kernel
theorem dX7_goOn_83 : decode cX7_goOn 83 = .ok (.iload_n 1, 1) := by decide +kernel
theorem dX7_goOn_84 : decode cX7_goOn 84 = .ok (.iconst 1, 1) := by decide +kernel
theorem dX7_goOn_85 : decode cX7_goOn 85 = .ok (.invokevirtual 279, 3) := by decide +kernel
theorem dX7_goOn_88 : decode cX7_goOn 88 = .ok (.iinc 4 1, 3) := by decide +kernel
theorem dX7_goOn_91 : decode cX7_goOn 91 = .ok (.goto (-56), 3) := by decide +kernel
theorem dX7_goOn_94 : decode cX7_goOn 94 = .ok (.goto 82, 3) := by decide +kernel
theorem dX7_goOn_97 : decode cX7_goOn 97 = .ok (.iload_n 3, 1) := by decide +kernel
theorem dX7_goOn_98 : decode cX7_goOn 98 = .ok (.iconst 4, 1) := by decide +kernel
theorem dX7_goOn_99 : decode cX7_goOn 99 = .ok (.if_icmp .eq 8, 3) := by decide +kernel
theorem dX7_goOn_102 : decode cX7_goOn 102 = .ok (.iload_n 3, 1) := by decide +kernel
theorem dX7_goOn_103 : decode cX7_goOn 103 = .ok (.iconst 5, 1) := by decide +kernel
theorem dX7_goOn_104 : decode cX7_goOn 104 = .ok (.if_icmp .ne 21, 3) := by decide +kernel
theorem dX7_goOn_107 : decode cX7_goOn 107 = .ok (.aload_n 0, 1) := by decide +kernel
theorem dX7_goOn_108 : decode cX7_goOn 108 = .ok (.iload_n 1, 1) := by decide +kernel
theorem dX7_goOn_109 : decode cX7_goOn 109 = .ok (.iload_n 3, 1) := by decide +kernel
theorem dX7_goOn_110 : decode cX7_goOn 110 = .ok (.iconst 4, 1) := by decide +kernel
theorem dX7_goOn_111 : decode cX7_goOn 111 = .ok (.if_icmp .ne 7, 3) := by decide +kernel
theorem dX7_goOn_114 : decode cX7_goOn 114 = .ok (.iconst 1, 1) := by decide +kernel
theorem dX7_goOn_115 : decode cX7_goOn 115 = .ok (.goto 4, 3) := by decide +kernel
theorem dX7_goOn_118 : decode cX7_goOn 118 = .ok (.iconst 0, 1) := by decide +kernel
theorem dX7_goOn_119 : decode cX7_goOn 119 = .ok (.invokevirtual 292, 3) := by decide +kernel
theorem dX7_goOn_122 : decode cX7_goOn 122 = .ok (.goto 54, 3) := by decide +kernel
theorem dX7_goOn_125 : decode cX7_goOn 125 = .ok (.iload_n 3, 1) := by decide +kernel
theorem dX7_goOn_126 : decode cX7_goOn 126 = .ok (.bipush 6, 2) := by decide +kernel
theorem dX7_goOn_128 : decode cX7_goOn 128 = .ok (.if_icmp .ne 18, 3) := by decide +kernel
theorem dX7_goOn_131 : decode cX7_goOn 131 = .ok (.aload_n 0, 1) := by decide +kernel
theorem dX7_goOn_132 : decode cX7_goOn 132 = .ok (.aload_n 0, 1) := by decide +kernel
theorem dX7_goOn_133 : decode cX7_goOn 133 = .ok (.iload_n 1, 1) := by decide +kernel
theorem dX7_goOn_134 : decode cX7_goOn 134 = .ok (.iconst 0, 1) := by decide +kernel
theorem dX7_goOn_135 : decode cX7_goOn 135 = .ok (.invokevirtual 246, 3) := by decide +kernel
theorem dX7_goOn_138 : decode cX7_goOn 138 = .ok (.iload_n 1, 1) := by decide +kernel
theorem dX7_goOn_139 : decode cX7_goOn 139 = .ok (.iload_n 2, 1) := by decide +kernel
theorem dX7_goOn_140 : decode cX7_goOn 140 = .ok (.invokevirtual 296, 3) := by decide +kernel
theorem dX7_goOn_143 : decode cX7_goOn 143 = .ok (.goto 33, 3) := by decide +kernel
theorem dX7_goOn_146 : decode cX7_goOn 146 = .ok (.iload_n 3, 1) := by decide +kernel
theorem dX7_goOn_147 : decode cX7_goOn 147 = .ok (.bipush 7, 2) := by decide +kernel
theorem dX7_goOn_149 : decode cX7_goOn 149 = .ok (.if_icmp .ne 11, 3) := by decide +kernel
theorem dX7_goOn_152 : decode cX7_goOn 152 = .ok (.aload_n 0, 1) := by decide +kernel
theorem dX7_goOn_153 : decode cX7_goOn 153 = .ok (.bipush 32, 2) := by decide +kernel
theorem dX7_goOn_155 : decode cX7_goOn 155 = .ok (.iload_n 1, 1) := by decide +kernel
theorem dX7_goOn_156 : decode cX7_goOn 156 = .ok (.iload_n 2, 1) := by decide +kernel
theorem dX7_goOn_157 : decode cX7_goOn 157 = .ok (.invokevirtual 296, 3) := by decide +kernel
theorem dX7_goOn_160 : decode cX7_goOn 160 = .ok (.aload_n 0, 1) := by decide +kernel
theorem dX7_goOn_161 : decode cX7_goOn 161 = .ok (.iload_n 1, 1) := by decide +kernel
theorem dX7_goOn_162 : decode cX7_goOn 162 = .ok (.iload_n 3, 1) := by decide +kernel
theorem dX7_goOn_163 : decode cX7_goOn 163 = .ok (.bipush 7, 2) := by decide +kernel
theorem dX7_goOn_165 : decode cX7_goOn 165 = .ok (.if_icmp .ne 7, 3) := by decide +kernel
theorem dX7_goOn_168 : decode cX7_goOn 168 = .ok (.iconst 1, 1) := by decide +kernel
theorem dX7_goOn_169 : decode cX7_goOn 169 = .ok (.goto 4, 3) := by decide +kernel
theorem dX7_goOn_172 : decode cX7_goOn 172 = .ok (.iconst 2, 1) := by decide +kernel
theorem dX7_goOn_173 : decode cX7_goOn 173 = .ok (.invokevirtual 300, 3) := by decide +kernel
theorem dX7_goOn_176 : decode cX7_goOn 176 = .ok (.return_, 1) := by decide +kernel
theorem dX7_layAll_0 : decode cX7_layAll 0 = .ok (.aload_n 0, 1) := by decide +kernel
theorem dX7_layAll_1 : decode cX7_layAll 1 = .ok (.invokevirtual 304, 3) := by decide +kernel
theorem dX7_layAll_4 : decode cX7_layAll 4 = .ok (.aload_n 0, 1) := by decide +kernel
theorem dX7_layAll_5 : decode cX7_layAll 5 = .ok (.iconst 0, 1) := by decide +kernel
theorem dX7_layAll_6 : decode cX7_layAll 6 = .ok (.putfield 257, 3) := by decide +kernel
theorem dX7_layAll_9 : decode cX7_layAll 9 = .ok (.aload_n 0, 1) := by decide +kernel
theorem dX7_layAll_10 : decode cX7_layAll 10 = .ok (.iconst (-1), 1) := by decide +kernel
theorem dX7_layAll_11 : decode cX7_layAll 11 = .ok (.putfield 270, 3) := by decide +kernel
theorem dX7_layAll_14 : decode cX7_layAll 14 = .ok (.iconst 0, 1) := by decide +kernel
theorem dX7_layAll_15 : decode cX7_layAll 15 = .ok (.istore_n 2, 1) := by decide +kernel
theorem dX7_layAll_16 : decode cX7_layAll 16 = .ok (.iload_n 2, 1) := by decide +kernel
theorem dX7_layAll_17 : decode cX7_layAll 17 = .ok (.aload_n 0, 1) := by decide +kernel
theorem dX7_layAll_18 : decode cX7_layAll 18 = .ok (.invokevirtual 111, 3) := by decide +kernel
theorem dX7_layAll_21 : decode cX7_layAll 21 = .ok (.if_icmp .ge 24, 3) := by decide +kernel
theorem dX7_layAll_24 : decode cX7_layAll 24 = .ok (.aload_n 0, 1) := by decide +kernel
theorem dX7_layAll_25 : decode cX7_layAll 25 = .ok (.getfield 34, 3) := by decide +kernel
theorem dX7_layAll_28 : decode cX7_layAll 28 = .ok (.iload_n 2, 1) := by decide +kernel
theorem dX7_layAll_29 : decode cX7_layAll 29 = .ok (.baload, 1) := by decide +kernel
theorem dX7_layAll_30 : decode cX7_layAll 30 = .ok (.ifCond .ne 9, 3) := by decide +kernel
theorem dX7_layAll_33 : decode cX7_layAll 33 = .ok (.aload_n 0, 1) := by decide +kernel
theorem dX7_layAll_34 : decode cX7_layAll 34 = .ok (.iload_n 2, 1) := by decide +kernel
theorem dX7_layAll_35 : decode cX7_layAll 35 = .ok (.iload_n 1, 1) := by decide +kernel
theorem dX7_layAll_36 : decode cX7_layAll 36 = .ok (.invokevirtual 307, 3) := by decide +kernel
theorem dX7_layAll_39 : decode cX7_layAll 39 = .ok (.iinc 2 1, 3) := by decide +kernel
theorem dX7_layAll_42 : decode cX7_layAll 42 = .ok (.goto (-26), 3) := by decide +kernel
theorem dX7_layAll_45 : decode cX7_layAll 45 = .ok (.return_, 1) := by decide +kernel
theorem dX7_asks_0 : decode cX7_asks 0 = .ok (.aload_n 0, 1) := by decide +kernel
theorem dX7_asks_1 : decode cX7_asks 1 = .ok (.invokevirtual 310, 3) := by decide +kernel
theorem dX7_asks_4 : decode cX7_asks 4 = .ok (.aload_n 0, 1) := by decide +kernel
theorem dX7_asks_5 : decode cX7_asks 5 = .ok (.aload_n 0, 1) := by decide +kernel
theorem dX7_asks_6 : decode cX7_asks 6 = .ok (.getfield 9, 3) := by decide +kernel
theorem dX7_asks_9 : decode cX7_asks 9 = .ok (.iconst 1, 1) := by decide +kernel
theorem dX7_asks_10 : decode cX7_asks 10 = .ok (.iaload, 1) := by decide +kernel
theorem dX7_asks_11 : decode cX7_asks 11 = .ok (.invokevirtual 313, 3) := by decide +kernel
theorem dX7_asks_14 : decode cX7_asks 14 = .ok (.aload_n 0, 1) := by decide +kernel
theorem dX7_asks_15 : decode cX7_asks 15 = .ok (.invokevirtual 114, 3) := by decide +kernel
theorem dX7_asks_18 : decode cX7_asks 18 = .ok (.ireturn, 1) := by decide +kernel
theorem dX7_asksAt_0 : decode cX7_asksAt 0 = .ok (.aload_n 0, 1) := by decide +kernel
theorem dX7_asksAt_1 : decode cX7_asksAt 1 = .ok (.invokevirtual 316, 3) := by decide +kernel
theorem dX7_asksAt_4 : decode cX7_asksAt 4 = .ok (.ifCond .eq 16, 3) := by decide +kernel
theorem dX7_asksAt_7 : decode cX7_asksAt 7 = .ok (.aload_n 0, 1) := by decide +kernel
theorem dX7_asksAt_8 : decode cX7_asksAt 8 = .ok (.iload_n 1, 1) := by decide +kernel
theorem dX7_asksAt_9 : decode cX7_asksAt 9 = .ok (.i2l, 1) := by decide +kernel
theorem dX7_asksAt_10 : decode cX7_asksAt 10 = .ok (.invokevirtual 319, 3) := by decide +kernel
theorem dX7_asksAt_13 : decode cX7_asksAt 13 = .ok (.ifCond .eq 7, 3) := by decide +kernel
theorem dX7_asksAt_16 : decode cX7_asksAt 16 = .ok (.iconst 1, 1) := by decide +kernel
theorem dX7_asksAt_17 : decode cX7_asksAt 17 = .ok (.goto 4, 3) := by decide +kernel
theorem dX7_asksAt_20 : decode cX7_asksAt 20 = .ok (.iconst 0, 1) := by decide +kernel
theorem dX7_asksAt_21 : decode cX7_asksAt 21 = .ok (.ireturn, 1) := by decide +kernel
theorem dX7_asksCell_0 : decode cX7_asksCell 0 = .ok (.aload_n 0, 1) := by decide +kernel
theorem dX7_asksCell_1 : decode cX7_asksCell 1 = .ok (.iload_n 2, 1) := by decide +kernel
theorem dX7_asksCell_2 : decode cX7_asksCell 2 = .ok (.invokevirtual 323, 3) := by decide +kernel
theorem dX7_asksCell_5 : decode cX7_asksCell 5 = .ok (.ifCond .eq 16, 3) := by decide +kernel
theorem dX7_asksCell_8 : decode cX7_asksCell 8 = .ok (.aload_n 0, 1) := by decide +kernel
theorem dX7_asksCell_9 : decode cX7_asksCell 9 = .ok (.iload_n 1, 1) := by decide +kernel
theorem dX7_asksCell_10 : decode cX7_asksCell 10 = .ok (.i2l, 1) := by decide +kernel
theorem dX7_asksCell_11 : decode cX7_asksCell 11 = .ok (.invokevirtual 326, 3) := by decide +kernel
theorem dX7_asksCell_14 : decode cX7_asksCell 14 = .ok (.ifCond .eq 7, 3) := by decide +kernel
theorem dX7_asksCell_17 : decode cX7_asksCell 17 = .ok (.iconst 1, 1) := by decide +kernel
theorem dX7_asksCell_18 : decode cX7_asksCell 18 = .ok (.goto 4, 3) := by decide +kernel
theorem dX7_asksCell_21 : decode cX7_asksCell 21 = .ok (.iconst 0, 1) := by decide +kernel
theorem dX7_asksCell_22 : decode cX7_asksCell 22 = .ok (.ireturn, 1) := by decide +kernel
theorem dX7_event_0 : decode cX7_event 0 = .ok (.aload_n 0, 1) := by decide +kernel
theorem dX7_event_1 : decode cX7_event 1 = .ok (.iload_n 1, 1) := by decide +kernel
theorem dX7_event_2 : decode cX7_event 2 = .ok (.i2l, 1) := by decide +kernel
theorem dX7_event_3 : decode cX7_event 3 = .ok (.invokevirtual 329, 3) := by decide +kernel
theorem dX7_event_6 : decode cX7_event 6 = .ok (.ifCond .eq 15, 3) := by decide +kernel
theorem dX7_event_9 : decode cX7_event 9 = .ok (.iload_n 2, 1) := by decide +kernel
theorem dX7_event_10 : decode cX7_event 10 = .ok (.i2l, 1) := by decide +kernel
theorem dX7_event_11 : decode cX7_event 11 = .ok (.lconst 0, 1) := by decide +kernel
theorem dX7_event_12 : decode cX7_event 12 = .ok (.ldc2_w 332, 3) := by decide +kernel
theorem dX7_event_15 : decode cX7_event 15 = .ok (.invokestatic 103, 3) := by decide +kernel
theorem dX7_event_18 : decode cX7_event 18 = .ok (.ifCond .ne 6, 3) := by decide +kernel
theorem dX7_event_21 : decode cX7_event 21 = .ok (.bipush (-2), 2) := by decide +kernel
theorem dX7_event_23 : decode cX7_event 23 = .ok (.ireturn, 1) := by decide +kernel
theorem dX7_event_24 : decode cX7_event 24 = .ok (.iload_n 2, 1) := by decide +kernel
theorem dX7_event_25 : decode cX7_event 25 = .ok (.ifCond .ne 11, 3) := by decide +kernel
theorem dX7_event_28 : decode cX7_event 28 = .ok (.aload_n 0, 1) := by decide +kernel
theorem dX7_event_29 : decode cX7_event 29 = .ok (.iload_n 1, 1) := by decide +kernel
theorem dX7_event_30 : decode cX7_event 30 = .ok (.invokevirtual 118, 3) := by decide +kernel
theorem dX7_event_33 : decode cX7_event 33 = .ok (.goto 11, 3) := by decide +kernel
theorem dX7_event_36 : decode cX7_event 36 = .ok (.aload_n 0, 1) := by decide +kernel
theorem dX7_event_37 : decode cX7_event 37 = .ok (.iload_n 1, 1) := by decide +kernel
theorem dX7_event_38 : decode cX7_event 38 = .ok (.iload_n 2, 1) := by decide +kernel
theorem dX7_event_39 : decode cX7_event 39 = .ok (.iconst 1, 1) := by decide +kernel
theorem dX7_event_40 : decode cX7_event 40 = .ok (.isub, 1) := by decide +kernel
theorem dX7_event_41 : decode cX7_event 41 = .ok (.invokevirtual 246, 3) := by decide +kernel
theorem dX7_event_44 : decode cX7_event 44 = .ok (.ireturn, 1) := by decide +kernel
theorem dX7_refused_0 : decode cX7_refused 0 = .ok (.aload_n 0, 1) := by decide +kernel
theorem dX7_refused_1 : decode cX7_refused 1 = .ok (.invokevirtual 316, 3) := by decide +kernel
theorem dX7_refused_4 : decode cX7_refused 4 = .ok (.ifCond .eq 21, 3) := by decide +kernel
theorem dX7_refused_7 : decode cX7_refused 7 = .ok (.aload_n 0, 1) := by decide +kernel
theorem dX7_refused_8 : decode cX7_refused 8 = .ok (.iload_n 1, 1) := by decide +kernel
theorem dX7_refused_9 : decode cX7_refused 9 = .ok (.i2l, 1) := by decide +kernel
theorem dX7_refused_10 : decode cX7_refused 10 = .ok (.invokevirtual 329, 3) := by decide +kernel
theorem dX7_refused_13 : decode cX7_refused 13 = .ok (.ifCond .eq 12, 3) := by decide +kernel
theorem dX7_refused_16 : decode cX7_refused 16 = .ok (.aload_n 0, 1) := by decide +kernel
theorem dX7_refused_17 : decode cX7_refused 17 = .ok (.getfield 70, 3) := by decide +kernel
theorem dX7_refused_20 : decode cX7_refused 20 = .ok (.iload_n 1, 1) := by decide +kernel
theorem dX7_refused_21 : decode cX7_refused 21 = .ok (.iaload, 1) := by decide +kernel
theorem dX7_refused_22 : decode cX7_refused 22 = .ok (.goto 5, 3) := by decide +kernel
theorem dX7_refused_25 : decode cX7_refused 25 = .ok (.bipush (-2), 2) := by decide +kernel
theorem dX7_refused_27 : decode cX7_refused 27 = .ok (.ireturn, 1) := by decide +kernel
theorem dX7_value_0 : decode cX7_value 0 = .ok (.aload_n 0, 1) := by decide +kernel
theorem dX7_value_1 : decode cX7_value 1 = .ok (.iload_n 1, 1) := by decide +kernel
theorem dX7_value_2 : decode cX7_value 2 = .ok (.iload_n 2, 1) := by decide +kernel
theorem dX7_value_3 : decode cX7_value 3 = .ok (.invokevirtual 334, 3) := by decide +kernel
theorem dX7_value_6 : decode cX7_value 6 = .ok (.ifCond .eq 12, 3) := by decide +kernel
theorem dX7_value_9 : decode cX7_value 9 = .ok (.aload_n 0, 1) := by decide +kernel
theorem dX7_value_10 : decode cX7_value 10 = .ok (.iload_n 1, 1) := by decide +kernel
theorem dX7_value_11 : decode cX7_value 11 = .ok (.iload_n 2, 1) := by decide +kernel
theorem dX7_value_12 : decode cX7_value 12 = .ok (.invokevirtual 337, 3) := by decide +kernel
theorem dX7_value_15 : decode cX7_value 15 = .ok (.goto 5, 3) := by decide +kernel
theorem dX7_value_18 : decode cX7_value 18 = .ok (.bipush (-2), 2) := by decide +kernel
theorem dX7_value_20 : decode cX7_value 20 = .ok (.ireturn, 1) := by decide +kernel
theorem dX7_sum_0 : decode cX7_sum 0 = .ok (.aload_n 0, 1) := by decide +kernel
theorem dX7_sum_1 : decode cX7_sum 1 = .ok (.iload_n 1, 1) := by decide +kernel
theorem dX7_sum_2 : decode cX7_sum 2 = .ok (.invokevirtual 323, 3) := by decide +kernel
theorem dX7_sum_5 : decode cX7_sum 5 = .ok (.ifCond .ne 6, 3) := by decide +kernel
theorem dX7_sum_8 : decode cX7_sum 8 = .ok (.bipush (-2), 2) := by decide +kernel
theorem dX7_sum_10 : decode cX7_sum 10 = .ok (.ireturn, 1) := by decide +kernel
theorem dX7_sum_11 : decode cX7_sum 11 = .ok (.iconst 0, 1) := by decide +kernel
theorem dX7_sum_12 : decode cX7_sum 12 = .ok (.istore_n 2, 1) := by decide +kernel
theorem dX7_sum_13 : decode cX7_sum 13 = .ok (.iconst 0, 1) := by decide +kernel
theorem dX7_sum_14 : decode cX7_sum 14 = .ok (.istore_n 3, 1) := by decide +kernel
theorem dX7_sum_15 : decode cX7_sum 15 = .ok (.iload_n 3, 1) := by decide +kernel
theorem dX7_sum_16 : decode cX7_sum 16 = .ok (.aload_n 0, 1) := by decide +kernel
theorem dX7_sum_17 : decode cX7_sum 17 = .ok (.invokevirtual 107, 3) := by decide +kernel
theorem dX7_sum_20 : decode cX7_sum 20 = .ok (.if_icmp .ge 18, 3) := by decide +kernel
theorem dX7_sum_23 : decode cX7_sum 23 = .ok (.iload_n 2, 1) := by decide +kernel
theorem dX7_sum_24 : decode cX7_sum 24 = .ok (.aload_n 0, 1) := by decide +kernel
theorem dX7_sum_25 : decode cX7_sum 25 = .ok (.iload_n 3, 1) := by decide +kernel
theorem dX7_sum_26 : decode cX7_sum 26 = .ok (.iload_n 1, 1) := by decide +kernel
theorem dX7_sum_27 : decode cX7_sum 27 = .ok (.invokevirtual 337, 3) := by decide +kernel
theorem dX7_sum_30 : decode cX7_sum 30 = .ok (.iadd, 1) := by decide +kernel
theorem dX7_sum_31 : decode cX7_sum 31 = .ok (.istore_n 2, 1) := by decide +kernel
theorem dX7_sum_32 : decode cX7_sum 32 = .ok (.iinc 3 1, 3) := by decide +kernel
theorem dX7_sum_35 : decode cX7_sum 35 = .ok (.goto (-20), 3) := by decide +kernel
theorem dX7_sum_38 : decode cX7_sum 38 = .ok (.iload_n 2, 1) := by decide +kernel
theorem dX7_sum_39 : decode cX7_sum 39 = .ok (.ireturn, 1) := by decide +kernel
theorem dX7_changes_0 : decode cX7_changes 0 = .ok (.aload_n 0, 1) := by decide +kernel
theorem dX7_changes_1 : decode cX7_changes 1 = .ok (.invokevirtual 316, 3) := by decide +kernel
theorem dX7_changes_4 : decode cX7_changes 4 = .ok (.ifCond .eq 12, 3) := by decide +kernel
theorem dX7_changes_7 : decode cX7_changes 7 = .ok (.aload_n 0, 1) := by decide +kernel
theorem dX7_changes_8 : decode cX7_changes 8 = .ok (.iload_n 1, 1) := by decide +kernel
theorem dX7_changes_9 : decode cX7_changes 9 = .ok (.i2l, 1) := by decide +kernel
theorem dX7_changes_10 : decode cX7_changes 10 = .ok (.invokevirtual 329, 3) := by decide +kernel
theorem dX7_changes_13 : decode cX7_changes 13 = .ok (.ifCond .ne 6, 3) := by decide +kernel
theorem dX7_changes_16 : decode cX7_changes 16 = .ok (.bipush (-2), 2) := by decide +kernel
theorem dX7_changes_18 : decode cX7_changes 18 = .ok (.ireturn, 1) := by decide +kernel
theorem dX7_changes_19 : decode cX7_changes 19 = .ok (.iconst 0, 1) := by decide +kernel
theorem dX7_changes_20 : decode cX7_changes 20 = .ok (.istore_n 2, 1) := by decide +kernel
theorem dX7_changes_21 : decode cX7_changes 21 = .ok (.iconst 0, 1) := by decide +kernel
theorem dX7_changes_22 : decode cX7_changes 22 = .ok (.istore_n 3, 1) := by decide +kernel
theorem dX7_changes_23 : decode cX7_changes 23 = .ok (.iload_n 3, 1) := by decide +kernel
theorem dX7_changes_24 : decode cX7_changes 24 = .ok (.aload_n 0, 1) := by decide +kernel
theorem dX7_changes_25 : decode cX7_changes 25 = .ok (.invokevirtual 107, 3) := by decide +kernel
theorem dX7_changes_28 : decode cX7_changes 28 = .ok (.if_icmp .ge 31, 3) := by decide +kernel
theorem dX7_changes_31 : decode cX7_changes 31 = .ok (.iload_n 2, 1) := by decide +kernel
theorem dX7_changes_32 : decode cX7_changes 32 = .ok (.aload_n 0, 1) := by decide +kernel
theorem dX7_changes_33 : decode cX7_changes 33 = .ok (.getfield 40, 3) := by decide +kernel
theorem dX7_changes_36 : decode cX7_changes 36 = .ok (.bipush 32, 2) := by decide +kernel
theorem dX7_changes_38 : decode cX7_changes 38 = .ok (.iload_n 1, 1) := by decide +kernel
theorem dX7_changes_39 : decode cX7_changes 39 = .ok (.imul, 1) := by decide +kernel
theorem dX7_changes_40 : decode cX7_changes 40 = .ok (.iload_n 3, 1) := by decide +kernel
theorem dX7_changes_41 : decode cX7_changes 41 = .ok (.iadd, 1) := by decide +kernel
theorem dX7_changes_42 : decode cX7_changes 42 = .ok (.baload, 1) := by decide +kernel
theorem dX7_changes_43 : decode cX7_changes 43 = .ok (.ifCond .eq 7, 3) := by decide +kernel
theorem dX7_changes_46 : decode cX7_changes 46 = .ok (.iconst 1, 1) := by decide +kernel
theorem dX7_changes_47 : decode cX7_changes 47 = .ok (.goto 4, 3) := by decide +kernel
theorem dX7_changes_50 : decode cX7_changes 50 = .ok (.iconst 0, 1) := by decide +kernel
theorem dX7_changes_51 : decode cX7_changes 51 = .ok (.iadd, 1) := by decide +kernel
theorem dX7_changes_52 : decode cX7_changes 52 = .ok (.istore_n 2, 1) := by decide +kernel
theorem dX7_changes_53 : decode cX7_changes 53 = .ok (.iinc 3 1, 3) := by decide +kernel
theorem dX7_changes_56 : decode cX7_changes 56 = .ok (.goto (-33), 3) := by decide +kernel
theorem dX7_changes_59 : decode cX7_changes 59 = .ok (.iload_n 2, 1) := by decide +kernel
theorem dX7_changes_60 : decode cX7_changes 60 = .ok (.ireturn, 1) := by decide +kernel
theorem dX7_latest_0 : decode cX7_latest 0 = .ok (.aload_n 0, 1) := by decide +kernel
theorem dX7_latest_1 : decode cX7_latest 1 = .ok (.iload_n 1, 1) := by decide +kernel
theorem dX7_latest_2 : decode cX7_latest 2 = .ok (.iload_n 2, 1) := by decide +kernel
theorem dX7_latest_3 : decode cX7_latest 3 = .ok (.invokevirtual 334, 3) := by decide +kernel
theorem dX7_latest_6 : decode cX7_latest 6 = .ok (.ifCond .eq 12, 3) := by decide +kernel
theorem dX7_latest_9 : decode cX7_latest 9 = .ok (.aload_n 0, 1) := by decide +kernel
theorem dX7_latest_10 : decode cX7_latest 10 = .ok (.iload_n 1, 1) := by decide +kernel
theorem dX7_latest_11 : decode cX7_latest 11 = .ok (.iload_n 2, 1) := by decide +kernel
theorem dX7_latest_12 : decode cX7_latest 12 = .ok (.invokevirtual 264, 3) := by decide +kernel
theorem dX7_latest_15 : decode cX7_latest 15 = .ok (.goto 5, 3) := by decide +kernel
theorem dX7_latest_18 : decode cX7_latest 18 = .ok (.bipush (-2), 2) := by decide +kernel
theorem dX7_latest_20 : decode cX7_latest 20 = .ok (.ireturn, 1) := by decide +kernel
theorem dX7_dirty_0 : decode cX7_dirty 0 = .ok (.aload_n 0, 1) := by decide +kernel
theorem dX7_dirty_1 : decode cX7_dirty 1 = .ok (.iload_n 1, 1) := by decide +kernel
theorem dX7_dirty_2 : decode cX7_dirty 2 = .ok (.iload_n 2, 1) := by decide +kernel
theorem dX7_dirty_3 : decode cX7_dirty 3 = .ok (.invokevirtual 334, 3) := by decide +kernel
theorem dX7_dirty_6 : decode cX7_dirty 6 = .ok (.ifCond .ne 6, 3) := by decide +kernel
theorem dX7_dirty_9 : decode cX7_dirty 9 = .ok (.bipush (-2), 2) := by decide +kernel
theorem dX7_dirty_11 : decode cX7_dirty 11 = .ok (.ireturn, 1) := by decide +kernel
theorem dX7_dirty_12 : decode cX7_dirty 12 = .ok (.aload_n 0, 1) := by decide +kernel
theorem dX7_dirty_13 : decode cX7_dirty 13 = .ok (.iload_n 1, 1) := by decide +kernel
theorem dX7_dirty_14 : decode cX7_dirty 14 = .ok (.iload_n 2, 1) := by decide +kernel
theorem dX7_dirty_15 : decode cX7_dirty 15 = .ok (.invokevirtual 283, 3) := by decide +kernel
theorem dX7_dirty_18 : decode cX7_dirty 18 = .ok (.ifCond .eq 7, 3) := by decide +kernel
theorem dX7_dirty_21 : decode cX7_dirty 21 = .ok (.iconst 1, 1) := by decide +kernel
theorem dX7_dirty_22 : decode cX7_dirty 22 = .ok (.goto 4, 3) := by decide +kernel
theorem dX7_dirty_25 : decode cX7_dirty 25 = .ok (.iconst 0, 1) := by decide +kernel
theorem dX7_dirty_26 : decode cX7_dirty 26 = .ok (.ireturn, 1) := by decide +kernel
theorem dX7_dirtyFrom_0 : decode cX7_dirtyFrom 0 = .ok (.iconst 0, 1) := by decide +kernel
theorem dX7_dirtyFrom_1 : decode cX7_dirtyFrom 1 = .ok (.istore 4, 2) := by decide +kernel
theorem dX7_dirtyFrom_3 : decode cX7_dirtyFrom 3 = .ok (.iload_n 1, 1) := by decide +kernel
theorem dX7_dirtyFrom_4 : decode cX7_dirtyFrom 4 = .ok (.istore 5, 2) := by decide +kernel
theorem dX7_dirtyFrom_6 : decode cX7_dirtyFrom 6 = .ok (.iload 5, 2) := by decide +kernel
theorem dX7_dirtyFrom_8 : decode cX7_dirtyFrom 8 = .ok (.iload_n 2, 1) := by decide +kernel
theorem dX7_dirtyFrom_9 : decode cX7_dirtyFrom 9 = .ok (.if_icmp .ge 38, 3) := by decide +kernel
theorem dX7_dirtyFrom_12 : decode cX7_dirtyFrom 12 = .ok (.iload 5, 2) := by decide +kernel
theorem dX7_dirtyFrom_14 : decode cX7_dirtyFrom 14 = .ok (.aload_n 0, 1) := by decide +kernel
theorem dX7_dirtyFrom_15 : decode cX7_dirtyFrom 15 = .ok (.invokevirtual 107, 3) := by decide +kernel
theorem dX7_dirtyFrom_18 : decode cX7_dirtyFrom 18 = .ok (.if_icmp .ge 29, 3) := by decide +kernel
theorem dX7_dirtyFrom_21 : decode cX7_dirtyFrom 21 = .ok (.iload 4, 2) := by decide +kernel
theorem dX7_dirtyFrom_23 : decode cX7_dirtyFrom 23 = .ok (.aload_n 0, 1) := by decide +kernel
theorem dX7_dirtyFrom_24 : decode cX7_dirtyFrom 24 = .ok (.iload 5, 2) := by decide +kernel
theorem dX7_dirtyFrom_26 : decode cX7_dirtyFrom 26 = .ok (.iload_n 3, 1) := by decide +kernel
theorem dX7_dirtyFrom_27 : decode cX7_dirtyFrom 27 = .ok (.invokevirtual 283, 3) := by decide +kernel
theorem dX7_dirtyFrom_30 : decode cX7_dirtyFrom 30 = .ok (.ifCond .eq 7, 3) := by decide +kernel
theorem dX7_dirtyFrom_33 : decode cX7_dirtyFrom 33 = .ok (.iconst 1, 1) := by decide +kernel
theorem dX7_dirtyFrom_34 : decode cX7_dirtyFrom 34 = .ok (.goto 4, 3) := by decide +kernel
theorem dX7_dirtyFrom_37 : decode cX7_dirtyFrom 37 = .ok (.iconst 0, 1) := by decide +kernel
theorem dX7_dirtyFrom_38 : decode cX7_dirtyFrom 38 = .ok (.iadd, 1) := by decide +kernel
theorem dX7_dirtyFrom_39 : decode cX7_dirtyFrom 39 = .ok (.istore 4, 2) := by decide +kernel
theorem dX7_dirtyFrom_41 : decode cX7_dirtyFrom 41 = .ok (.iinc 5 1, 3) := by decide +kernel
theorem dX7_dirtyFrom_44 : decode cX7_dirtyFrom 44 = .ok (.goto (-38), 3) := by decide +kernel
theorem dX7_dirtyFrom_47 : decode cX7_dirtyFrom 47 = .ok (.iload 4, 2) := by decide +kernel
theorem dX7_dirtyFrom_49 : decode cX7_dirtyFrom 49 = .ok (.ireturn, 1) := by decide +kernel
theorem dX7_dirties_0 : decode cX7_dirties 0 = .ok (.aload_n 0, 1) := by decide +kernel
theorem dX7_dirties_1 : decode cX7_dirties 1 = .ok (.iload_n 1, 1) := by decide +kernel
theorem dX7_dirties_2 : decode cX7_dirties 2 = .ok (.invokevirtual 323, 3) := by decide +kernel
theorem dX7_dirties_5 : decode cX7_dirties 5 = .ok (.ifCond .eq 14, 3) := by decide +kernel
theorem dX7_dirties_8 : decode cX7_dirties 8 = .ok (.aload_n 0, 1) := by decide +kernel
theorem dX7_dirties_9 : decode cX7_dirties 9 = .ok (.iconst 0, 1) := by decide +kernel
theorem dX7_dirties_10 : decode cX7_dirties 10 = .ok (.bipush 32, 2) := by decide +kernel
theorem dX7_dirties_12 : decode cX7_dirties 12 = .ok (.iload_n 1, 1) := by decide +kernel
theorem dX7_dirties_13 : decode cX7_dirties 13 = .ok (.invokevirtual 340, 3) := by decide +kernel
theorem dX7_dirties_16 : decode cX7_dirties 16 = .ok (.goto 5, 3) := by decide +kernel
theorem dX7_dirties_19 : decode cX7_dirties 19 = .ok (.bipush (-2), 2) := by decide +kernel
theorem dX7_dirties_21 : decode cX7_dirties 21 = .ok (.ireturn, 1) := by decide +kernel
theorem dX7_isDirtyRegion_0 : decode cX7_isDirtyRegion 0 = .ok (.aload_n 0, 1) := by decide +kernel
theorem dX7_isDirtyRegion_1 : decode cX7_isDirtyRegion 1 = .ok (.iload_n 2, 1) := by decide +kernel
theorem dX7_isDirtyRegion_2 : decode cX7_isDirtyRegion 2 = .ok (.iload_n 1, 1) := by decide +kernel
theorem dX7_isDirtyRegion_3 : decode cX7_isDirtyRegion 3 = .ok (.ishl, 1) := by decide +kernel
theorem dX7_isDirtyRegion_4 : decode cX7_isDirtyRegion 4 = .ok (.iload_n 2, 1) := by decide +kernel
theorem dX7_isDirtyRegion_5 : decode cX7_isDirtyRegion 5 = .ok (.iconst 1, 1) := by decide +kernel
theorem dX7_isDirtyRegion_6 : decode cX7_isDirtyRegion 6 = .ok (.iadd, 1) := by decide +kernel
theorem dX7_isDirtyRegion_7 : decode cX7_isDirtyRegion 7 = .ok (.iload_n 1, 1) := by decide +kernel
theorem dX7_isDirtyRegion_8 : decode cX7_isDirtyRegion 8 = .ok (.ishl, 1) := by decide +kernel
theorem dX7_isDirtyRegion_9 : decode cX7_isDirtyRegion 9 = .ok (.iload_n 3, 1) := by decide +kernel
theorem dX7_isDirtyRegion_10 : decode cX7_isDirtyRegion 10 = .ok (.invokevirtual 340, 3) := by decide +kernel
theorem dX7_isDirtyRegion_13 : decode cX7_isDirtyRegion 13 = .ok (.ifCond .le 7, 3) := by decide +kernel
theorem dX7_isDirtyRegion_16 : decode cX7_isDirtyRegion 16 = .ok (.iconst 1, 1) := by decide +kernel
theorem dX7_isDirtyRegion_17 : decode cX7_isDirtyRegion 17 = .ok (.goto 4, 3) := by decide +kernel
theorem dX7_isDirtyRegion_20 : decode cX7_isDirtyRegion 20 = .ok (.iconst 0, 1) := by decide +kernel
theorem dX7_isDirtyRegion_21 : decode cX7_isDirtyRegion 21 = .ok (.ireturn, 1) := by decide +kernel
theorem dX7_region_0 : decode cX7_region 0 = .ok (.aload_n 0, 1) := by decide +kernel
theorem dX7_region_1 : decode cX7_region 1 = .ok (.iload_n 3, 1) := by decide +kernel
theorem dX7_region_2 : decode cX7_region 2 = .ok (.invokevirtual 323, 3) := by decide +kernel
theorem dX7_region_5 : decode cX7_region 5 = .ok (.ifCond .eq 31, 3) := by decide +kernel
theorem dX7_region_8 : decode cX7_region 8 = .ok (.iload_n 1, 1) := by decide +kernel
theorem dX7_region_9 : decode cX7_region 9 = .ok (.i2l, 1) := by decide +kernel
theorem dX7_region_10 : decode cX7_region 10 = .ok (.lconst 0, 1) := by decide +kernel
theorem dX7_region_11 : decode cX7_region 11 = .ok (.ldc2_w 343, 3) := by decide +kernel
theorem dX7_region_14 : decode cX7_region 14 = .ok (.invokestatic 103, 3) := by decide +kernel
theorem dX7_region_17 : decode cX7_region 17 = .ok (.ifCond .eq 19, 3) := by decide +kernel
theorem dX7_region_20 : decode cX7_region 20 = .ok (.iload_n 2, 1) := by decide +kernel
theorem dX7_region_21 : decode cX7_region 21 = .ok (.i2l, 1) := by decide +kernel
theorem dX7_region_22 : decode cX7_region 22 = .ok (.lconst 0, 1) := by decide +kernel
theorem dX7_region_23 : decode cX7_region 23 = .ok (.bipush 32, 2) := by decide +kernel
theorem dX7_region_25 : decode cX7_region 25 = .ok (.iload_n 1, 1) := by decide +kernel
theorem dX7_region_26 : decode cX7_region 26 = .ok (.ishr, 1) := by decide +kernel
theorem dX7_region_27 : decode cX7_region 27 = .ok (.iconst 1, 1) := by decide +kernel
theorem dX7_region_28 : decode cX7_region 28 = .ok (.isub, 1) := by decide +kernel
theorem dX7_region_29 : decode cX7_region 29 = .ok (.i2l, 1) := by decide +kernel
theorem dX7_region_30 : decode cX7_region 30 = .ok (.invokestatic 103, 3) := by decide +kernel
theorem dX7_region_33 : decode cX7_region 33 = .ok (.ifCond .ne 6, 3) := by decide +kernel
theorem dX7_region_36 : decode cX7_region 36 = .ok (.bipush (-2), 2) := by decide +kernel
theorem dX7_region_38 : decode cX7_region 38 = .ok (.ireturn, 1) := by decide +kernel
theorem dX7_region_39 : decode cX7_region 39 = .ok (.aload_n 0, 1) := by decide +kernel
theorem dX7_region_40 : decode cX7_region 40 = .ok (.iload_n 1, 1) := by decide +kernel
theorem dX7_region_41 : decode cX7_region 41 = .ok (.iload_n 2, 1) := by decide +kernel
theorem dX7_region_42 : decode cX7_region 42 = .ok (.iload_n 3, 1) := by decide +kernel
theorem dX7_region_43 : decode cX7_region 43 = .ok (.invokevirtual 345, 3) := by decide +kernel
theorem dX7_region_46 : decode cX7_region 46 = .ok (.ifCond .eq 7, 3) := by decide +kernel
theorem dX7_region_49 : decode cX7_region 49 = .ok (.iconst 1, 1) := by decide +kernel
theorem dX7_region_50 : decode cX7_region 50 = .ok (.goto 4, 3) := by decide +kernel
theorem dX7_region_53 : decode cX7_region 53 = .ok (.iconst 0, 1) := by decide +kernel
theorem dX7_region_54 : decode cX7_region 54 = .ok (.ireturn, 1) := by decide +kernel
theorem dX7_regionsAt_0 : decode cX7_regionsAt 0 = .ok (.iconst 0, 1) := by decide +kernel
theorem dX7_regionsAt_1 : decode cX7_regionsAt 1 = .ok (.istore_n 3, 1) := by decide +kernel
theorem dX7_regionsAt_2 : decode cX7_regionsAt 2 = .ok (.iconst 0, 1) := by decide +kernel
theorem dX7_regionsAt_3 : decode cX7_regionsAt 3 = .ok (.istore 4, 2) := by decide +kernel
theorem dX7_regionsAt_5 : decode cX7_regionsAt 5 = .ok (.iload 4, 2) := by decide +kernel
theorem dX7_regionsAt_7 : decode cX7_regionsAt 7 = .ok (.bipush 32, 2) := by decide +kernel
theorem dX7_regionsAt_9 : decode cX7_regionsAt 9 = .ok (.iload_n 1, 1) := by decide +kernel
theorem dX7_regionsAt_10 : decode cX7_regionsAt 10 = .ok (.ishr, 1) := by decide +kernel
theorem dX7_regionsAt_11 : decode cX7_regionsAt 11 = .ok (.if_icmp .ge 28, 3) := by decide +kernel
theorem dX7_regionsAt_14 : decode cX7_regionsAt 14 = .ok (.iload_n 3, 1) := by decide +kernel
theorem dX7_regionsAt_15 : decode cX7_regionsAt 15 = .ok (.aload_n 0, 1) := by decide +kernel
theorem dX7_regionsAt_16 : decode cX7_regionsAt 16 = .ok (.iload_n 1, 1) := by decide +kernel
theorem dX7_regionsAt_17 : decode cX7_regionsAt 17 = .ok (.iload 4, 2) := by decide +kernel
theorem dX7_regionsAt_19 : decode cX7_regionsAt 19 = .ok (.iload_n 2, 1) := by decide +kernel
theorem dX7_regionsAt_20 : decode cX7_regionsAt 20 = .ok (.invokevirtual 345, 3) := by decide +kernel
theorem dX7_regionsAt_23 : decode cX7_regionsAt 23 = .ok (.ifCond .eq 7, 3) := by decide +kernel
theorem dX7_regionsAt_26 : decode cX7_regionsAt 26 = .ok (.iconst 1, 1) := by decide +kernel
theorem dX7_regionsAt_27 : decode cX7_regionsAt 27 = .ok (.goto 4, 3) := by decide +kernel
theorem dX7_regionsAt_30 : decode cX7_regionsAt 30 = .ok (.iconst 0, 1) := by decide +kernel
theorem dX7_regionsAt_31 : decode cX7_regionsAt 31 = .ok (.iadd, 1) := by decide +kernel
theorem dX7_regionsAt_32 : decode cX7_regionsAt 32 = .ok (.istore_n 3, 1) := by decide +kernel
theorem dX7_regionsAt_33 : decode cX7_regionsAt 33 = .ok (.iinc 4 1, 3) := by decide +kernel
theorem dX7_regionsAt_36 : decode cX7_regionsAt 36 = .ok (.goto (-31), 3) := by decide +kernel
theorem dX7_regionsAt_39 : decode cX7_regionsAt 39 = .ok (.iload_n 3, 1) := by decide +kernel
theorem dX7_regionsAt_40 : decode cX7_regionsAt 40 = .ok (.ireturn, 1) := by decide +kernel
theorem dX7_regions_0 : decode cX7_regions 0 = .ok (.aload_n 0, 1) := by decide +kernel
theorem dX7_regions_1 : decode cX7_regions 1 = .ok (.iload_n 2, 1) := by decide +kernel
theorem dX7_regions_2 : decode cX7_regions 2 = .ok (.invokevirtual 323, 3) := by decide +kernel
theorem dX7_regions_5 : decode cX7_regions 5 = .ok (.ifCond .eq 24, 3) := by decide +kernel
theorem dX7_regions_8 : decode cX7_regions 8 = .ok (.iload_n 1, 1) := by decide +kernel
theorem dX7_regions_9 : decode cX7_regions 9 = .ok (.i2l, 1) := by decide +kernel
theorem dX7_regions_10 : decode cX7_regions 10 = .ok (.lconst 0, 1) := by decide +kernel
theorem dX7_regions_11 : decode cX7_regions 11 = .ok (.ldc2_w 343, 3) := by decide +kernel
theorem dX7_regions_14 : decode cX7_regions 14 = .ok (.invokestatic 103, 3) := by decide +kernel
theorem dX7_regions_17 : decode cX7_regions 17 = .ok (.ifCond .eq 12, 3) := by decide +kernel
theorem dX7_regions_20 : decode cX7_regions 20 = .ok (.aload_n 0, 1) := by decide +kernel
theorem dX7_regions_21 : decode cX7_regions 21 = .ok (.iload_n 1, 1) := by decide +kernel
theorem dX7_regions_22 : decode cX7_regions 22 = .ok (.iload_n 2, 1) := by decide +kernel
theorem dX7_regions_23 : decode cX7_regions 23 = .ok (.invokevirtual 349, 3) := by decide +kernel
theorem dX7_regions_26 : decode cX7_regions 26 = .ok (.goto 5, 3) := by decide +kernel
theorem dX7_regions_29 : decode cX7_regions 29 = .ok (.bipush (-2), 2) := by decide +kernel
theorem dX7_regions_31 : decode cX7_regions 31 = .ok (.ireturn, 1) := by decide +kernel
theorem dX7_looks_0 : decode cX7_looks 0 = .ok (.aload_n 0, 1) := by decide +kernel
theorem dX7_looks_1 : decode cX7_looks 1 = .ok (.iload_n 1, 1) := by decide +kernel
theorem dX7_looks_2 : decode cX7_looks 2 = .ok (.invokevirtual 323, 3) := by decide +kernel
theorem dX7_looks_5 : decode cX7_looks 5 = .ok (.ifCond .ne 6, 3) := by decide +kernel
theorem dX7_looks_8 : decode cX7_looks 8 = .ok (.bipush (-2), 2) := by decide +kernel
theorem dX7_looks_10 : decode cX7_looks 10 = .ok (.ireturn, 1) := by decide +kernel
theorem dX7_looks_11 : decode cX7_looks 11 = .ok (.iconst 1, 1) := by decide +kernel
theorem dX7_looks_12 : decode cX7_looks 12 = .ok (.istore_n 2, 1) := by decide +kernel
theorem dX7_looks_13 : decode cX7_looks 13 = .ok (.iconst 1, 1) := by decide +kernel
theorem dX7_looks_14 : decode cX7_looks 14 = .ok (.istore_n 3, 1) := by decide +kernel
theorem dX7_looks_15 : decode cX7_looks 15 = .ok (.iload_n 3, 1) := by decide +kernel
theorem dX7_looks_16 : decode cX7_looks 16 = .ok (.iconst 5, 1) := by decide +kernel
theorem dX7_looks_17 : decode cX7_looks 17 = .ok (.if_icmp .gt 20, 3) := by decide +kernel
theorem dX7_looks_20 : decode cX7_looks 20 = .ok (.iload_n 2, 1) := by decide +kernel
theorem dX7_looks_21 : decode cX7_looks 21 = .ok (.iconst 2, 1) := by decide +kernel
theorem dX7_looks_22 : decode cX7_looks 22 = .ok (.aload_n 0, 1) := by decide +kernel
theorem dX7_looks_23 : decode cX7_looks 23 = .ok (.iload_n 3, 1) := by decide +kernel
theorem dX7_looks_24 : decode cX7_looks 24 = .ok (.iload_n 1, 1) := by decide +kernel
theorem dX7_looks_25 : decode cX7_looks 25 = .ok (.invokevirtual 349, 3) := by decide +kernel
theorem dX7_looks_28 : decode cX7_looks 28 = .ok (.imul, 1) := by decide +kernel
theorem dX7_looks_29 : decode cX7_looks 29 = .ok (.iadd, 1) := by decide +kernel
theorem dX7_looks_30 : decode cX7_looks 30 = .ok (.istore_n 2, 1) := by decide +kernel
theorem dX7_looks_31 : decode cX7_looks 31 = .ok (.iinc 3 1, 3) := by decide +kernel
theorem dX7_looks_34 : decode cX7_looks 34 = .ok (.goto (-19), 3) := by decide +kernel
theorem dX7_looks_37 : decode cX7_looks 37 = .ok (.iload_n 2, 1) := by decide +kernel
theorem dX7_looks_38 : decode cX7_looks 38 = .ok (.ireturn, 1) := by decide +kernel
theorem dX7_copies_0 : decode cX7_copies 0 = .ok (.aload_n 0, 1) := by decide +kernel
theorem dX7_copies_1 : decode cX7_copies 1 = .ok (.iload_n 1, 1) := by decide +kernel
theorem dX7_copies_2 : decode cX7_copies 2 = .ok (.invokevirtual 323, 3) := by decide +kernel
theorem dX7_copies_5 : decode cX7_copies 5 = .ok (.ifCond .ne 6, 3) := by decide +kernel
theorem dX7_copies_8 : decode cX7_copies 8 = .ok (.bipush (-2), 2) := by decide +kernel
theorem dX7_copies_10 : decode cX7_copies 10 = .ok (.ireturn, 1) := by decide +kernel
theorem dX7_copies_11 : decode cX7_copies 11 = .ok (.iconst 0, 1) := by decide +kernel
theorem dX7_copies_12 : decode cX7_copies 12 = .ok (.istore_n 2, 1) := by decide +kernel
theorem dX7_copies_13 : decode cX7_copies 13 = .ok (.iconst 0, 1) := by decide +kernel
theorem dX7_copies_14 : decode cX7_copies 14 = .ok (.istore_n 3, 1) := by decide +kernel
theorem dX7_copies_15 : decode cX7_copies 15 = .ok (.iload_n 3, 1) := by decide +kernel
theorem dX7_copies_16 : decode cX7_copies 16 = .ok (.aload_n 0, 1) := by decide +kernel
theorem dX7_copies_17 : decode cX7_copies 17 = .ok (.getfield 257, 3) := by decide +kernel
theorem dX7_copies_20 : decode cX7_copies 20 = .ok (.if_icmp .ge 27, 3) := by decide +kernel
theorem dX7_copies_23 : decode cX7_copies 23 = .ok (.iload_n 2, 1) := by decide +kernel
theorem dX7_copies_24 : decode cX7_copies 24 = .ok (.aload_n 0, 1) := by decide +kernel
theorem dX7_copies_25 : decode cX7_copies 25 = .ok (.getfield 46, 3) := by decide +kernel
theorem dX7_copies_28 : decode cX7_copies 28 = .ok (.iload_n 3, 1) := by decide +kernel
theorem dX7_copies_29 : decode cX7_copies 29 = .ok (.iaload, 1) := by decide +kernel
theorem dX7_copies_30 : decode cX7_copies 30 = .ok (.iload_n 1, 1) := by decide +kernel
theorem dX7_copies_31 : decode cX7_copies 31 = .ok (.if_icmp .ge 7, 3) := by decide +kernel
theorem dX7_copies_34 : decode cX7_copies 34 = .ok (.iconst 1, 1) := by decide +kernel
theorem dX7_copies_35 : decode cX7_copies 35 = .ok (.goto 4, 3) := by decide +kernel
theorem dX7_copies_38 : decode cX7_copies 38 = .ok (.iconst 0, 1) := by decide +kernel
theorem dX7_copies_39 : decode cX7_copies 39 = .ok (.iadd, 1) := by decide +kernel
theorem dX7_copies_40 : decode cX7_copies 40 = .ok (.istore_n 2, 1) := by decide +kernel
theorem dX7_copies_41 : decode cX7_copies 41 = .ok (.iinc 3 1, 3) := by decide +kernel
theorem dX7_copies_44 : decode cX7_copies 44 = .ok (.goto (-29), 3) := by decide +kernel
theorem dX7_copies_47 : decode cX7_copies 47 = .ok (.iload_n 2, 1) := by decide +kernel
theorem dX7_copies_48 : decode cX7_copies 48 = .ok (.ireturn, 1) := by decide +kernel
theorem dX7_openAt_0 : decode cX7_openAt 0 = .ok (.iconst 0, 1) := by decide +kernel
theorem dX7_openAt_1 : decode cX7_openAt 1 = .ok (.istore_n 2, 1) := by decide +kernel
theorem dX7_openAt_2 : decode cX7_openAt 2 = .ok (.iload_n 2, 1) := by decide +kernel
theorem dX7_openAt_3 : decode cX7_openAt 3 = .ok (.aload_n 0, 1) := by decide +kernel
theorem dX7_openAt_4 : decode cX7_openAt 4 = .ok (.getfield 257, 3) := by decide +kernel
theorem dX7_openAt_7 : decode cX7_openAt 7 = .ok (.if_icmp .ge 41, 3) := by decide +kernel
theorem dX7_openAt_10 : decode cX7_openAt 10 = .ok (.aload_n 0, 1) := by decide +kernel
theorem dX7_openAt_11 : decode cX7_openAt 11 = .ok (.getfield 46, 3) := by decide +kernel
theorem dX7_openAt_14 : decode cX7_openAt 14 = .ok (.iload_n 2, 1) := by decide +kernel
theorem dX7_openAt_15 : decode cX7_openAt 15 = .ok (.iaload, 1) := by decide +kernel
theorem dX7_openAt_16 : decode cX7_openAt 16 = .ok (.iload_n 1, 1) := by decide +kernel
theorem dX7_openAt_17 : decode cX7_openAt 17 = .ok (.if_icmp .ge 25, 3) := by decide +kernel
theorem dX7_openAt_20 : decode cX7_openAt 20 = .ok (.aload_n 0, 1) := by decide +kernel
theorem dX7_openAt_21 : decode cX7_openAt 21 = .ok (.getfield 52, 3) := by decide +kernel
theorem dX7_openAt_24 : decode cX7_openAt 24 = .ok (.iload_n 2, 1) := by decide +kernel
theorem dX7_openAt_25 : decode cX7_openAt 25 = .ok (.iaload, 1) := by decide +kernel
theorem dX7_openAt_26 : decode cX7_openAt 26 = .ok (.iconst (-1), 1) := by decide +kernel
theorem dX7_openAt_27 : decode cX7_openAt 27 = .ok (.if_icmp .eq 13, 3) := by decide +kernel
theorem dX7_openAt_30 : decode cX7_openAt 30 = .ok (.aload_n 0, 1) := by decide +kernel
theorem dX7_openAt_31 : decode cX7_openAt 31 = .ok (.getfield 52, 3) := by decide +kernel
theorem dX7_openAt_34 : decode cX7_openAt 34 = .ok (.iload_n 2, 1) := by decide +kernel
theorem dX7_openAt_35 : decode cX7_openAt 35 = .ok (.iaload, 1) := by decide +kernel
theorem dX7_openAt_36 : decode cX7_openAt 36 = .ok (.iload_n 1, 1) := by decide +kernel
theorem dX7_openAt_37 : decode cX7_openAt 37 = .ok (.if_icmp .le 5, 3) := by decide +kernel
theorem dX7_openAt_40 : decode cX7_openAt 40 = .ok (.iload_n 2, 1) := by decide +kernel
theorem dX7_openAt_41 : decode cX7_openAt 41 = .ok (.ireturn, 1) := by decide +kernel
theorem dX7_openAt_42 : decode cX7_openAt 42 = .ok (.iinc 2 1, 3) := by decide +kernel
theorem dX7_openAt_45 : decode cX7_openAt 45 = .ok (.goto (-43), 3) := by decide +kernel
theorem dX7_openAt_48 : decode cX7_openAt 48 = .ok (.iconst (-1), 1) := by decide +kernel
theorem dX7_openAt_49 : decode cX7_openAt 49 = .ok (.ireturn, 1) := by decide +kernel
theorem dX7_open_0 : decode cX7_open 0 = .ok (.aload_n 0, 1) := by decide +kernel
theorem dX7_open_1 : decode cX7_open 1 = .ok (.iload_n 1, 1) := by decide +kernel
theorem dX7_open_2 : decode cX7_open 2 = .ok (.invokevirtual 323, 3) := by decide +kernel
theorem dX7_open_5 : decode cX7_open 5 = .ok (.ifCond .eq 11, 3) := by decide +kernel
theorem dX7_open_8 : decode cX7_open 8 = .ok (.aload_n 0, 1) := by decide +kernel
theorem dX7_open_9 : decode cX7_open 9 = .ok (.iload_n 1, 1) := by decide +kernel
theorem dX7_open_10 : decode cX7_open 10 = .ok (.invokevirtual 352, 3) := by decide +kernel
theorem dX7_open_13 : decode cX7_open 13 = .ok (.goto 5, 3) := by decide +kernel
theorem dX7_open_16 : decode cX7_open 16 = .ok (.bipush (-2), 2) := by decide +kernel
theorem dX7_open_18 : decode cX7_open 18 = .ok (.ireturn, 1) := by decide +kernel
theorem dX7_asksCopy_0 : decode cX7_asksCopy 0 = .ok (.aload_n 0, 1) := by decide +kernel
theorem dX7_asksCopy_1 : decode cX7_asksCopy 1 = .ok (.invokevirtual 316, 3) := by decide +kernel
theorem dX7_asksCopy_4 : decode cX7_asksCopy 4 = .ok (.ifCond .eq 23, 3) := by decide +kernel
theorem dX7_asksCopy_7 : decode cX7_asksCopy 7 = .ok (.iload_n 1, 1) := by decide +kernel
theorem dX7_asksCopy_8 : decode cX7_asksCopy 8 = .ok (.i2l, 1) := by decide +kernel
theorem dX7_asksCopy_9 : decode cX7_asksCopy 9 = .ok (.lconst 0, 1) := by decide +kernel
theorem dX7_asksCopy_10 : decode cX7_asksCopy 10 = .ok (.aload_n 0, 1) := by decide +kernel
theorem dX7_asksCopy_11 : decode cX7_asksCopy 11 = .ok (.getfield 257, 3) := by decide +kernel
theorem dX7_asksCopy_14 : decode cX7_asksCopy 14 = .ok (.iconst 1, 1) := by decide +kernel
theorem dX7_asksCopy_15 : decode cX7_asksCopy 15 = .ok (.isub, 1) := by decide +kernel
theorem dX7_asksCopy_16 : decode cX7_asksCopy 16 = .ok (.i2l, 1) := by decide +kernel
theorem dX7_asksCopy_17 : decode cX7_asksCopy 17 = .ok (.invokestatic 103, 3) := by decide +kernel
theorem dX7_asksCopy_20 : decode cX7_asksCopy 20 = .ok (.ifCond .eq 7, 3) := by decide +kernel
theorem dX7_asksCopy_23 : decode cX7_asksCopy 23 = .ok (.iconst 1, 1) := by decide +kernel
theorem dX7_asksCopy_24 : decode cX7_asksCopy 24 = .ok (.goto 4, 3) := by decide +kernel
theorem dX7_asksCopy_27 : decode cX7_asksCopy 27 = .ok (.iconst 0, 1) := by decide +kernel
theorem dX7_asksCopy_28 : decode cX7_asksCopy 28 = .ok (.ireturn, 1) := by decide +kernel
theorem dX7_wantsMany_0 : decode cX7_wantsMany 0 = .ok (.iconst 0, 1) := by decide +kernel
theorem dX7_wantsMany_1 : decode cX7_wantsMany 1 = .ok (.istore_n 2, 1) := by decide +kernel
theorem dX7_wantsMany_2 : decode cX7_wantsMany 2 = .ok (.iconst 0, 1) := by decide +kernel
theorem dX7_wantsMany_3 : decode cX7_wantsMany 3 = .ok (.istore_n 3, 1) := by decide +kernel
theorem dX7_wantsMany_4 : decode cX7_wantsMany 4 = .ok (.iload_n 3, 1) := by decide +kernel
theorem dX7_wantsMany_5 : decode cX7_wantsMany 5 = .ok (.aload_n 0, 1) := by decide +kernel
theorem dX7_wantsMany_6 : decode cX7_wantsMany 6 = .ok (.invokevirtual 107, 3) := by decide +kernel
theorem dX7_wantsMany_9 : decode cX7_wantsMany 9 = .ok (.if_icmp .ge 31, 3) := by decide +kernel
theorem dX7_wantsMany_12 : decode cX7_wantsMany 12 = .ok (.iload_n 2, 1) := by decide +kernel
theorem dX7_wantsMany_13 : decode cX7_wantsMany 13 = .ok (.aload_n 0, 1) := by decide +kernel
theorem dX7_wantsMany_14 : decode cX7_wantsMany 14 = .ok (.getfield 58, 3) := by decide +kernel
theorem dX7_wantsMany_17 : decode cX7_wantsMany 17 = .ok (.bipush 32, 2) := by decide +kernel
theorem dX7_wantsMany_19 : decode cX7_wantsMany 19 = .ok (.iload_n 1, 1) := by decide +kernel
theorem dX7_wantsMany_20 : decode cX7_wantsMany 20 = .ok (.imul, 1) := by decide +kernel
theorem dX7_wantsMany_21 : decode cX7_wantsMany 21 = .ok (.iload_n 3, 1) := by decide +kernel
theorem dX7_wantsMany_22 : decode cX7_wantsMany 22 = .ok (.iadd, 1) := by decide +kernel
theorem dX7_wantsMany_23 : decode cX7_wantsMany 23 = .ok (.baload, 1) := by decide +kernel
theorem dX7_wantsMany_24 : decode cX7_wantsMany 24 = .ok (.ifCond .eq 7, 3) := by decide +kernel
theorem dX7_wantsMany_27 : decode cX7_wantsMany 27 = .ok (.iconst 1, 1) := by decide +kernel
theorem dX7_wantsMany_28 : decode cX7_wantsMany 28 = .ok (.goto 4, 3) := by decide +kernel
theorem dX7_wantsMany_31 : decode cX7_wantsMany 31 = .ok (.iconst 0, 1) := by decide +kernel
theorem dX7_wantsMany_32 : decode cX7_wantsMany 32 = .ok (.iadd, 1) := by decide +kernel
theorem dX7_wantsMany_33 : decode cX7_wantsMany 33 = .ok (.istore_n 2, 1) := by decide +kernel
theorem dX7_wantsMany_34 : decode cX7_wantsMany 34 = .ok (.iinc 3 1, 3) := by decide +kernel
theorem dX7_wantsMany_37 : decode cX7_wantsMany 37 = .ok (.goto (-33), 3) := by decide +kernel
theorem dX7_wantsMany_40 : decode cX7_wantsMany 40 = .ok (.iload_n 2, 1) := by decide +kernel
theorem dX7_wantsMany_41 : decode cX7_wantsMany 41 = .ok (.ireturn, 1) := by decide +kernel
theorem dX7_savedMany_0 : decode cX7_savedMany 0 = .ok (.iconst 0, 1) := by decide +kernel
theorem dX7_savedMany_1 : decode cX7_savedMany 1 = .ok (.istore_n 2, 1) := by decide +kernel
theorem dX7_savedMany_2 : decode cX7_savedMany 2 = .ok (.iconst 0, 1) := by decide +kernel
theorem dX7_savedMany_3 : decode cX7_savedMany 3 = .ok (.istore_n 3, 1) := by decide +kernel
theorem dX7_savedMany_4 : decode cX7_savedMany 4 = .ok (.iload_n 3, 1) := by decide +kernel
theorem dX7_savedMany_5 : decode cX7_savedMany 5 = .ok (.aload_n 0, 1) := by decide +kernel
theorem dX7_savedMany_6 : decode cX7_savedMany 6 = .ok (.invokevirtual 107, 3) := by decide +kernel
theorem dX7_savedMany_9 : decode cX7_savedMany 9 = .ok (.if_icmp .ge 31, 3) := by decide +kernel
theorem dX7_savedMany_12 : decode cX7_savedMany 12 = .ok (.iload_n 2, 1) := by decide +kernel
theorem dX7_savedMany_13 : decode cX7_savedMany 13 = .ok (.aload_n 0, 1) := by decide +kernel
theorem dX7_savedMany_14 : decode cX7_savedMany 14 = .ok (.getfield 61, 3) := by decide +kernel
theorem dX7_savedMany_17 : decode cX7_savedMany 17 = .ok (.bipush 32, 2) := by decide +kernel
theorem dX7_savedMany_19 : decode cX7_savedMany 19 = .ok (.iload_n 1, 1) := by decide +kernel
theorem dX7_savedMany_20 : decode cX7_savedMany 20 = .ok (.imul, 1) := by decide +kernel
theorem dX7_savedMany_21 : decode cX7_savedMany 21 = .ok (.iload_n 3, 1) := by decide +kernel
theorem dX7_savedMany_22 : decode cX7_savedMany 22 = .ok (.iadd, 1) := by decide +kernel
theorem dX7_savedMany_23 : decode cX7_savedMany 23 = .ok (.baload, 1) := by decide +kernel
theorem dX7_savedMany_24 : decode cX7_savedMany 24 = .ok (.ifCond .eq 7, 3) := by decide +kernel
theorem dX7_savedMany_27 : decode cX7_savedMany 27 = .ok (.iconst 1, 1) := by decide +kernel
theorem dX7_savedMany_28 : decode cX7_savedMany 28 = .ok (.goto 4, 3) := by decide +kernel
theorem dX7_savedMany_31 : decode cX7_savedMany 31 = .ok (.iconst 0, 1) := by decide +kernel
theorem dX7_savedMany_32 : decode cX7_savedMany 32 = .ok (.iadd, 1) := by decide +kernel
theorem dX7_savedMany_33 : decode cX7_savedMany 33 = .ok (.istore_n 2, 1) := by decide +kernel
theorem dX7_savedMany_34 : decode cX7_savedMany 34 = .ok (.iinc 3 1, 3) := by decide +kernel
theorem dX7_savedMany_37 : decode cX7_savedMany 37 = .ok (.goto (-33), 3) := by decide +kernel
theorem dX7_savedMany_40 : decode cX7_savedMany 40 = .ok (.iload_n 2, 1) := by decide +kernel
theorem dX7_savedMany_41 : decode cX7_savedMany 41 = .ok (.ireturn, 1) := by decide +kernel
theorem dX7_copy_0 : decode cX7_copy 0 = .ok (.aload_n 0, 1) := by decide +kernel
theorem dX7_copy_1 : decode cX7_copy 1 = .ok (.iload_n 1, 1) := by decide +kernel
theorem dX7_copy_2 : decode cX7_copy 2 = .ok (.invokevirtual 355, 3) := by decide +kernel
theorem dX7_copy_5 : decode cX7_copy 5 = .ok (.ifCond .ne 6, 3) := by decide +kernel
theorem dX7_copy_8 : decode cX7_copy 8 = .ok (.bipush (-2), 2) := by decide +kernel
theorem dX7_copy_10 : decode cX7_copy 10 = .ok (.ireturn, 1) := by decide +kernel
theorem dX7_copy_11 : decode cX7_copy 11 = .ok (.iload_n 2, 1) := by decide +kernel
theorem dX7_copy_12 : decode cX7_copy 12 = .ok (.tableswitch 91 0 6 #[44, 51, 58, 65, 71, 78, 84], 44) := by decide +kernel
theorem dX7_copy_56 : decode cX7_copy 56 = .ok (.aload_n 0, 1) := by decide +kernel
theorem dX7_copy_57 : decode cX7_copy 57 = .ok (.getfield 43, 3) := by decide +kernel
theorem dX7_copy_60 : decode cX7_copy 60 = .ok (.iload_n 1, 1) := by decide +kernel
theorem dX7_copy_61 : decode cX7_copy 61 = .ok (.iaload, 1) := by decide +kernel
theorem dX7_copy_62 : decode cX7_copy 62 = .ok (.ireturn, 1) := by decide +kernel
theorem dX7_copy_63 : decode cX7_copy 63 = .ok (.aload_n 0, 1) := by decide +kernel
theorem dX7_copy_64 : decode cX7_copy 64 = .ok (.getfield 46, 3) := by decide +kernel
theorem dX7_copy_67 : decode cX7_copy 67 = .ok (.iload_n 1, 1) := by decide +kernel
theorem dX7_copy_68 : decode cX7_copy 68 = .ok (.iaload, 1) := by decide +kernel
theorem dX7_copy_69 : decode cX7_copy 69 = .ok (.ireturn, 1) := by decide +kernel
theorem dX7_copy_70 : decode cX7_copy 70 = .ok (.aload_n 0, 1) := by decide +kernel
theorem dX7_copy_71 : decode cX7_copy 71 = .ok (.getfield 49, 3) := by decide +kernel
theorem dX7_copy_74 : decode cX7_copy 74 = .ok (.iload_n 1, 1) := by decide +kernel
theorem dX7_copy_75 : decode cX7_copy 75 = .ok (.iaload, 1) := by decide +kernel
theorem dX7_copy_76 : decode cX7_copy 76 = .ok (.ireturn, 1) := by decide +kernel
theorem dX7_copy_77 : decode cX7_copy 77 = .ok (.aload_n 0, 1) := by decide +kernel
theorem dX7_copy_78 : decode cX7_copy 78 = .ok (.iload_n 1, 1) := by decide +kernel
theorem dX7_copy_79 : decode cX7_copy 79 = .ok (.invokevirtual 358, 3) := by decide +kernel
theorem dX7_copy_82 : decode cX7_copy 82 = .ok (.ireturn, 1) := by decide +kernel
theorem dX7_copy_83 : decode cX7_copy 83 = .ok (.aload_n 0, 1) := by decide +kernel
theorem dX7_copy_84 : decode cX7_copy 84 = .ok (.getfield 55, 3) := by decide +kernel
theorem dX7_copy_87 : decode cX7_copy 87 = .ok (.iload_n 1, 1) := by decide +kernel
theorem dX7_copy_88 : decode cX7_copy 88 = .ok (.iaload, 1) := by decide +kernel
theorem dX7_copy_89 : decode cX7_copy 89 = .ok (.ireturn, 1) := by decide +kernel
theorem dX7_copy_90 : decode cX7_copy 90 = .ok (.aload_n 0, 1) := by decide +kernel
theorem dX7_copy_91 : decode cX7_copy 91 = .ok (.iload_n 1, 1) := by decide +kernel
theorem dX7_copy_92 : decode cX7_copy 92 = .ok (.invokevirtual 361, 3) := by decide +kernel
theorem dX7_copy_95 : decode cX7_copy 95 = .ok (.ireturn, 1) := by decide +kernel
theorem dX7_copy_96 : decode cX7_copy 96 = .ok (.aload_n 0, 1) := by decide +kernel
theorem dX7_copy_97 : decode cX7_copy 97 = .ok (.getfield 52, 3) := by decide +kernel
theorem dX7_copy_100 : decode cX7_copy 100 = .ok (.iload_n 1, 1) := by decide +kernel
theorem dX7_copy_101 : decode cX7_copy 101 = .ok (.iaload, 1) := by decide +kernel
theorem dX7_copy_102 : decode cX7_copy 102 = .ok (.ireturn, 1) := by decide +kernel
theorem dX7_copy_103 : decode cX7_copy 103 = .ok (.bipush (-2), 2) := by decide +kernel
theorem dX7_copy_105 : decode cX7_copy 105 = .ok (.ireturn, 1) := by decide +kernel
theorem dX7_kept_0 : decode cX7_kept 0 = .ok (.aload_n 0, 1) := by decide +kernel
theorem dX7_kept_1 : decode cX7_kept 1 = .ok (.iload_n 1, 1) := by decide +kernel
theorem dX7_kept_2 : decode cX7_kept 2 = .ok (.invokevirtual 355, 3) := by decide +kernel
theorem dX7_kept_5 : decode cX7_kept 5 = .ok (.ifCond .eq 12, 3) := by decide +kernel
theorem dX7_kept_8 : decode cX7_kept 8 = .ok (.aload_n 0, 1) := by decide +kernel
theorem dX7_kept_9 : decode cX7_kept 9 = .ok (.iload_n 2, 1) := by decide +kernel
theorem dX7_kept_10 : decode cX7_kept 10 = .ok (.i2l, 1) := by decide +kernel
theorem dX7_kept_11 : decode cX7_kept 11 = .ok (.invokevirtual 326, 3) := by decide +kernel
theorem dX7_kept_14 : decode cX7_kept 14 = .ok (.ifCond .ne 6, 3) := by decide +kernel
theorem dX7_kept_17 : decode cX7_kept 17 = .ok (.bipush (-2), 2) := by decide +kernel
theorem dX7_kept_19 : decode cX7_kept 19 = .ok (.ireturn, 1) := by decide +kernel
theorem dX7_kept_20 : decode cX7_kept 20 = .ok (.aload_n 0, 1) := by decide +kernel
theorem dX7_kept_21 : decode cX7_kept 21 = .ok (.getfield 49, 3) := by decide +kernel
theorem dX7_kept_24 : decode cX7_kept 24 = .ok (.iload_n 1, 1) := by decide +kernel
theorem dX7_kept_25 : decode cX7_kept 25 = .ok (.iaload, 1) := by decide +kernel
theorem dX7_kept_26 : decode cX7_kept 26 = .ok (.iconst 2, 1) := by decide +kernel
theorem dX7_kept_27 : decode cX7_kept 27 = .ok (.if_icmp .eq 18, 3) := by decide +kernel
theorem dX7_kept_30 : decode cX7_kept 30 = .ok (.aload_n 0, 1) := by decide +kernel
theorem dX7_kept_31 : decode cX7_kept 31 = .ok (.getfield 64, 3) := by decide +kernel
theorem dX7_kept_34 : decode cX7_kept 34 = .ok (.bipush 32, 2) := by decide +kernel
theorem dX7_kept_36 : decode cX7_kept 36 = .ok (.iload_n 1, 1) := by decide +kernel
theorem dX7_kept_37 : decode cX7_kept 37 = .ok (.imul, 1) := by decide +kernel
theorem dX7_kept_38 : decode cX7_kept 38 = .ok (.iload_n 2, 1) := by decide +kernel
theorem dX7_kept_39 : decode cX7_kept 39 = .ok (.iadd, 1) := by decide +kernel
theorem dX7_kept_40 : decode cX7_kept 40 = .ok (.iaload, 1) := by decide +kernel
theorem dX7_kept_41 : decode cX7_kept 41 = .ok (.iconst (-1), 1) := by decide +kernel
theorem dX7_kept_42 : decode cX7_kept 42 = .ok (.if_icmp .ne 7, 3) := by decide +kernel
theorem dX7_kept_45 : decode cX7_kept 45 = .ok (.iconst (-1), 1) := by decide +kernel
theorem dX7_kept_46 : decode cX7_kept 46 = .ok (.goto 14, 3) := by decide +kernel
theorem dX7_kept_49 : decode cX7_kept 49 = .ok (.aload_n 0, 1) := by decide +kernel
theorem dX7_kept_50 : decode cX7_kept 50 = .ok (.iload_n 2, 1) := by decide +kernel
theorem dX7_kept_51 : decode cX7_kept 51 = .ok (.aload_n 0, 1) := by decide +kernel
theorem dX7_kept_52 : decode cX7_kept 52 = .ok (.getfield 46, 3) := by decide +kernel
theorem dX7_kept_55 : decode cX7_kept 55 = .ok (.iload_n 1, 1) := by decide +kernel
theorem dX7_kept_56 : decode cX7_kept 56 = .ok (.iaload, 1) := by decide +kernel
theorem dX7_kept_57 : decode cX7_kept 57 = .ok (.invokevirtual 337, 3) := by decide +kernel
theorem dX7_kept_60 : decode cX7_kept 60 = .ok (.ireturn, 1) := by decide +kernel
theorem dX7_saved_0 : decode cX7_saved 0 = .ok (.aload_n 0, 1) := by decide +kernel
theorem dX7_saved_1 : decode cX7_saved 1 = .ok (.iload_n 1, 1) := by decide +kernel
theorem dX7_saved_2 : decode cX7_saved 2 = .ok (.invokevirtual 355, 3) := by decide +kernel
theorem dX7_saved_5 : decode cX7_saved 5 = .ok (.ifCond .eq 12, 3) := by decide +kernel
theorem dX7_saved_8 : decode cX7_saved 8 = .ok (.aload_n 0, 1) := by decide +kernel
theorem dX7_saved_9 : decode cX7_saved 9 = .ok (.iload_n 2, 1) := by decide +kernel
theorem dX7_saved_10 : decode cX7_saved 10 = .ok (.i2l, 1) := by decide +kernel
theorem dX7_saved_11 : decode cX7_saved 11 = .ok (.invokevirtual 326, 3) := by decide +kernel
theorem dX7_saved_14 : decode cX7_saved 14 = .ok (.ifCond .ne 6, 3) := by decide +kernel
theorem dX7_saved_17 : decode cX7_saved 17 = .ok (.bipush (-2), 2) := by decide +kernel
theorem dX7_saved_19 : decode cX7_saved 19 = .ok (.ireturn, 1) := by decide +kernel
theorem dX7_saved_20 : decode cX7_saved 20 = .ok (.aload_n 0, 1) := by decide +kernel
theorem dX7_saved_21 : decode cX7_saved 21 = .ok (.getfield 61, 3) := by decide +kernel
theorem dX7_saved_24 : decode cX7_saved 24 = .ok (.bipush 32, 2) := by decide +kernel
theorem dX7_saved_26 : decode cX7_saved 26 = .ok (.iload_n 1, 1) := by decide +kernel
theorem dX7_saved_27 : decode cX7_saved 27 = .ok (.imul, 1) := by decide +kernel
theorem dX7_saved_28 : decode cX7_saved 28 = .ok (.iload_n 2, 1) := by decide +kernel
theorem dX7_saved_29 : decode cX7_saved 29 = .ok (.iadd, 1) := by decide +kernel
theorem dX7_saved_30 : decode cX7_saved 30 = .ok (.baload, 1) := by decide +kernel
theorem dX7_saved_31 : decode cX7_saved 31 = .ok (.ifCond .eq 7, 3) := by decide +kernel
theorem dX7_saved_34 : decode cX7_saved 34 = .ok (.iconst 1, 1) := by decide +kernel
theorem dX7_saved_35 : decode cX7_saved 35 = .ok (.goto 4, 3) := by decide +kernel
theorem dX7_saved_38 : decode cX7_saved 38 = .ok (.iconst 0, 1) := by decide +kernel
theorem dX7_saved_39 : decode cX7_saved 39 = .ok (.ireturn, 1) := by decide +kernel
theorem dX7_order_0 : decode cX7_order 0 = .ok (.aload_n 0, 1) := by decide +kernel
theorem dX7_order_1 : decode cX7_order 1 = .ok (.iload_n 1, 1) := by decide +kernel
theorem dX7_order_2 : decode cX7_order 2 = .ok (.invokevirtual 355, 3) := by decide +kernel
theorem dX7_order_5 : decode cX7_order 5 = .ok (.ifCond .eq 7, 3) := by decide +kernel
theorem dX7_order_8 : decode cX7_order 8 = .ok (.iload_n 2, 1) := by decide +kernel
theorem dX7_order_9 : decode cX7_order 9 = .ok (.ifCond .ge 6, 3) := by decide +kernel
theorem dX7_order_12 : decode cX7_order 12 = .ok (.bipush (-2), 2) := by decide +kernel
theorem dX7_order_14 : decode cX7_order 14 = .ok (.ireturn, 1) := by decide +kernel
theorem dX7_order_15 : decode cX7_order 15 = .ok (.iload_n 2, 1) := by decide +kernel
theorem dX7_order_16 : decode cX7_order 16 = .ok (.aload_n 0, 1) := by decide +kernel
theorem dX7_order_17 : decode cX7_order 17 = .ok (.getfield 55, 3) := by decide +kernel
theorem dX7_order_20 : decode cX7_order 20 = .ok (.iload_n 1, 1) := by decide +kernel
theorem dX7_order_21 : decode cX7_order 21 = .ok (.iaload, 1) := by decide +kernel
theorem dX7_order_22 : decode cX7_order 22 = .ok (.if_icmp .ge 17, 3) := by decide +kernel
theorem dX7_order_25 : decode cX7_order 25 = .ok (.aload_n 0, 1) := by decide +kernel
theorem dX7_order_26 : decode cX7_order 26 = .ok (.getfield 67, 3) := by decide +kernel
theorem dX7_order_29 : decode cX7_order 29 = .ok (.bipush 32, 2) := by decide +kernel
theorem dX7_order_31 : decode cX7_order 31 = .ok (.iload_n 1, 1) := by decide +kernel
theorem dX7_order_32 : decode cX7_order 32 = .ok (.imul, 1) := by decide +kernel
theorem dX7_order_33 : decode cX7_order 33 = .ok (.iload_n 2, 1) := by decide +kernel
theorem dX7_order_34 : decode cX7_order 34 = .ok (.iadd, 1) := by decide +kernel
theorem dX7_order_35 : decode cX7_order 35 = .ok (.iaload, 1) := by decide +kernel
theorem dX7_order_36 : decode cX7_order 36 = .ok (.goto 4, 3) := by decide +kernel
theorem dX7_order_39 : decode cX7_order 39 = .ok (.iconst (-1), 1) := by decide +kernel
theorem dX7_order_40 : decode cX7_order 40 = .ok (.ireturn, 1) := by decide +kernel
theorem dX7_keptTill_0 : decode cX7_keptTill 0 = .ok (.iconst 0, 1) := by decide +kernel
theorem dX7_keptTill_1 : decode cX7_keptTill 1 = .ok (.istore_n 3, 1) := by decide +kernel
theorem dX7_keptTill_2 : decode cX7_keptTill 2 = .ok (.iconst 0, 1) := by decide +kernel
theorem dX7_keptTill_3 : decode cX7_keptTill 3 = .ok (.istore 4, 2) := by decide +kernel
theorem dX7_keptTill_5 : decode cX7_keptTill 5 = .ok (.iload 4, 2) := by decide +kernel
theorem dX7_keptTill_7 : decode cX7_keptTill 7 = .ok (.aload_n 0, 1) := by decide +kernel
theorem dX7_keptTill_8 : decode cX7_keptTill 8 = .ok (.invokevirtual 107, 3) := by decide +kernel
theorem dX7_keptTill_11 : decode cX7_keptTill 11 = .ok (.if_icmp .ge 49, 3) := by decide +kernel
theorem dX7_keptTill_14 : decode cX7_keptTill 14 = .ok (.iload_n 3, 1) := by decide +kernel
theorem dX7_keptTill_15 : decode cX7_keptTill 15 = .ok (.aload_n 0, 1) := by decide +kernel
theorem dX7_keptTill_16 : decode cX7_keptTill 16 = .ok (.getfield 64, 3) := by decide +kernel
theorem dX7_keptTill_19 : decode cX7_keptTill 19 = .ok (.bipush 32, 2) := by decide +kernel
theorem dX7_keptTill_21 : decode cX7_keptTill 21 = .ok (.iload_n 1, 1) := by decide +kernel
theorem dX7_keptTill_22 : decode cX7_keptTill 22 = .ok (.imul, 1) := by decide +kernel
theorem dX7_keptTill_23 : decode cX7_keptTill 23 = .ok (.iload 4, 2) := by decide +kernel
theorem dX7_keptTill_25 : decode cX7_keptTill 25 = .ok (.iadd, 1) := by decide +kernel
theorem dX7_keptTill_26 : decode cX7_keptTill 26 = .ok (.iaload, 1) := by decide +kernel
theorem dX7_keptTill_27 : decode cX7_keptTill 27 = .ok (.iconst (-1), 1) := by decide +kernel
theorem dX7_keptTill_28 : decode cX7_keptTill 28 = .ok (.if_icmp .eq 23, 3) := by decide +kernel
theorem dX7_keptTill_31 : decode cX7_keptTill 31 = .ok (.aload_n 0, 1) := by decide +kernel
theorem dX7_keptTill_32 : decode cX7_keptTill 32 = .ok (.getfield 64, 3) := by decide +kernel
theorem dX7_keptTill_35 : decode cX7_keptTill 35 = .ok (.bipush 32, 2) := by decide +kernel
theorem dX7_keptTill_37 : decode cX7_keptTill 37 = .ok (.iload_n 1, 1) := by decide +kernel
theorem dX7_keptTill_38 : decode cX7_keptTill 38 = .ok (.imul, 1) := by decide +kernel
theorem dX7_keptTill_39 : decode cX7_keptTill 39 = .ok (.iload 4, 2) := by decide +kernel
theorem dX7_keptTill_41 : decode cX7_keptTill 41 = .ok (.iadd, 1) := by decide +kernel
theorem dX7_keptTill_42 : decode cX7_keptTill 42 = .ok (.iaload, 1) := by decide +kernel
theorem dX7_keptTill_43 : decode cX7_keptTill 43 = .ok (.iload_n 2, 1) := by decide +kernel
theorem dX7_keptTill_44 : decode cX7_keptTill 44 = .ok (.if_icmp .ge 7, 3) := by decide +kernel
theorem dX7_keptTill_47 : decode cX7_keptTill 47 = .ok (.iconst 1, 1) := by decide +kernel
theorem dX7_keptTill_48 : decode cX7_keptTill 48 = .ok (.goto 4, 3) := by decide +kernel
theorem dX7_keptTill_51 : decode cX7_keptTill 51 = .ok (.iconst 0, 1) := by decide +kernel
theorem dX7_keptTill_52 : decode cX7_keptTill 52 = .ok (.iadd, 1) := by decide +kernel
theorem dX7_keptTill_53 : decode cX7_keptTill 53 = .ok (.istore_n 3, 1) := by decide +kernel
theorem dX7_keptTill_54 : decode cX7_keptTill 54 = .ok (.iinc 4 1, 3) := by decide +kernel
theorem dX7_keptTill_57 : decode cX7_keptTill 57 = .ok (.goto (-52), 3) := by decide +kernel
theorem dX7_keptTill_60 : decode cX7_keptTill 60 = .ok (.iload_n 3, 1) := by decide +kernel
theorem dX7_keptTill_61 : decode cX7_keptTill 61 = .ok (.ireturn, 1) := by decide +kernel
theorem dX7_waiting_0 : decode cX7_waiting 0 = .ok (.aload_n 0, 1) := by decide +kernel
theorem dX7_waiting_1 : decode cX7_waiting 1 = .ok (.iload_n 1, 1) := by decide +kernel
theorem dX7_waiting_2 : decode cX7_waiting 2 = .ok (.invokevirtual 323, 3) := by decide +kernel
theorem dX7_waiting_5 : decode cX7_waiting 5 = .ok (.ifCond .ne 6, 3) := by decide +kernel
theorem dX7_waiting_8 : decode cX7_waiting 8 = .ok (.bipush (-2), 2) := by decide +kernel
theorem dX7_waiting_10 : decode cX7_waiting 10 = .ok (.ireturn, 1) := by decide +kernel
theorem dX7_waiting_11 : decode cX7_waiting 11 = .ok (.aload_n 0, 1) := by decide +kernel
theorem dX7_waiting_12 : decode cX7_waiting 12 = .ok (.iload_n 1, 1) := by decide +kernel
theorem dX7_waiting_13 : decode cX7_waiting 13 = .ok (.invokevirtual 352, 3) := by decide +kernel
theorem dX7_waiting_16 : decode cX7_waiting 16 = .ok (.istore_n 2, 1) := by decide +kernel
theorem dX7_waiting_17 : decode cX7_waiting 17 = .ok (.iload_n 2, 1) := by decide +kernel
theorem dX7_waiting_18 : decode cX7_waiting 18 = .ok (.iconst (-1), 1) := by decide +kernel
theorem dX7_waiting_19 : decode cX7_waiting 19 = .ok (.if_icmp .ne 7, 3) := by decide +kernel
theorem dX7_waiting_22 : decode cX7_waiting 22 = .ok (.iconst (-1), 1) := by decide +kernel
theorem dX7_waiting_23 : decode cX7_waiting 23 = .ok (.goto 15, 3) := by decide +kernel
theorem dX7_waiting_26 : decode cX7_waiting 26 = .ok (.aload_n 0, 1) := by decide +kernel
theorem dX7_waiting_27 : decode cX7_waiting 27 = .ok (.iload_n 2, 1) := by decide +kernel
theorem dX7_waiting_28 : decode cX7_waiting 28 = .ok (.invokevirtual 358, 3) := by decide +kernel
theorem dX7_waiting_31 : decode cX7_waiting 31 = .ok (.aload_n 0, 1) := by decide +kernel
theorem dX7_waiting_32 : decode cX7_waiting 32 = .ok (.iload_n 2, 1) := by decide +kernel
theorem dX7_waiting_33 : decode cX7_waiting 33 = .ok (.iload_n 1, 1) := by decide +kernel
theorem dX7_waiting_34 : decode cX7_waiting 34 = .ok (.invokevirtual 364, 3) := by decide +kernel
theorem dX7_waiting_37 : decode cX7_waiting 37 = .ok (.isub, 1) := by decide +kernel
theorem dX7_waiting_38 : decode cX7_waiting 38 = .ok (.ireturn, 1) := by decide +kernel
theorem dX7_saves_0 : decode cX7_saves 0 = .ok (.aload_n 0, 1) := by decide +kernel
theorem dX7_saves_1 : decode cX7_saves 1 = .ok (.invokevirtual 316, 3) := by decide +kernel
theorem dX7_saves_4 : decode cX7_saves 4 = .ok (.ifCond .eq 12, 3) := by decide +kernel
theorem dX7_saves_7 : decode cX7_saves 7 = .ok (.aload_n 0, 1) := by decide +kernel
theorem dX7_saves_8 : decode cX7_saves 8 = .ok (.iload_n 1, 1) := by decide +kernel
theorem dX7_saves_9 : decode cX7_saves 9 = .ok (.i2l, 1) := by decide +kernel
theorem dX7_saves_10 : decode cX7_saves 10 = .ok (.invokevirtual 329, 3) := by decide +kernel
theorem dX7_saves_13 : decode cX7_saves 13 = .ok (.ifCond .ne 6, 3) := by decide +kernel
theorem dX7_saves_16 : decode cX7_saves 16 = .ok (.bipush (-2), 2) := by decide +kernel
theorem dX7_saves_18 : decode cX7_saves 18 = .ok (.ireturn, 1) := by decide +kernel
theorem dX7_saves_19 : decode cX7_saves 19 = .ok (.iconst 0, 1) := by decide +kernel
theorem dX7_saves_20 : decode cX7_saves 20 = .ok (.istore_n 2, 1) := by decide +kernel
theorem dX7_saves_21 : decode cX7_saves 21 = .ok (.iconst 0, 1) := by decide +kernel
theorem dX7_saves_22 : decode cX7_saves 22 = .ok (.istore_n 3, 1) := by decide +kernel
theorem dX7_saves_23 : decode cX7_saves 23 = .ok (.iload_n 3, 1) := by decide +kernel
theorem dX7_saves_24 : decode cX7_saves 24 = .ok (.aload_n 0, 1) := by decide +kernel
theorem dX7_saves_25 : decode cX7_saves 25 = .ok (.getfield 257, 3) := by decide +kernel
theorem dX7_saves_28 : decode cX7_saves 28 = .ok (.if_icmp .ge 66, 3) := by decide +kernel
theorem dX7_saves_31 : decode cX7_saves 31 = .ok (.iconst 0, 1) := by decide +kernel
theorem dX7_saves_32 : decode cX7_saves 32 = .ok (.istore 4, 2) := by decide +kernel
theorem dX7_saves_34 : decode cX7_saves 34 = .ok (.iload 4, 2) := by decide +kernel
theorem dX7_saves_36 : decode cX7_saves 36 = .ok (.aload_n 0, 1) := by decide +kernel
theorem dX7_saves_37 : decode cX7_saves 37 = .ok (.invokevirtual 107, 3) := by decide +kernel
theorem dX7_saves_40 : decode cX7_saves 40 = .ok (.if_icmp .ge 48, 3) := by decide +kernel
theorem dX7_saves_43 : decode cX7_saves 43 = .ok (.iload_n 2, 1) := by decide +kernel
theorem dX7_saves_44 : decode cX7_saves 44 = .ok (.aload_n 0, 1) := by decide +kernel
theorem dX7_saves_45 : decode cX7_saves 45 = .ok (.getfield 61, 3) := by decide +kernel
theorem dX7_saves_48 : decode cX7_saves 48 = .ok (.bipush 32, 2) := by decide +kernel
theorem dX7_saves_50 : decode cX7_saves 50 = .ok (.iload_n 3, 1) := by decide +kernel
theorem dX7_saves_51 : decode cX7_saves 51 = .ok (.imul, 1) := by decide +kernel
theorem dX7_saves_52 : decode cX7_saves 52 = .ok (.iload 4, 2) := by decide +kernel
theorem dX7_saves_54 : decode cX7_saves 54 = .ok (.iadd, 1) := by decide +kernel
theorem dX7_saves_55 : decode cX7_saves 55 = .ok (.baload, 1) := by decide +kernel
theorem dX7_saves_56 : decode cX7_saves 56 = .ok (.ifCond .eq 23, 3) := by decide +kernel
theorem dX7_saves_59 : decode cX7_saves 59 = .ok (.aload_n 0, 1) := by decide +kernel
theorem dX7_saves_60 : decode cX7_saves 60 = .ok (.getfield 64, 3) := by decide +kernel
theorem dX7_saves_63 : decode cX7_saves 63 = .ok (.bipush 32, 2) := by decide +kernel
theorem dX7_saves_65 : decode cX7_saves 65 = .ok (.iload_n 3, 1) := by decide +kernel
theorem dX7_saves_66 : decode cX7_saves 66 = .ok (.imul, 1) := by decide +kernel
theorem dX7_saves_67 : decode cX7_saves 67 = .ok (.iload 4, 2) := by decide +kernel
theorem dX7_saves_69 : decode cX7_saves 69 = .ok (.iadd, 1) := by decide +kernel
theorem dX7_saves_70 : decode cX7_saves 70 = .ok (.iaload, 1) := by decide +kernel
theorem dX7_saves_71 : decode cX7_saves 71 = .ok (.iload_n 1, 1) := by decide +kernel
theorem dX7_saves_72 : decode cX7_saves 72 = .ok (.if_icmp .ne 7, 3) := by decide +kernel
theorem dX7_saves_75 : decode cX7_saves 75 = .ok (.iconst 1, 1) := by decide +kernel
theorem dX7_saves_76 : decode cX7_saves 76 = .ok (.goto 4, 3) := by decide +kernel
theorem dX7_saves_79 : decode cX7_saves 79 = .ok (.iconst 0, 1) := by decide +kernel
theorem dX7_saves_80 : decode cX7_saves 80 = .ok (.iadd, 1) := by decide +kernel
theorem dX7_saves_81 : decode cX7_saves 81 = .ok (.istore_n 2, 1) := by decide +kernel
theorem dX7_saves_82 : decode cX7_saves 82 = .ok (.iinc 4 1, 3) := by decide +kernel
theorem dX7_saves_85 : decode cX7_saves 85 = .ok (.goto (-51), 3) := by decide +kernel
theorem dX7_saves_88 : decode cX7_saves 88 = .ok (.iinc 3 1, 3) := by decide +kernel
theorem dX7_saves_91 : decode cX7_saves 91 = .ok (.goto (-68), 3) := by decide +kernel
theorem dX7_saves_94 : decode cX7_saves 94 = .ok (.iload_n 2, 1) := by decide +kernel
theorem dX7_saves_95 : decode cX7_saves 95 = .ok (.ireturn, 1) := by decide +kernel
theorem dX7_work_0 : decode cX7_work 0 = .ok (.aload_n 0, 1) := by decide +kernel
theorem dX7_work_1 : decode cX7_work 1 = .ok (.iload_n 1, 1) := by decide +kernel
theorem dX7_work_2 : decode cX7_work 2 = .ok (.invokevirtual 323, 3) := by decide +kernel
theorem dX7_work_5 : decode cX7_work 5 = .ok (.ifCond .ne 6, 3) := by decide +kernel
theorem dX7_work_8 : decode cX7_work 8 = .ok (.bipush (-2), 2) := by decide +kernel
theorem dX7_work_10 : decode cX7_work 10 = .ok (.ireturn, 1) := by decide +kernel
theorem dX7_work_11 : decode cX7_work 11 = .ok (.iconst 0, 1) := by decide +kernel
theorem dX7_work_12 : decode cX7_work 12 = .ok (.istore_n 2, 1) := by decide +kernel
theorem dX7_work_13 : decode cX7_work 13 = .ok (.iconst 0, 1) := by decide +kernel
theorem dX7_work_14 : decode cX7_work 14 = .ok (.istore_n 3, 1) := by decide +kernel
theorem dX7_work_15 : decode cX7_work 15 = .ok (.iload_n 3, 1) := by decide +kernel
theorem dX7_work_16 : decode cX7_work 16 = .ok (.aload_n 0, 1) := by decide +kernel
theorem dX7_work_17 : decode cX7_work 17 = .ok (.getfield 257, 3) := by decide +kernel
theorem dX7_work_20 : decode cX7_work 20 = .ok (.if_icmp .ge 18, 3) := by decide +kernel
theorem dX7_work_23 : decode cX7_work 23 = .ok (.iload_n 2, 1) := by decide +kernel
theorem dX7_work_24 : decode cX7_work 24 = .ok (.aload_n 0, 1) := by decide +kernel
theorem dX7_work_25 : decode cX7_work 25 = .ok (.iload_n 3, 1) := by decide +kernel
theorem dX7_work_26 : decode cX7_work 26 = .ok (.iload_n 1, 1) := by decide +kernel
theorem dX7_work_27 : decode cX7_work 27 = .ok (.invokevirtual 364, 3) := by decide +kernel
theorem dX7_work_30 : decode cX7_work 30 = .ok (.iadd, 1) := by decide +kernel
theorem dX7_work_31 : decode cX7_work 31 = .ok (.istore_n 2, 1) := by decide +kernel
theorem dX7_work_32 : decode cX7_work 32 = .ok (.iinc 3 1, 3) := by decide +kernel
theorem dX7_work_35 : decode cX7_work 35 = .ok (.goto (-20), 3) := by decide +kernel
theorem dX7_work_38 : decode cX7_work 38 = .ok (.iload_n 2, 1) := by decide +kernel
theorem dX7_work_39 : decode cX7_work 39 = .ok (.ireturn, 1) := by decide +kernel
theorem dX7_wasted_0 : decode cX7_wasted 0 = .ok (.aload_n 0, 1) := by decide +kernel
theorem dX7_wasted_1 : decode cX7_wasted 1 = .ok (.iload_n 1, 1) := by decide +kernel
theorem dX7_wasted_2 : decode cX7_wasted 2 = .ok (.invokevirtual 323, 3) := by decide +kernel
theorem dX7_wasted_5 : decode cX7_wasted 5 = .ok (.ifCond .ne 6, 3) := by decide +kernel
theorem dX7_wasted_8 : decode cX7_wasted 8 = .ok (.bipush (-2), 2) := by decide +kernel
theorem dX7_wasted_10 : decode cX7_wasted 10 = .ok (.ireturn, 1) := by decide +kernel
theorem dX7_wasted_11 : decode cX7_wasted 11 = .ok (.iconst 0, 1) := by decide +kernel
theorem dX7_wasted_12 : decode cX7_wasted 12 = .ok (.istore_n 2, 1) := by decide +kernel
theorem dX7_wasted_13 : decode cX7_wasted 13 = .ok (.iconst 0, 1) := by decide +kernel
theorem dX7_wasted_14 : decode cX7_wasted 14 = .ok (.istore_n 3, 1) := by decide +kernel
theorem dX7_wasted_15 : decode cX7_wasted 15 = .ok (.iload_n 3, 1) := by decide +kernel
theorem dX7_wasted_16 : decode cX7_wasted 16 = .ok (.aload_n 0, 1) := by decide +kernel
theorem dX7_wasted_17 : decode cX7_wasted 17 = .ok (.getfield 257, 3) := by decide +kernel
theorem dX7_wasted_20 : decode cX7_wasted 20 = .ok (.if_icmp .ge 42, 3) := by decide +kernel
theorem dX7_wasted_23 : decode cX7_wasted 23 = .ok (.iload_n 2, 1) := by decide +kernel
theorem dX7_wasted_24 : decode cX7_wasted 24 = .ok (.aload_n 0, 1) := by decide +kernel
theorem dX7_wasted_25 : decode cX7_wasted 25 = .ok (.getfield 49, 3) := by decide +kernel
theorem dX7_wasted_28 : decode cX7_wasted 28 = .ok (.iload_n 3, 1) := by decide +kernel
theorem dX7_wasted_29 : decode cX7_wasted 29 = .ok (.iaload, 1) := by decide +kernel
theorem dX7_wasted_30 : decode cX7_wasted 30 = .ok (.iconst 2, 1) := by decide +kernel
theorem dX7_wasted_31 : decode cX7_wasted 31 = .ok (.if_icmp .ne 22, 3) := by decide +kernel
theorem dX7_wasted_34 : decode cX7_wasted 34 = .ok (.aload_n 0, 1) := by decide +kernel
theorem dX7_wasted_35 : decode cX7_wasted 35 = .ok (.getfield 52, 3) := by decide +kernel
theorem dX7_wasted_38 : decode cX7_wasted 38 = .ok (.iload_n 3, 1) := by decide +kernel
theorem dX7_wasted_39 : decode cX7_wasted 39 = .ok (.iaload, 1) := by decide +kernel
theorem dX7_wasted_40 : decode cX7_wasted 40 = .ok (.iload_n 1, 1) := by decide +kernel
theorem dX7_wasted_41 : decode cX7_wasted 41 = .ok (.if_icmp .gt 12, 3) := by decide +kernel
theorem dX7_wasted_44 : decode cX7_wasted 44 = .ok (.aload_n 0, 1) := by decide +kernel
theorem dX7_wasted_45 : decode cX7_wasted 45 = .ok (.getfield 55, 3) := by decide +kernel
theorem dX7_wasted_48 : decode cX7_wasted 48 = .ok (.iload_n 3, 1) := by decide +kernel
theorem dX7_wasted_49 : decode cX7_wasted 49 = .ok (.iaload, 1) := by decide +kernel
theorem dX7_wasted_50 : decode cX7_wasted 50 = .ok (.goto 4, 3) := by decide +kernel
theorem dX7_wasted_53 : decode cX7_wasted 53 = .ok (.iconst 0, 1) := by decide +kernel
theorem dX7_wasted_54 : decode cX7_wasted 54 = .ok (.iadd, 1) := by decide +kernel
theorem dX7_wasted_55 : decode cX7_wasted 55 = .ok (.istore_n 2, 1) := by decide +kernel
theorem dX7_wasted_56 : decode cX7_wasted 56 = .ok (.iinc 3 1, 3) := by decide +kernel
theorem dX7_wasted_59 : decode cX7_wasted 59 = .ok (.goto (-44), 3) := by decide +kernel
theorem dX7_wasted_62 : decode cX7_wasted 62 = .ok (.iload_n 2, 1) := by decide +kernel
theorem dX7_wasted_63 : decode cX7_wasted 63 = .ok (.ireturn, 1) := by decide +kernel
theorem dX7_isLinked_0 : decode cX7_isLinked 0 = .ok (.aload_n 0, 1) := by decide +kernel
theorem dX7_isLinked_1 : decode cX7_isLinked 1 = .ok (.iload_n 1, 1) := by decide +kernel
theorem dX7_isLinked_2 : decode cX7_isLinked 2 = .ok (.iload_n 2, 1) := by decide +kernel
theorem dX7_isLinked_3 : decode cX7_isLinked 3 = .ok (.invokevirtual 260, 3) := by decide +kernel
theorem dX7_isLinked_6 : decode cX7_isLinked 6 = .ok (.ifCond .ne 5, 3) := by decide +kernel
theorem dX7_isLinked_9 : decode cX7_isLinked 9 = .ok (.iconst 0, 1) := by decide +kernel
theorem dX7_isLinked_10 : decode cX7_isLinked 10 = .ok (.ireturn, 1) := by decide +kernel
theorem dX7_isLinked_11 : decode cX7_isLinked 11 = .ok (.aload_n 0, 1) := by decide +kernel
theorem dX7_isLinked_12 : decode cX7_isLinked 12 = .ok (.getfield 43, 3) := by decide +kernel
theorem dX7_isLinked_15 : decode cX7_isLinked 15 = .ok (.iload_n 1, 1) := by decide +kernel
theorem dX7_isLinked_16 : decode cX7_isLinked 16 = .ok (.iaload, 1) := by decide +kernel
theorem dX7_isLinked_17 : decode cX7_isLinked 17 = .ok (.iconst 1, 1) := by decide +kernel
theorem dX7_isLinked_18 : decode cX7_isLinked 18 = .ok (.if_icmp .ne 7, 3) := by decide +kernel
theorem dX7_isLinked_21 : decode cX7_isLinked 21 = .ok (.iconst 1, 1) := by decide +kernel
theorem dX7_isLinked_22 : decode cX7_isLinked 22 = .ok (.goto 4, 3) := by decide +kernel
theorem dX7_isLinked_25 : decode cX7_isLinked 25 = .ok (.iconst 0, 1) := by decide +kernel
theorem dX7_isLinked_26 : decode cX7_isLinked 26 = .ok (.istore_n 3, 1) := by decide +kernel
theorem dX7_isLinked_27 : decode cX7_isLinked 27 = .ok (.iconst 0, 1) := by decide +kernel
theorem dX7_isLinked_28 : decode cX7_isLinked 28 = .ok (.istore 4, 2) := by decide +kernel
theorem dX7_isLinked_30 : decode cX7_isLinked 30 = .ok (.iload 4, 2) := by decide +kernel
theorem dX7_isLinked_32 : decode cX7_isLinked 32 = .ok (.aload_n 0, 1) := by decide +kernel
theorem dX7_isLinked_33 : decode cX7_isLinked 33 = .ok (.getfield 257, 3) := by decide +kernel
theorem dX7_isLinked_36 : decode cX7_isLinked 36 = .ok (.if_icmp .ge 42, 3) := by decide +kernel
theorem dX7_isLinked_39 : decode cX7_isLinked 39 = .ok (.aload_n 0, 1) := by decide +kernel
theorem dX7_isLinked_40 : decode cX7_isLinked 40 = .ok (.iload 4, 2) := by decide +kernel
theorem dX7_isLinked_42 : decode cX7_isLinked 42 = .ok (.iload_n 2, 1) := by decide +kernel
theorem dX7_isLinked_43 : decode cX7_isLinked 43 = .ok (.invokevirtual 260, 3) := by decide +kernel
theorem dX7_isLinked_46 : decode cX7_isLinked 46 = .ok (.ifCond .eq 26, 3) := by decide +kernel
theorem dX7_isLinked_49 : decode cX7_isLinked 49 = .ok (.aload_n 0, 1) := by decide +kernel
theorem dX7_isLinked_50 : decode cX7_isLinked 50 = .ok (.getfield 43, 3) := by decide +kernel
theorem dX7_isLinked_53 : decode cX7_isLinked 53 = .ok (.iload 4, 2) := by decide +kernel
theorem dX7_isLinked_55 : decode cX7_isLinked 55 = .ok (.iaload, 1) := by decide +kernel
theorem dX7_isLinked_56 : decode cX7_isLinked 56 = .ok (.ifCond .ne 6, 3) := by decide +kernel
theorem dX7_isLinked_59 : decode cX7_isLinked 59 = .ok (.goto 13, 3) := by decide +kernel
theorem dX7_isLinked_62 : decode cX7_isLinked 62 = .ok (.iload 4, 2) := by decide +kernel
theorem dX7_isLinked_64 : decode cX7_isLinked 64 = .ok (.iload_n 1, 1) := by decide +kernel
theorem dX7_isLinked_65 : decode cX7_isLinked 65 = .ok (.if_icmp .le 5, 3) := by decide +kernel
theorem dX7_isLinked_68 : decode cX7_isLinked 68 = .ok (.iconst 0, 1) := by decide +kernel
theorem dX7_isLinked_69 : decode cX7_isLinked 69 = .ok (.ireturn, 1) := by decide +kernel
theorem dX7_isLinked_70 : decode cX7_isLinked 70 = .ok (.iconst 1, 1) := by decide +kernel
theorem dX7_isLinked_71 : decode cX7_isLinked 71 = .ok (.istore_n 3, 1) := by decide +kernel
theorem dX7_isLinked_72 : decode cX7_isLinked 72 = .ok (.iinc 4 1, 3) := by decide +kernel
theorem dX7_isLinked_75 : decode cX7_isLinked 75 = .ok (.goto (-45), 3) := by decide +kernel
theorem dX7_isLinked_78 : decode cX7_isLinked 78 = .ok (.iload_n 3, 1) := by decide +kernel
theorem dX7_isLinked_79 : decode cX7_isLinked 79 = .ok (.ireturn, 1) := by decide +kernel
theorem dX7_chainAt_0 : decode cX7_chainAt 0 = .ok (.iconst 0, 1) := by decide +kernel
theorem dX7_chainAt_1 : decode cX7_chainAt 1 = .ok (.istore_n 2, 1) := by decide +kernel
theorem dX7_chainAt_2 : decode cX7_chainAt 2 = .ok (.iconst 0, 1) := by decide +kernel
theorem dX7_chainAt_3 : decode cX7_chainAt 3 = .ok (.istore_n 3, 1) := by decide +kernel
theorem dX7_chainAt_4 : decode cX7_chainAt 4 = .ok (.iload_n 3, 1) := by decide +kernel
theorem dX7_chainAt_5 : decode cX7_chainAt 5 = .ok (.aload_n 0, 1) := by decide +kernel
theorem dX7_chainAt_6 : decode cX7_chainAt 6 = .ok (.getfield 257, 3) := by decide +kernel
theorem dX7_chainAt_9 : decode cX7_chainAt 9 = .ok (.if_icmp .ge 26, 3) := by decide +kernel
theorem dX7_chainAt_12 : decode cX7_chainAt 12 = .ok (.iload_n 2, 1) := by decide +kernel
theorem dX7_chainAt_13 : decode cX7_chainAt 13 = .ok (.aload_n 0, 1) := by decide +kernel
theorem dX7_chainAt_14 : decode cX7_chainAt 14 = .ok (.iload_n 3, 1) := by decide +kernel
theorem dX7_chainAt_15 : decode cX7_chainAt 15 = .ok (.iload_n 1, 1) := by decide +kernel
theorem dX7_chainAt_16 : decode cX7_chainAt 16 = .ok (.invokevirtual 367, 3) := by decide +kernel
theorem dX7_chainAt_19 : decode cX7_chainAt 19 = .ok (.ifCond .eq 7, 3) := by decide +kernel
theorem dX7_chainAt_22 : decode cX7_chainAt 22 = .ok (.iconst 1, 1) := by decide +kernel
theorem dX7_chainAt_23 : decode cX7_chainAt 23 = .ok (.goto 4, 3) := by decide +kernel
theorem dX7_chainAt_26 : decode cX7_chainAt 26 = .ok (.iconst 0, 1) := by decide +kernel
theorem dX7_chainAt_27 : decode cX7_chainAt 27 = .ok (.iadd, 1) := by decide +kernel
theorem dX7_chainAt_28 : decode cX7_chainAt 28 = .ok (.istore_n 2, 1) := by decide +kernel
theorem dX7_chainAt_29 : decode cX7_chainAt 29 = .ok (.iinc 3 1, 3) := by decide +kernel
theorem dX7_chainAt_32 : decode cX7_chainAt 32 = .ok (.goto (-28), 3) := by decide +kernel
theorem dX7_chainAt_35 : decode cX7_chainAt 35 = .ok (.iload_n 2, 1) := by decide +kernel
theorem dX7_chainAt_36 : decode cX7_chainAt 36 = .ok (.ireturn, 1) := by decide +kernel
theorem dX7_linkedAt_0 : decode cX7_linkedAt 0 = .ok (.iconst 0, 1) := by decide +kernel
theorem dX7_linkedAt_1 : decode cX7_linkedAt 1 = .ok (.istore_n 3, 1) := by decide +kernel
theorem dX7_linkedAt_2 : decode cX7_linkedAt 2 = .ok (.iconst 0, 1) := by decide +kernel
theorem dX7_linkedAt_3 : decode cX7_linkedAt 3 = .ok (.istore 4, 2) := by decide +kernel
theorem dX7_linkedAt_5 : decode cX7_linkedAt 5 = .ok (.iload 4, 2) := by decide +kernel
theorem dX7_linkedAt_7 : decode cX7_linkedAt 7 = .ok (.aload_n 0, 1) := by decide +kernel
theorem dX7_linkedAt_8 : decode cX7_linkedAt 8 = .ok (.getfield 257, 3) := by decide +kernel
theorem dX7_linkedAt_11 : decode cX7_linkedAt 11 = .ok (.if_icmp .ge 33, 3) := by decide +kernel
theorem dX7_linkedAt_14 : decode cX7_linkedAt 14 = .ok (.aload_n 0, 1) := by decide +kernel
theorem dX7_linkedAt_15 : decode cX7_linkedAt 15 = .ok (.iload 4, 2) := by decide +kernel
theorem dX7_linkedAt_17 : decode cX7_linkedAt 17 = .ok (.iload_n 1, 1) := by decide +kernel
theorem dX7_linkedAt_18 : decode cX7_linkedAt 18 = .ok (.invokevirtual 367, 3) := by decide +kernel
theorem dX7_linkedAt_21 : decode cX7_linkedAt 21 = .ok (.ifCond .ne 6, 3) := by decide +kernel
theorem dX7_linkedAt_24 : decode cX7_linkedAt 24 = .ok (.goto 14, 3) := by decide +kernel
theorem dX7_linkedAt_27 : decode cX7_linkedAt 27 = .ok (.iload_n 3, 1) := by decide +kernel
theorem dX7_linkedAt_28 : decode cX7_linkedAt 28 = .ok (.iload_n 2, 1) := by decide +kernel
theorem dX7_linkedAt_29 : decode cX7_linkedAt 29 = .ok (.if_icmp .ne 6, 3) := by decide +kernel
theorem dX7_linkedAt_32 : decode cX7_linkedAt 32 = .ok (.iload 4, 2) := by decide +kernel
theorem dX7_linkedAt_34 : decode cX7_linkedAt 34 = .ok (.ireturn, 1) := by decide +kernel
theorem dX7_linkedAt_35 : decode cX7_linkedAt 35 = .ok (.iinc 3 1, 3) := by decide +kernel
theorem dX7_linkedAt_38 : decode cX7_linkedAt 38 = .ok (.iinc 4 1, 3) := by decide +kernel
theorem dX7_linkedAt_41 : decode cX7_linkedAt 41 = .ok (.goto (-36), 3) := by decide +kernel
theorem dX7_linkedAt_44 : decode cX7_linkedAt 44 = .ok (.iconst (-1), 1) := by decide +kernel
theorem dX7_linkedAt_45 : decode cX7_linkedAt 45 = .ok (.ireturn, 1) := by decide +kernel
theorem dX7_chain_0 : decode cX7_chain 0 = .ok (.aload_n 0, 1) := by decide +kernel
theorem dX7_chain_1 : decode cX7_chain 1 = .ok (.iload_n 1, 1) := by decide +kernel
theorem dX7_chain_2 : decode cX7_chain 2 = .ok (.invokevirtual 323, 3) := by decide +kernel
theorem dX7_chain_5 : decode cX7_chain 5 = .ok (.ifCond .eq 11, 3) := by decide +kernel
theorem dX7_chain_8 : decode cX7_chain 8 = .ok (.aload_n 0, 1) := by decide +kernel
theorem dX7_chain_9 : decode cX7_chain 9 = .ok (.iload_n 1, 1) := by decide +kernel
theorem dX7_chain_10 : decode cX7_chain 10 = .ok (.invokevirtual 370, 3) := by decide +kernel
theorem dX7_chain_13 : decode cX7_chain 13 = .ok (.goto 5, 3) := by decide +kernel
theorem dX7_chain_16 : decode cX7_chain 16 = .ok (.bipush (-2), 2) := by decide +kernel
theorem dX7_chain_18 : decode cX7_chain 18 = .ok (.ireturn, 1) := by decide +kernel
theorem dX7_linked_0 : decode cX7_linked 0 = .ok (.aload_n 0, 1) := by decide +kernel
theorem dX7_linked_1 : decode cX7_linked 1 = .ok (.iload_n 1, 1) := by decide +kernel
theorem dX7_linked_2 : decode cX7_linked 2 = .ok (.invokevirtual 323, 3) := by decide +kernel
theorem dX7_linked_5 : decode cX7_linked 5 = .ok (.ifCond .eq 16, 3) := by decide +kernel
theorem dX7_linked_8 : decode cX7_linked 8 = .ok (.iload_n 2, 1) := by decide +kernel
theorem dX7_linked_9 : decode cX7_linked 9 = .ok (.ifCond .lt 12, 3) := by decide +kernel
theorem dX7_linked_12 : decode cX7_linked 12 = .ok (.aload_n 0, 1) := by decide +kernel
theorem dX7_linked_13 : decode cX7_linked 13 = .ok (.iload_n 1, 1) := by decide +kernel
theorem dX7_linked_14 : decode cX7_linked 14 = .ok (.iload_n 2, 1) := by decide +kernel
theorem dX7_linked_15 : decode cX7_linked 15 = .ok (.invokevirtual 373, 3) := by decide +kernel
theorem dX7_linked_18 : decode cX7_linked 18 = .ok (.goto 5, 3) := by decide +kernel
theorem dX7_linked_21 : decode cX7_linked 21 = .ok (.bipush (-2), 2) := by decide +kernel
theorem dX7_linked_23 : decode cX7_linked 23 = .ok (.ireturn, 1) := by decide +kernel
theorem dX7_replayFrom_0 : decode cX7_replayFrom 0 = .ok (.aload_n 0, 1) := by decide +kernel
theorem dX7_replayFrom_1 : decode cX7_replayFrom 1 = .ok (.iload_n 1, 1) := by decide +kernel
theorem dX7_replayFrom_2 : decode cX7_replayFrom 2 = .ok (.invokevirtual 370, 3) := by decide +kernel
theorem dX7_replayFrom_5 : decode cX7_replayFrom 5 = .ok (.istore_n 2, 1) := by decide +kernel
theorem dX7_replayFrom_6 : decode cX7_replayFrom 6 = .ok (.iload_n 2, 1) := by decide +kernel
theorem dX7_replayFrom_7 : decode cX7_replayFrom 7 = .ok (.ifCond .ne 7, 3) := by decide +kernel
theorem dX7_replayFrom_10 : decode cX7_replayFrom 10 = .ok (.iconst 0, 1) := by decide +kernel
theorem dX7_replayFrom_11 : decode cX7_replayFrom 11 = .ok (.goto 16, 3) := by decide +kernel
theorem dX7_replayFrom_14 : decode cX7_replayFrom 14 = .ok (.aload_n 0, 1) := by decide +kernel
theorem dX7_replayFrom_15 : decode cX7_replayFrom 15 = .ok (.getfield 46, 3) := by decide +kernel
theorem dX7_replayFrom_18 : decode cX7_replayFrom 18 = .ok (.aload_n 0, 1) := by decide +kernel
theorem dX7_replayFrom_19 : decode cX7_replayFrom 19 = .ok (.iload_n 1, 1) := by decide +kernel
theorem dX7_replayFrom_20 : decode cX7_replayFrom 20 = .ok (.iload_n 2, 1) := by decide +kernel
theorem dX7_replayFrom_21 : decode cX7_replayFrom 21 = .ok (.iconst 1, 1) := by decide +kernel
theorem dX7_replayFrom_22 : decode cX7_replayFrom 22 = .ok (.isub, 1) := by decide +kernel
theorem dX7_replayFrom_23 : decode cX7_replayFrom 23 = .ok (.invokevirtual 373, 3) := by decide +kernel
theorem dX7_replayFrom_26 : decode cX7_replayFrom 26 = .ok (.iaload, 1) := by decide +kernel
theorem dX7_replayFrom_27 : decode cX7_replayFrom 27 = .ok (.ireturn, 1) := by decide +kernel
theorem dX7_replays_0 : decode cX7_replays 0 = .ok (.aload_n 0, 1) := by decide +kernel
theorem dX7_replays_1 : decode cX7_replays 1 = .ok (.iload_n 1, 1) := by decide +kernel
theorem dX7_replays_2 : decode cX7_replays 2 = .ok (.invokevirtual 323, 3) := by decide +kernel
theorem dX7_replays_5 : decode cX7_replays 5 = .ok (.ifCond .ne 6, 3) := by decide +kernel
theorem dX7_replays_8 : decode cX7_replays 8 = .ok (.bipush (-2), 2) := by decide +kernel
theorem dX7_replays_10 : decode cX7_replays 10 = .ok (.ireturn, 1) := by decide +kernel
theorem dX7_replays_11 : decode cX7_replays 11 = .ok (.iconst 0, 1) := by decide +kernel
theorem dX7_replays_12 : decode cX7_replays 12 = .ok (.istore_n 2, 1) := by decide +kernel
theorem dX7_replays_13 : decode cX7_replays 13 = .ok (.aload_n 0, 1) := by decide +kernel
theorem dX7_replays_14 : decode cX7_replays 14 = .ok (.iload_n 1, 1) := by decide +kernel
theorem dX7_replays_15 : decode cX7_replays 15 = .ok (.invokevirtual 376, 3) := by decide +kernel
theorem dX7_replays_18 : decode cX7_replays 18 = .ok (.istore_n 3, 1) := by decide +kernel
theorem dX7_replays_19 : decode cX7_replays 19 = .ok (.iload_n 3, 1) := by decide +kernel
theorem dX7_replays_20 : decode cX7_replays 20 = .ok (.iload_n 1, 1) := by decide +kernel
theorem dX7_replays_21 : decode cX7_replays 21 = .ok (.if_icmp .ge 25, 3) := by decide +kernel
theorem dX7_replays_24 : decode cX7_replays 24 = .ok (.iload_n 2, 1) := by decide +kernel
theorem dX7_replays_25 : decode cX7_replays 25 = .ok (.aload_n 0, 1) := by decide +kernel
theorem dX7_replays_26 : decode cX7_replays 26 = .ok (.iload_n 3, 1) := by decide +kernel
theorem dX7_replays_27 : decode cX7_replays 27 = .ok (.invokevirtual 249, 3) := by decide +kernel
theorem dX7_replays_30 : decode cX7_replays 30 = .ok (.ifCond .eq 7, 3) := by decide +kernel
theorem dX7_replays_33 : decode cX7_replays 33 = .ok (.iconst 1, 1) := by decide +kernel
theorem dX7_replays_34 : decode cX7_replays 34 = .ok (.goto 4, 3) := by decide +kernel
theorem dX7_replays_37 : decode cX7_replays 37 = .ok (.iconst 0, 1) := by decide +kernel
theorem dX7_replays_38 : decode cX7_replays 38 = .ok (.iadd, 1) := by decide +kernel
theorem dX7_replays_39 : decode cX7_replays 39 = .ok (.istore_n 2, 1) := by decide +kernel
theorem dX7_replays_40 : decode cX7_replays 40 = .ok (.iinc 3 1, 3) := by decide +kernel
theorem dX7_replays_43 : decode cX7_replays 43 = .ok (.goto (-24), 3) := by decide +kernel
theorem dX7_replays_46 : decode cX7_replays 46 = .ok (.iload_n 2, 1) := by decide +kernel
theorem dX7_replays_47 : decode cX7_replays 47 = .ok (.ireturn, 1) := by decide +kernel
theorem dX7_sourceAt_0 : decode cX7_sourceAt 0 = .ok (.aload_n 0, 1) := by decide +kernel
theorem dX7_sourceAt_1 : decode cX7_sourceAt 1 = .ok (.iload_n 2, 1) := by decide +kernel
theorem dX7_sourceAt_2 : decode cX7_sourceAt 2 = .ok (.invokevirtual 370, 3) := by decide +kernel
theorem dX7_sourceAt_5 : decode cX7_sourceAt 5 = .ok (.iconst 1, 1) := by decide +kernel
theorem dX7_sourceAt_6 : decode cX7_sourceAt 6 = .ok (.isub, 1) := by decide +kernel
theorem dX7_sourceAt_7 : decode cX7_sourceAt 7 = .ok (.istore_n 3, 1) := by decide +kernel
theorem dX7_sourceAt_8 : decode cX7_sourceAt 8 = .ok (.iload_n 3, 1) := by decide +kernel
theorem dX7_sourceAt_9 : decode cX7_sourceAt 9 = .ok (.ifCond .lt 36, 3) := by decide +kernel
theorem dX7_sourceAt_12 : decode cX7_sourceAt 12 = .ok (.aload_n 0, 1) := by decide +kernel
theorem dX7_sourceAt_13 : decode cX7_sourceAt 13 = .ok (.iload_n 2, 1) := by decide +kernel
theorem dX7_sourceAt_14 : decode cX7_sourceAt 14 = .ok (.iload_n 3, 1) := by decide +kernel
theorem dX7_sourceAt_15 : decode cX7_sourceAt 15 = .ok (.invokevirtual 373, 3) := by decide +kernel
theorem dX7_sourceAt_18 : decode cX7_sourceAt 18 = .ok (.istore 4, 2) := by decide +kernel
theorem dX7_sourceAt_20 : decode cX7_sourceAt 20 = .ok (.aload_n 0, 1) := by decide +kernel
theorem dX7_sourceAt_21 : decode cX7_sourceAt 21 = .ok (.getfield 64, 3) := by decide +kernel
theorem dX7_sourceAt_24 : decode cX7_sourceAt 24 = .ok (.bipush 32, 2) := by decide +kernel
theorem dX7_sourceAt_26 : decode cX7_sourceAt 26 = .ok (.iload 4, 2) := by decide +kernel
theorem dX7_sourceAt_28 : decode cX7_sourceAt 28 = .ok (.imul, 1) := by decide +kernel
theorem dX7_sourceAt_29 : decode cX7_sourceAt 29 = .ok (.iload_n 1, 1) := by decide +kernel
theorem dX7_sourceAt_30 : decode cX7_sourceAt 30 = .ok (.iadd, 1) := by decide +kernel
theorem dX7_sourceAt_31 : decode cX7_sourceAt 31 = .ok (.iaload, 1) := by decide +kernel
theorem dX7_sourceAt_32 : decode cX7_sourceAt 32 = .ok (.iconst (-1), 1) := by decide +kernel
theorem dX7_sourceAt_33 : decode cX7_sourceAt 33 = .ok (.if_icmp .eq 6, 3) := by decide +kernel
theorem dX7_sourceAt_36 : decode cX7_sourceAt 36 = .ok (.iload 4, 2) := by decide +kernel
theorem dX7_sourceAt_38 : decode cX7_sourceAt 38 = .ok (.ireturn, 1) := by decide +kernel
theorem dX7_sourceAt_39 : decode cX7_sourceAt 39 = .ok (.iinc 3 (-1), 3) := by decide +kernel
theorem dX7_sourceAt_42 : decode cX7_sourceAt 42 = .ok (.goto (-34), 3) := by decide +kernel
theorem dX7_sourceAt_45 : decode cX7_sourceAt 45 = .ok (.iconst (-1), 1) := by decide +kernel
theorem dX7_sourceAt_46 : decode cX7_sourceAt 46 = .ok (.ireturn, 1) := by decide +kernel
theorem dX7_raisedAt_0 : decode cX7_raisedAt 0 = .ok (.aload_n 0, 1) := by decide +kernel
theorem dX7_raisedAt_1 : decode cX7_raisedAt 1 = .ok (.iload_n 1, 1) := by decide +kernel
theorem dX7_raisedAt_2 : decode cX7_raisedAt 2 = .ok (.iload_n 2, 1) := by decide +kernel
theorem dX7_raisedAt_3 : decode cX7_raisedAt 3 = .ok (.invokevirtual 379, 3) := by decide +kernel
theorem dX7_raisedAt_6 : decode cX7_raisedAt 6 = .ok (.istore_n 3, 1) := by decide +kernel
theorem dX7_raisedAt_7 : decode cX7_raisedAt 7 = .ok (.iload_n 3, 1) := by decide +kernel
theorem dX7_raisedAt_8 : decode cX7_raisedAt 8 = .ok (.iconst (-1), 1) := by decide +kernel
theorem dX7_raisedAt_9 : decode cX7_raisedAt 9 = .ok (.if_icmp .ne 7, 3) := by decide +kernel
theorem dX7_raisedAt_12 : decode cX7_raisedAt 12 = .ok (.iconst 0, 1) := by decide +kernel
theorem dX7_raisedAt_13 : decode cX7_raisedAt 13 = .ok (.goto 14, 3) := by decide +kernel
theorem dX7_raisedAt_16 : decode cX7_raisedAt 16 = .ok (.aload_n 0, 1) := by decide +kernel
theorem dX7_raisedAt_17 : decode cX7_raisedAt 17 = .ok (.iload_n 1, 1) := by decide +kernel
theorem dX7_raisedAt_18 : decode cX7_raisedAt 18 = .ok (.aload_n 0, 1) := by decide +kernel
theorem dX7_raisedAt_19 : decode cX7_raisedAt 19 = .ok (.getfield 46, 3) := by decide +kernel
theorem dX7_raisedAt_22 : decode cX7_raisedAt 22 = .ok (.iload_n 3, 1) := by decide +kernel
theorem dX7_raisedAt_23 : decode cX7_raisedAt 23 = .ok (.iaload, 1) := by decide +kernel
theorem dX7_raisedAt_24 : decode cX7_raisedAt 24 = .ok (.invokevirtual 337, 3) := by decide +kernel
theorem dX7_raisedAt_27 : decode cX7_raisedAt 27 = .ok (.ireturn, 1) := by decide +kernel
theorem dX7_raised_0 : decode cX7_raised 0 = .ok (.aload_n 0, 1) := by decide +kernel
theorem dX7_raised_1 : decode cX7_raised 1 = .ok (.iload_n 1, 1) := by decide +kernel
theorem dX7_raised_2 : decode cX7_raised 2 = .ok (.iload_n 2, 1) := by decide +kernel
theorem dX7_raised_3 : decode cX7_raised 3 = .ok (.invokevirtual 334, 3) := by decide +kernel
theorem dX7_raised_6 : decode cX7_raised 6 = .ok (.ifCond .eq 12, 3) := by decide +kernel
theorem dX7_raised_9 : decode cX7_raised 9 = .ok (.aload_n 0, 1) := by decide +kernel
theorem dX7_raised_10 : decode cX7_raised 10 = .ok (.iload_n 1, 1) := by decide +kernel
theorem dX7_raised_11 : decode cX7_raised 11 = .ok (.iload_n 2, 1) := by decide +kernel
theorem dX7_raised_12 : decode cX7_raised 12 = .ok (.invokevirtual 382, 3) := by decide +kernel
theorem dX7_raised_15 : decode cX7_raised 15 = .ok (.goto 5, 3) := by decide +kernel
theorem dX7_raised_18 : decode cX7_raised 18 = .ok (.bipush (-2), 2) := by decide +kernel
theorem dX7_raised_20 : decode cX7_raised 20 = .ok (.ireturn, 1) := by decide +kernel
theorem dX7_restored_0 : decode cX7_restored 0 = .ok (.aload_n 0, 1) := by decide +kernel
theorem dX7_restored_1 : decode cX7_restored 1 = .ok (.iload_n 1, 1) := by decide +kernel
theorem dX7_restored_2 : decode cX7_restored 2 = .ok (.iload_n 2, 1) := by decide +kernel
theorem dX7_restored_3 : decode cX7_restored 3 = .ok (.invokevirtual 334, 3) := by decide +kernel
theorem dX7_restored_6 : decode cX7_restored 6 = .ok (.ifCond .ne 6, 3) := by decide +kernel
theorem dX7_restored_9 : decode cX7_restored 9 = .ok (.bipush (-2), 2) := by decide +kernel
theorem dX7_restored_11 : decode cX7_restored 11 = .ok (.ireturn, 1) := by decide +kernel
theorem dX7_restored_12 : decode cX7_restored 12 = .ok (.iconst 0, 1) := by decide +kernel
theorem dX7_restored_13 : decode cX7_restored 13 = .ok (.istore_n 3, 1) := by decide +kernel
theorem dX7_restored_14 : decode cX7_restored 14 = .ok (.iload_n 3, 1) := by decide +kernel
theorem dX7_restored_15 : decode cX7_restored 15 = .ok (.aload_n 0, 1) := by decide +kernel
theorem dX7_restored_16 : decode cX7_restored 16 = .ok (.invokevirtual 107, 3) := by decide +kernel
theorem dX7_restored_19 : decode cX7_restored 19 = .ok (.if_icmp .ge 21, 3) := by decide +kernel
theorem dX7_restored_22 : decode cX7_restored 22 = .ok (.aload_n 0, 1) := by decide +kernel
theorem dX7_restored_23 : decode cX7_restored 23 = .ok (.getfield 73, 3) := by decide +kernel
theorem dX7_restored_26 : decode cX7_restored 26 = .ok (.iload_n 3, 1) := by decide +kernel
theorem dX7_restored_27 : decode cX7_restored 27 = .ok (.aload_n 0, 1) := by decide +kernel
theorem dX7_restored_28 : decode cX7_restored 28 = .ok (.iload_n 3, 1) := by decide +kernel
theorem dX7_restored_29 : decode cX7_restored 29 = .ok (.iload_n 2, 1) := by decide +kernel
theorem dX7_restored_30 : decode cX7_restored 30 = .ok (.invokevirtual 382, 3) := by decide +kernel
theorem dX7_restored_33 : decode cX7_restored 33 = .ok (.iastore, 1) := by decide +kernel
theorem dX7_restored_34 : decode cX7_restored 34 = .ok (.iinc 3 1, 3) := by decide +kernel
theorem dX7_restored_37 : decode cX7_restored 37 = .ok (.goto (-23), 3) := by decide +kernel
theorem dX7_restored_40 : decode cX7_restored 40 = .ok (.aload_n 0, 1) := by decide +kernel
theorem dX7_restored_41 : decode cX7_restored 41 = .ok (.iload_n 2, 1) := by decide +kernel
theorem dX7_restored_42 : decode cX7_restored 42 = .ok (.invokevirtual 376, 3) := by decide +kernel
theorem dX7_restored_45 : decode cX7_restored 45 = .ok (.istore_n 3, 1) := by decide +kernel
theorem dX7_restored_46 : decode cX7_restored 46 = .ok (.iload_n 3, 1) := by decide +kernel
theorem dX7_restored_47 : decode cX7_restored 47 = .ok (.iload_n 2, 1) := by decide +kernel
theorem dX7_restored_48 : decode cX7_restored 48 = .ok (.if_icmp .ge 27, 3) := by decide +kernel
theorem dX7_restored_51 : decode cX7_restored 51 = .ok (.aload_n 0, 1) := by decide +kernel
theorem dX7_restored_52 : decode cX7_restored 52 = .ok (.iload_n 3, 1) := by decide +kernel
theorem dX7_restored_53 : decode cX7_restored 53 = .ok (.invokevirtual 249, 3) := by decide +kernel
theorem dX7_restored_56 : decode cX7_restored 56 = .ok (.ifCond .eq 13, 3) := by decide +kernel
theorem dX7_restored_59 : decode cX7_restored 59 = .ok (.aload_n 0, 1) := by decide +kernel
theorem dX7_restored_60 : decode cX7_restored 60 = .ok (.iload_n 3, 1) := by decide +kernel
theorem dX7_restored_61 : decode cX7_restored 61 = .ok (.aload_n 0, 1) := by decide +kernel
theorem dX7_restored_62 : decode cX7_restored 62 = .ok (.getfield 73, 3) := by decide +kernel
theorem dX7_restored_65 : decode cX7_restored 65 = .ok (.iconst 0, 1) := by decide +kernel
theorem dX7_restored_66 : decode cX7_restored 66 = .ok (.invokevirtual 253, 3) := by decide +kernel
theorem dX7_restored_69 : decode cX7_restored 69 = .ok (.iinc 3 1, 3) := by decide +kernel
theorem dX7_restored_72 : decode cX7_restored 72 = .ok (.goto (-26), 3) := by decide +kernel
theorem dX7_restored_75 : decode cX7_restored 75 = .ok (.aload_n 0, 1) := by decide +kernel
theorem dX7_restored_76 : decode cX7_restored 76 = .ok (.getfield 73, 3) := by decide +kernel
theorem dX7_restored_79 : decode cX7_restored 79 = .ok (.iload_n 1, 1) := by decide +kernel
theorem dX7_restored_80 : decode cX7_restored 80 = .ok (.iaload, 1) := by decide +kernel
theorem dX7_restored_81 : decode cX7_restored 81 = .ok (.ireturn, 1) := by decide +kernel
theorem dX7_doubled_0 : decode cX7_doubled 0 = .ok (.aload_n 0, 1) := by decide +kernel
theorem dX7_doubled_1 : decode cX7_doubled 1 = .ok (.iload_n 1, 1) := by decide +kernel
theorem dX7_doubled_2 : decode cX7_doubled 2 = .ok (.invokevirtual 323, 3) := by decide +kernel
theorem dX7_doubled_5 : decode cX7_doubled 5 = .ok (.ifCond .ne 6, 3) := by decide +kernel
theorem dX7_doubled_8 : decode cX7_doubled 8 = .ok (.bipush (-2), 2) := by decide +kernel
theorem dX7_doubled_10 : decode cX7_doubled 10 = .ok (.ireturn, 1) := by decide +kernel
theorem dX7_doubled_11 : decode cX7_doubled 11 = .ok (.iconst 0, 1) := by decide +kernel
theorem dX7_doubled_12 : decode cX7_doubled 12 = .ok (.istore_n 2, 1) := by decide +kernel
theorem dX7_doubled_13 : decode cX7_doubled 13 = .ok (.iconst 0, 1) := by decide +kernel
theorem dX7_doubled_14 : decode cX7_doubled 14 = .ok (.istore_n 3, 1) := by decide +kernel
theorem dX7_doubled_15 : decode cX7_doubled 15 = .ok (.iload_n 3, 1) := by decide +kernel
theorem dX7_doubled_16 : decode cX7_doubled 16 = .ok (.aload_n 0, 1) := by decide +kernel
theorem dX7_doubled_17 : decode cX7_doubled 17 = .ok (.getfield 257, 3) := by decide +kernel
theorem dX7_doubled_20 : decode cX7_doubled 20 = .ok (.if_icmp .ge 71, 3) := by decide +kernel
theorem dX7_doubled_23 : decode cX7_doubled 23 = .ok (.iconst 0, 1) := by decide +kernel
theorem dX7_doubled_24 : decode cX7_doubled 24 = .ok (.istore 4, 2) := by decide +kernel
theorem dX7_doubled_26 : decode cX7_doubled 26 = .ok (.iload 4, 2) := by decide +kernel
theorem dX7_doubled_28 : decode cX7_doubled 28 = .ok (.aload_n 0, 1) := by decide +kernel
theorem dX7_doubled_29 : decode cX7_doubled 29 = .ok (.invokevirtual 107, 3) := by decide +kernel
theorem dX7_doubled_32 : decode cX7_doubled 32 = .ok (.if_icmp .ge 53, 3) := by decide +kernel
theorem dX7_doubled_35 : decode cX7_doubled 35 = .ok (.iload_n 2, 1) := by decide +kernel
theorem dX7_doubled_36 : decode cX7_doubled 36 = .ok (.aload_n 0, 1) := by decide +kernel
theorem dX7_doubled_37 : decode cX7_doubled 37 = .ok (.iload_n 3, 1) := by decide +kernel
theorem dX7_doubled_38 : decode cX7_doubled 38 = .ok (.iload_n 1, 1) := by decide +kernel
theorem dX7_doubled_39 : decode cX7_doubled 39 = .ok (.invokevirtual 367, 3) := by decide +kernel
theorem dX7_doubled_42 : decode cX7_doubled 42 = .ok (.ifCond .eq 34, 3) := by decide +kernel
theorem dX7_doubled_45 : decode cX7_doubled 45 = .ok (.aload_n 0, 1) := by decide +kernel
theorem dX7_doubled_46 : decode cX7_doubled 46 = .ok (.getfield 64, 3) := by decide +kernel
theorem dX7_doubled_49 : decode cX7_doubled 49 = .ok (.bipush 32, 2) := by decide +kernel
theorem dX7_doubled_51 : decode cX7_doubled 51 = .ok (.iload_n 3, 1) := by decide +kernel
theorem dX7_doubled_52 : decode cX7_doubled 52 = .ok (.imul, 1) := by decide +kernel
theorem dX7_doubled_53 : decode cX7_doubled 53 = .ok (.iload 4, 2) := by decide +kernel
theorem dX7_doubled_55 : decode cX7_doubled 55 = .ok (.iadd, 1) := by decide +kernel
theorem dX7_doubled_56 : decode cX7_doubled 56 = .ok (.iaload, 1) := by decide +kernel
theorem dX7_doubled_57 : decode cX7_doubled 57 = .ok (.iconst (-1), 1) := by decide +kernel
theorem dX7_doubled_58 : decode cX7_doubled 58 = .ok (.if_icmp .eq 18, 3) := by decide +kernel
theorem dX7_doubled_61 : decode cX7_doubled 61 = .ok (.aload_n 0, 1) := by decide +kernel
theorem dX7_doubled_62 : decode cX7_doubled 62 = .ok (.iload 4, 2) := by decide +kernel
theorem dX7_doubled_64 : decode cX7_doubled 64 = .ok (.iload_n 1, 1) := by decide +kernel
theorem dX7_doubled_65 : decode cX7_doubled 65 = .ok (.invokevirtual 379, 3) := by decide +kernel
theorem dX7_doubled_68 : decode cX7_doubled 68 = .ok (.iload_n 3, 1) := by decide +kernel
theorem dX7_doubled_69 : decode cX7_doubled 69 = .ok (.if_icmp .eq 7, 3) := by decide +kernel
theorem dX7_doubled_72 : decode cX7_doubled 72 = .ok (.iconst 1, 1) := by decide +kernel
theorem dX7_doubled_73 : decode cX7_doubled 73 = .ok (.goto 4, 3) := by decide +kernel
theorem dX7_doubled_76 : decode cX7_doubled 76 = .ok (.iconst 0, 1) := by decide +kernel
theorem dX7_doubled_77 : decode cX7_doubled 77 = .ok (.iadd, 1) := by decide +kernel
theorem dX7_doubled_78 : decode cX7_doubled 78 = .ok (.istore_n 2, 1) := by decide +kernel
theorem dX7_doubled_79 : decode cX7_doubled 79 = .ok (.iinc 4 1, 3) := by decide +kernel
theorem dX7_doubled_82 : decode cX7_doubled 82 = .ok (.goto (-56), 3) := by decide +kernel
theorem dX7_doubled_85 : decode cX7_doubled 85 = .ok (.iinc 3 1, 3) := by decide +kernel
theorem dX7_doubled_88 : decode cX7_doubled 88 = .ok (.goto (-73), 3) := by decide +kernel
theorem dX7_doubled_91 : decode cX7_doubled 91 = .ok (.iload_n 2, 1) := by decide +kernel
theorem dX7_doubled_92 : decode cX7_doubled 92 = .ok (.ireturn, 1) := by decide +kernel
theorem dX7_source_0 : decode cX7_source 0 = .ok (.aload_n 0, 1) := by decide +kernel
theorem dX7_source_1 : decode cX7_source 1 = .ok (.iload_n 1, 1) := by decide +kernel
theorem dX7_source_2 : decode cX7_source 2 = .ok (.iload_n 2, 1) := by decide +kernel
theorem dX7_source_3 : decode cX7_source 3 = .ok (.invokevirtual 334, 3) := by decide +kernel
theorem dX7_source_6 : decode cX7_source 6 = .ok (.ifCond .eq 12, 3) := by decide +kernel
theorem dX7_source_9 : decode cX7_source 9 = .ok (.aload_n 0, 1) := by decide +kernel
theorem dX7_source_10 : decode cX7_source 10 = .ok (.iload_n 1, 1) := by decide +kernel
theorem dX7_source_11 : decode cX7_source 11 = .ok (.iload_n 2, 1) := by decide +kernel
theorem dX7_source_12 : decode cX7_source 12 = .ok (.invokevirtual 379, 3) := by decide +kernel
theorem dX7_source_15 : decode cX7_source 15 = .ok (.goto 5, 3) := by decide +kernel
theorem dX7_source_18 : decode cX7_source 18 = .ok (.bipush (-2), 2) := by decide +kernel
theorem dX7_source_20 : decode cX7_source 20 = .ok (.ireturn, 1) := by decide +kernel
theorem dX7_age_0 : decode cX7_age 0 = .ok (.aload_n 0, 1) := by decide +kernel
theorem dX7_age_1 : decode cX7_age 1 = .ok (.iload_n 1, 1) := by decide +kernel
theorem dX7_age_2 : decode cX7_age 2 = .ok (.invokevirtual 323, 3) := by decide +kernel
theorem dX7_age_5 : decode cX7_age 5 = .ok (.ifCond .eq 13, 3) := by decide +kernel
theorem dX7_age_8 : decode cX7_age 8 = .ok (.iload_n 1, 1) := by decide +kernel
theorem dX7_age_9 : decode cX7_age 9 = .ok (.aload_n 0, 1) := by decide +kernel
theorem dX7_age_10 : decode cX7_age 10 = .ok (.iload_n 1, 1) := by decide +kernel
theorem dX7_age_11 : decode cX7_age 11 = .ok (.invokevirtual 376, 3) := by decide +kernel
theorem dX7_age_14 : decode cX7_age 14 = .ok (.isub, 1) := by decide +kernel
theorem dX7_age_15 : decode cX7_age 15 = .ok (.goto 5, 3) := by decide +kernel
theorem dX7_age_18 : decode cX7_age 18 = .ok (.bipush (-2), 2) := by decide +kernel
theorem dX7_age_20 : decode cX7_age 20 = .ok (.ireturn, 1) := by decide +kernel
theorem dX7_worst_0 : decode cX7_worst 0 = .ok (.aload_n 0, 1) := by decide +kernel
theorem dX7_worst_1 : decode cX7_worst 1 = .ok (.invokevirtual 316, 3) := by decide +kernel
theorem dX7_worst_4 : decode cX7_worst 4 = .ok (.ifCond .ne 6, 3) := by decide +kernel
theorem dX7_worst_7 : decode cX7_worst 7 = .ok (.bipush (-2), 2) := by decide +kernel
theorem dX7_worst_9 : decode cX7_worst 9 = .ok (.ireturn, 1) := by decide +kernel
theorem dX7_worst_10 : decode cX7_worst 10 = .ok (.iconst 0, 1) := by decide +kernel
theorem dX7_worst_11 : decode cX7_worst 11 = .ok (.istore_n 1, 1) := by decide +kernel
theorem dX7_worst_12 : decode cX7_worst 12 = .ok (.iconst 1, 1) := by decide +kernel
theorem dX7_worst_13 : decode cX7_worst 13 = .ok (.istore_n 2, 1) := by decide +kernel
theorem dX7_worst_14 : decode cX7_worst 14 = .ok (.iload_n 2, 1) := by decide +kernel
theorem dX7_worst_15 : decode cX7_worst 15 = .ok (.aload_n 0, 1) := by decide +kernel
theorem dX7_worst_16 : decode cX7_worst 16 = .ok (.invokevirtual 111, 3) := by decide +kernel
theorem dX7_worst_19 : decode cX7_worst 19 = .ok (.if_icmp .gt 28, 3) := by decide +kernel
theorem dX7_worst_22 : decode cX7_worst 22 = .ok (.iload_n 2, 1) := by decide +kernel
theorem dX7_worst_23 : decode cX7_worst 23 = .ok (.aload_n 0, 1) := by decide +kernel
theorem dX7_worst_24 : decode cX7_worst 24 = .ok (.iload_n 2, 1) := by decide +kernel
theorem dX7_worst_25 : decode cX7_worst 25 = .ok (.invokevirtual 376, 3) := by decide +kernel
theorem dX7_worst_28 : decode cX7_worst 28 = .ok (.isub, 1) := by decide +kernel
theorem dX7_worst_29 : decode cX7_worst 29 = .ok (.iload_n 1, 1) := by decide +kernel
theorem dX7_worst_30 : decode cX7_worst 30 = .ok (.aload_n 0, 1) := by decide +kernel
theorem dX7_worst_31 : decode cX7_worst 31 = .ok (.iload_n 1, 1) := by decide +kernel
theorem dX7_worst_32 : decode cX7_worst 32 = .ok (.invokevirtual 376, 3) := by decide +kernel
theorem dX7_worst_35 : decode cX7_worst 35 = .ok (.isub, 1) := by decide +kernel
theorem dX7_worst_36 : decode cX7_worst 36 = .ok (.if_icmp .le 5, 3) := by decide +kernel
theorem dX7_worst_39 : decode cX7_worst 39 = .ok (.iload_n 2, 1) := by decide +kernel
theorem dX7_worst_40 : decode cX7_worst 40 = .ok (.istore_n 1, 1) := by decide +kernel
theorem dX7_worst_41 : decode cX7_worst 41 = .ok (.iinc 2 1, 3) := by decide +kernel
theorem dX7_worst_44 : decode cX7_worst 44 = .ok (.goto (-30), 3) := by decide +kernel
theorem dX7_worst_47 : decode cX7_worst 47 = .ok (.iload_n 1, 1) := by decide +kernel
theorem dX7_worst_48 : decode cX7_worst 48 = .ok (.ireturn, 1) := by decide +kernel
theorem dX7_differAt_0 : decode cX7_differAt 0 = .ok (.iconst 0, 1) := by decide +kernel
theorem dX7_differAt_1 : decode cX7_differAt 1 = .ok (.istore_n 3, 1) := by decide +kernel
theorem dX7_differAt_2 : decode cX7_differAt 2 = .ok (.iconst 0, 1) := by decide +kernel
theorem dX7_differAt_3 : decode cX7_differAt 3 = .ok (.istore 4, 2) := by decide +kernel
theorem dX7_differAt_5 : decode cX7_differAt 5 = .ok (.iload 4, 2) := by decide +kernel
theorem dX7_differAt_7 : decode cX7_differAt 7 = .ok (.aload_n 0, 1) := by decide +kernel
theorem dX7_differAt_8 : decode cX7_differAt 8 = .ok (.invokevirtual 107, 3) := by decide +kernel
theorem dX7_differAt_11 : decode cX7_differAt 11 = .ok (.if_icmp .ge 34, 3) := by decide +kernel
theorem dX7_differAt_14 : decode cX7_differAt 14 = .ok (.iload_n 3, 1) := by decide +kernel
theorem dX7_differAt_15 : decode cX7_differAt 15 = .ok (.aload_n 0, 1) := by decide +kernel
theorem dX7_differAt_16 : decode cX7_differAt 16 = .ok (.iload 4, 2) := by decide +kernel
theorem dX7_differAt_18 : decode cX7_differAt 18 = .ok (.iload_n 1, 1) := by decide +kernel
theorem dX7_differAt_19 : decode cX7_differAt 19 = .ok (.invokevirtual 337, 3) := by decide +kernel
theorem dX7_differAt_22 : decode cX7_differAt 22 = .ok (.aload_n 0, 1) := by decide +kernel
theorem dX7_differAt_23 : decode cX7_differAt 23 = .ok (.iload 4, 2) := by decide +kernel
theorem dX7_differAt_25 : decode cX7_differAt 25 = .ok (.iload_n 2, 1) := by decide +kernel
theorem dX7_differAt_26 : decode cX7_differAt 26 = .ok (.invokevirtual 337, 3) := by decide +kernel
theorem dX7_differAt_29 : decode cX7_differAt 29 = .ok (.if_icmp .eq 7, 3) := by decide +kernel
theorem dX7_differAt_32 : decode cX7_differAt 32 = .ok (.iconst 1, 1) := by decide +kernel
theorem dX7_differAt_33 : decode cX7_differAt 33 = .ok (.goto 4, 3) := by decide +kernel
theorem dX7_differAt_36 : decode cX7_differAt 36 = .ok (.iconst 0, 1) := by decide +kernel
theorem dX7_differAt_37 : decode cX7_differAt 37 = .ok (.iadd, 1) := by decide +kernel
theorem dX7_differAt_38 : decode cX7_differAt 38 = .ok (.istore_n 3, 1) := by decide +kernel
theorem dX7_differAt_39 : decode cX7_differAt 39 = .ok (.iinc 4 1, 3) := by decide +kernel
theorem dX7_differAt_42 : decode cX7_differAt 42 = .ok (.goto (-37), 3) := by decide +kernel
theorem dX7_differAt_45 : decode cX7_differAt 45 = .ok (.iload_n 3, 1) := by decide +kernel
theorem dX7_differAt_46 : decode cX7_differAt 46 = .ok (.ireturn, 1) := by decide +kernel
theorem dX7_differ_0 : decode cX7_differ 0 = .ok (.aload_n 0, 1) := by decide +kernel
theorem dX7_differ_1 : decode cX7_differ 1 = .ok (.iload_n 1, 1) := by decide +kernel
theorem dX7_differ_2 : decode cX7_differ 2 = .ok (.invokevirtual 323, 3) := by decide +kernel
theorem dX7_differ_5 : decode cX7_differ 5 = .ok (.ifCond .eq 21, 3) := by decide +kernel
theorem dX7_differ_8 : decode cX7_differ 8 = .ok (.aload_n 0, 1) := by decide +kernel
theorem dX7_differ_9 : decode cX7_differ 9 = .ok (.iload_n 2, 1) := by decide +kernel
theorem dX7_differ_10 : decode cX7_differ 10 = .ok (.i2l, 1) := by decide +kernel
theorem dX7_differ_11 : decode cX7_differ 11 = .ok (.invokevirtual 319, 3) := by decide +kernel
theorem dX7_differ_14 : decode cX7_differ 14 = .ok (.ifCond .eq 12, 3) := by decide +kernel
theorem dX7_differ_17 : decode cX7_differ 17 = .ok (.aload_n 0, 1) := by decide +kernel
theorem dX7_differ_18 : decode cX7_differ 18 = .ok (.iload_n 1, 1) := by decide +kernel
theorem dX7_differ_19 : decode cX7_differ 19 = .ok (.iload_n 2, 1) := by decide +kernel
theorem dX7_differ_20 : decode cX7_differ 20 = .ok (.invokevirtual 385, 3) := by decide +kernel
theorem dX7_differ_23 : decode cX7_differ 23 = .ok (.goto 5, 3) := by decide +kernel
theorem dX7_differ_26 : decode cX7_differ 26 = .ok (.bipush (-2), 2) := by decide +kernel
theorem dX7_differ_28 : decode cX7_differ 28 = .ok (.ireturn, 1) := by decide +kernel
theorem dX7_same_0 : decode cX7_same 0 = .ok (.aload_n 0, 1) := by decide +kernel
theorem dX7_same_1 : decode cX7_same 1 = .ok (.iload_n 1, 1) := by decide +kernel
theorem dX7_same_2 : decode cX7_same 2 = .ok (.invokevirtual 323, 3) := by decide +kernel
theorem dX7_same_5 : decode cX7_same 5 = .ok (.ifCond .ne 6, 3) := by decide +kernel
theorem dX7_same_8 : decode cX7_same 8 = .ok (.bipush (-2), 2) := by decide +kernel
theorem dX7_same_10 : decode cX7_same 10 = .ok (.ireturn, 1) := by decide +kernel
theorem dX7_same_11 : decode cX7_same 11 = .ok (.iconst 0, 1) := by decide +kernel
theorem dX7_same_12 : decode cX7_same 12 = .ok (.istore_n 2, 1) := by decide +kernel
theorem dX7_same_13 : decode cX7_same 13 = .ok (.aload_n 0, 1) := by decide +kernel
theorem dX7_same_14 : decode cX7_same 14 = .ok (.iload_n 1, 1) := by decide +kernel
theorem dX7_same_15 : decode cX7_same 15 = .ok (.iload_n 2, 1) := by decide +kernel
theorem dX7_same_16 : decode cX7_same 16 = .ok (.invokevirtual 385, 3) := by decide +kernel
theorem dX7_same_19 : decode cX7_same 19 = .ok (.ifCond .le 9, 3) := by decide +kernel
theorem dX7_same_22 : decode cX7_same 22 = .ok (.iinc 2 1, 3) := by decide +kernel
theorem dX7_same_25 : decode cX7_same 25 = .ok (.goto (-12), 3) := by decide +kernel
theorem dX7_same_28 : decode cX7_same 28 = .ok (.iload_n 2, 1) := by decide +kernel
theorem dX7_same_29 : decode cX7_same 29 = .ok (.ireturn, 1) := by decide +kernel
theorem dX7_layCommands_0 : decode cX7_layCommands 0 = .ok (.iconst 0, 1) := by decide +kernel
theorem dX7_layCommands_1 : decode cX7_layCommands 1 = .ok (.istore_n 1, 1) := by decide +kernel
theorem dX7_layCommands_2 : decode cX7_layCommands 2 = .ok (.iconst 0, 1) := by decide +kernel
theorem dX7_layCommands_3 : decode cX7_layCommands 3 = .ok (.istore_n 2, 1) := by decide +kernel
theorem dX7_layCommands_4 : decode cX7_layCommands 4 = .ok (.iload_n 2, 1) := by decide +kernel
theorem dX7_layCommands_5 : decode cX7_layCommands 5 = .ok (.aload_n 0, 1) := by decide +kernel
theorem dX7_layCommands_6 : decode cX7_layCommands 6 = .ok (.invokevirtual 111, 3) := by decide +kernel
theorem dX7_layCommands_9 : decode cX7_layCommands 9 = .ok (.if_icmp .ge 30, 3) := by decide +kernel
theorem dX7_layCommands_12 : decode cX7_layCommands 12 = .ok (.aload_n 0, 1) := by decide +kernel
theorem dX7_layCommands_13 : decode cX7_layCommands 13 = .ok (.iload_n 2, 1) := by decide +kernel
theorem dX7_layCommands_14 : decode cX7_layCommands 14 = .ok (.invokevirtual 249, 3) := by decide +kernel
theorem dX7_layCommands_17 : decode cX7_layCommands 17 = .ok (.ifCond .ne 6, 3) := by decide +kernel
theorem dX7_layCommands_20 : decode cX7_layCommands 20 = .ok (.goto 13, 3) := by decide +kernel
theorem dX7_layCommands_23 : decode cX7_layCommands 23 = .ok (.aload_n 0, 1) := by decide +kernel
theorem dX7_layCommands_24 : decode cX7_layCommands 24 = .ok (.getfield 76, 3) := by decide +kernel
theorem dX7_layCommands_27 : decode cX7_layCommands 27 = .ok (.iload_n 1, 1) := by decide +kernel
theorem dX7_layCommands_28 : decode cX7_layCommands 28 = .ok (.iload_n 2, 1) := by decide +kernel
theorem dX7_layCommands_29 : decode cX7_layCommands 29 = .ok (.iastore, 1) := by decide +kernel
theorem dX7_layCommands_30 : decode cX7_layCommands 30 = .ok (.iinc 1 1, 3) := by decide +kernel
theorem dX7_layCommands_33 : decode cX7_layCommands 33 = .ok (.iinc 2 1, 3) := by decide +kernel
theorem dX7_layCommands_36 : decode cX7_layCommands 36 = .ok (.goto (-32), 3) := by decide +kernel
theorem dX7_layCommands_39 : decode cX7_layCommands 39 = .ok (.iload_n 1, 1) := by decide +kernel
theorem dX7_layCommands_40 : decode cX7_layCommands 40 = .ok (.ireturn, 1) := by decide +kernel
theorem dX7_changedIn_0 : decode cX7_changedIn 0 = .ok (.iconst 0, 1) := by decide +kernel
theorem dX7_changedIn_1 : decode cX7_changedIn 1 = .ok (.istore_n 3, 1) := by decide +kernel
theorem dX7_changedIn_2 : decode cX7_changedIn 2 = .ok (.iconst 0, 1) := by decide +kernel
theorem dX7_changedIn_3 : decode cX7_changedIn 3 = .ok (.istore 4, 2) := by decide +kernel
theorem dX7_changedIn_5 : decode cX7_changedIn 5 = .ok (.iload 4, 2) := by decide +kernel
theorem dX7_changedIn_7 : decode cX7_changedIn 7 = .ok (.aload_n 0, 1) := by decide +kernel
theorem dX7_changedIn_8 : decode cX7_changedIn 8 = .ok (.invokevirtual 107, 3) := by decide +kernel
theorem dX7_changedIn_11 : decode cX7_changedIn 11 = .ok (.if_icmp .ge 75, 3) := by decide +kernel
theorem dX7_changedIn_14 : decode cX7_changedIn 14 = .ok (.iconst 0, 1) := by decide +kernel
theorem dX7_changedIn_15 : decode cX7_changedIn 15 = .ok (.istore 5, 2) := by decide +kernel
theorem dX7_changedIn_17 : decode cX7_changedIn 17 = .ok (.iload_n 1, 1) := by decide +kernel
theorem dX7_changedIn_18 : decode cX7_changedIn 18 = .ok (.istore 6, 2) := by decide +kernel
theorem dX7_changedIn_20 : decode cX7_changedIn 20 = .ok (.iload 6, 2) := by decide +kernel
theorem dX7_changedIn_22 : decode cX7_changedIn 22 = .ok (.iload_n 1, 1) := by decide +kernel
theorem dX7_changedIn_23 : decode cX7_changedIn 23 = .ok (.iload_n 2, 1) := by decide +kernel
theorem dX7_changedIn_24 : decode cX7_changedIn 24 = .ok (.iadd, 1) := by decide +kernel
theorem dX7_changedIn_25 : decode cX7_changedIn 25 = .ok (.if_icmp .ge 42, 3) := by decide +kernel
theorem dX7_changedIn_28 : decode cX7_changedIn 28 = .ok (.iload 5, 2) := by decide +kernel
theorem dX7_changedIn_30 : decode cX7_changedIn 30 = .ok (.ifCond .ne 24, 3) := by decide +kernel
theorem dX7_changedIn_33 : decode cX7_changedIn 33 = .ok (.aload_n 0, 1) := by decide +kernel
theorem dX7_changedIn_34 : decode cX7_changedIn 34 = .ok (.getfield 40, 3) := by decide +kernel
theorem dX7_changedIn_37 : decode cX7_changedIn 37 = .ok (.bipush 32, 2) := by decide +kernel
theorem dX7_changedIn_39 : decode cX7_changedIn 39 = .ok (.aload_n 0, 1) := by decide +kernel
theorem dX7_changedIn_40 : decode cX7_changedIn 40 = .ok (.getfield 76, 3) := by decide +kernel
theorem dX7_changedIn_43 : decode cX7_changedIn 43 = .ok (.iload 6, 2) := by decide +kernel
theorem dX7_changedIn_45 : decode cX7_changedIn 45 = .ok (.iaload, 1) := by decide +kernel
theorem dX7_changedIn_46 : decode cX7_changedIn 46 = .ok (.imul, 1) := by decide +kernel
theorem dX7_changedIn_47 : decode cX7_changedIn 47 = .ok (.iload 4, 2) := by decide +kernel
theorem dX7_changedIn_49 : decode cX7_changedIn 49 = .ok (.iadd, 1) := by decide +kernel
theorem dX7_changedIn_50 : decode cX7_changedIn 50 = .ok (.baload, 1) := by decide +kernel
theorem dX7_changedIn_51 : decode cX7_changedIn 51 = .ok (.ifCond .eq 7, 3) := by decide +kernel
theorem dX7_changedIn_54 : decode cX7_changedIn 54 = .ok (.iconst 1, 1) := by decide +kernel
theorem dX7_changedIn_55 : decode cX7_changedIn 55 = .ok (.goto 4, 3) := by decide +kernel
theorem dX7_changedIn_58 : decode cX7_changedIn 58 = .ok (.iconst 0, 1) := by decide +kernel
theorem dX7_changedIn_59 : decode cX7_changedIn 59 = .ok (.istore 5, 2) := by decide +kernel
theorem dX7_changedIn_61 : decode cX7_changedIn 61 = .ok (.iinc 6 1, 3) := by decide +kernel
theorem dX7_changedIn_64 : decode cX7_changedIn 64 = .ok (.goto (-44), 3) := by decide +kernel
theorem dX7_changedIn_67 : decode cX7_changedIn 67 = .ok (.iload_n 3, 1) := by decide +kernel
theorem dX7_changedIn_68 : decode cX7_changedIn 68 = .ok (.iload 5, 2) := by decide +kernel
theorem dX7_changedIn_70 : decode cX7_changedIn 70 = .ok (.ifCond .eq 7, 3) := by decide +kernel
theorem dX7_changedIn_73 : decode cX7_changedIn 73 = .ok (.iconst 1, 1) := by decide +kernel
theorem dX7_changedIn_74 : decode cX7_changedIn 74 = .ok (.goto 4, 3) := by decide +kernel
theorem dX7_changedIn_77 : decode cX7_changedIn 77 = .ok (.iconst 0, 1) := by decide +kernel
theorem dX7_changedIn_78 : decode cX7_changedIn 78 = .ok (.iadd, 1) := by decide +kernel
theorem dX7_changedIn_79 : decode cX7_changedIn 79 = .ok (.istore_n 3, 1) := by decide +kernel
theorem dX7_changedIn_80 : decode cX7_changedIn 80 = .ok (.iinc 4 1, 3) := by decide +kernel
theorem dX7_changedIn_83 : decode cX7_changedIn 83 = .ok (.goto (-78), 3) := by decide +kernel
theorem dX7_changedIn_86 : decode cX7_changedIn 86 = .ok (.iload_n 3, 1) := by decide +kernel
theorem dX7_changedIn_87 : decode cX7_changedIn 87 = .ok (.ireturn, 1) := by decide +kernel
theorem dX7_paceBy_0 : decode cX7_paceBy 0 = .ok (.aload_n 0, 1) := by decide +kernel
theorem dX7_paceBy_1 : decode cX7_paceBy 1 = .ok (.invokevirtual 388, 3) := by decide +kernel
theorem dX7_paceBy_4 : decode cX7_paceBy 4 = .ok (.istore_n 2, 1) := by decide +kernel
theorem dX7_paceBy_5 : decode cX7_paceBy 5 = .ok (.iload_n 2, 1) := by decide +kernel
theorem dX7_paceBy_6 : decode cX7_paceBy 6 = .ok (.ifCond .ne 7, 3) := by decide +kernel
theorem dX7_paceBy_9 : decode cX7_paceBy 9 = .ok (.iconst 0, 1) := by decide +kernel
theorem dX7_paceBy_10 : decode cX7_paceBy 10 = .ok (.goto 7, 3) := by decide +kernel
theorem dX7_paceBy_13 : decode cX7_paceBy 13 = .ok (.aload_n 0, 1) := by decide +kernel
theorem dX7_paceBy_14 : decode cX7_paceBy 14 = .ok (.invokevirtual 107, 3) := by decide +kernel
theorem dX7_paceBy_17 : decode cX7_paceBy 17 = .ok (.istore_n 3, 1) := by decide +kernel
theorem dX7_paceBy_18 : decode cX7_paceBy 18 = .ok (.iload_n 1, 1) := by decide +kernel
theorem dX7_paceBy_19 : decode cX7_paceBy 19 = .ok (.istore 4, 2) := by decide +kernel
theorem dX7_paceBy_21 : decode cX7_paceBy 21 = .ok (.iload 4, 2) := by decide +kernel
theorem dX7_paceBy_23 : decode cX7_paceBy 23 = .ok (.iload_n 2, 1) := by decide +kernel
theorem dX7_paceBy_24 : decode cX7_paceBy 24 = .ok (.if_icmp .ge 24, 3) := by decide +kernel
theorem dX7_paceBy_27 : decode cX7_paceBy 27 = .ok (.iload_n 3, 1) := by decide +kernel
theorem dX7_paceBy_28 : decode cX7_paceBy 28 = .ok (.aload_n 0, 1) := by decide +kernel
theorem dX7_paceBy_29 : decode cX7_paceBy 29 = .ok (.iload 4, 2) := by decide +kernel
theorem dX7_paceBy_31 : decode cX7_paceBy 31 = .ok (.iload_n 1, 1) := by decide +kernel
theorem dX7_paceBy_32 : decode cX7_paceBy 32 = .ok (.isub, 1) := by decide +kernel
theorem dX7_paceBy_33 : decode cX7_paceBy 33 = .ok (.iload_n 1, 1) := by decide +kernel
theorem dX7_paceBy_34 : decode cX7_paceBy 34 = .ok (.invokevirtual 391, 3) := by decide +kernel
theorem dX7_paceBy_37 : decode cX7_paceBy 37 = .ok (.iadd, 1) := by decide +kernel
theorem dX7_paceBy_38 : decode cX7_paceBy 38 = .ok (.istore_n 3, 1) := by decide +kernel
theorem dX7_paceBy_39 : decode cX7_paceBy 39 = .ok (.iload 4, 2) := by decide +kernel
theorem dX7_paceBy_41 : decode cX7_paceBy 41 = .ok (.iload_n 1, 1) := by decide +kernel
theorem dX7_paceBy_42 : decode cX7_paceBy 42 = .ok (.iadd, 1) := by decide +kernel
theorem dX7_paceBy_43 : decode cX7_paceBy 43 = .ok (.istore 4, 2) := by decide +kernel
theorem dX7_paceBy_45 : decode cX7_paceBy 45 = .ok (.goto (-24), 3) := by decide +kernel
theorem dX7_paceBy_48 : decode cX7_paceBy 48 = .ok (.iload_n 3, 1) := by decide +kernel
theorem dX7_paceBy_49 : decode cX7_paceBy 49 = .ok (.ireturn, 1) := by decide +kernel
theorem dX7_pace_0 : decode cX7_pace 0 = .ok (.aload_n 0, 1) := by decide +kernel
theorem dX7_pace_1 : decode cX7_pace 1 = .ok (.invokevirtual 316, 3) := by decide +kernel
theorem dX7_pace_4 : decode cX7_pace 4 = .ok (.ifCond .eq 23, 3) := by decide +kernel
theorem dX7_pace_7 : decode cX7_pace 7 = .ok (.iload_n 1, 1) := by decide +kernel
theorem dX7_pace_8 : decode cX7_pace 8 = .ok (.i2l, 1) := by decide +kernel
theorem dX7_pace_9 : decode cX7_pace 9 = .ok (.lconst 1, 1) := by decide +kernel
theorem dX7_pace_10 : decode cX7_pace 10 = .ok (.ldc2_w 394, 3) := by decide +kernel
theorem dX7_pace_13 : decode cX7_pace 13 = .ok (.invokestatic 103, 3) := by decide +kernel
theorem dX7_pace_16 : decode cX7_pace 16 = .ok (.ifCond .eq 11, 3) := by decide +kernel
theorem dX7_pace_19 : decode cX7_pace 19 = .ok (.aload_n 0, 1) := by decide +kernel
theorem dX7_pace_20 : decode cX7_pace 20 = .ok (.iload_n 1, 1) := by decide +kernel
theorem dX7_pace_21 : decode cX7_pace 21 = .ok (.invokevirtual 396, 3) := by decide +kernel
theorem dX7_pace_24 : decode cX7_pace 24 = .ok (.goto 5, 3) := by decide +kernel
theorem dX7_pace_27 : decode cX7_pace 27 = .ok (.bipush (-2), 2) := by decide +kernel
theorem dX7_pace_29 : decode cX7_pace 29 = .ok (.ireturn, 1) := by decide +kernel
theorem dX7_costBy_0 : decode cX7_costBy 0 = .ok (.aload_n 0, 1) := by decide +kernel
theorem dX7_costBy_1 : decode cX7_costBy 1 = .ok (.invokevirtual 388, 3) := by decide +kernel
theorem dX7_costBy_4 : decode cX7_costBy 4 = .ok (.istore_n 2, 1) := by decide +kernel
theorem dX7_costBy_5 : decode cX7_costBy 5 = .ok (.iload_n 2, 1) := by decide +kernel
theorem dX7_costBy_6 : decode cX7_costBy 6 = .ok (.ifCond .ne 7, 3) := by decide +kernel
theorem dX7_costBy_9 : decode cX7_costBy 9 = .ok (.iconst 0, 1) := by decide +kernel
theorem dX7_costBy_10 : decode cX7_costBy 10 = .ok (.goto 10, 3) := by decide +kernel
theorem dX7_costBy_13 : decode cX7_costBy 13 = .ok (.iload_n 2, 1) := by decide +kernel
theorem dX7_costBy_14 : decode cX7_costBy 14 = .ok (.iconst 1, 1) := by decide +kernel
theorem dX7_costBy_15 : decode cX7_costBy 15 = .ok (.isub, 1) := by decide +kernel
theorem dX7_costBy_16 : decode cX7_costBy 16 = .ok (.iload_n 1, 1) := by decide +kernel
theorem dX7_costBy_17 : decode cX7_costBy 17 = .ok (.irem, 1) := by decide +kernel
theorem dX7_costBy_18 : decode cX7_costBy 18 = .ok (.iconst 1, 1) := by decide +kernel
theorem dX7_costBy_19 : decode cX7_costBy 19 = .ok (.iadd, 1) := by decide +kernel
theorem dX7_costBy_20 : decode cX7_costBy 20 = .ok (.istore_n 3, 1) := by decide +kernel
theorem dX7_costBy_21 : decode cX7_costBy 21 = .ok (.aload_n 0, 1) := by decide +kernel
theorem dX7_costBy_22 : decode cX7_costBy 22 = .ok (.iload_n 1, 1) := by decide +kernel
theorem dX7_costBy_23 : decode cX7_costBy 23 = .ok (.invokevirtual 396, 3) := by decide +kernel
theorem dX7_costBy_26 : decode cX7_costBy 26 = .ok (.iconst 2, 1) := by decide +kernel
theorem dX7_costBy_27 : decode cX7_costBy 27 = .ok (.iload_n 3, 1) := by decide +kernel
theorem dX7_costBy_28 : decode cX7_costBy 28 = .ok (.imul, 1) := by decide +kernel
theorem dX7_costBy_29 : decode cX7_costBy 29 = .ok (.iadd, 1) := by decide +kernel
theorem dX7_costBy_30 : decode cX7_costBy 30 = .ok (.ireturn, 1) := by decide +kernel
theorem dX7_best_0 : decode cX7_best 0 = .ok (.aload_n 0, 1) := by decide +kernel
theorem dX7_best_1 : decode cX7_best 1 = .ok (.invokevirtual 316, 3) := by decide +kernel
theorem dX7_best_4 : decode cX7_best 4 = .ok (.ifCond .ne 6, 3) := by decide +kernel
theorem dX7_best_7 : decode cX7_best 7 = .ok (.bipush (-2), 2) := by decide +kernel
theorem dX7_best_9 : decode cX7_best 9 = .ok (.ireturn, 1) := by decide +kernel
theorem dX7_best_10 : decode cX7_best 10 = .ok (.iconst 1, 1) := by decide +kernel
theorem dX7_best_11 : decode cX7_best 11 = .ok (.istore_n 1, 1) := by decide +kernel
theorem dX7_best_12 : decode cX7_best 12 = .ok (.iconst 2, 1) := by decide +kernel
theorem dX7_best_13 : decode cX7_best 13 = .ok (.istore_n 2, 1) := by decide +kernel
theorem dX7_best_14 : decode cX7_best 14 = .ok (.iload_n 2, 1) := by decide +kernel
theorem dX7_best_15 : decode cX7_best 15 = .ok (.bipush 20, 2) := by decide +kernel
theorem dX7_best_17 : decode cX7_best 17 = .ok (.if_icmp .gt 24, 3) := by decide +kernel
theorem dX7_best_20 : decode cX7_best 20 = .ok (.aload_n 0, 1) := by decide +kernel
theorem dX7_best_21 : decode cX7_best 21 = .ok (.iload_n 2, 1) := by decide +kernel
theorem dX7_best_22 : decode cX7_best 22 = .ok (.invokevirtual 399, 3) := by decide +kernel
theorem dX7_best_25 : decode cX7_best 25 = .ok (.aload_n 0, 1) := by decide +kernel
theorem dX7_best_26 : decode cX7_best 26 = .ok (.iload_n 1, 1) := by decide +kernel
theorem dX7_best_27 : decode cX7_best 27 = .ok (.invokevirtual 399, 3) := by decide +kernel
theorem dX7_best_30 : decode cX7_best 30 = .ok (.if_icmp .ge 5, 3) := by decide +kernel
theorem dX7_best_33 : decode cX7_best 33 = .ok (.iload_n 2, 1) := by decide +kernel
theorem dX7_best_34 : decode cX7_best 34 = .ok (.istore_n 1, 1) := by decide +kernel
theorem dX7_best_35 : decode cX7_best 35 = .ok (.iinc 2 1, 3) := by decide +kernel
theorem dX7_best_38 : decode cX7_best 38 = .ok (.goto (-24), 3) := by decide +kernel
theorem dX7_best_41 : decode cX7_best 41 = .ok (.iload_n 1, 1) := by decide +kernel
theorem dX7_best_42 : decode cX7_best 42 = .ok (.ireturn, 1) := by decide +kernel
theorem dX7_zeros_0 : decode cX7_zeros 0 = .ok (.iconst 0, 1) := by decide +kernel
theorem dX7_zeros_1 : decode cX7_zeros 1 = .ok (.istore_n 1, 1) := by decide +kernel
theorem dX7_zeros_2 : decode cX7_zeros 2 = .ok (.iconst 0, 1) := by decide +kernel
theorem dX7_zeros_3 : decode cX7_zeros 3 = .ok (.istore_n 2, 1) := by decide +kernel
theorem dX7_zeros_4 : decode cX7_zeros 4 = .ok (.iload_n 2, 1) := by decide +kernel
theorem dX7_zeros_5 : decode cX7_zeros 5 = .ok (.aload_n 0, 1) := by decide +kernel
theorem dX7_zeros_6 : decode cX7_zeros 6 = .ok (.invokevirtual 107, 3) := by decide +kernel
theorem dX7_zeros_9 : decode cX7_zeros 9 = .ok (.if_icmp .ge 29, 3) := by decide +kernel
theorem dX7_zeros_12 : decode cX7_zeros 12 = .ok (.iload_n 1, 1) := by decide +kernel
theorem dX7_zeros_13 : decode cX7_zeros 13 = .ok (.aload_n 0, 1) := by decide +kernel
theorem dX7_zeros_14 : decode cX7_zeros 14 = .ok (.iload_n 2, 1) := by decide +kernel
theorem dX7_zeros_15 : decode cX7_zeros 15 = .ok (.aload_n 0, 1) := by decide +kernel
theorem dX7_zeros_16 : decode cX7_zeros 16 = .ok (.invokevirtual 111, 3) := by decide +kernel
theorem dX7_zeros_19 : decode cX7_zeros 19 = .ok (.invokevirtual 337, 3) := by decide +kernel
theorem dX7_zeros_22 : decode cX7_zeros 22 = .ok (.ifCond .ne 7, 3) := by decide +kernel
theorem dX7_zeros_25 : decode cX7_zeros 25 = .ok (.iconst 1, 1) := by decide +kernel
theorem dX7_zeros_26 : decode cX7_zeros 26 = .ok (.goto 4, 3) := by decide +kernel
theorem dX7_zeros_29 : decode cX7_zeros 29 = .ok (.iconst 0, 1) := by decide +kernel
theorem dX7_zeros_30 : decode cX7_zeros 30 = .ok (.iadd, 1) := by decide +kernel
theorem dX7_zeros_31 : decode cX7_zeros 31 = .ok (.istore_n 1, 1) := by decide +kernel
theorem dX7_zeros_32 : decode cX7_zeros 32 = .ok (.iinc 2 1, 3) := by decide +kernel
theorem dX7_zeros_35 : decode cX7_zeros 35 = .ok (.goto (-31), 3) := by decide +kernel
theorem dX7_zeros_38 : decode cX7_zeros 38 = .ok (.iload_n 1, 1) := by decide +kernel
theorem dX7_zeros_39 : decode cX7_zeros 39 = .ok (.ireturn, 1) := by decide +kernel
theorem dX7_layWithout_0 : decode cX7_layWithout 0 = .ok (.aload_n 0, 1) := by decide +kernel
theorem dX7_layWithout_1 : decode cX7_layWithout 1 = .ok (.getfield 34, 3) := by decide +kernel
theorem dX7_layWithout_4 : decode cX7_layWithout 4 = .ok (.iload_n 1, 1) := by decide +kernel
theorem dX7_layWithout_5 : decode cX7_layWithout 5 = .ok (.iconst 1, 1) := by decide +kernel
theorem dX7_layWithout_6 : decode cX7_layWithout 6 = .ok (.bastore, 1) := by decide +kernel
theorem dX7_layWithout_7 : decode cX7_layWithout 7 = .ok (.aload_n 0, 1) := by decide +kernel
theorem dX7_layWithout_8 : decode cX7_layWithout 8 = .ok (.invokevirtual 304, 3) := by decide +kernel
theorem dX7_layWithout_11 : decode cX7_layWithout 11 = .ok (.aload_n 0, 1) := by decide +kernel
theorem dX7_layWithout_12 : decode cX7_layWithout 12 = .ok (.getfield 34, 3) := by decide +kernel
theorem dX7_layWithout_15 : decode cX7_layWithout 15 = .ok (.iload_n 1, 1) := by decide +kernel
theorem dX7_layWithout_16 : decode cX7_layWithout 16 = .ok (.iconst 0, 1) := by decide +kernel
theorem dX7_layWithout_17 : decode cX7_layWithout 17 = .ok (.bastore, 1) := by decide +kernel
theorem dX7_layWithout_18 : decode cX7_layWithout 18 = .ok (.return_, 1) := by decide +kernel
theorem dX7_blame_0 : decode cX7_blame 0 = .ok (.aload_n 0, 1) := by decide +kernel
theorem dX7_blame_1 : decode cX7_blame 1 = .ok (.invokevirtual 316, 3) := by decide +kernel
theorem dX7_blame_4 : decode cX7_blame 4 = .ok (.ifCond .ne 6, 3) := by decide +kernel
theorem dX7_blame_7 : decode cX7_blame 7 = .ok (.bipush (-2), 2) := by decide +kernel
theorem dX7_blame_9 : decode cX7_blame 9 = .ok (.ireturn, 1) := by decide +kernel
theorem dX7_blame_10 : decode cX7_blame 10 = .ok (.aload_n 0, 1) := by decide +kernel
theorem dX7_blame_11 : decode cX7_blame 11 = .ok (.invokevirtual 402, 3) := by decide +kernel
theorem dX7_blame_14 : decode cX7_blame 14 = .ok (.istore_n 1, 1) := by decide +kernel
theorem dX7_blame_15 : decode cX7_blame 15 = .ok (.iconst (-1), 1) := by decide +kernel
theorem dX7_blame_16 : decode cX7_blame 16 = .ok (.istore_n 2, 1) := by decide +kernel
theorem dX7_blame_17 : decode cX7_blame 17 = .ok (.iconst 0, 1) := by decide +kernel
theorem dX7_blame_18 : decode cX7_blame 18 = .ok (.istore_n 3, 1) := by decide +kernel
theorem dX7_blame_19 : decode cX7_blame 19 = .ok (.iload_n 3, 1) := by decide +kernel
theorem dX7_blame_20 : decode cX7_blame 20 = .ok (.aload_n 0, 1) := by decide +kernel
theorem dX7_blame_21 : decode cX7_blame 21 = .ok (.getfield 9, 3) := by decide +kernel
theorem dX7_blame_24 : decode cX7_blame 24 = .ok (.iconst 3, 1) := by decide +kernel
theorem dX7_blame_25 : decode cX7_blame 25 = .ok (.iaload, 1) := by decide +kernel
theorem dX7_blame_26 : decode cX7_blame 26 = .ok (.if_icmp .ge 32, 3) := by decide +kernel
theorem dX7_blame_29 : decode cX7_blame 29 = .ok (.aload_n 0, 1) := by decide +kernel
theorem dX7_blame_30 : decode cX7_blame 30 = .ok (.iload_n 3, 1) := by decide +kernel
theorem dX7_blame_31 : decode cX7_blame 31 = .ok (.invokevirtual 405, 3) := by decide +kernel
theorem dX7_blame_34 : decode cX7_blame 34 = .ok (.aload_n 0, 1) := by decide +kernel
theorem dX7_blame_35 : decode cX7_blame 35 = .ok (.invokevirtual 402, 3) := by decide +kernel
theorem dX7_blame_38 : decode cX7_blame 38 = .ok (.iload_n 1, 1) := by decide +kernel
theorem dX7_blame_39 : decode cX7_blame 39 = .ok (.if_icmp .gt 6, 3) := by decide +kernel
theorem dX7_blame_42 : decode cX7_blame 42 = .ok (.goto 10, 3) := by decide +kernel
theorem dX7_blame_45 : decode cX7_blame 45 = .ok (.aload_n 0, 1) := by decide +kernel
theorem dX7_blame_46 : decode cX7_blame 46 = .ok (.invokevirtual 402, 3) := by decide +kernel
theorem dX7_blame_49 : decode cX7_blame 49 = .ok (.istore_n 1, 1) := by decide +kernel
theorem dX7_blame_50 : decode cX7_blame 50 = .ok (.iload_n 3, 1) := by decide +kernel
theorem dX7_blame_51 : decode cX7_blame 51 = .ok (.istore_n 2, 1) := by decide +kernel
theorem dX7_blame_52 : decode cX7_blame 52 = .ok (.iinc 3 1, 3) := by decide +kernel
theorem dX7_blame_55 : decode cX7_blame 55 = .ok (.goto (-36), 3) := by decide +kernel
theorem dX7_blame_58 : decode cX7_blame 58 = .ok (.iload_n 2, 1) := by decide +kernel
theorem dX7_blame_59 : decode cX7_blame 59 = .ok (.ireturn, 1) := by decide +kernel
theorem dX7_idle_0 : decode cX7_idle 0 = .ok (.aload_n 0, 1) := by decide +kernel
theorem dX7_idle_1 : decode cX7_idle 1 = .ok (.invokevirtual 316, 3) := by decide +kernel
theorem dX7_idle_4 : decode cX7_idle 4 = .ok (.ifCond .ne 6, 3) := by decide +kernel
theorem dX7_idle_7 : decode cX7_idle 7 = .ok (.bipush (-2), 2) := by decide +kernel
theorem dX7_idle_9 : decode cX7_idle 9 = .ok (.ireturn, 1) := by decide +kernel
theorem dX7_idle_10 : decode cX7_idle 10 = .ok (.iconst 0, 1) := by decide +kernel
theorem dX7_idle_11 : decode cX7_idle 11 = .ok (.istore_n 1, 1) := by decide +kernel
theorem dX7_idle_12 : decode cX7_idle 12 = .ok (.iload_n 1, 1) := by decide +kernel
theorem dX7_idle_13 : decode cX7_idle 13 = .ok (.bipush 32, 2) := by decide +kernel
theorem dX7_idle_15 : decode cX7_idle 15 = .ok (.if_icmp .ge 24, 3) := by decide +kernel
theorem dX7_idle_18 : decode cX7_idle 18 = .ok (.aload_n 0, 1) := by decide +kernel
theorem dX7_idle_19 : decode cX7_idle 19 = .ok (.getfield 79, 3) := by decide +kernel
theorem dX7_idle_22 : decode cX7_idle 22 = .ok (.iload_n 1, 1) := by decide +kernel
theorem dX7_idle_23 : decode cX7_idle 23 = .ok (.aload_n 0, 1) := by decide +kernel
theorem dX7_idle_24 : decode cX7_idle 24 = .ok (.iload_n 1, 1) := by decide +kernel
theorem dX7_idle_25 : decode cX7_idle 25 = .ok (.aload_n 0, 1) := by decide +kernel
theorem dX7_idle_26 : decode cX7_idle 26 = .ok (.invokevirtual 111, 3) := by decide +kernel
theorem dX7_idle_29 : decode cX7_idle 29 = .ok (.invokevirtual 337, 3) := by decide +kernel
theorem dX7_idle_32 : decode cX7_idle 32 = .ok (.iastore, 1) := by decide +kernel
theorem dX7_idle_33 : decode cX7_idle 33 = .ok (.iinc 1 1, 3) := by decide +kernel
theorem dX7_idle_36 : decode cX7_idle 36 = .ok (.goto (-24), 3) := by decide +kernel
theorem dX7_idle_39 : decode cX7_idle 39 = .ok (.iconst 0, 1) := by decide +kernel
theorem dX7_idle_40 : decode cX7_idle 40 = .ok (.istore_n 1, 1) := by decide +kernel
theorem dX7_idle_41 : decode cX7_idle 41 = .ok (.iload_n 1, 1) := by decide +kernel
theorem dX7_idle_42 : decode cX7_idle 42 = .ok (.aload_n 0, 1) := by decide +kernel
theorem dX7_idle_43 : decode cX7_idle 43 = .ok (.getfield 9, 3) := by decide +kernel
theorem dX7_idle_46 : decode cX7_idle 46 = .ok (.iconst 3, 1) := by decide +kernel
theorem dX7_idle_47 : decode cX7_idle 47 = .ok (.iaload, 1) := by decide +kernel
theorem dX7_idle_48 : decode cX7_idle 48 = .ok (.if_icmp .ge 75, 3) := by decide +kernel
theorem dX7_idle_51 : decode cX7_idle 51 = .ok (.aload_n 0, 1) := by decide +kernel
theorem dX7_idle_52 : decode cX7_idle 52 = .ok (.iload_n 1, 1) := by decide +kernel
theorem dX7_idle_53 : decode cX7_idle 53 = .ok (.invokevirtual 249, 3) := by decide +kernel
theorem dX7_idle_56 : decode cX7_idle 56 = .ok (.ifCond .ne 6, 3) := by decide +kernel
theorem dX7_idle_59 : decode cX7_idle 59 = .ok (.goto 58, 3) := by decide +kernel
theorem dX7_idle_62 : decode cX7_idle 62 = .ok (.aload_n 0, 1) := by decide +kernel
theorem dX7_idle_63 : decode cX7_idle 63 = .ok (.iload_n 1, 1) := by decide +kernel
theorem dX7_idle_64 : decode cX7_idle 64 = .ok (.invokevirtual 405, 3) := by decide +kernel
theorem dX7_idle_67 : decode cX7_idle 67 = .ok (.iconst 1, 1) := by decide +kernel
theorem dX7_idle_68 : decode cX7_idle 68 = .ok (.istore_n 2, 1) := by decide +kernel
theorem dX7_idle_69 : decode cX7_idle 69 = .ok (.iconst 0, 1) := by decide +kernel
theorem dX7_idle_70 : decode cX7_idle 70 = .ok (.istore_n 3, 1) := by decide +kernel
theorem dX7_idle_71 : decode cX7_idle 71 = .ok (.iload_n 3, 1) := by decide +kernel
theorem dX7_idle_72 : decode cX7_idle 72 = .ok (.bipush 32, 2) := by decide +kernel
theorem dX7_idle_74 : decode cX7_idle 74 = .ok (.if_icmp .ge 37, 3) := by decide +kernel
theorem dX7_idle_77 : decode cX7_idle 77 = .ok (.iload_n 2, 1) := by decide +kernel
theorem dX7_idle_78 : decode cX7_idle 78 = .ok (.ifCond .eq 25, 3) := by decide +kernel
theorem dX7_idle_81 : decode cX7_idle 81 = .ok (.aload_n 0, 1) := by decide +kernel
theorem dX7_idle_82 : decode cX7_idle 82 = .ok (.getfield 79, 3) := by decide +kernel
theorem dX7_idle_85 : decode cX7_idle 85 = .ok (.iload_n 3, 1) := by decide +kernel
theorem dX7_idle_86 : decode cX7_idle 86 = .ok (.iaload, 1) := by decide +kernel
theorem dX7_idle_87 : decode cX7_idle 87 = .ok (.aload_n 0, 1) := by decide +kernel
theorem dX7_idle_88 : decode cX7_idle 88 = .ok (.iload_n 3, 1) := by decide +kernel
theorem dX7_idle_89 : decode cX7_idle 89 = .ok (.aload_n 0, 1) := by decide +kernel
theorem dX7_idle_90 : decode cX7_idle 90 = .ok (.invokevirtual 111, 3) := by decide +kernel
theorem dX7_idle_93 : decode cX7_idle 93 = .ok (.invokevirtual 337, 3) := by decide +kernel
theorem dX7_idle_96 : decode cX7_idle 96 = .ok (.if_icmp .ne 7, 3) := by decide +kernel
theorem dX7_idle_99 : decode cX7_idle 99 = .ok (.iconst 1, 1) := by decide +kernel
theorem dX7_idle_100 : decode cX7_idle 100 = .ok (.goto 4, 3) := by decide +kernel
theorem dX7_idle_103 : decode cX7_idle 103 = .ok (.iconst 0, 1) := by decide +kernel
theorem dX7_idle_104 : decode cX7_idle 104 = .ok (.istore_n 2, 1) := by decide +kernel
theorem dX7_idle_105 : decode cX7_idle 105 = .ok (.iinc 3 1, 3) := by decide +kernel
theorem dX7_idle_108 : decode cX7_idle 108 = .ok (.goto (-37), 3) := by decide +kernel
theorem dX7_idle_111 : decode cX7_idle 111 = .ok (.iload_n 2, 1) := by decide +kernel
theorem dX7_idle_112 : decode cX7_idle 112 = .ok (.ifCond .eq 5, 3) := by decide +kernel
theorem dX7_idle_115 : decode cX7_idle 115 = .ok (.iload_n 1, 1) := by decide +kernel
theorem dX7_idle_116 : decode cX7_idle 116 = .ok (.ireturn, 1) := by decide +kernel
theorem dX7_idle_117 : decode cX7_idle 117 = .ok (.iinc 1 1, 3) := by decide +kernel
theorem dX7_idle_120 : decode cX7_idle 120 = .ok (.goto (-79), 3) := by decide +kernel
theorem dX7_idle_123 : decode cX7_idle 123 = .ok (.iconst (-1), 1) := by decide +kernel
theorem dX7_idle_124 : decode cX7_idle 124 = .ok (.ireturn, 1) := by decide +kernel
theorem dX7_numberAt_0 : decode cX7_numberAt 0 = .ok (.aload_n 0, 1) := by decide +kernel
theorem dX7_numberAt_1 : decode cX7_numberAt 1 = .ok (.getfield 91, 3) := by decide +kernel
theorem dX7_numberAt_4 : decode cX7_numberAt 4 = .ok (.bipush 60, 2) := by decide +kernel
theorem dX7_numberAt_6 : decode cX7_numberAt 6 = .ok (.iload_n 1, 1) := by decide +kernel
theorem dX7_numberAt_7 : decode cX7_numberAt 7 = .ok (.imul, 1) := by decide +kernel
theorem dX7_numberAt_8 : decode cX7_numberAt 8 = .ok (.iload_n 2, 1) := by decide +kernel
theorem dX7_numberAt_9 : decode cX7_numberAt 9 = .ok (.iadd, 1) := by decide +kernel
theorem dX7_numberAt_10 : decode cX7_numberAt 10 = .ok (.laload, 1) := by decide +kernel
theorem dX7_numberAt_11 : decode cX7_numberAt 11 = .ok (.lreturn, 1) := by decide +kernel
theorem dX7_isSeen_0 : decode cX7_isSeen 0 = .ok (.iconst 0, 1) := by decide +kernel
theorem dX7_isSeen_1 : decode cX7_isSeen 1 = .ok (.istore_n 2, 1) := by decide +kernel
theorem dX7_isSeen_2 : decode cX7_isSeen 2 = .ok (.iload_n 2, 1) := by decide +kernel
theorem dX7_isSeen_3 : decode cX7_isSeen 3 = .ok (.aload_n 0, 1) := by decide +kernel
theorem dX7_isSeen_4 : decode cX7_isSeen 4 = .ok (.getfield 85, 3) := by decide +kernel
theorem dX7_isSeen_7 : decode cX7_isSeen 7 = .ok (.iload_n 1, 1) := by decide +kernel
theorem dX7_isSeen_8 : decode cX7_isSeen 8 = .ok (.iaload, 1) := by decide +kernel
theorem dX7_isSeen_9 : decode cX7_isSeen 9 = .ok (.if_icmp .ge 44, 3) := by decide +kernel
theorem dX7_isSeen_12 : decode cX7_isSeen 12 = .ok (.aload_n 0, 1) := by decide +kernel
theorem dX7_isSeen_13 : decode cX7_isSeen 13 = .ok (.aload_n 0, 1) := by decide +kernel
theorem dX7_isSeen_14 : decode cX7_isSeen 14 = .ok (.iload_n 1, 1) := by decide +kernel
theorem dX7_isSeen_15 : decode cX7_isSeen 15 = .ok (.iload_n 2, 1) := by decide +kernel
theorem dX7_isSeen_16 : decode cX7_isSeen 16 = .ok (.iconst 1, 1) := by decide +kernel
theorem dX7_isSeen_17 : decode cX7_isSeen 17 = .ok (.iadd, 1) := by decide +kernel
theorem dX7_isSeen_18 : decode cX7_isSeen 18 = .ok (.invokevirtual 408, 3) := by decide +kernel
theorem dX7_isSeen_21 : decode cX7_isSeen 21 = .ok (.l2i, 1) := by decide +kernel
theorem dX7_isSeen_22 : decode cX7_isSeen 22 = .ok (.aload_n 0, 1) := by decide +kernel
theorem dX7_isSeen_23 : decode cX7_isSeen 23 = .ok (.iload_n 1, 1) := by decide +kernel
theorem dX7_isSeen_24 : decode cX7_isSeen 24 = .ok (.iload_n 2, 1) := by decide +kernel
theorem dX7_isSeen_25 : decode cX7_isSeen 25 = .ok (.invokevirtual 408, 3) := by decide +kernel
theorem dX7_isSeen_28 : decode cX7_isSeen 28 = .ok (.l2i, 1) := by decide +kernel
theorem dX7_isSeen_29 : decode cX7_isSeen 29 = .ok (.invokevirtual 337, 3) := by decide +kernel
theorem dX7_isSeen_32 : decode cX7_isSeen 32 = .ok (.i2l, 1) := by decide +kernel
theorem dX7_isSeen_33 : decode cX7_isSeen 33 = .ok (.aload_n 0, 1) := by decide +kernel
theorem dX7_isSeen_34 : decode cX7_isSeen 34 = .ok (.iload_n 1, 1) := by decide +kernel
theorem dX7_isSeen_35 : decode cX7_isSeen 35 = .ok (.iload_n 2, 1) := by decide +kernel
theorem dX7_isSeen_36 : decode cX7_isSeen 36 = .ok (.iconst 2, 1) := by decide +kernel
theorem dX7_isSeen_37 : decode cX7_isSeen 37 = .ok (.iadd, 1) := by decide +kernel
theorem dX7_isSeen_38 : decode cX7_isSeen 38 = .ok (.invokevirtual 408, 3) := by decide +kernel
theorem dX7_isSeen_41 : decode cX7_isSeen 41 = .ok (.lcmp, 1) := by decide +kernel
theorem dX7_isSeen_42 : decode cX7_isSeen 42 = .ok (.ifCond .eq 5, 3) := by decide +kernel
theorem dX7_isSeen_45 : decode cX7_isSeen 45 = .ok (.iconst 0, 1) := by decide +kernel
theorem dX7_isSeen_46 : decode cX7_isSeen 46 = .ok (.ireturn, 1) := by decide +kernel
theorem dX7_isSeen_47 : decode cX7_isSeen 47 = .ok (.iinc 2 3, 3) := by decide +kernel
theorem dX7_isSeen_50 : decode cX7_isSeen 50 = .ok (.goto (-48), 3) := by decide +kernel
theorem dX7_isSeen_53 : decode cX7_isSeen 53 = .ok (.iconst 1, 1) := by decide +kernel
theorem dX7_isSeen_54 : decode cX7_isSeen 54 = .ok (.ireturn, 1) := by decide +kernel
theorem dX7_askMay_0 : decode cX7_askMay 0 = .ok (.iload_n 1, 1) := by decide +kernel
theorem dX7_askMay_1 : decode cX7_askMay 1 = .ok (.invokestatic 412, 3) := by decide +kernel
theorem dX7_askMay_4 : decode cX7_askMay 4 = .ok (.ifCond .eq 10, 3) := by decide +kernel
theorem dX7_askMay_7 : decode cX7_askMay 7 = .ok (.aload_n 0, 1) := by decide +kernel
theorem dX7_askMay_8 : decode cX7_askMay 8 = .ok (.invokevirtual 316, 3) := by decide +kernel
theorem dX7_askMay_11 : decode cX7_askMay 11 = .ok (.ifCond .ne 6, 3) := by decide +kernel
theorem dX7_askMay_14 : decode cX7_askMay 14 = .ok (.bipush (-2), 2) := by decide +kernel
theorem dX7_askMay_16 : decode cX7_askMay 16 = .ok (.ireturn, 1) := by decide +kernel
theorem dX7_askMay_17 : decode cX7_askMay 17 = .ok (.aload_n 0, 1) := by decide +kernel
theorem dX7_askMay_18 : decode cX7_askMay 18 = .ok (.getfield 85, 3) := by decide +kernel
theorem dX7_askMay_21 : decode cX7_askMay 21 = .ok (.iload_n 1, 1) := by decide +kernel
theorem dX7_askMay_22 : decode cX7_askMay 22 = .ok (.iaload, 1) := by decide +kernel
theorem dX7_askMay_23 : decode cX7_askMay 23 = .ok (.iconst (-1), 1) := by decide +kernel
theorem dX7_askMay_24 : decode cX7_askMay 24 = .ok (.if_icmp .ne 6, 3) := by decide +kernel
theorem dX7_askMay_27 : decode cX7_askMay 27 = .ok (.bipush (-6), 2) := by decide +kernel
theorem dX7_askMay_29 : decode cX7_askMay 29 = .ok (.ireturn, 1) := by decide +kernel
theorem dX7_askMay_30 : decode cX7_askMay 30 = .ok (.aload_n 0, 1) := by decide +kernel
theorem dX7_askMay_31 : decode cX7_askMay 31 = .ok (.getfield 85, 3) := by decide +kernel
theorem dX7_askMay_34 : decode cX7_askMay 34 = .ok (.iload_n 1, 1) := by decide +kernel
theorem dX7_askMay_35 : decode cX7_askMay 35 = .ok (.iaload, 1) := by decide +kernel
theorem dX7_askMay_36 : decode cX7_askMay 36 = .ok (.iconst 3, 1) := by decide +kernel
theorem dX7_askMay_37 : decode cX7_askMay 37 = .ok (.irem, 1) := by decide +kernel
theorem dX7_askMay_38 : decode cX7_askMay 38 = .ok (.ifCond .eq 6, 3) := by decide +kernel
theorem dX7_askMay_41 : decode cX7_askMay 41 = .ok (.bipush (-2), 2) := by decide +kernel
theorem dX7_askMay_43 : decode cX7_askMay 43 = .ok (.ireturn, 1) := by decide +kernel
theorem dX7_askMay_44 : decode cX7_askMay 44 = .ok (.iconst 0, 1) := by decide +kernel
theorem dX7_askMay_45 : decode cX7_askMay 45 = .ok (.istore_n 2, 1) := by decide +kernel
theorem dX7_askMay_46 : decode cX7_askMay 46 = .ok (.iload_n 2, 1) := by decide +kernel
theorem dX7_askMay_47 : decode cX7_askMay 47 = .ok (.aload_n 0, 1) := by decide +kernel
theorem dX7_askMay_48 : decode cX7_askMay 48 = .ok (.getfield 85, 3) := by decide +kernel
theorem dX7_askMay_51 : decode cX7_askMay 51 = .ok (.iload_n 1, 1) := by decide +kernel
theorem dX7_askMay_52 : decode cX7_askMay 52 = .ok (.iaload, 1) := by decide +kernel
theorem dX7_askMay_53 : decode cX7_askMay 53 = .ok (.if_icmp .ge 58, 3) := by decide +kernel
theorem dX7_askMay_56 : decode cX7_askMay 56 = .ok (.aload_n 0, 1) := by decide +kernel
theorem dX7_askMay_57 : decode cX7_askMay 57 = .ok (.aload_n 0, 1) := by decide +kernel
theorem dX7_askMay_58 : decode cX7_askMay 58 = .ok (.iload_n 1, 1) := by decide +kernel
theorem dX7_askMay_59 : decode cX7_askMay 59 = .ok (.iload_n 2, 1) := by decide +kernel
theorem dX7_askMay_60 : decode cX7_askMay 60 = .ok (.invokevirtual 408, 3) := by decide +kernel
theorem dX7_askMay_63 : decode cX7_askMay 63 = .ok (.invokevirtual 319, 3) := by decide +kernel
theorem dX7_askMay_66 : decode cX7_askMay 66 = .ok (.ifCond .eq 36, 3) := by decide +kernel
theorem dX7_askMay_69 : decode cX7_askMay 69 = .ok (.aload_n 0, 1) := by decide +kernel
theorem dX7_askMay_70 : decode cX7_askMay 70 = .ok (.aload_n 0, 1) := by decide +kernel
theorem dX7_askMay_71 : decode cX7_askMay 71 = .ok (.iload_n 1, 1) := by decide +kernel
theorem dX7_askMay_72 : decode cX7_askMay 72 = .ok (.iload_n 2, 1) := by decide +kernel
theorem dX7_askMay_73 : decode cX7_askMay 73 = .ok (.iconst 1, 1) := by decide +kernel
theorem dX7_askMay_74 : decode cX7_askMay 74 = .ok (.iadd, 1) := by decide +kernel
theorem dX7_askMay_75 : decode cX7_askMay 75 = .ok (.invokevirtual 408, 3) := by decide +kernel
theorem dX7_askMay_78 : decode cX7_askMay 78 = .ok (.invokevirtual 326, 3) := by decide +kernel
theorem dX7_askMay_81 : decode cX7_askMay 81 = .ok (.ifCond .eq 21, 3) := by decide +kernel
theorem dX7_askMay_84 : decode cX7_askMay 84 = .ok (.aload_n 0, 1) := by decide +kernel
theorem dX7_askMay_85 : decode cX7_askMay 85 = .ok (.iload_n 1, 1) := by decide +kernel
theorem dX7_askMay_86 : decode cX7_askMay 86 = .ok (.iload_n 2, 1) := by decide +kernel
theorem dX7_askMay_87 : decode cX7_askMay 87 = .ok (.iconst 2, 1) := by decide +kernel
theorem dX7_askMay_88 : decode cX7_askMay 88 = .ok (.iadd, 1) := by decide +kernel
theorem dX7_askMay_89 : decode cX7_askMay 89 = .ok (.invokevirtual 408, 3) := by decide +kernel
theorem dX7_askMay_92 : decode cX7_askMay 92 = .ok (.lconst 0, 1) := by decide +kernel
theorem dX7_askMay_93 : decode cX7_askMay 93 = .ok (.ldc2_w 415, 3) := by decide +kernel
theorem dX7_askMay_96 : decode cX7_askMay 96 = .ok (.invokestatic 103, 3) := by decide +kernel
theorem dX7_askMay_99 : decode cX7_askMay 99 = .ok (.ifCond .ne 6, 3) := by decide +kernel
theorem dX7_askMay_102 : decode cX7_askMay 102 = .ok (.bipush (-2), 2) := by decide +kernel
theorem dX7_askMay_104 : decode cX7_askMay 104 = .ok (.ireturn, 1) := by decide +kernel
theorem dX7_askMay_105 : decode cX7_askMay 105 = .ok (.iinc 2 3, 3) := by decide +kernel
theorem dX7_askMay_108 : decode cX7_askMay 108 = .ok (.goto (-62), 3) := by decide +kernel
theorem dX7_askMay_111 : decode cX7_askMay 111 = .ok (.aload_n 0, 1) := by decide +kernel
theorem dX7_askMay_112 : decode cX7_askMay 112 = .ok (.aload_n 0, 1) := by decide +kernel
theorem dX7_askMay_113 : decode cX7_askMay 113 = .ok (.iload_n 1, 1) := by decide +kernel
theorem dX7_askMay_114 : decode cX7_askMay 114 = .ok (.invokevirtual 417, 3) := by decide +kernel
theorem dX7_askMay_117 : decode cX7_askMay 117 = .ok (.ifCond .eq 7, 3) := by decide +kernel
theorem dX7_askMay_120 : decode cX7_askMay 120 = .ok (.iconst 1, 1) := by decide +kernel
theorem dX7_askMay_121 : decode cX7_askMay 121 = .ok (.goto 4, 3) := by decide +kernel
theorem dX7_askMay_124 : decode cX7_askMay 124 = .ok (.iconst 0, 1) := by decide +kernel
theorem dX7_askMay_125 : decode cX7_askMay 125 = .ok (.putfield 420, 3) := by decide +kernel
theorem dX7_askMay_128 : decode cX7_askMay 128 = .ok (.aload_n 0, 1) := by decide +kernel
theorem dX7_askMay_129 : decode cX7_askMay 129 = .ok (.iconst 0, 1) := by decide +kernel
theorem dX7_askMay_130 : decode cX7_askMay 130 = .ok (.putfield 423, 3) := by decide +kernel
theorem dX7_askMay_133 : decode cX7_askMay 133 = .ok (.aload_n 0, 1) := by decide +kernel
theorem dX7_askMay_134 : decode cX7_askMay 134 = .ok (.iconst (-1), 1) := by decide +kernel
theorem dX7_askMay_135 : decode cX7_askMay 135 = .ok (.putfield 426, 3) := by decide +kernel
theorem dX7_askMay_138 : decode cX7_askMay 138 = .ok (.iconst 0, 1) := by decide +kernel
theorem dX7_askMay_139 : decode cX7_askMay 139 = .ok (.istore_n 2, 1) := by decide +kernel
theorem dX7_askMay_140 : decode cX7_askMay 140 = .ok (.iload_n 2, 1) := by decide +kernel
theorem dX7_askMay_141 : decode cX7_askMay 141 = .ok (.aload_n 0, 1) := by decide +kernel
theorem dX7_askMay_142 : decode cX7_askMay 142 = .ok (.getfield 9, 3) := by decide +kernel
theorem dX7_askMay_145 : decode cX7_askMay 145 = .ok (.iconst 3, 1) := by decide +kernel
theorem dX7_askMay_146 : decode cX7_askMay 146 = .ok (.iaload, 1) := by decide +kernel
theorem dX7_askMay_147 : decode cX7_askMay 147 = .ok (.if_icmp .ge 47, 3) := by decide +kernel
theorem dX7_askMay_150 : decode cX7_askMay 150 = .ok (.aload_n 0, 1) := by decide +kernel
theorem dX7_askMay_151 : decode cX7_askMay 151 = .ok (.iload_n 2, 1) := by decide +kernel
theorem dX7_askMay_152 : decode cX7_askMay 152 = .ok (.invokevirtual 405, 3) := by decide +kernel
theorem dX7_askMay_155 : decode cX7_askMay 155 = .ok (.aload_n 0, 1) := by decide +kernel
theorem dX7_askMay_156 : decode cX7_askMay 156 = .ok (.iload_n 1, 1) := by decide +kernel
theorem dX7_askMay_157 : decode cX7_askMay 157 = .ok (.invokevirtual 417, 3) := by decide +kernel
theorem dX7_askMay_160 : decode cX7_askMay 160 = .ok (.ifCond .ne 6, 3) := by decide +kernel
theorem dX7_askMay_163 : decode cX7_askMay 163 = .ok (.goto 25, 3) := by decide +kernel
theorem dX7_askMay_166 : decode cX7_askMay 166 = .ok (.aload_n 0, 1) := by decide +kernel
theorem dX7_askMay_167 : decode cX7_askMay 167 = .ok (.getfield 423, 3) := by decide +kernel
theorem dX7_askMay_170 : decode cX7_askMay 170 = .ok (.ifCond .ne 8, 3) := by decide +kernel
theorem dX7_askMay_173 : decode cX7_askMay 173 = .ok (.aload_n 0, 1) := by decide +kernel
theorem dX7_askMay_174 : decode cX7_askMay 174 = .ok (.iload_n 2, 1) := by decide +kernel
theorem dX7_askMay_175 : decode cX7_askMay 175 = .ok (.putfield 426, 3) := by decide +kernel
theorem dX7_askMay_178 : decode cX7_askMay 178 = .ok (.aload_n 0, 1) := by decide +kernel
theorem dX7_askMay_179 : decode cX7_askMay 179 = .ok (.dup, 1) := by decide +kernel
theorem dX7_askMay_180 : decode cX7_askMay 180 = .ok (.getfield 423, 3) := by decide +kernel
theorem dX7_askMay_183 : decode cX7_askMay 183 = .ok (.iconst 1, 1) := by decide +kernel
theorem dX7_askMay_184 : decode cX7_askMay 184 = .ok (.iadd, 1) := by decide +kernel
theorem dX7_askMay_185 : decode cX7_askMay 185 = .ok (.putfield 423, 3) := by decide +kernel
theorem dX7_askMay_188 : decode cX7_askMay 188 = .ok (.iinc 2 1, 3) := by decide +kernel
theorem dX7_askMay_191 : decode cX7_askMay 191 = .ok (.goto (-51), 3) := by decide +kernel
theorem dX7_askMay_194 : decode cX7_askMay 194 = .ok (.iconst 0, 1) := by decide +kernel
theorem dX7_askMay_195 : decode cX7_askMay 195 = .ok (.ireturn, 1) := by decide +kernel
theorem dX7_may_0 : decode cX7_may 0 = .ok (.aload_n 0, 1) := by decide +kernel
theorem dX7_may_1 : decode cX7_may 1 = .ok (.iload_n 1, 1) := by decide +kernel
theorem dX7_may_2 : decode cX7_may 2 = .ok (.invokevirtual 429, 3) := by decide +kernel
theorem dX7_may_5 : decode cX7_may 5 = .ok (.istore_n 2, 1) := by decide +kernel
theorem dX7_may_6 : decode cX7_may 6 = .ok (.iload_n 2, 1) := by decide +kernel
theorem dX7_may_7 : decode cX7_may 7 = .ok (.ifCond .ge 7, 3) := by decide +kernel
theorem dX7_may_10 : decode cX7_may 10 = .ok (.iload_n 2, 1) := by decide +kernel
theorem dX7_may_11 : decode cX7_may 11 = .ok (.goto 7, 3) := by decide +kernel
theorem dX7_may_14 : decode cX7_may 14 = .ok (.aload_n 0, 1) := by decide +kernel
theorem dX7_may_15 : decode cX7_may 15 = .ok (.getfield 423, 3) := by decide +kernel
theorem dX7_may_18 : decode cX7_may 18 = .ok (.ireturn, 1) := by decide +kernel
theorem dX7_which_0 : decode cX7_which 0 = .ok (.aload_n 0, 1) := by decide +kernel
theorem dX7_which_1 : decode cX7_which 1 = .ok (.iload_n 1, 1) := by decide +kernel
theorem dX7_which_2 : decode cX7_which 2 = .ok (.invokevirtual 429, 3) := by decide +kernel
theorem dX7_which_5 : decode cX7_which 5 = .ok (.istore_n 2, 1) := by decide +kernel
theorem dX7_which_6 : decode cX7_which 6 = .ok (.iload_n 2, 1) := by decide +kernel
theorem dX7_which_7 : decode cX7_which 7 = .ok (.ifCond .ge 7, 3) := by decide +kernel
theorem dX7_which_10 : decode cX7_which 10 = .ok (.iload_n 2, 1) := by decide +kernel
theorem dX7_which_11 : decode cX7_which 11 = .ok (.goto 7, 3) := by decide +kernel
theorem dX7_which_14 : decode cX7_which 14 = .ok (.aload_n 0, 1) := by decide +kernel
theorem dX7_which_15 : decode cX7_which 15 = .ok (.getfield 426, 3) := by decide +kernel
theorem dX7_which_18 : decode cX7_which 18 = .ok (.ireturn, 1) := by decide +kernel
theorem dX7_plain_0 : decode cX7_plain 0 = .ok (.aload_n 0, 1) := by decide +kernel
theorem dX7_plain_1 : decode cX7_plain 1 = .ok (.iload_n 1, 1) := by decide +kernel
theorem dX7_plain_2 : decode cX7_plain 2 = .ok (.invokevirtual 429, 3) := by decide +kernel
theorem dX7_plain_5 : decode cX7_plain 5 = .ok (.istore_n 2, 1) := by decide +kernel
theorem dX7_plain_6 : decode cX7_plain 6 = .ok (.iload_n 2, 1) := by decide +kernel
theorem dX7_plain_7 : decode cX7_plain 7 = .ok (.ifCond .ge 7, 3) := by decide +kernel
theorem dX7_plain_10 : decode cX7_plain 10 = .ok (.iload_n 2, 1) := by decide +kernel
theorem dX7_plain_11 : decode cX7_plain 11 = .ok (.goto 7, 3) := by decide +kernel
theorem dX7_plain_14 : decode cX7_plain 14 = .ok (.aload_n 0, 1) := by decide +kernel
theorem dX7_plain_15 : decode cX7_plain 15 = .ok (.getfield 420, 3) := by decide +kernel
theorem dX7_plain_18 : decode cX7_plain 18 = .ok (.ireturn, 1) := by decide +kernel
theorem dX7_savedBy_0 : decode cX7_savedBy 0 = .ok (.aload_n 0, 1) := by decide +kernel
theorem dX7_savedBy_1 : decode cX7_savedBy 1 = .ok (.iload_n 1, 1) := by decide +kernel
theorem dX7_savedBy_2 : decode cX7_savedBy 2 = .ok (.invokevirtual 313, 3) := by decide +kernel
theorem dX7_savedBy_5 : decode cX7_savedBy 5 = .ok (.iconst 0, 1) := by decide +kernel
theorem dX7_savedBy_6 : decode cX7_savedBy 6 = .ok (.istore_n 2, 1) := by decide +kernel
theorem dX7_savedBy_7 : decode cX7_savedBy 7 = .ok (.iconst 0, 1) := by decide +kernel
theorem dX7_savedBy_8 : decode cX7_savedBy 8 = .ok (.istore_n 3, 1) := by decide +kernel
theorem dX7_savedBy_9 : decode cX7_savedBy 9 = .ok (.iload_n 3, 1) := by decide +kernel
theorem dX7_savedBy_10 : decode cX7_savedBy 10 = .ok (.aload_n 0, 1) := by decide +kernel
theorem dX7_savedBy_11 : decode cX7_savedBy 11 = .ok (.getfield 257, 3) := by decide +kernel
theorem dX7_savedBy_14 : decode cX7_savedBy 14 = .ok (.if_icmp .ge 17, 3) := by decide +kernel
theorem dX7_savedBy_17 : decode cX7_savedBy 17 = .ok (.iload_n 2, 1) := by decide +kernel
theorem dX7_savedBy_18 : decode cX7_savedBy 18 = .ok (.aload_n 0, 1) := by decide +kernel
theorem dX7_savedBy_19 : decode cX7_savedBy 19 = .ok (.iload_n 3, 1) := by decide +kernel
theorem dX7_savedBy_20 : decode cX7_savedBy 20 = .ok (.invokevirtual 361, 3) := by decide +kernel
theorem dX7_savedBy_23 : decode cX7_savedBy 23 = .ok (.iadd, 1) := by decide +kernel
theorem dX7_savedBy_24 : decode cX7_savedBy 24 = .ok (.istore_n 2, 1) := by decide +kernel
theorem dX7_savedBy_25 : decode cX7_savedBy 25 = .ok (.iinc 3 1, 3) := by decide +kernel
theorem dX7_savedBy_28 : decode cX7_savedBy 28 = .ok (.goto (-19), 3) := by decide +kernel
theorem dX7_savedBy_31 : decode cX7_savedBy 31 = .ok (.iload_n 2, 1) := by decide +kernel
theorem dX7_savedBy_32 : decode cX7_savedBy 32 = .ok (.ireturn, 1) := by decide +kernel
theorem dX7_by_0 : decode cX7_by 0 = .ok (.aload_n 0, 1) := by decide +kernel
theorem dX7_by_1 : decode cX7_by 1 = .ok (.invokevirtual 316, 3) := by decide +kernel
theorem dX7_by_4 : decode cX7_by 4 = .ok (.ifCond .eq 23, 3) := by decide +kernel
theorem dX7_by_7 : decode cX7_by 7 = .ok (.iload_n 1, 1) := by decide +kernel
theorem dX7_by_8 : decode cX7_by 8 = .ok (.i2l, 1) := by decide +kernel
theorem dX7_by_9 : decode cX7_by 9 = .ok (.lconst 0, 1) := by decide +kernel
theorem dX7_by_10 : decode cX7_by 10 = .ok (.ldc2_w 332, 3) := by decide +kernel
theorem dX7_by_13 : decode cX7_by 13 = .ok (.invokestatic 103, 3) := by decide +kernel
theorem dX7_by_16 : decode cX7_by 16 = .ok (.ifCond .eq 11, 3) := by decide +kernel
theorem dX7_by_19 : decode cX7_by 19 = .ok (.aload_n 0, 1) := by decide +kernel
theorem dX7_by_20 : decode cX7_by 20 = .ok (.iload_n 1, 1) := by decide +kernel
theorem dX7_by_21 : decode cX7_by 21 = .ok (.invokevirtual 432, 3) := by decide +kernel
theorem dX7_by_24 : decode cX7_by 24 = .ok (.goto 5, 3) := by decide +kernel
theorem dX7_by_27 : decode cX7_by 27 = .ok (.bipush (-2), 2) := by decide +kernel
theorem dX7_by_29 : decode cX7_by 29 = .ok (.ireturn, 1) := by decide +kernel
theorem dX7_law_0 : decode cX7_law 0 = .ok (.aload_n 0, 1) := by decide +kernel
theorem dX7_law_1 : decode cX7_law 1 = .ok (.invokevirtual 316, 3) := by decide +kernel
theorem dX7_law_4 : decode cX7_law 4 = .ok (.ifCond .ne 6, 3) := by decide +kernel
theorem dX7_law_7 : decode cX7_law 7 = .ok (.bipush (-2), 2) := by decide +kernel
theorem dX7_law_9 : decode cX7_law 9 = .ok (.ireturn, 1) := by decide +kernel
theorem dX7_law_10 : decode cX7_law 10 = .ok (.iconst 0, 1) := by decide +kernel
theorem dX7_law_11 : decode cX7_law 11 = .ok (.istore_n 1, 1) := by decide +kernel
theorem dX7_law_12 : decode cX7_law 12 = .ok (.aload_n 0, 1) := by decide +kernel
theorem dX7_law_13 : decode cX7_law 13 = .ok (.iconst 0, 1) := by decide +kernel
theorem dX7_law_14 : decode cX7_law 14 = .ok (.invokevirtual 432, 3) := by decide +kernel
theorem dX7_law_17 : decode cX7_law 17 = .ok (.istore_n 2, 1) := by decide +kernel
theorem dX7_law_18 : decode cX7_law 18 = .ok (.iconst 1, 1) := by decide +kernel
theorem dX7_law_19 : decode cX7_law 19 = .ok (.istore_n 3, 1) := by decide +kernel
theorem dX7_law_20 : decode cX7_law 20 = .ok (.iload_n 3, 1) := by decide +kernel
theorem dX7_law_21 : decode cX7_law 21 = .ok (.iconst 4, 1) := by decide +kernel
theorem dX7_law_22 : decode cX7_law 22 = .ok (.if_icmp .ge 30, 3) := by decide +kernel
theorem dX7_law_25 : decode cX7_law 25 = .ok (.aload_n 0, 1) := by decide +kernel
theorem dX7_law_26 : decode cX7_law 26 = .ok (.iload_n 3, 1) := by decide +kernel
theorem dX7_law_27 : decode cX7_law 27 = .ok (.invokevirtual 432, 3) := by decide +kernel
theorem dX7_law_30 : decode cX7_law 30 = .ok (.istore 4, 2) := by decide +kernel
theorem dX7_law_32 : decode cX7_law 32 = .ok (.iload 4, 2) := by decide +kernel
theorem dX7_law_34 : decode cX7_law 34 = .ok (.iload_n 2, 1) := by decide +kernel
theorem dX7_law_35 : decode cX7_law 35 = .ok (.if_icmp .lt 6, 3) := by decide +kernel
theorem dX7_law_38 : decode cX7_law 38 = .ok (.goto 8, 3) := by decide +kernel
theorem dX7_law_41 : decode cX7_law 41 = .ok (.iload 4, 2) := by decide +kernel
theorem dX7_law_43 : decode cX7_law 43 = .ok (.istore_n 2, 1) := by decide +kernel
theorem dX7_law_44 : decode cX7_law 44 = .ok (.iload_n 3, 1) := by decide +kernel
theorem dX7_law_45 : decode cX7_law 45 = .ok (.istore_n 1, 1) := by decide +kernel
theorem dX7_law_46 : decode cX7_law 46 = .ok (.iinc 3 1, 3) := by decide +kernel
theorem dX7_law_49 : decode cX7_law 49 = .ok (.goto (-29), 3) := by decide +kernel
theorem dX7_law_52 : decode cX7_law 52 = .ok (.iload_n 1, 1) := by decide +kernel
theorem dX7_law_53 : decode cX7_law 53 = .ok (.ireturn, 1) := by decide +kernel
theorem dX7_isFirst_0 : decode cX7_isFirst 0 = .ok (.aload_n 0, 1) := by decide +kernel
theorem dX7_isFirst_1 : decode cX7_isFirst 1 = .ok (.lload_n 1, 1) := by decide +kernel
theorem dX7_isFirst_2 : decode cX7_isFirst 2 = .ok (.invokevirtual 435, 3) := by decide +kernel
theorem dX7_isFirst_5 : decode cX7_isFirst 5 = .ok (.ifCond .eq 24, 3) := by decide +kernel
theorem dX7_isFirst_8 : decode cX7_isFirst 8 = .ok (.lload_n 1, 1) := by decide +kernel
theorem dX7_isFirst_9 : decode cX7_isFirst 9 = .ok (.ldc2_w 438, 3) := by decide +kernel
theorem dX7_isFirst_12 : decode cX7_isFirst 12 = .ok (.lcmp, 1) := by decide +kernel
theorem dX7_isFirst_13 : decode cX7_isFirst 13 = .ok (.ifCond .ge 16, 3) := by decide +kernel
theorem dX7_isFirst_16 : decode cX7_isFirst 16 = .ok (.aload_n 0, 1) := by decide +kernel
theorem dX7_isFirst_17 : decode cX7_isFirst 17 = .ok (.lload_n 1, 1) := by decide +kernel
theorem dX7_isFirst_18 : decode cX7_isFirst 18 = .ok (.l2i, 1) := by decide +kernel
theorem dX7_isFirst_19 : decode cX7_isFirst 19 = .ok (.invokevirtual 249, 3) := by decide +kernel
theorem dX7_isFirst_22 : decode cX7_isFirst 22 = .ok (.ifCond .eq 7, 3) := by decide +kernel
theorem dX7_isFirst_25 : decode cX7_isFirst 25 = .ok (.iconst 1, 1) := by decide +kernel
theorem dX7_isFirst_26 : decode cX7_isFirst 26 = .ok (.goto 4, 3) := by decide +kernel
theorem dX7_isFirst_29 : decode cX7_isFirst 29 = .ok (.iconst 0, 1) := by decide +kernel
theorem dX7_isFirst_30 : decode cX7_isFirst 30 = .ok (.ireturn, 1) := by decide +kernel
theorem dX7_allFirst_0 : decode cX7_allFirst 0 = .ok (.iconst 0, 1) := by decide +kernel
theorem dX7_allFirst_1 : decode cX7_allFirst 1 = .ok (.istore_n 1, 1) := by decide +kernel
theorem dX7_allFirst_2 : decode cX7_allFirst 2 = .ok (.iconst 0, 1) := by decide +kernel
theorem dX7_allFirst_3 : decode cX7_allFirst 3 = .ok (.istore_n 2, 1) := by decide +kernel
theorem dX7_allFirst_4 : decode cX7_allFirst 4 = .ok (.iload_n 2, 1) := by decide +kernel
theorem dX7_allFirst_5 : decode cX7_allFirst 5 = .ok (.bipush 8, 2) := by decide +kernel
theorem dX7_allFirst_7 : decode cX7_allFirst 7 = .ok (.if_icmp .ge 28, 3) := by decide +kernel
theorem dX7_allFirst_10 : decode cX7_allFirst 10 = .ok (.iload_n 1, 1) := by decide +kernel
theorem dX7_allFirst_11 : decode cX7_allFirst 11 = .ok (.aload_n 0, 1) := by decide +kernel
theorem dX7_allFirst_12 : decode cX7_allFirst 12 = .ok (.iload_n 2, 1) := by decide +kernel
theorem dX7_allFirst_13 : decode cX7_allFirst 13 = .ok (.i2l, 1) := by decide +kernel
theorem dX7_allFirst_14 : decode cX7_allFirst 14 = .ok (.invokevirtual 440, 3) := by decide +kernel
theorem dX7_allFirst_17 : decode cX7_allFirst 17 = .ok (.ifCond .eq 9, 3) := by decide +kernel
theorem dX7_allFirst_20 : decode cX7_allFirst 20 = .ok (.iconst 1, 1) := by decide +kernel
theorem dX7_allFirst_21 : decode cX7_allFirst 21 = .ok (.iload_n 2, 1) := by decide +kernel
theorem dX7_allFirst_22 : decode cX7_allFirst 22 = .ok (.ishl, 1) := by decide +kernel
theorem dX7_allFirst_23 : decode cX7_allFirst 23 = .ok (.goto 4, 3) := by decide +kernel
theorem dX7_allFirst_26 : decode cX7_allFirst 26 = .ok (.iconst 0, 1) := by decide +kernel
theorem dX7_allFirst_27 : decode cX7_allFirst 27 = .ok (.ior, 1) := by decide +kernel
theorem dX7_allFirst_28 : decode cX7_allFirst 28 = .ok (.istore_n 1, 1) := by decide +kernel
theorem dX7_allFirst_29 : decode cX7_allFirst 29 = .ok (.iinc 2 1, 3) := by decide +kernel
theorem dX7_allFirst_32 : decode cX7_allFirst 32 = .ok (.goto (-28), 3) := by decide +kernel
theorem dX7_allFirst_35 : decode cX7_allFirst 35 = .ok (.iload_n 1, 1) := by decide +kernel
theorem dX7_allFirst_36 : decode cX7_allFirst 36 = .ok (.ireturn, 1) := by decide +kernel
theorem dX7_worthNow_0 : decode cX7_worthNow 0 = .ok (.aload_n 0, 1) := by decide +kernel
theorem dX7_worthNow_1 : decode cX7_worthNow 1 = .ok (.invokevirtual 310, 3) := by decide +kernel
theorem dX7_worthNow_4 : decode cX7_worthNow 4 = .ok (.iconst 0, 1) := by decide +kernel
theorem dX7_worthNow_5 : decode cX7_worthNow 5 = .ok (.istore_n 2, 1) := by decide +kernel
theorem dX7_worthNow_6 : decode cX7_worthNow 6 = .ok (.iload_n 2, 1) := by decide +kernel
theorem dX7_worthNow_7 : decode cX7_worthNow 7 = .ok (.bipush 8, 2) := by decide +kernel
theorem dX7_worthNow_9 : decode cX7_worthNow 9 = .ok (.if_icmp .ge 37, 3) := by decide +kernel
theorem dX7_worthNow_12 : decode cX7_worthNow 12 = .ok (.aload_n 0, 1) := by decide +kernel
theorem dX7_worthNow_13 : decode cX7_worthNow 13 = .ok (.getfield 34, 3) := by decide +kernel
theorem dX7_worthNow_16 : decode cX7_worthNow 16 = .ok (.iload_n 2, 1) := by decide +kernel
theorem dX7_worthNow_17 : decode cX7_worthNow 17 = .ok (.aload_n 0, 1) := by decide +kernel
theorem dX7_worthNow_18 : decode cX7_worthNow 18 = .ok (.iload_n 2, 1) := by decide +kernel
theorem dX7_worthNow_19 : decode cX7_worthNow 19 = .ok (.i2l, 1) := by decide +kernel
theorem dX7_worthNow_20 : decode cX7_worthNow 20 = .ok (.invokevirtual 440, 3) := by decide +kernel
theorem dX7_worthNow_23 : decode cX7_worthNow 23 = .ok (.ifCond .eq 15, 3) := by decide +kernel
theorem dX7_worthNow_26 : decode cX7_worthNow 26 = .ok (.iload_n 1, 1) := by decide +kernel
theorem dX7_worthNow_27 : decode cX7_worthNow 27 = .ok (.iload_n 2, 1) := by decide +kernel
theorem dX7_worthNow_28 : decode cX7_worthNow 28 = .ok (.invokestatic 443, 3) := by decide +kernel
theorem dX7_worthNow_31 : decode cX7_worthNow 31 = .ok (.ifCond .ne 7, 3) := by decide +kernel
theorem dX7_worthNow_34 : decode cX7_worthNow 34 = .ok (.iconst 1, 1) := by decide +kernel
theorem dX7_worthNow_35 : decode cX7_worthNow 35 = .ok (.goto 4, 3) := by decide +kernel
theorem dX7_worthNow_38 : decode cX7_worthNow 38 = .ok (.iconst 0, 1) := by decide +kernel
theorem dX7_worthNow_39 : decode cX7_worthNow 39 = .ok (.bastore, 1) := by decide +kernel
theorem dX7_worthNow_40 : decode cX7_worthNow 40 = .ok (.iinc 2 1, 3) := by decide +kernel
theorem dX7_worthNow_43 : decode cX7_worthNow 43 = .ok (.goto (-37), 3) := by decide +kernel
theorem dX7_worthNow_46 : decode cX7_worthNow 46 = .ok (.aload_n 0, 1) := by decide +kernel
theorem dX7_worthNow_47 : decode cX7_worthNow 47 = .ok (.invokevirtual 304, 3) := by decide +kernel
theorem dX7_worthNow_50 : decode cX7_worthNow 50 = .ok (.aload_n 0, 1) := by decide +kernel
theorem dX7_worthNow_51 : decode cX7_worthNow 51 = .ok (.invokevirtual 107, 3) := by decide +kernel
theorem dX7_worthNow_54 : decode cX7_worthNow 54 = .ok (.aload_n 0, 1) := by decide +kernel
theorem dX7_worthNow_55 : decode cX7_worthNow 55 = .ok (.invokevirtual 402, 3) := by decide +kernel
theorem dX7_worthNow_58 : decode cX7_worthNow 58 = .ok (.isub, 1) := by decide +kernel
theorem dX7_worthNow_59 : decode cX7_worthNow 59 = .ok (.ireturn, 1) := by decide +kernel
theorem dX7_worth_0 : decode cX7_worth 0 = .ok (.aload_n 0, 1) := by decide +kernel
theorem dX7_worth_1 : decode cX7_worth 1 = .ok (.invokevirtual 114, 3) := by decide +kernel
theorem dX7_worth_4 : decode cX7_worth 4 = .ok (.ifCond .eq 23, 3) := by decide +kernel
theorem dX7_worth_7 : decode cX7_worth 7 = .ok (.iload_n 1, 1) := by decide +kernel
theorem dX7_worth_8 : decode cX7_worth 8 = .ok (.i2l, 1) := by decide +kernel
theorem dX7_worth_9 : decode cX7_worth 9 = .ok (.lconst 0, 1) := by decide +kernel
theorem dX7_worth_10 : decode cX7_worth 10 = .ok (.ldc2_w 415, 3) := by decide +kernel
theorem dX7_worth_13 : decode cX7_worth 13 = .ok (.invokestatic 103, 3) := by decide +kernel
theorem dX7_worth_16 : decode cX7_worth 16 = .ok (.ifCond .eq 11, 3) := by decide +kernel
theorem dX7_worth_19 : decode cX7_worth 19 = .ok (.aload_n 0, 1) := by decide +kernel
theorem dX7_worth_20 : decode cX7_worth 20 = .ok (.iload_n 1, 1) := by decide +kernel
theorem dX7_worth_21 : decode cX7_worth 21 = .ok (.invokevirtual 446, 3) := by decide +kernel
theorem dX7_worth_24 : decode cX7_worth 24 = .ok (.goto 5, 3) := by decide +kernel
theorem dX7_worth_27 : decode cX7_worth 27 = .ok (.bipush (-2), 2) := by decide +kernel
theorem dX7_worth_29 : decode cX7_worth 29 = .ok (.ireturn, 1) := by decide +kernel
theorem dX7_bits_0 : decode cX7_bits 0 = .ok (.iconst 0, 1) := by decide +kernel
theorem dX7_bits_1 : decode cX7_bits 1 = .ok (.istore_n 1, 1) := by decide +kernel
theorem dX7_bits_2 : decode cX7_bits 2 = .ok (.iconst 0, 1) := by decide +kernel
theorem dX7_bits_3 : decode cX7_bits 3 = .ok (.istore_n 2, 1) := by decide +kernel
theorem dX7_bits_4 : decode cX7_bits 4 = .ok (.iload_n 2, 1) := by decide +kernel
theorem dX7_bits_5 : decode cX7_bits 5 = .ok (.bipush 8, 2) := by decide +kernel
theorem dX7_bits_7 : decode cX7_bits 7 = .ok (.if_icmp .ge 17, 3) := by decide +kernel
theorem dX7_bits_10 : decode cX7_bits 10 = .ok (.iload_n 1, 1) := by decide +kernel
theorem dX7_bits_11 : decode cX7_bits 11 = .ok (.iload_n 0, 1) := by decide +kernel
theorem dX7_bits_12 : decode cX7_bits 12 = .ok (.iload_n 2, 1) := by decide +kernel
theorem dX7_bits_13 : decode cX7_bits 13 = .ok (.invokestatic 443, 3) := by decide +kernel
theorem dX7_bits_16 : decode cX7_bits 16 = .ok (.iadd, 1) := by decide +kernel
theorem dX7_bits_17 : decode cX7_bits 17 = .ok (.istore_n 1, 1) := by decide +kernel
theorem dX7_bits_18 : decode cX7_bits 18 = .ok (.iinc 2 1, 3) := by decide +kernel
theorem dX7_bits_21 : decode cX7_bits 21 = .ok (.goto (-17), 3) := by decide +kernel
theorem dX7_bits_24 : decode cX7_bits 24 = .ok (.iload_n 1, 1) := by decide +kernel
theorem dX7_bits_25 : decode cX7_bits 25 = .ok (.ireturn, 1) := by decide +kernel
theorem dX7_factorial_0 : decode cX7_factorial 0 = .ok (.lconst 1, 1) := by decide +kernel
theorem dX7_factorial_1 : decode cX7_factorial 1 = .ok (.lstore_n 1, 1) := by decide +kernel
theorem dX7_factorial_2 : decode cX7_factorial 2 = .ok (.iconst 2, 1) := by decide +kernel
theorem dX7_factorial_3 : decode cX7_factorial 3 = .ok (.istore_n 3, 1) := by decide +kernel
theorem dX7_factorial_4 : decode cX7_factorial 4 = .ok (.iload_n 3, 1) := by decide +kernel
theorem dX7_factorial_5 : decode cX7_factorial 5 = .ok (.iload_n 0, 1) := by decide +kernel
theorem dX7_factorial_6 : decode cX7_factorial 6 = .ok (.if_icmp .gt 14, 3) := by decide +kernel
theorem dX7_factorial_9 : decode cX7_factorial 9 = .ok (.lload_n 1, 1) := by decide +kernel
theorem dX7_factorial_10 : decode cX7_factorial 10 = .ok (.iload_n 3, 1) := by decide +kernel
theorem dX7_factorial_11 : decode cX7_factorial 11 = .ok (.i2l, 1) := by decide +kernel
theorem dX7_factorial_12 : decode cX7_factorial 12 = .ok (.lmul, 1) := by decide +kernel
theorem dX7_factorial_13 : decode cX7_factorial 13 = .ok (.lstore_n 1, 1) := by decide +kernel
theorem dX7_factorial_14 : decode cX7_factorial 14 = .ok (.iinc 3 1, 3) := by decide +kernel
theorem dX7_factorial_17 : decode cX7_factorial 17 = .ok (.goto (-13), 3) := by decide +kernel
theorem dX7_factorial_20 : decode cX7_factorial 20 = .ok (.lload_n 1, 1) := by decide +kernel
theorem dX7_factorial_21 : decode cX7_factorial 21 = .ok (.lreturn, 1) := by decide +kernel
theorem dX7_divisor_0 : decode cX7_divisor 0 = .ok (.lload_n 0, 1) := by decide +kernel
theorem dX7_divisor_1 : decode cX7_divisor 1 = .ok (.invokestatic 449, 3) := by decide +kernel
theorem dX7_divisor_4 : decode cX7_divisor 4 = .ok (.lstore 4, 2) := by decide +kernel
theorem dX7_divisor_6 : decode cX7_divisor 6 = .ok (.lload_n 2, 1) := by decide +kernel
theorem dX7_divisor_7 : decode cX7_divisor 7 = .ok (.lstore 6, 2) := by decide +kernel
theorem dX7_divisor_9 : decode cX7_divisor 9 = .ok (.lload 6, 2) := by decide +kernel
theorem dX7_divisor_11 : decode cX7_divisor 11 = .ok (.lconst 0, 1) := by decide +kernel
theorem dX7_divisor_12 : decode cX7_divisor 12 = .ok (.lcmp, 1) := by decide +kernel
theorem dX7_divisor_13 : decode cX7_divisor 13 = .ok (.ifCond .eq 21, 3) := by decide +kernel
theorem dX7_divisor_16 : decode cX7_divisor 16 = .ok (.lload 4, 2) := by decide +kernel
theorem dX7_divisor_18 : decode cX7_divisor 18 = .ok (.lload 6, 2) := by decide +kernel
theorem dX7_divisor_20 : decode cX7_divisor 20 = .ok (.lrem, 1) := by decide +kernel
theorem dX7_divisor_21 : decode cX7_divisor 21 = .ok (.lstore 8, 2) := by decide +kernel
theorem dX7_divisor_23 : decode cX7_divisor 23 = .ok (.lload 6, 2) := by decide +kernel
theorem dX7_divisor_25 : decode cX7_divisor 25 = .ok (.lstore 4, 2) := by decide +kernel
theorem dX7_divisor_27 : decode cX7_divisor 27 = .ok (.lload 8, 2) := by decide +kernel
theorem dX7_divisor_29 : decode cX7_divisor 29 = .ok (.lstore 6, 2) := by decide +kernel
theorem dX7_divisor_31 : decode cX7_divisor 31 = .ok (.goto (-22), 3) := by decide +kernel
theorem dX7_divisor_34 : decode cX7_divisor 34 = .ok (.lload 4, 2) := by decide +kernel
theorem dX7_divisor_36 : decode cX7_divisor 36 = .ok (.lreturn, 1) := by decide +kernel
theorem dX7_fraction_0 : decode cX7_fraction 0 = .ok (.iload 4, 2) := by decide +kernel
theorem dX7_fraction_2 : decode cX7_fraction 2 = .ok (.ifCond .ne 7, 3) := by decide +kernel
theorem dX7_fraction_5 : decode cX7_fraction 5 = .ok (.lload_n 0, 1) := by decide +kernel
theorem dX7_fraction_6 : decode cX7_fraction 6 = .ok (.goto 4, 3) := by decide +kernel
theorem dX7_fraction_9 : decode cX7_fraction 9 = .ok (.lload_n 2, 1) := by decide +kernel
theorem dX7_fraction_10 : decode cX7_fraction 10 = .ok (.lload_n 0, 1) := by decide +kernel
theorem dX7_fraction_11 : decode cX7_fraction 11 = .ok (.lload_n 2, 1) := by decide +kernel
theorem dX7_fraction_12 : decode cX7_fraction 12 = .ok (.invokestatic 453, 3) := by decide +kernel
theorem dX7_fraction_15 : decode cX7_fraction 15 = .ok (.ldiv, 1) := by decide +kernel
theorem dX7_fraction_16 : decode cX7_fraction 16 = .ok (.lreturn, 1) := by decide +kernel
theorem dX7_share_0 : decode cX7_share 0 = .ok (.aload_n 0, 1) := by decide +kernel
theorem dX7_share_1 : decode cX7_share 1 = .ok (.invokevirtual 114, 3) := by decide +kernel
theorem dX7_share_4 : decode cX7_share 4 = .ok (.ifCond .eq 22, 3) := by decide +kernel
theorem dX7_share_7 : decode cX7_share 7 = .ok (.aload_n 0, 1) := by decide +kernel
theorem dX7_share_8 : decode cX7_share 8 = .ok (.iload_n 1, 1) := by decide +kernel
theorem dX7_share_9 : decode cX7_share 9 = .ok (.i2l, 1) := by decide +kernel
theorem dX7_share_10 : decode cX7_share 10 = .ok (.invokevirtual 440, 3) := by decide +kernel
theorem dX7_share_13 : decode cX7_share 13 = .ok (.ifCond .eq 13, 3) := by decide +kernel
theorem dX7_share_16 : decode cX7_share 16 = .ok (.iload_n 2, 1) := by decide +kernel
theorem dX7_share_17 : decode cX7_share 17 = .ok (.i2l, 1) := by decide +kernel
theorem dX7_share_18 : decode cX7_share 18 = .ok (.lconst 0, 1) := by decide +kernel
theorem dX7_share_19 : decode cX7_share 19 = .ok (.lconst 1, 1) := by decide +kernel
theorem dX7_share_20 : decode cX7_share 20 = .ok (.invokestatic 103, 3) := by decide +kernel
theorem dX7_share_23 : decode cX7_share 23 = .ok (.ifCond .ne 7, 3) := by decide +kernel
theorem dX7_share_26 : decode cX7_share 26 = .ok (.sipush (-1000), 3) := by decide +kernel
theorem dX7_share_29 : decode cX7_share 29 = .ok (.ireturn, 1) := by decide +kernel
theorem dX7_share_30 : decode cX7_share 30 = .ok (.aload_n 0, 1) := by decide +kernel
theorem dX7_share_31 : decode cX7_share 31 = .ok (.invokevirtual 457, 3) := by decide +kernel
theorem dX7_share_34 : decode cX7_share 34 = .ok (.istore_n 3, 1) := by decide +kernel
theorem dX7_share_35 : decode cX7_share 35 = .ok (.iload_n 3, 1) := by decide +kernel
theorem dX7_share_36 : decode cX7_share 36 = .ok (.invokestatic 460, 3) := by decide +kernel
theorem dX7_share_39 : decode cX7_share 39 = .ok (.istore 4, 2) := by decide +kernel
theorem dX7_share_41 : decode cX7_share 41 = .ok (.iconst 0, 1) := by decide +kernel
theorem dX7_share_42 : decode cX7_share 42 = .ok (.istore 5, 2) := by decide +kernel
theorem dX7_share_44 : decode cX7_share 44 = .ok (.iload 5, 2) := by decide +kernel
theorem dX7_share_46 : decode cX7_share 46 = .ok (.iload_n 3, 1) := by decide +kernel
theorem dX7_share_47 : decode cX7_share 47 = .ok (.if_icmp .gt 31, 3) := by decide +kernel
theorem dX7_share_50 : decode cX7_share 50 = .ok (.iload 5, 2) := by decide +kernel
theorem dX7_share_52 : decode cX7_share 52 = .ok (.iload_n 3, 1) := by decide +kernel
theorem dX7_share_53 : decode cX7_share 53 = .ok (.iconst (-1), 1) := by decide +kernel
theorem dX7_share_54 : decode cX7_share 54 = .ok (.ixor, 1) := by decide +kernel
theorem dX7_share_55 : decode cX7_share 55 = .ok (.iand, 1) := by decide +kernel
theorem dX7_share_56 : decode cX7_share 56 = .ok (.ifCond .ne 16, 3) := by decide +kernel
theorem dX7_share_59 : decode cX7_share 59 = .ok (.aload_n 0, 1) := by decide +kernel
theorem dX7_share_60 : decode cX7_share 60 = .ok (.getfield 82, 3) := by decide +kernel
theorem dX7_share_63 : decode cX7_share 63 = .ok (.iload 5, 2) := by decide +kernel
theorem dX7_share_65 : decode cX7_share 65 = .ok (.aload_n 0, 1) := by decide +kernel
theorem dX7_share_66 : decode cX7_share 66 = .ok (.iload 5, 2) := by decide +kernel
theorem dX7_share_68 : decode cX7_share 68 = .ok (.invokevirtual 446, 3) := by decide +kernel
theorem dX7_share_71 : decode cX7_share 71 = .ok (.iastore, 1) := by decide +kernel
theorem dX7_share_72 : decode cX7_share 72 = .ok (.iinc 5 1, 3) := by decide +kernel
theorem dX7_share_75 : decode cX7_share 75 = .ok (.goto (-31), 3) := by decide +kernel
theorem dX7_share_78 : decode cX7_share 78 = .ok (.lconst 0, 1) := by decide +kernel
theorem dX7_share_79 : decode cX7_share 79 = .ok (.lstore 5, 2) := by decide +kernel
theorem dX7_share_81 : decode cX7_share 81 = .ok (.iconst 0, 1) := by decide +kernel
theorem dX7_share_82 : decode cX7_share 82 = .ok (.istore 7, 2) := by decide +kernel
theorem dX7_share_84 : decode cX7_share 84 = .ok (.iload 7, 2) := by decide +kernel
theorem dX7_share_86 : decode cX7_share 86 = .ok (.iload_n 3, 1) := by decide +kernel
theorem dX7_share_87 : decode cX7_share 87 = .ok (.if_icmp .gt 75, 3) := by decide +kernel
theorem dX7_share_90 : decode cX7_share 90 = .ok (.iload 7, 2) := by decide +kernel
theorem dX7_share_92 : decode cX7_share 92 = .ok (.iload_n 3, 1) := by decide +kernel
theorem dX7_share_93 : decode cX7_share 93 = .ok (.iconst (-1), 1) := by decide +kernel
theorem dX7_share_94 : decode cX7_share 94 = .ok (.ixor, 1) := by decide +kernel
theorem dX7_share_95 : decode cX7_share 95 = .ok (.iand, 1) := by decide +kernel
theorem dX7_share_96 : decode cX7_share 96 = .ok (.ifCond .ne 60, 3) := by decide +kernel
theorem dX7_share_99 : decode cX7_share 99 = .ok (.iload 7, 2) := by decide +kernel
theorem dX7_share_101 : decode cX7_share 101 = .ok (.iload_n 1, 1) := by decide +kernel
theorem dX7_share_102 : decode cX7_share 102 = .ok (.invokestatic 443, 3) := by decide +kernel
theorem dX7_share_105 : decode cX7_share 105 = .ok (.ifCond .ne 51, 3) := by decide +kernel
theorem dX7_share_108 : decode cX7_share 108 = .ok (.lload 5, 2) := by decide +kernel
theorem dX7_share_110 : decode cX7_share 110 = .ok (.iload 7, 2) := by decide +kernel
theorem dX7_share_112 : decode cX7_share 112 = .ok (.invokestatic 460, 3) := by decide +kernel
theorem dX7_share_115 : decode cX7_share 115 = .ok (.invokestatic 463, 3) := by decide +kernel
theorem dX7_share_118 : decode cX7_share 118 = .ok (.iload 4, 2) := by decide +kernel
theorem dX7_share_120 : decode cX7_share 120 = .ok (.iconst 1, 1) := by decide +kernel
theorem dX7_share_121 : decode cX7_share 121 = .ok (.isub, 1) := by decide +kernel
theorem dX7_share_122 : decode cX7_share 122 = .ok (.iload 7, 2) := by decide +kernel
theorem dX7_share_124 : decode cX7_share 124 = .ok (.invokestatic 460, 3) := by decide +kernel
theorem dX7_share_127 : decode cX7_share 127 = .ok (.isub, 1) := by decide +kernel
theorem dX7_share_128 : decode cX7_share 128 = .ok (.invokestatic 463, 3) := by decide +kernel
theorem dX7_share_131 : decode cX7_share 131 = .ok (.lmul, 1) := by decide +kernel
theorem dX7_share_132 : decode cX7_share 132 = .ok (.aload_n 0, 1) := by decide +kernel
theorem dX7_share_133 : decode cX7_share 133 = .ok (.getfield 82, 3) := by decide +kernel
theorem dX7_share_136 : decode cX7_share 136 = .ok (.iload 7, 2) := by decide +kernel
theorem dX7_share_138 : decode cX7_share 138 = .ok (.iconst 1, 1) := by decide +kernel
theorem dX7_share_139 : decode cX7_share 139 = .ok (.iload_n 1, 1) := by decide +kernel
theorem dX7_share_140 : decode cX7_share 140 = .ok (.ishl, 1) := by decide +kernel
theorem dX7_share_141 : decode cX7_share 141 = .ok (.ior, 1) := by decide +kernel
theorem dX7_share_142 : decode cX7_share 142 = .ok (.iaload, 1) := by decide +kernel
theorem dX7_share_143 : decode cX7_share 143 = .ok (.aload_n 0, 1) := by decide +kernel
theorem dX7_share_144 : decode cX7_share 144 = .ok (.getfield 82, 3) := by decide +kernel
theorem dX7_share_147 : decode cX7_share 147 = .ok (.iload 7, 2) := by decide +kernel
theorem dX7_share_149 : decode cX7_share 149 = .ok (.iaload, 1) := by decide +kernel
theorem dX7_share_150 : decode cX7_share 150 = .ok (.isub, 1) := by decide +kernel
theorem dX7_share_151 : decode cX7_share 151 = .ok (.i2l, 1) := by decide +kernel
theorem dX7_share_152 : decode cX7_share 152 = .ok (.lmul, 1) := by decide +kernel
theorem dX7_share_153 : decode cX7_share 153 = .ok (.ladd, 1) := by decide +kernel
theorem dX7_share_154 : decode cX7_share 154 = .ok (.lstore 5, 2) := by decide +kernel
theorem dX7_share_156 : decode cX7_share 156 = .ok (.iinc 7 1, 3) := by decide +kernel
theorem dX7_share_159 : decode cX7_share 159 = .ok (.goto (-75), 3) := by decide +kernel
theorem dX7_share_162 : decode cX7_share 162 = .ok (.lload 5, 2) := by decide +kernel
theorem dX7_share_164 : decode cX7_share 164 = .ok (.iload 4, 2) := by decide +kernel
theorem dX7_share_166 : decode cX7_share 166 = .ok (.invokestatic 463, 3) := by decide +kernel
theorem dX7_share_169 : decode cX7_share 169 = .ok (.iload_n 2, 1) := by decide +kernel
theorem dX7_share_170 : decode cX7_share 170 = .ok (.invokestatic 467, 3) := by decide +kernel
theorem dX7_share_173 : decode cX7_share 173 = .ok (.l2i, 1) := by decide +kernel
theorem dX7_share_174 : decode cX7_share 174 = .ok (.ireturn, 1) := by decide +kernel
theorem dX7_getsBy_0 : decode cX7_getsBy 0 = .ok (.aload_n 0, 1) := by decide +kernel
theorem dX7_getsBy_1 : decode cX7_getsBy 1 = .ok (.invokevirtual 310, 3) := by decide +kernel
theorem dX7_getsBy_4 : decode cX7_getsBy 4 = .ok (.aload_n 0, 1) := by decide +kernel
theorem dX7_getsBy_5 : decode cX7_getsBy 5 = .ok (.getfield 34, 3) := by decide +kernel
theorem dX7_getsBy_8 : decode cX7_getsBy 8 = .ok (.iload_n 1, 1) := by decide +kernel
theorem dX7_getsBy_9 : decode cX7_getsBy 9 = .ok (.iload_n 3, 1) := by decide +kernel
theorem dX7_getsBy_10 : decode cX7_getsBy 10 = .ok (.iconst 1, 1) := by decide +kernel
theorem dX7_getsBy_11 : decode cX7_getsBy 11 = .ok (.if_icmp .ne 7, 3) := by decide +kernel
theorem dX7_getsBy_14 : decode cX7_getsBy 14 = .ok (.iconst 1, 1) := by decide +kernel
theorem dX7_getsBy_15 : decode cX7_getsBy 15 = .ok (.goto 4, 3) := by decide +kernel
theorem dX7_getsBy_18 : decode cX7_getsBy 18 = .ok (.iconst 0, 1) := by decide +kernel
theorem dX7_getsBy_19 : decode cX7_getsBy 19 = .ok (.bastore, 1) := by decide +kernel
theorem dX7_getsBy_20 : decode cX7_getsBy 20 = .ok (.aload_n 0, 1) := by decide +kernel
theorem dX7_getsBy_21 : decode cX7_getsBy 21 = .ok (.getfield 34, 3) := by decide +kernel
theorem dX7_getsBy_24 : decode cX7_getsBy 24 = .ok (.iload_n 2, 1) := by decide +kernel
theorem dX7_getsBy_25 : decode cX7_getsBy 25 = .ok (.iload 4, 2) := by decide +kernel
theorem dX7_getsBy_27 : decode cX7_getsBy 27 = .ok (.iconst 1, 1) := by decide +kernel
theorem dX7_getsBy_28 : decode cX7_getsBy 28 = .ok (.if_icmp .ne 7, 3) := by decide +kernel
theorem dX7_getsBy_31 : decode cX7_getsBy 31 = .ok (.iconst 1, 1) := by decide +kernel
theorem dX7_getsBy_32 : decode cX7_getsBy 32 = .ok (.goto 4, 3) := by decide +kernel
theorem dX7_getsBy_35 : decode cX7_getsBy 35 = .ok (.iconst 0, 1) := by decide +kernel
theorem dX7_getsBy_36 : decode cX7_getsBy 36 = .ok (.bastore, 1) := by decide +kernel
theorem dX7_getsBy_37 : decode cX7_getsBy 37 = .ok (.aload_n 0, 1) := by decide +kernel
theorem dX7_getsBy_38 : decode cX7_getsBy 38 = .ok (.aload_n 0, 1) := by decide +kernel
theorem dX7_getsBy_39 : decode cX7_getsBy 39 = .ok (.getfield 9, 3) := by decide +kernel
theorem dX7_getsBy_42 : decode cX7_getsBy 42 = .ok (.iconst 1, 1) := by decide +kernel
theorem dX7_getsBy_43 : decode cX7_getsBy 43 = .ok (.iaload, 1) := by decide +kernel
theorem dX7_getsBy_44 : decode cX7_getsBy 44 = .ok (.invokevirtual 313, 3) := by decide +kernel
theorem dX7_getsBy_47 : decode cX7_getsBy 47 = .ok (.iconst 0, 1) := by decide +kernel
theorem dX7_getsBy_48 : decode cX7_getsBy 48 = .ok (.istore 6, 2) := by decide +kernel
theorem dX7_getsBy_50 : decode cX7_getsBy 50 = .ok (.iconst 0, 1) := by decide +kernel
theorem dX7_getsBy_51 : decode cX7_getsBy 51 = .ok (.istore 7, 2) := by decide +kernel
theorem dX7_getsBy_53 : decode cX7_getsBy 53 = .ok (.iload 7, 2) := by decide +kernel
theorem dX7_getsBy_55 : decode cX7_getsBy 55 = .ok (.aload_n 0, 1) := by decide +kernel
theorem dX7_getsBy_56 : decode cX7_getsBy 56 = .ok (.getfield 257, 3) := by decide +kernel
theorem dX7_getsBy_59 : decode cX7_getsBy 59 = .ok (.if_icmp .ge 36, 3) := by decide +kernel
theorem dX7_getsBy_62 : decode cX7_getsBy 62 = .ok (.iload 6, 2) := by decide +kernel
theorem dX7_getsBy_64 : decode cX7_getsBy 64 = .ok (.aload_n 0, 1) := by decide +kernel
theorem dX7_getsBy_65 : decode cX7_getsBy 65 = .ok (.getfield 49, 3) := by decide +kernel
theorem dX7_getsBy_68 : decode cX7_getsBy 68 = .ok (.iload 7, 2) := by decide +kernel
theorem dX7_getsBy_70 : decode cX7_getsBy 70 = .ok (.iaload, 1) := by decide +kernel
theorem dX7_getsBy_71 : decode cX7_getsBy 71 = .ok (.iconst 1, 1) := by decide +kernel
theorem dX7_getsBy_72 : decode cX7_getsBy 72 = .ok (.if_icmp .ne 13, 3) := by decide +kernel
theorem dX7_getsBy_75 : decode cX7_getsBy 75 = .ok (.aload_n 0, 1) := by decide +kernel
theorem dX7_getsBy_76 : decode cX7_getsBy 76 = .ok (.getfield 55, 3) := by decide +kernel
theorem dX7_getsBy_79 : decode cX7_getsBy 79 = .ok (.iload 7, 2) := by decide +kernel
theorem dX7_getsBy_81 : decode cX7_getsBy 81 = .ok (.iaload, 1) := by decide +kernel
theorem dX7_getsBy_82 : decode cX7_getsBy 82 = .ok (.goto 4, 3) := by decide +kernel
theorem dX7_getsBy_85 : decode cX7_getsBy 85 = .ok (.iconst 0, 1) := by decide +kernel
theorem dX7_getsBy_86 : decode cX7_getsBy 86 = .ok (.iadd, 1) := by decide +kernel
theorem dX7_getsBy_87 : decode cX7_getsBy 87 = .ok (.istore 6, 2) := by decide +kernel
theorem dX7_getsBy_89 : decode cX7_getsBy 89 = .ok (.iinc 7 1, 3) := by decide +kernel
theorem dX7_getsBy_92 : decode cX7_getsBy 92 = .ok (.goto (-39), 3) := by decide +kernel
theorem dX7_getsBy_95 : decode cX7_getsBy 95 = .ok (.iload 6, 2) := by decide +kernel
theorem dX7_getsBy_97 : decode cX7_getsBy 97 = .ok (.iconst 3, 1) := by decide +kernel
theorem dX7_getsBy_98 : decode cX7_getsBy 98 = .ok (.iload 5, 2) := by decide +kernel
theorem dX7_getsBy_100 : decode cX7_getsBy 100 = .ok (.ifCond .ne 7, 3) := by decide +kernel
theorem dX7_getsBy_103 : decode cX7_getsBy 103 = .ok (.iload_n 3, 1) := by decide +kernel
theorem dX7_getsBy_104 : decode cX7_getsBy 104 = .ok (.goto 5, 3) := by decide +kernel
theorem dX7_getsBy_107 : decode cX7_getsBy 107 = .ok (.iload 4, 2) := by decide +kernel
theorem dX7_getsBy_109 : decode cX7_getsBy 109 = .ok (.imul, 1) := by decide +kernel
theorem dX7_getsBy_110 : decode cX7_getsBy 110 = .ok (.isub, 1) := by decide +kernel
theorem dX7_getsBy_111 : decode cX7_getsBy 111 = .ok (.ireturn, 1) := by decide +kernel
theorem dX7_areBoth_0 : decode cX7_areBoth 0 = .ok (.aload_n 0, 1) := by decide +kernel
theorem dX7_areBoth_1 : decode cX7_areBoth 1 = .ok (.iload_n 1, 1) := by decide +kernel
theorem dX7_areBoth_2 : decode cX7_areBoth 2 = .ok (.i2l, 1) := by decide +kernel
theorem dX7_areBoth_3 : decode cX7_areBoth 3 = .ok (.invokevirtual 435, 3) := by decide +kernel
theorem dX7_areBoth_6 : decode cX7_areBoth 6 = .ok (.ifCond .eq 21, 3) := by decide +kernel
theorem dX7_areBoth_9 : decode cX7_areBoth 9 = .ok (.aload_n 0, 1) := by decide +kernel
theorem dX7_areBoth_10 : decode cX7_areBoth 10 = .ok (.iload_n 2, 1) := by decide +kernel
theorem dX7_areBoth_11 : decode cX7_areBoth 11 = .ok (.i2l, 1) := by decide +kernel
theorem dX7_areBoth_12 : decode cX7_areBoth 12 = .ok (.invokevirtual 435, 3) := by decide +kernel
theorem dX7_areBoth_15 : decode cX7_areBoth 15 = .ok (.ifCond .eq 12, 3) := by decide +kernel
theorem dX7_areBoth_18 : decode cX7_areBoth 18 = .ok (.iload_n 1, 1) := by decide +kernel
theorem dX7_areBoth_19 : decode cX7_areBoth 19 = .ok (.iload_n 2, 1) := by decide +kernel
theorem dX7_areBoth_20 : decode cX7_areBoth 20 = .ok (.if_icmp .eq 7, 3) := by decide +kernel
theorem dX7_areBoth_23 : decode cX7_areBoth 23 = .ok (.iconst 1, 1) := by decide +kernel
theorem dX7_areBoth_24 : decode cX7_areBoth 24 = .ok (.goto 4, 3) := by decide +kernel
theorem dX7_areBoth_27 : decode cX7_areBoth 27 = .ok (.iconst 0, 1) := by decide +kernel
theorem dX7_areBoth_28 : decode cX7_areBoth 28 = .ok (.ireturn, 1) := by decide +kernel
theorem dX7_rests_0 : decode cX7_rests 0 = .ok (.aload_n 0, 1) := by decide +kernel
theorem dX7_rests_1 : decode cX7_rests 1 = .ok (.iload_n 1, 1) := by decide +kernel
theorem dX7_rests_2 : decode cX7_rests 2 = .ok (.iload_n 2, 1) := by decide +kernel
theorem dX7_rests_3 : decode cX7_rests 3 = .ok (.invokevirtual 471, 3) := by decide +kernel
theorem dX7_rests_6 : decode cX7_rests 6 = .ok (.ifCond .ne 6, 3) := by decide +kernel
theorem dX7_rests_9 : decode cX7_rests 9 = .ok (.bipush (-2), 2) := by decide +kernel
theorem dX7_rests_11 : decode cX7_rests 11 = .ok (.ireturn, 1) := by decide +kernel
theorem dX7_rests_12 : decode cX7_rests 12 = .ok (.iconst 0, 1) := by decide +kernel
theorem dX7_rests_13 : decode cX7_rests 13 = .ok (.istore_n 3, 1) := by decide +kernel
theorem dX7_rests_14 : decode cX7_rests 14 = .ok (.iconst 0, 1) := by decide +kernel
theorem dX7_rests_15 : decode cX7_rests 15 = .ok (.istore 4, 2) := by decide +kernel
theorem dX7_rests_17 : decode cX7_rests 17 = .ok (.iload 4, 2) := by decide +kernel
theorem dX7_rests_19 : decode cX7_rests 19 = .ok (.iconst 4, 1) := by decide +kernel
theorem dX7_rests_20 : decode cX7_rests 20 = .ok (.if_icmp .ge 98, 3) := by decide +kernel
theorem dX7_rests_23 : decode cX7_rests 23 = .ok (.iload 4, 2) := by decide +kernel
theorem dX7_rests_25 : decode cX7_rests 25 = .ok (.iconst 1, 1) := by decide +kernel
theorem dX7_rests_26 : decode cX7_rests 26 = .ok (.iand, 1) := by decide +kernel
theorem dX7_rests_27 : decode cX7_rests 27 = .ok (.istore 5, 2) := by decide +kernel
theorem dX7_rests_29 : decode cX7_rests 29 = .ok (.iload 4, 2) := by decide +kernel
theorem dX7_rests_31 : decode cX7_rests 31 = .ok (.iconst 1, 1) := by decide +kernel
theorem dX7_rests_32 : decode cX7_rests 32 = .ok (.ishr, 1) := by decide +kernel
theorem dX7_rests_33 : decode cX7_rests 33 = .ok (.istore 6, 2) := by decide +kernel
theorem dX7_rests_35 : decode cX7_rests 35 = .ok (.aload_n 0, 1) := by decide +kernel
theorem dX7_rests_36 : decode cX7_rests 36 = .ok (.iload_n 1, 1) := by decide +kernel
theorem dX7_rests_37 : decode cX7_rests 37 = .ok (.iload_n 2, 1) := by decide +kernel
theorem dX7_rests_38 : decode cX7_rests 38 = .ok (.iload 5, 2) := by decide +kernel
theorem dX7_rests_40 : decode cX7_rests 40 = .ok (.iload 6, 2) := by decide +kernel
theorem dX7_rests_42 : decode cX7_rests 42 = .ok (.iconst 0, 1) := by decide +kernel
theorem dX7_rests_43 : decode cX7_rests 43 = .ok (.invokevirtual 474, 3) := by decide +kernel
theorem dX7_rests_46 : decode cX7_rests 46 = .ok (.aload_n 0, 1) := by decide +kernel
theorem dX7_rests_47 : decode cX7_rests 47 = .ok (.iload_n 1, 1) := by decide +kernel
theorem dX7_rests_48 : decode cX7_rests 48 = .ok (.iload_n 2, 1) := by decide +kernel
theorem dX7_rests_49 : decode cX7_rests 49 = .ok (.iconst 1, 1) := by decide +kernel
theorem dX7_rests_50 : decode cX7_rests 50 = .ok (.iload 5, 2) := by decide +kernel
theorem dX7_rests_52 : decode cX7_rests 52 = .ok (.isub, 1) := by decide +kernel
theorem dX7_rests_53 : decode cX7_rests 53 = .ok (.iload 6, 2) := by decide +kernel
theorem dX7_rests_55 : decode cX7_rests 55 = .ok (.iconst 0, 1) := by decide +kernel
theorem dX7_rests_56 : decode cX7_rests 56 = .ok (.invokevirtual 474, 3) := by decide +kernel
theorem dX7_rests_59 : decode cX7_rests 59 = .ok (.if_icmp .lt 34, 3) := by decide +kernel
theorem dX7_rests_62 : decode cX7_rests 62 = .ok (.aload_n 0, 1) := by decide +kernel
theorem dX7_rests_63 : decode cX7_rests 63 = .ok (.iload_n 1, 1) := by decide +kernel
theorem dX7_rests_64 : decode cX7_rests 64 = .ok (.iload_n 2, 1) := by decide +kernel
theorem dX7_rests_65 : decode cX7_rests 65 = .ok (.iload 5, 2) := by decide +kernel
theorem dX7_rests_67 : decode cX7_rests 67 = .ok (.iload 6, 2) := by decide +kernel
theorem dX7_rests_69 : decode cX7_rests 69 = .ok (.iconst 1, 1) := by decide +kernel
theorem dX7_rests_70 : decode cX7_rests 70 = .ok (.invokevirtual 474, 3) := by decide +kernel
theorem dX7_rests_73 : decode cX7_rests 73 = .ok (.aload_n 0, 1) := by decide +kernel
theorem dX7_rests_74 : decode cX7_rests 74 = .ok (.iload_n 1, 1) := by decide +kernel
theorem dX7_rests_75 : decode cX7_rests 75 = .ok (.iload_n 2, 1) := by decide +kernel
theorem dX7_rests_76 : decode cX7_rests 76 = .ok (.iload 5, 2) := by decide +kernel
theorem dX7_rests_78 : decode cX7_rests 78 = .ok (.iconst 1, 1) := by decide +kernel
theorem dX7_rests_79 : decode cX7_rests 79 = .ok (.iload 6, 2) := by decide +kernel
theorem dX7_rests_81 : decode cX7_rests 81 = .ok (.isub, 1) := by decide +kernel
theorem dX7_rests_82 : decode cX7_rests 82 = .ok (.iconst 1, 1) := by decide +kernel
theorem dX7_rests_83 : decode cX7_rests 83 = .ok (.invokevirtual 474, 3) := by decide +kernel
theorem dX7_rests_86 : decode cX7_rests 86 = .ok (.if_icmp .lt 7, 3) := by decide +kernel
theorem dX7_rests_89 : decode cX7_rests 89 = .ok (.iconst 1, 1) := by decide +kernel
theorem dX7_rests_90 : decode cX7_rests 90 = .ok (.goto 4, 3) := by decide +kernel
theorem dX7_rests_93 : decode cX7_rests 93 = .ok (.iconst 0, 1) := by decide +kernel
theorem dX7_rests_94 : decode cX7_rests 94 = .ok (.istore 7, 2) := by decide +kernel
theorem dX7_rests_96 : decode cX7_rests 96 = .ok (.iload_n 3, 1) := by decide +kernel
theorem dX7_rests_97 : decode cX7_rests 97 = .ok (.iload 7, 2) := by decide +kernel
theorem dX7_rests_99 : decode cX7_rests 99 = .ok (.ifCond .eq 10, 3) := by decide +kernel
theorem dX7_rests_102 : decode cX7_rests 102 = .ok (.iconst 1, 1) := by decide +kernel
theorem dX7_rests_103 : decode cX7_rests 103 = .ok (.iload 4, 2) := by decide +kernel
theorem dX7_rests_105 : decode cX7_rests 105 = .ok (.ishl, 1) := by decide +kernel
theorem dX7_rests_106 : decode cX7_rests 106 = .ok (.goto 4, 3) := by decide +kernel
theorem dX7_rests_109 : decode cX7_rests 109 = .ok (.iconst 0, 1) := by decide +kernel
theorem dX7_rests_110 : decode cX7_rests 110 = .ok (.ior, 1) := by decide +kernel
theorem dX7_rests_111 : decode cX7_rests 111 = .ok (.istore_n 3, 1) := by decide +kernel
theorem dX7_rests_112 : decode cX7_rests 112 = .ok (.iinc 4 1, 3) := by decide +kernel
theorem dX7_rests_115 : decode cX7_rests 115 = .ok (.goto (-98), 3) := by decide +kernel
theorem dX7_rests_118 : decode cX7_rests 118 = .ok (.iload_n 3, 1) := by decide +kernel
theorem dX7_rests_119 : decode cX7_rests 119 = .ok (.ireturn, 1) := by decide +kernel
theorem dX7_gets_0 : decode cX7_gets 0 = .ok (.aload_n 0, 1) := by decide +kernel
theorem dX7_gets_1 : decode cX7_gets 1 = .ok (.iload_n 1, 1) := by decide +kernel
theorem dX7_gets_2 : decode cX7_gets 2 = .ok (.iload_n 2, 1) := by decide +kernel
theorem dX7_gets_3 : decode cX7_gets 3 = .ok (.invokevirtual 471, 3) := by decide +kernel
theorem dX7_gets_6 : decode cX7_gets 6 = .ok (.ifCond .eq 37, 3) := by decide +kernel
theorem dX7_gets_9 : decode cX7_gets 9 = .ok (.iload_n 3, 1) := by decide +kernel
theorem dX7_gets_10 : decode cX7_gets 10 = .ok (.i2l, 1) := by decide +kernel
theorem dX7_gets_11 : decode cX7_gets 11 = .ok (.lconst 0, 1) := by decide +kernel
theorem dX7_gets_12 : decode cX7_gets 12 = .ok (.lconst 1, 1) := by decide +kernel
theorem dX7_gets_13 : decode cX7_gets 13 = .ok (.invokestatic 103, 3) := by decide +kernel
theorem dX7_gets_16 : decode cX7_gets 16 = .ok (.ifCond .eq 27, 3) := by decide +kernel
theorem dX7_gets_19 : decode cX7_gets 19 = .ok (.iload 4, 2) := by decide +kernel
theorem dX7_gets_21 : decode cX7_gets 21 = .ok (.i2l, 1) := by decide +kernel
theorem dX7_gets_22 : decode cX7_gets 22 = .ok (.lconst 0, 1) := by decide +kernel
theorem dX7_gets_23 : decode cX7_gets 23 = .ok (.lconst 1, 1) := by decide +kernel
theorem dX7_gets_24 : decode cX7_gets 24 = .ok (.invokestatic 103, 3) := by decide +kernel
theorem dX7_gets_27 : decode cX7_gets 27 = .ok (.ifCond .eq 16, 3) := by decide +kernel
theorem dX7_gets_30 : decode cX7_gets 30 = .ok (.aload_n 0, 1) := by decide +kernel
theorem dX7_gets_31 : decode cX7_gets 31 = .ok (.iload_n 1, 1) := by decide +kernel
theorem dX7_gets_32 : decode cX7_gets 32 = .ok (.iload_n 2, 1) := by decide +kernel
theorem dX7_gets_33 : decode cX7_gets 33 = .ok (.iload_n 3, 1) := by decide +kernel
theorem dX7_gets_34 : decode cX7_gets 34 = .ok (.iload 4, 2) := by decide +kernel
theorem dX7_gets_36 : decode cX7_gets 36 = .ok (.iconst 0, 1) := by decide +kernel
theorem dX7_gets_37 : decode cX7_gets 37 = .ok (.invokevirtual 474, 3) := by decide +kernel
theorem dX7_gets_40 : decode cX7_gets 40 = .ok (.goto 6, 3) := by decide +kernel
theorem dX7_gets_43 : decode cX7_gets 43 = .ok (.sipush (-1000), 3) := by decide +kernel
theorem dX7_gets_46 : decode cX7_gets 46 = .ok (.ireturn, 1) := by decide +kernel
theorem dX7_layChance_0 : decode cX7_layChance 0 = .ok (.aload_n 0, 1) := by decide +kernel
theorem dX7_layChance_1 : decode cX7_layChance 1 = .ok (.lconst 0, 1) := by decide +kernel
theorem dX7_layChance_2 : decode cX7_layChance 2 = .ok (.putfield 478, 3) := by decide +kernel
theorem dX7_layChance_5 : decode cX7_layChance 5 = .ok (.aload_n 0, 1) := by decide +kernel
theorem dX7_layChance_6 : decode cX7_layChance 6 = .ok (.lconst 0, 1) := by decide +kernel
theorem dX7_layChance_7 : decode cX7_layChance 7 = .ok (.putfield 482, 3) := by decide +kernel
theorem dX7_layChance_10 : decode cX7_layChance 10 = .ok (.aload_n 0, 1) := by decide +kernel
theorem dX7_layChance_11 : decode cX7_layChance 11 = .ok (.lconst 0, 1) := by decide +kernel
theorem dX7_layChance_12 : decode cX7_layChance 12 = .ok (.putfield 485, 3) := by decide +kernel
theorem dX7_layChance_15 : decode cX7_layChance 15 = .ok (.iconst 0, 1) := by decide +kernel
theorem dX7_layChance_16 : decode cX7_layChance 16 = .ok (.istore_n 3, 1) := by decide +kernel
theorem dX7_layChance_17 : decode cX7_layChance 17 = .ok (.iload_n 3, 1) := by decide +kernel
theorem dX7_layChance_18 : decode cX7_layChance 18 = .ok (.iconst 1, 1) := by decide +kernel
theorem dX7_layChance_19 : decode cX7_layChance 19 = .ok (.iload_n 1, 1) := by decide +kernel
theorem dX7_layChance_20 : decode cX7_layChance 20 = .ok (.ishl, 1) := by decide +kernel
theorem dX7_layChance_21 : decode cX7_layChance 21 = .ok (.if_icmp .ge 177, 3) := by decide +kernel
theorem dX7_layChance_24 : decode cX7_layChance 24 = .ok (.lconst 1, 1) := by decide +kernel
theorem dX7_layChance_25 : decode cX7_layChance 25 = .ok (.lstore 4, 2) := by decide +kernel
theorem dX7_layChance_27 : decode cX7_layChance 27 = .ok (.aload_n 0, 1) := by decide +kernel
theorem dX7_layChance_28 : decode cX7_layChance 28 = .ok (.invokevirtual 310, 3) := by decide +kernel
theorem dX7_layChance_31 : decode cX7_layChance 31 = .ok (.iconst 0, 1) := by decide +kernel
theorem dX7_layChance_32 : decode cX7_layChance 32 = .ok (.istore 6, 2) := by decide +kernel
theorem dX7_layChance_34 : decode cX7_layChance 34 = .ok (.iload 6, 2) := by decide +kernel
theorem dX7_layChance_36 : decode cX7_layChance 36 = .ok (.iload_n 1, 1) := by decide +kernel
theorem dX7_layChance_37 : decode cX7_layChance 37 = .ok (.if_icmp .ge 73, 3) := by decide +kernel
theorem dX7_layChance_40 : decode cX7_layChance 40 = .ok (.aload_n 0, 1) := by decide +kernel
theorem dX7_layChance_41 : decode cX7_layChance 41 = .ok (.getfield 34, 3) := by decide +kernel
theorem dX7_layChance_44 : decode cX7_layChance 44 = .ok (.aload_n 0, 1) := by decide +kernel
theorem dX7_layChance_45 : decode cX7_layChance 45 = .ok (.invokevirtual 111, 3) := by decide +kernel
theorem dX7_layChance_48 : decode cX7_layChance 48 = .ok (.iconst 1, 1) := by decide +kernel
theorem dX7_layChance_49 : decode cX7_layChance 49 = .ok (.isub, 1) := by decide +kernel
theorem dX7_layChance_50 : decode cX7_layChance 50 = .ok (.iload 6, 2) := by decide +kernel
theorem dX7_layChance_52 : decode cX7_layChance 52 = .ok (.isub, 1) := by decide +kernel
theorem dX7_layChance_53 : decode cX7_layChance 53 = .ok (.iload_n 3, 1) := by decide +kernel
theorem dX7_layChance_54 : decode cX7_layChance 54 = .ok (.iload 6, 2) := by decide +kernel
theorem dX7_layChance_56 : decode cX7_layChance 56 = .ok (.invokestatic 443, 3) := by decide +kernel
theorem dX7_layChance_59 : decode cX7_layChance 59 = .ok (.iconst 1, 1) := by decide +kernel
theorem dX7_layChance_60 : decode cX7_layChance 60 = .ok (.if_icmp .ne 7, 3) := by decide +kernel
theorem dX7_layChance_63 : decode cX7_layChance 63 = .ok (.iconst 1, 1) := by decide +kernel
theorem dX7_layChance_64 : decode cX7_layChance 64 = .ok (.goto 4, 3) := by decide +kernel
theorem dX7_layChance_67 : decode cX7_layChance 67 = .ok (.iconst 0, 1) := by decide +kernel
theorem dX7_layChance_68 : decode cX7_layChance 68 = .ok (.bastore, 1) := by decide +kernel
theorem dX7_layChance_69 : decode cX7_layChance 69 = .ok (.lload 4, 2) := by decide +kernel
theorem dX7_layChance_71 : decode cX7_layChance 71 = .ok (.iload_n 3, 1) := by decide +kernel
theorem dX7_layChance_72 : decode cX7_layChance 72 = .ok (.iload 6, 2) := by decide +kernel
theorem dX7_layChance_74 : decode cX7_layChance 74 = .ok (.invokestatic 443, 3) := by decide +kernel
theorem dX7_layChance_77 : decode cX7_layChance 77 = .ok (.iconst 1, 1) := by decide +kernel
theorem dX7_layChance_78 : decode cX7_layChance 78 = .ok (.if_icmp .ne 13, 3) := by decide +kernel
theorem dX7_layChance_81 : decode cX7_layChance 81 = .ok (.aload_n 0, 1) := by decide +kernel
theorem dX7_layChance_82 : decode cX7_layChance 82 = .ok (.getfield 9, 3) := by decide +kernel
theorem dX7_layChance_85 : decode cX7_layChance 85 = .ok (.iconst 2, 1) := by decide +kernel
theorem dX7_layChance_86 : decode cX7_layChance 86 = .ok (.iaload, 1) := by decide +kernel
theorem dX7_layChance_87 : decode cX7_layChance 87 = .ok (.i2l, 1) := by decide +kernel
theorem dX7_layChance_88 : decode cX7_layChance 88 = .ok (.goto 13, 3) := by decide +kernel
theorem dX7_layChance_91 : decode cX7_layChance 91 = .ok (.bipush 10, 2) := by decide +kernel
theorem dX7_layChance_93 : decode cX7_layChance 93 = .ok (.aload_n 0, 1) := by decide +kernel
theorem dX7_layChance_94 : decode cX7_layChance 94 = .ok (.getfield 9, 3) := by decide +kernel
theorem dX7_layChance_97 : decode cX7_layChance 97 = .ok (.iconst 2, 1) := by decide +kernel
theorem dX7_layChance_98 : decode cX7_layChance 98 = .ok (.iaload, 1) := by decide +kernel
theorem dX7_layChance_99 : decode cX7_layChance 99 = .ok (.isub, 1) := by decide +kernel
theorem dX7_layChance_100 : decode cX7_layChance 100 = .ok (.i2l, 1) := by decide +kernel
theorem dX7_layChance_101 : decode cX7_layChance 101 = .ok (.lmul, 1) := by decide +kernel
theorem dX7_layChance_102 : decode cX7_layChance 102 = .ok (.lstore 4, 2) := by decide +kernel
theorem dX7_layChance_104 : decode cX7_layChance 104 = .ok (.iinc 6 1, 3) := by decide +kernel
theorem dX7_layChance_107 : decode cX7_layChance 107 = .ok (.goto (-73), 3) := by decide +kernel
theorem dX7_layChance_110 : decode cX7_layChance 110 = .ok (.lload 4, 2) := by decide +kernel
theorem dX7_layChance_112 : decode cX7_layChance 112 = .ok (.lconst 0, 1) := by decide +kernel
theorem dX7_layChance_113 : decode cX7_layChance 113 = .ok (.lcmp, 1) := by decide +kernel
theorem dX7_layChance_114 : decode cX7_layChance 114 = .ok (.ifCond .ne 6, 3) := by decide +kernel
theorem dX7_layChance_117 : decode cX7_layChance 117 = .ok (.goto 75, 3) := by decide +kernel
theorem dX7_layChance_120 : decode cX7_layChance 120 = .ok (.aload_n 0, 1) := by decide +kernel
theorem dX7_layChance_121 : decode cX7_layChance 121 = .ok (.aload_n 0, 1) := by decide +kernel
theorem dX7_layChance_122 : decode cX7_layChance 122 = .ok (.getfield 9, 3) := by decide +kernel
theorem dX7_layChance_125 : decode cX7_layChance 125 = .ok (.iconst 1, 1) := by decide +kernel
theorem dX7_layChance_126 : decode cX7_layChance 126 = .ok (.iaload, 1) := by decide +kernel
theorem dX7_layChance_127 : decode cX7_layChance 127 = .ok (.invokevirtual 313, 3) := by decide +kernel
theorem dX7_layChance_130 : decode cX7_layChance 130 = .ok (.aload_n 0, 1) := by decide +kernel
theorem dX7_layChance_131 : decode cX7_layChance 131 = .ok (.dup, 1) := by decide +kernel
theorem dX7_layChance_132 : decode cX7_layChance 132 = .ok (.getfield 478, 3) := by decide +kernel
theorem dX7_layChance_135 : decode cX7_layChance 135 = .ok (.lload 4, 2) := by decide +kernel
theorem dX7_layChance_137 : decode cX7_layChance 137 = .ok (.ladd, 1) := by decide +kernel
theorem dX7_layChance_138 : decode cX7_layChance 138 = .ok (.putfield 478, 3) := by decide +kernel
theorem dX7_layChance_141 : decode cX7_layChance 141 = .ok (.aload_n 0, 1) := by decide +kernel
theorem dX7_layChance_142 : decode cX7_layChance 142 = .ok (.dup, 1) := by decide +kernel
theorem dX7_layChance_143 : decode cX7_layChance 143 = .ok (.getfield 482, 3) := by decide +kernel
theorem dX7_layChance_146 : decode cX7_layChance 146 = .ok (.aload_n 0, 1) := by decide +kernel
theorem dX7_layChance_147 : decode cX7_layChance 147 = .ok (.iload_n 2, 1) := by decide +kernel
theorem dX7_layChance_148 : decode cX7_layChance 148 = .ok (.aload_n 0, 1) := by decide +kernel
theorem dX7_layChance_149 : decode cX7_layChance 149 = .ok (.invokevirtual 111, 3) := by decide +kernel
theorem dX7_layChance_152 : decode cX7_layChance 152 = .ok (.invokevirtual 283, 3) := by decide +kernel
theorem dX7_layChance_155 : decode cX7_layChance 155 = .ok (.ifCond .eq 8, 3) := by decide +kernel
theorem dX7_layChance_158 : decode cX7_layChance 158 = .ok (.lload 4, 2) := by decide +kernel
theorem dX7_layChance_160 : decode cX7_layChance 160 = .ok (.goto 4, 3) := by decide +kernel
theorem dX7_layChance_163 : decode cX7_layChance 163 = .ok (.lconst 0, 1) := by decide +kernel
theorem dX7_layChance_164 : decode cX7_layChance 164 = .ok (.ladd, 1) := by decide +kernel
theorem dX7_layChance_165 : decode cX7_layChance 165 = .ok (.putfield 482, 3) := by decide +kernel
theorem dX7_layChance_168 : decode cX7_layChance 168 = .ok (.aload_n 0, 1) := by decide +kernel
theorem dX7_layChance_169 : decode cX7_layChance 169 = .ok (.dup, 1) := by decide +kernel
theorem dX7_layChance_170 : decode cX7_layChance 170 = .ok (.getfield 485, 3) := by decide +kernel
theorem dX7_layChance_173 : decode cX7_layChance 173 = .ok (.lload 4, 2) := by decide +kernel
theorem dX7_layChance_175 : decode cX7_layChance 175 = .ok (.aload_n 0, 1) := by decide +kernel
theorem dX7_layChance_176 : decode cX7_layChance 176 = .ok (.iconst 0, 1) := by decide +kernel
theorem dX7_layChance_177 : decode cX7_layChance 177 = .ok (.bipush 32, 2) := by decide +kernel
theorem dX7_layChance_179 : decode cX7_layChance 179 = .ok (.aload_n 0, 1) := by decide +kernel
theorem dX7_layChance_180 : decode cX7_layChance 180 = .ok (.invokevirtual 111, 3) := by decide +kernel
theorem dX7_layChance_183 : decode cX7_layChance 183 = .ok (.invokevirtual 340, 3) := by decide +kernel
theorem dX7_layChance_186 : decode cX7_layChance 186 = .ok (.i2l, 1) := by decide +kernel
theorem dX7_layChance_187 : decode cX7_layChance 187 = .ok (.lmul, 1) := by decide +kernel
theorem dX7_layChance_188 : decode cX7_layChance 188 = .ok (.ladd, 1) := by decide +kernel
theorem dX7_layChance_189 : decode cX7_layChance 189 = .ok (.putfield 485, 3) := by decide +kernel
theorem dX7_layChance_192 : decode cX7_layChance 192 = .ok (.iinc 3 1, 3) := by decide +kernel
theorem dX7_layChance_195 : decode cX7_layChance 195 = .ok (.goto (-178), 3) := by decide +kernel
theorem dX7_layChance_198 : decode cX7_layChance 198 = .ok (.return_, 1) := by decide +kernel
theorem dX7_asksChance_0 : decode cX7_asksChance 0 = .ok (.aload_n 0, 1) := by decide +kernel
theorem dX7_asksChance_1 : decode cX7_asksChance 1 = .ok (.iload_n 1, 1) := by decide +kernel
theorem dX7_asksChance_2 : decode cX7_asksChance 2 = .ok (.i2l, 1) := by decide +kernel
theorem dX7_asksChance_3 : decode cX7_asksChance 3 = .ok (.invokevirtual 326, 3) := by decide +kernel
theorem dX7_asksChance_6 : decode cX7_asksChance 6 = .ok (.ifCond .eq 33, 3) := by decide +kernel
theorem dX7_asksChance_9 : decode cX7_asksChance 9 = .ok (.iload_n 2, 1) := by decide +kernel
theorem dX7_asksChance_10 : decode cX7_asksChance 10 = .ok (.i2l, 1) := by decide +kernel
theorem dX7_asksChance_11 : decode cX7_asksChance 11 = .ok (.lconst 0, 1) := by decide +kernel
theorem dX7_asksChance_12 : decode cX7_asksChance 12 = .ok (.ldc2_w 488, 3) := by decide +kernel
theorem dX7_asksChance_15 : decode cX7_asksChance 15 = .ok (.invokestatic 103, 3) := by decide +kernel
theorem dX7_asksChance_18 : decode cX7_asksChance 18 = .ok (.ifCond .eq 21, 3) := by decide +kernel
theorem dX7_asksChance_21 : decode cX7_asksChance 21 = .ok (.iload_n 2, 1) := by decide +kernel
theorem dX7_asksChance_22 : decode cX7_asksChance 22 = .ok (.aload_n 0, 1) := by decide +kernel
theorem dX7_asksChance_23 : decode cX7_asksChance 23 = .ok (.invokevirtual 111, 3) := by decide +kernel
theorem dX7_asksChance_26 : decode cX7_asksChance 26 = .ok (.if_icmp .gt 13, 3) := by decide +kernel
theorem dX7_asksChance_29 : decode cX7_asksChance 29 = .ok (.iload_n 3, 1) := by decide +kernel
theorem dX7_asksChance_30 : decode cX7_asksChance 30 = .ok (.i2l, 1) := by decide +kernel
theorem dX7_asksChance_31 : decode cX7_asksChance 31 = .ok (.lconst 0, 1) := by decide +kernel
theorem dX7_asksChance_32 : decode cX7_asksChance 32 = .ok (.lconst 1, 1) := by decide +kernel
theorem dX7_asksChance_33 : decode cX7_asksChance 33 = .ok (.invokestatic 103, 3) := by decide +kernel
theorem dX7_asksChance_36 : decode cX7_asksChance 36 = .ok (.ifCond .ne 5, 3) := by decide +kernel
theorem dX7_asksChance_39 : decode cX7_asksChance 39 = .ok (.iconst 0, 1) := by decide +kernel
theorem dX7_asksChance_40 : decode cX7_asksChance 40 = .ok (.ireturn, 1) := by decide +kernel
theorem dX7_asksChance_41 : decode cX7_asksChance 41 = .ok (.aload_n 0, 1) := by decide +kernel
theorem dX7_asksChance_42 : decode cX7_asksChance 42 = .ok (.iload_n 2, 1) := by decide +kernel
theorem dX7_asksChance_43 : decode cX7_asksChance 43 = .ok (.iload_n 1, 1) := by decide +kernel
theorem dX7_asksChance_44 : decode cX7_asksChance 44 = .ok (.invokevirtual 490, 3) := by decide +kernel
theorem dX7_asksChance_47 : decode cX7_asksChance 47 = .ok (.iconst 1, 1) := by decide +kernel
theorem dX7_asksChance_48 : decode cX7_asksChance 48 = .ok (.ireturn, 1) := by decide +kernel
theorem dX7_chance_0 : decode cX7_chance 0 = .ok (.aload_n 0, 1) := by decide +kernel
theorem dX7_chance_1 : decode cX7_chance 1 = .ok (.iload_n 1, 1) := by decide +kernel
theorem dX7_chance_2 : decode cX7_chance 2 = .ok (.iload_n 2, 1) := by decide +kernel
theorem dX7_chance_3 : decode cX7_chance 3 = .ok (.iload_n 3, 1) := by decide +kernel
theorem dX7_chance_4 : decode cX7_chance 4 = .ok (.invokevirtual 493, 3) := by decide +kernel
theorem dX7_chance_7 : decode cX7_chance 7 = .ok (.ifCond .eq 18, 3) := by decide +kernel
theorem dX7_chance_10 : decode cX7_chance 10 = .ok (.aload_n 0, 1) := by decide +kernel
theorem dX7_chance_11 : decode cX7_chance 11 = .ok (.getfield 482, 3) := by decide +kernel
theorem dX7_chance_14 : decode cX7_chance 14 = .ok (.aload_n 0, 1) := by decide +kernel
theorem dX7_chance_15 : decode cX7_chance 15 = .ok (.getfield 478, 3) := by decide +kernel
theorem dX7_chance_18 : decode cX7_chance 18 = .ok (.iload_n 3, 1) := by decide +kernel
theorem dX7_chance_19 : decode cX7_chance 19 = .ok (.invokestatic 467, 3) := by decide +kernel
theorem dX7_chance_22 : decode cX7_chance 22 = .ok (.goto 6, 3) := by decide +kernel
theorem dX7_chance_25 : decode cX7_chance 25 = .ok (.ldc2_w 496, 3) := by decide +kernel
theorem dX7_chance_28 : decode cX7_chance 28 = .ok (.lreturn, 1) := by decide +kernel
theorem dX7_mean_0 : decode cX7_mean 0 = .ok (.aload_n 0, 1) := by decide +kernel
theorem dX7_mean_1 : decode cX7_mean 1 = .ok (.iconst 0, 1) := by decide +kernel
theorem dX7_mean_2 : decode cX7_mean 2 = .ok (.iload_n 1, 1) := by decide +kernel
theorem dX7_mean_3 : decode cX7_mean 3 = .ok (.iload_n 2, 1) := by decide +kernel
theorem dX7_mean_4 : decode cX7_mean 4 = .ok (.invokevirtual 493, 3) := by decide +kernel
theorem dX7_mean_7 : decode cX7_mean 7 = .ok (.ifCond .eq 18, 3) := by decide +kernel
theorem dX7_mean_10 : decode cX7_mean 10 = .ok (.aload_n 0, 1) := by decide +kernel
theorem dX7_mean_11 : decode cX7_mean 11 = .ok (.getfield 485, 3) := by decide +kernel
theorem dX7_mean_14 : decode cX7_mean 14 = .ok (.aload_n 0, 1) := by decide +kernel
theorem dX7_mean_15 : decode cX7_mean 15 = .ok (.getfield 478, 3) := by decide +kernel
theorem dX7_mean_18 : decode cX7_mean 18 = .ok (.iload_n 2, 1) := by decide +kernel
theorem dX7_mean_19 : decode cX7_mean 19 = .ok (.invokestatic 467, 3) := by decide +kernel
theorem dX7_mean_22 : decode cX7_mean 22 = .ok (.goto 6, 3) := by decide +kernel
theorem dX7_mean_25 : decode cX7_mean 25 = .ok (.ldc2_w 496, 3) := by decide +kernel
theorem dX7_mean_28 : decode cX7_mean 28 = .ok (.lreturn, 1) := by decide +kernel
theorem dX7_isGood_0 : decode cX7_isGood 0 = .ok (.aload_n 0, 1) := by decide +kernel
theorem dX7_isGood_1 : decode cX7_isGood 1 = .ok (.invokevirtual 114, 3) := by decide +kernel
theorem dX7_isGood_4 : decode cX7_isGood 4 = .ok (.ifCond .eq 15, 3) := by decide +kernel
theorem dX7_isGood_7 : decode cX7_isGood 7 = .ok (.iload_n 1, 1) := by decide +kernel
theorem dX7_isGood_8 : decode cX7_isGood 8 = .ok (.i2l, 1) := by decide +kernel
theorem dX7_isGood_9 : decode cX7_isGood 9 = .ok (.lconst 0, 1) := by decide +kernel
theorem dX7_isGood_10 : decode cX7_isGood 10 = .ok (.ldc2_w 438, 3) := by decide +kernel
theorem dX7_isGood_13 : decode cX7_isGood 13 = .ok (.invokestatic 103, 3) := by decide +kernel
theorem dX7_isGood_16 : decode cX7_isGood 16 = .ok (.ifCond .ne 5, 3) := by decide +kernel
theorem dX7_isGood_19 : decode cX7_isGood 19 = .ok (.iconst 0, 1) := by decide +kernel
theorem dX7_isGood_20 : decode cX7_isGood 20 = .ok (.ireturn, 1) := by decide +kernel
theorem dX7_isGood_21 : decode cX7_isGood 21 = .ok (.iload_n 1, 1) := by decide +kernel
theorem dX7_isGood_22 : decode cX7_isGood 22 = .ok (.invokestatic 227, 3) := by decide +kernel
theorem dX7_isGood_25 : decode cX7_isGood 25 = .ok (.istore 5, 2) := by decide +kernel
theorem dX7_isGood_27 : decode cX7_isGood 27 = .ok (.iload 5, 2) := by decide +kernel
theorem dX7_isGood_29 : decode cX7_isGood 29 = .ok (.ifCond .le 31, 3) := by decide +kernel
theorem dX7_isGood_32 : decode cX7_isGood 32 = .ok (.iload_n 2, 1) := by decide +kernel
theorem dX7_isGood_33 : decode cX7_isGood 33 = .ok (.i2l, 1) := by decide +kernel
theorem dX7_isGood_34 : decode cX7_isGood 34 = .ok (.iload_n 1, 1) := by decide +kernel
theorem dX7_isGood_35 : decode cX7_isGood 35 = .ok (.iconst 0, 1) := by decide +kernel
theorem dX7_isGood_36 : decode cX7_isGood 36 = .ok (.iconst 0, 1) := by decide +kernel
theorem dX7_isGood_37 : decode cX7_isGood 37 = .ok (.invokestatic 230, 3) := by decide +kernel
theorem dX7_isGood_40 : decode cX7_isGood 40 = .ok (.i2l, 1) := by decide +kernel
theorem dX7_isGood_41 : decode cX7_isGood 41 = .ok (.iload_n 1, 1) := by decide +kernel
theorem dX7_isGood_42 : decode cX7_isGood 42 = .ok (.iconst 0, 1) := by decide +kernel
theorem dX7_isGood_43 : decode cX7_isGood 43 = .ok (.aload_n 0, 1) := by decide +kernel
theorem dX7_isGood_44 : decode cX7_isGood 44 = .ok (.invokevirtual 107, 3) := by decide +kernel
theorem dX7_isGood_47 : decode cX7_isGood 47 = .ok (.invokestatic 234, 3) := by decide +kernel
theorem dX7_isGood_50 : decode cX7_isGood 50 = .ok (.i2l, 1) := by decide +kernel
theorem dX7_isGood_51 : decode cX7_isGood 51 = .ok (.invokestatic 103, 3) := by decide +kernel
theorem dX7_isGood_54 : decode cX7_isGood 54 = .ok (.ifCond .ne 12, 3) := by decide +kernel
theorem dX7_isGood_57 : decode cX7_isGood 57 = .ok (.goto 7, 3) := by decide +kernel
theorem dX7_isGood_60 : decode cX7_isGood 60 = .ok (.iload_n 2, 1) := by decide +kernel
theorem dX7_isGood_61 : decode cX7_isGood 61 = .ok (.ifCond .eq 5, 3) := by decide +kernel
theorem dX7_isGood_64 : decode cX7_isGood 64 = .ok (.iconst 0, 1) := by decide +kernel
theorem dX7_isGood_65 : decode cX7_isGood 65 = .ok (.ireturn, 1) := by decide +kernel
theorem dX7_isGood_66 : decode cX7_isGood 66 = .ok (.iload 5, 2) := by decide +kernel
theorem dX7_isGood_68 : decode cX7_isGood 68 = .ok (.iconst 1, 1) := by decide +kernel
theorem dX7_isGood_69 : decode cX7_isGood 69 = .ok (.if_icmp .le 31, 3) := by decide +kernel
theorem dX7_isGood_72 : decode cX7_isGood 72 = .ok (.iload_n 3, 1) := by decide +kernel
theorem dX7_isGood_73 : decode cX7_isGood 73 = .ok (.i2l, 1) := by decide +kernel
theorem dX7_isGood_74 : decode cX7_isGood 74 = .ok (.iload_n 1, 1) := by decide +kernel
theorem dX7_isGood_75 : decode cX7_isGood 75 = .ok (.iconst 1, 1) := by decide +kernel
theorem dX7_isGood_76 : decode cX7_isGood 76 = .ok (.iload_n 2, 1) := by decide +kernel
theorem dX7_isGood_77 : decode cX7_isGood 77 = .ok (.invokestatic 230, 3) := by decide +kernel
theorem dX7_isGood_80 : decode cX7_isGood 80 = .ok (.i2l, 1) := by decide +kernel
theorem dX7_isGood_81 : decode cX7_isGood 81 = .ok (.iload_n 1, 1) := by decide +kernel
theorem dX7_isGood_82 : decode cX7_isGood 82 = .ok (.iconst 1, 1) := by decide +kernel
theorem dX7_isGood_83 : decode cX7_isGood 83 = .ok (.aload_n 0, 1) := by decide +kernel
theorem dX7_isGood_84 : decode cX7_isGood 84 = .ok (.invokevirtual 107, 3) := by decide +kernel
theorem dX7_isGood_87 : decode cX7_isGood 87 = .ok (.invokestatic 234, 3) := by decide +kernel
theorem dX7_isGood_90 : decode cX7_isGood 90 = .ok (.i2l, 1) := by decide +kernel
theorem dX7_isGood_91 : decode cX7_isGood 91 = .ok (.invokestatic 103, 3) := by decide +kernel
theorem dX7_isGood_94 : decode cX7_isGood 94 = .ok (.ifCond .ne 12, 3) := by decide +kernel
theorem dX7_isGood_97 : decode cX7_isGood 97 = .ok (.goto 7, 3) := by decide +kernel
theorem dX7_isGood_100 : decode cX7_isGood 100 = .ok (.iload_n 3, 1) := by decide +kernel
theorem dX7_isGood_101 : decode cX7_isGood 101 = .ok (.ifCond .eq 5, 3) := by decide +kernel
theorem dX7_isGood_104 : decode cX7_isGood 104 = .ok (.iconst 0, 1) := by decide +kernel
theorem dX7_isGood_105 : decode cX7_isGood 105 = .ok (.ireturn, 1) := by decide +kernel
theorem dX7_isGood_106 : decode cX7_isGood 106 = .ok (.iload 5, 2) := by decide +kernel
theorem dX7_isGood_108 : decode cX7_isGood 108 = .ok (.iconst 2, 1) := by decide +kernel
theorem dX7_isGood_109 : decode cX7_isGood 109 = .ok (.if_icmp .le 32, 3) := by decide +kernel
theorem dX7_isGood_112 : decode cX7_isGood 112 = .ok (.iload 4, 2) := by decide +kernel
theorem dX7_isGood_114 : decode cX7_isGood 114 = .ok (.i2l, 1) := by decide +kernel
theorem dX7_isGood_115 : decode cX7_isGood 115 = .ok (.iload_n 1, 1) := by decide +kernel
theorem dX7_isGood_116 : decode cX7_isGood 116 = .ok (.iconst 2, 1) := by decide +kernel
theorem dX7_isGood_117 : decode cX7_isGood 117 = .ok (.iload_n 2, 1) := by decide +kernel
theorem dX7_isGood_118 : decode cX7_isGood 118 = .ok (.invokestatic 230, 3) := by decide +kernel
theorem dX7_isGood_121 : decode cX7_isGood 121 = .ok (.i2l, 1) := by decide +kernel
theorem dX7_isGood_122 : decode cX7_isGood 122 = .ok (.iload_n 1, 1) := by decide +kernel
theorem dX7_isGood_123 : decode cX7_isGood 123 = .ok (.iconst 2, 1) := by decide +kernel
theorem dX7_isGood_124 : decode cX7_isGood 124 = .ok (.aload_n 0, 1) := by decide +kernel
theorem dX7_isGood_125 : decode cX7_isGood 125 = .ok (.invokevirtual 107, 3) := by decide +kernel
theorem dX7_isGood_128 : decode cX7_isGood 128 = .ok (.invokestatic 234, 3) := by decide +kernel
theorem dX7_isGood_131 : decode cX7_isGood 131 = .ok (.i2l, 1) := by decide +kernel
theorem dX7_isGood_132 : decode cX7_isGood 132 = .ok (.invokestatic 103, 3) := by decide +kernel
theorem dX7_isGood_135 : decode cX7_isGood 135 = .ok (.ifCond .ne 13, 3) := by decide +kernel
theorem dX7_isGood_138 : decode cX7_isGood 138 = .ok (.goto 8, 3) := by decide +kernel
theorem dX7_isGood_141 : decode cX7_isGood 141 = .ok (.iload 4, 2) := by decide +kernel
theorem dX7_isGood_143 : decode cX7_isGood 143 = .ok (.ifCond .eq 5, 3) := by decide +kernel
theorem dX7_isGood_146 : decode cX7_isGood 146 = .ok (.iconst 0, 1) := by decide +kernel
theorem dX7_isGood_147 : decode cX7_isGood 147 = .ok (.ireturn, 1) := by decide +kernel
theorem dX7_isGood_148 : decode cX7_isGood 148 = .ok (.iload_n 1, 1) := by decide +kernel
theorem dX7_isGood_149 : decode cX7_isGood 149 = .ok (.iconst 2, 1) := by decide +kernel
theorem dX7_isGood_150 : decode cX7_isGood 150 = .ok (.if_icmp .ne 8, 3) := by decide +kernel
theorem dX7_isGood_153 : decode cX7_isGood 153 = .ok (.iload_n 2, 1) := by decide +kernel
theorem dX7_isGood_154 : decode cX7_isGood 154 = .ok (.iload_n 3, 1) := by decide +kernel
theorem dX7_isGood_155 : decode cX7_isGood 155 = .ok (.if_icmp .eq 7, 3) := by decide +kernel
theorem dX7_isGood_158 : decode cX7_isGood 158 = .ok (.iconst 1, 1) := by decide +kernel
theorem dX7_isGood_159 : decode cX7_isGood 159 = .ok (.goto 4, 3) := by decide +kernel
theorem dX7_isGood_162 : decode cX7_isGood 162 = .ok (.iconst 0, 1) := by decide +kernel
theorem dX7_isGood_163 : decode cX7_isGood 163 = .ok (.ireturn, 1) := by decide +kernel
theorem dX7_does_0 : decode cX7_does 0 = .ok (.aload_n 0, 1) := by decide +kernel
theorem dX7_does_1 : decode cX7_does 1 = .ok (.iload_n 1, 1) := by decide +kernel
theorem dX7_does_2 : decode cX7_does 2 = .ok (.iload_n 2, 1) := by decide +kernel
theorem dX7_does_3 : decode cX7_does 3 = .ok (.iload_n 3, 1) := by decide +kernel
theorem dX7_does_4 : decode cX7_does 4 = .ok (.iload 4, 2) := by decide +kernel
theorem dX7_does_6 : decode cX7_does 6 = .ok (.invokevirtual 498, 3) := by decide +kernel
theorem dX7_does_9 : decode cX7_does 9 = .ok (.ifCond .ne 6, 3) := by decide +kernel
theorem dX7_does_12 : decode cX7_does 12 = .ok (.bipush (-2), 2) := by decide +kernel
theorem dX7_does_14 : decode cX7_does 14 = .ok (.ireturn, 1) := by decide +kernel
theorem dX7_does_15 : decode cX7_does 15 = .ok (.aload_n 0, 1) := by decide +kernel
theorem dX7_does_16 : decode cX7_does 16 = .ok (.getfield 9, 3) := by decide +kernel
theorem dX7_does_19 : decode cX7_does 19 = .ok (.iconst 4, 1) := by decide +kernel
theorem dX7_does_20 : decode cX7_does 20 = .ok (.iaload, 1) := by decide +kernel
theorem dX7_does_21 : decode cX7_does 21 = .ok (.bipush 20, 2) := by decide +kernel
theorem dX7_does_23 : decode cX7_does 23 = .ok (.if_icmp .ne 6, 3) := by decide +kernel
theorem dX7_does_26 : decode cX7_does 26 = .ok (.bipush (-5), 2) := by decide +kernel
theorem dX7_does_28 : decode cX7_does 28 = .ok (.ireturn, 1) := by decide +kernel
theorem dX7_does_29 : decode cX7_does 29 = .ok (.bipush 6, 2) := by decide +kernel
theorem dX7_does_31 : decode cX7_does 31 = .ok (.iconst 4, 1) := by decide +kernel
theorem dX7_does_32 : decode cX7_does 32 = .ok (.aload_n 0, 1) := by decide +kernel
theorem dX7_does_33 : decode cX7_does 33 = .ok (.invokevirtual 111, 3) := by decide +kernel
theorem dX7_does_36 : decode cX7_does 36 = .ok (.imul, 1) := by decide +kernel
theorem dX7_does_37 : decode cX7_does 37 = .ok (.iadd, 1) := by decide +kernel
theorem dX7_does_38 : decode cX7_does 38 = .ok (.istore 5, 2) := by decide +kernel
theorem dX7_does_40 : decode cX7_does 40 = .ok (.iload_n 1, 1) := by decide +kernel
theorem dX7_does_41 : decode cX7_does 41 = .ok (.invokestatic 227, 3) := by decide +kernel
theorem dX7_does_44 : decode cX7_does 44 = .ok (.istore 6, 2) := by decide +kernel
theorem dX7_does_46 : decode cX7_does 46 = .ok (.aload_n 0, 1) := by decide +kernel
theorem dX7_does_47 : decode cX7_does 47 = .ok (.getfield 9, 3) := by decide +kernel
theorem dX7_does_50 : decode cX7_does 50 = .ok (.iload 5, 2) := by decide +kernel
theorem dX7_does_52 : decode cX7_does 52 = .ok (.iload_n 1, 1) := by decide +kernel
theorem dX7_does_53 : decode cX7_does 53 = .ok (.iastore, 1) := by decide +kernel
theorem dX7_does_54 : decode cX7_does 54 = .ok (.aload_n 0, 1) := by decide +kernel
theorem dX7_does_55 : decode cX7_does 55 = .ok (.getfield 9, 3) := by decide +kernel
theorem dX7_does_58 : decode cX7_does 58 = .ok (.iload 5, 2) := by decide +kernel
theorem dX7_does_60 : decode cX7_does 60 = .ok (.iconst 1, 1) := by decide +kernel
theorem dX7_does_61 : decode cX7_does 61 = .ok (.iadd, 1) := by decide +kernel
theorem dX7_does_62 : decode cX7_does 62 = .ok (.iload 6, 2) := by decide +kernel
theorem dX7_does_64 : decode cX7_does 64 = .ok (.ifCond .le 7, 3) := by decide +kernel
theorem dX7_does_67 : decode cX7_does 67 = .ok (.iload_n 2, 1) := by decide +kernel
theorem dX7_does_68 : decode cX7_does 68 = .ok (.goto 4, 3) := by decide +kernel
theorem dX7_does_71 : decode cX7_does 71 = .ok (.iconst (-1), 1) := by decide +kernel
theorem dX7_does_72 : decode cX7_does 72 = .ok (.iastore, 1) := by decide +kernel
theorem dX7_does_73 : decode cX7_does 73 = .ok (.aload_n 0, 1) := by decide +kernel
theorem dX7_does_74 : decode cX7_does 74 = .ok (.getfield 9, 3) := by decide +kernel
theorem dX7_does_77 : decode cX7_does 77 = .ok (.iload 5, 2) := by decide +kernel
theorem dX7_does_79 : decode cX7_does 79 = .ok (.iconst 2, 1) := by decide +kernel
theorem dX7_does_80 : decode cX7_does 80 = .ok (.iadd, 1) := by decide +kernel
theorem dX7_does_81 : decode cX7_does 81 = .ok (.iload 6, 2) := by decide +kernel
theorem dX7_does_83 : decode cX7_does 83 = .ok (.iconst 1, 1) := by decide +kernel
theorem dX7_does_84 : decode cX7_does 84 = .ok (.if_icmp .le 7, 3) := by decide +kernel
theorem dX7_does_87 : decode cX7_does 87 = .ok (.iload_n 3, 1) := by decide +kernel
theorem dX7_does_88 : decode cX7_does 88 = .ok (.goto 4, 3) := by decide +kernel
theorem dX7_does_91 : decode cX7_does 91 = .ok (.iconst (-1), 1) := by decide +kernel
theorem dX7_does_92 : decode cX7_does 92 = .ok (.iastore, 1) := by decide +kernel
theorem dX7_does_93 : decode cX7_does 93 = .ok (.aload_n 0, 1) := by decide +kernel
theorem dX7_does_94 : decode cX7_does 94 = .ok (.getfield 9, 3) := by decide +kernel
theorem dX7_does_97 : decode cX7_does 97 = .ok (.iload 5, 2) := by decide +kernel
theorem dX7_does_99 : decode cX7_does 99 = .ok (.iconst 3, 1) := by decide +kernel
theorem dX7_does_100 : decode cX7_does 100 = .ok (.iadd, 1) := by decide +kernel
theorem dX7_does_101 : decode cX7_does 101 = .ok (.iload 6, 2) := by decide +kernel
theorem dX7_does_103 : decode cX7_does 103 = .ok (.iconst 2, 1) := by decide +kernel
theorem dX7_does_104 : decode cX7_does 104 = .ok (.if_icmp .le 8, 3) := by decide +kernel
theorem dX7_does_107 : decode cX7_does 107 = .ok (.iload 4, 2) := by decide +kernel
theorem dX7_does_109 : decode cX7_does 109 = .ok (.goto 4, 3) := by decide +kernel
theorem dX7_does_112 : decode cX7_does 112 = .ok (.iconst (-1), 1) := by decide +kernel
theorem dX7_does_113 : decode cX7_does 113 = .ok (.iastore, 1) := by decide +kernel
theorem dX7_does_114 : decode cX7_does 114 = .ok (.aload_n 0, 1) := by decide +kernel
theorem dX7_does_115 : decode cX7_does 115 = .ok (.getfield 9, 3) := by decide +kernel
theorem dX7_does_118 : decode cX7_does 118 = .ok (.iconst 4, 1) := by decide +kernel
theorem dX7_does_119 : decode cX7_does 119 = .ok (.dup2, 1) := by decide +kernel
theorem dX7_does_120 : decode cX7_does 120 = .ok (.iaload, 1) := by decide +kernel
theorem dX7_does_121 : decode cX7_does 121 = .ok (.iconst 1, 1) := by decide +kernel
theorem dX7_does_122 : decode cX7_does 122 = .ok (.iadd, 1) := by decide +kernel
theorem dX7_does_123 : decode cX7_does 123 = .ok (.iastore, 1) := by decide +kernel
theorem dX7_does_124 : decode cX7_does 124 = .ok (.aload_n 0, 1) := by decide +kernel
theorem dX7_does_125 : decode cX7_does 125 = .ok (.invokevirtual 316, 3) := by decide +kernel
theorem dX7_does_128 : decode cX7_does 128 = .ok (.pop, 1) := by decide +kernel
theorem dX7_does_129 : decode cX7_does 129 = .ok (.aload_n 0, 1) := by decide +kernel
theorem dX7_does_130 : decode cX7_does 130 = .ok (.getfield 70, 3) := by decide +kernel
theorem dX7_does_133 : decode cX7_does 133 = .ok (.aload_n 0, 1) := by decide +kernel
theorem dX7_does_134 : decode cX7_does 134 = .ok (.invokevirtual 111, 3) := by decide +kernel
theorem dX7_does_137 : decode cX7_does 137 = .ok (.iconst 1, 1) := by decide +kernel
theorem dX7_does_138 : decode cX7_does 138 = .ok (.isub, 1) := by decide +kernel
theorem dX7_does_139 : decode cX7_does 139 = .ok (.iaload, 1) := by decide +kernel
theorem dX7_does_140 : decode cX7_does 140 = .ok (.ireturn, 1) := by decide +kernel
theorem dX7_undo_0 : decode cX7_undo 0 = .ok (.aload_n 0, 1) := by decide +kernel
theorem dX7_undo_1 : decode cX7_undo 1 = .ok (.invokevirtual 114, 3) := by decide +kernel
theorem dX7_undo_4 : decode cX7_undo 4 = .ok (.ifCond .ne 6, 3) := by decide +kernel
theorem dX7_undo_7 : decode cX7_undo 7 = .ok (.bipush (-2), 2) := by decide +kernel
theorem dX7_undo_9 : decode cX7_undo 9 = .ok (.ireturn, 1) := by decide +kernel
theorem dX7_undo_10 : decode cX7_undo 10 = .ok (.aload_n 0, 1) := by decide +kernel
theorem dX7_undo_11 : decode cX7_undo 11 = .ok (.getfield 9, 3) := by decide +kernel
theorem dX7_undo_14 : decode cX7_undo 14 = .ok (.iconst 4, 1) := by decide +kernel
theorem dX7_undo_15 : decode cX7_undo 15 = .ok (.iaload, 1) := by decide +kernel
theorem dX7_undo_16 : decode cX7_undo 16 = .ok (.ifCond .ne 6, 3) := by decide +kernel
theorem dX7_undo_19 : decode cX7_undo 19 = .ok (.bipush (-5), 2) := by decide +kernel
theorem dX7_undo_21 : decode cX7_undo 21 = .ok (.ireturn, 1) := by decide +kernel
theorem dX7_undo_22 : decode cX7_undo 22 = .ok (.aload_n 0, 1) := by decide +kernel
theorem dX7_undo_23 : decode cX7_undo 23 = .ok (.getfield 9, 3) := by decide +kernel
theorem dX7_undo_26 : decode cX7_undo 26 = .ok (.iconst 4, 1) := by decide +kernel
theorem dX7_undo_27 : decode cX7_undo 27 = .ok (.dup2, 1) := by decide +kernel
theorem dX7_undo_28 : decode cX7_undo 28 = .ok (.iaload, 1) := by decide +kernel
theorem dX7_undo_29 : decode cX7_undo 29 = .ok (.iconst 1, 1) := by decide +kernel
theorem dX7_undo_30 : decode cX7_undo 30 = .ok (.isub, 1) := by decide +kernel
theorem dX7_undo_31 : decode cX7_undo 31 = .ok (.iastore, 1) := by decide +kernel
theorem dX7_undo_32 : decode cX7_undo 32 = .ok (.aload_n 0, 1) := by decide +kernel
theorem dX7_undo_33 : decode cX7_undo 33 = .ok (.getfield 9, 3) := by decide +kernel
theorem dX7_undo_36 : decode cX7_undo 36 = .ok (.iconst 4, 1) := by decide +kernel
theorem dX7_undo_37 : decode cX7_undo 37 = .ok (.iaload, 1) := by decide +kernel
theorem dX7_undo_38 : decode cX7_undo 38 = .ok (.ireturn, 1) := by decide +kernel
theorem dX7_anew_0 : decode cX7_anew 0 = .ok (.aload_n 0, 1) := by decide +kernel
theorem dX7_anew_1 : decode cX7_anew 1 = .ok (.invokevirtual 114, 3) := by decide +kernel
theorem dX7_anew_4 : decode cX7_anew 4 = .ok (.ifCond .ne 6, 3) := by decide +kernel
theorem dX7_anew_7 : decode cX7_anew 7 = .ok (.bipush (-2), 2) := by decide +kernel
theorem dX7_anew_9 : decode cX7_anew 9 = .ok (.ireturn, 1) := by decide +kernel
theorem dX7_anew_10 : decode cX7_anew 10 = .ok (.aload_n 0, 1) := by decide +kernel
theorem dX7_anew_11 : decode cX7_anew 11 = .ok (.getfield 9, 3) := by decide +kernel
theorem dX7_anew_14 : decode cX7_anew 14 = .ok (.iconst 4, 1) := by decide +kernel
theorem dX7_anew_15 : decode cX7_anew 15 = .ok (.iaload, 1) := by decide +kernel
theorem dX7_anew_16 : decode cX7_anew 16 = .ok (.istore_n 1, 1) := by decide +kernel
theorem dX7_anew_17 : decode cX7_anew 17 = .ok (.aload_n 0, 1) := by decide +kernel
theorem dX7_anew_18 : decode cX7_anew 18 = .ok (.getfield 9, 3) := by decide +kernel
theorem dX7_anew_21 : decode cX7_anew 21 = .ok (.iconst 4, 1) := by decide +kernel
theorem dX7_anew_22 : decode cX7_anew 22 = .ok (.iconst 0, 1) := by decide +kernel
theorem dX7_anew_23 : decode cX7_anew 23 = .ok (.iastore, 1) := by decide +kernel
theorem dX7_anew_24 : decode cX7_anew 24 = .ok (.iload_n 1, 1) := by decide +kernel
theorem dX7_anew_25 : decode cX7_anew 25 = .ok (.ireturn, 1) := by decide +kernel
theorem dX7_goDrawn_0 : decode cX7_goDrawn 0 = .ok (.lload_n 1, 1) := by decide +kernel
theorem dX7_goDrawn_1 : decode cX7_goDrawn 1 = .ok (.lstore_n 3, 1) := by decide +kernel
theorem dX7_goDrawn_2 : decode cX7_goDrawn 2 = .ok (.iconst 0, 1) := by decide +kernel
theorem dX7_goDrawn_3 : decode cX7_goDrawn 3 = .ok (.istore 5, 2) := by decide +kernel
theorem dX7_goDrawn_5 : decode cX7_goDrawn 5 = .ok (.aload_n 0, 1) := by decide +kernel
theorem dX7_goDrawn_6 : decode cX7_goDrawn 6 = .ok (.invokevirtual 310, 3) := by decide +kernel
theorem dX7_goDrawn_9 : decode cX7_goDrawn 9 = .ok (.iconst 0, 1) := by decide +kernel
theorem dX7_goDrawn_10 : decode cX7_goDrawn 10 = .ok (.istore 6, 2) := by decide +kernel
theorem dX7_goDrawn_12 : decode cX7_goDrawn 12 = .ok (.iload 6, 2) := by decide +kernel
theorem dX7_goDrawn_14 : decode cX7_goDrawn 14 = .ok (.aload_n 0, 1) := by decide +kernel
theorem dX7_goDrawn_15 : decode cX7_goDrawn 15 = .ok (.invokevirtual 111, 3) := by decide +kernel
theorem dX7_goDrawn_18 : decode cX7_goDrawn 18 = .ok (.if_icmp .ge 75, 3) := by decide +kernel
theorem dX7_goDrawn_21 : decode cX7_goDrawn 21 = .ok (.ldc2_w 502, 3) := by decide +kernel
theorem dX7_goDrawn_24 : decode cX7_goDrawn 24 = .ok (.lload_n 3, 1) := by decide +kernel
theorem dX7_goDrawn_25 : decode cX7_goDrawn 25 = .ok (.lmul, 1) := by decide +kernel
theorem dX7_goDrawn_26 : decode cX7_goDrawn 26 = .ok (.ldc2_w 504, 3) := by decide +kernel
theorem dX7_goDrawn_29 : decode cX7_goDrawn 29 = .ok (.ladd, 1) := by decide +kernel
theorem dX7_goDrawn_30 : decode cX7_goDrawn 30 = .ok (.ldc2_w 506, 3) := by decide +kernel
theorem dX7_goDrawn_33 : decode cX7_goDrawn 33 = .ok (.lrem, 1) := by decide +kernel
theorem dX7_goDrawn_34 : decode cX7_goDrawn 34 = .ok (.lstore_n 3, 1) := by decide +kernel
theorem dX7_goDrawn_35 : decode cX7_goDrawn 35 = .ok (.aload_n 0, 1) := by decide +kernel
theorem dX7_goDrawn_36 : decode cX7_goDrawn 36 = .ok (.getfield 34, 3) := by decide +kernel
theorem dX7_goDrawn_39 : decode cX7_goDrawn 39 = .ok (.iload 6, 2) := by decide +kernel
theorem dX7_goDrawn_41 : decode cX7_goDrawn 41 = .ok (.lload_n 3, 1) := by decide +kernel
theorem dX7_goDrawn_42 : decode cX7_goDrawn 42 = .ok (.ldc2_w 508, 3) := by decide +kernel
theorem dX7_goDrawn_45 : decode cX7_goDrawn 45 = .ok (.ldiv, 1) := by decide +kernel
theorem dX7_goDrawn_46 : decode cX7_goDrawn 46 = .ok (.ldc2_w 510, 3) := by decide +kernel
theorem dX7_goDrawn_49 : decode cX7_goDrawn 49 = .ok (.lrem, 1) := by decide +kernel
theorem dX7_goDrawn_50 : decode cX7_goDrawn 50 = .ok (.aload_n 0, 1) := by decide +kernel
theorem dX7_goDrawn_51 : decode cX7_goDrawn 51 = .ok (.getfield 9, 3) := by decide +kernel
theorem dX7_goDrawn_54 : decode cX7_goDrawn 54 = .ok (.iconst 2, 1) := by decide +kernel
theorem dX7_goDrawn_55 : decode cX7_goDrawn 55 = .ok (.iaload, 1) := by decide +kernel
theorem dX7_goDrawn_56 : decode cX7_goDrawn 56 = .ok (.i2l, 1) := by decide +kernel
theorem dX7_goDrawn_57 : decode cX7_goDrawn 57 = .ok (.lcmp, 1) := by decide +kernel
theorem dX7_goDrawn_58 : decode cX7_goDrawn 58 = .ok (.ifCond .ge 7, 3) := by decide +kernel
theorem dX7_goDrawn_61 : decode cX7_goDrawn 61 = .ok (.iconst 1, 1) := by decide +kernel
theorem dX7_goDrawn_62 : decode cX7_goDrawn 62 = .ok (.goto 4, 3) := by decide +kernel
theorem dX7_goDrawn_65 : decode cX7_goDrawn 65 = .ok (.iconst 0, 1) := by decide +kernel
theorem dX7_goDrawn_66 : decode cX7_goDrawn 66 = .ok (.bastore, 1) := by decide +kernel
theorem dX7_goDrawn_67 : decode cX7_goDrawn 67 = .ok (.iload 5, 2) := by decide +kernel
theorem dX7_goDrawn_69 : decode cX7_goDrawn 69 = .ok (.aload_n 0, 1) := by decide +kernel
theorem dX7_goDrawn_70 : decode cX7_goDrawn 70 = .ok (.getfield 34, 3) := by decide +kernel
theorem dX7_goDrawn_73 : decode cX7_goDrawn 73 = .ok (.iload 6, 2) := by decide +kernel
theorem dX7_goDrawn_75 : decode cX7_goDrawn 75 = .ok (.baload, 1) := by decide +kernel
theorem dX7_goDrawn_76 : decode cX7_goDrawn 76 = .ok (.ifCond .eq 7, 3) := by decide +kernel
theorem dX7_goDrawn_79 : decode cX7_goDrawn 79 = .ok (.iconst 1, 1) := by decide +kernel
theorem dX7_goDrawn_80 : decode cX7_goDrawn 80 = .ok (.goto 4, 3) := by decide +kernel
theorem dX7_goDrawn_83 : decode cX7_goDrawn 83 = .ok (.iconst 0, 1) := by decide +kernel
theorem dX7_goDrawn_84 : decode cX7_goDrawn 84 = .ok (.iadd, 1) := by decide +kernel
theorem dX7_goDrawn_85 : decode cX7_goDrawn 85 = .ok (.istore 5, 2) := by decide +kernel
theorem dX7_goDrawn_87 : decode cX7_goDrawn 87 = .ok (.iinc 6 1, 3) := by decide +kernel
theorem dX7_goDrawn_90 : decode cX7_goDrawn 90 = .ok (.goto (-78), 3) := by decide +kernel
theorem dX7_goDrawn_93 : decode cX7_goDrawn 93 = .ok (.aload_n 0, 1) := by decide +kernel
theorem dX7_goDrawn_94 : decode cX7_goDrawn 94 = .ok (.aload_n 0, 1) := by decide +kernel
theorem dX7_goDrawn_95 : decode cX7_goDrawn 95 = .ok (.getfield 9, 3) := by decide +kernel
theorem dX7_goDrawn_98 : decode cX7_goDrawn 98 = .ok (.iconst 1, 1) := by decide +kernel
theorem dX7_goDrawn_99 : decode cX7_goDrawn 99 = .ok (.iaload, 1) := by decide +kernel
theorem dX7_goDrawn_100 : decode cX7_goDrawn 100 = .ok (.invokevirtual 313, 3) := by decide +kernel
theorem dX7_goDrawn_103 : decode cX7_goDrawn 103 = .ok (.iload 5, 2) := by decide +kernel
theorem dX7_goDrawn_105 : decode cX7_goDrawn 105 = .ok (.ireturn, 1) := by decide +kernel
theorem dX7_isSeed_0 : decode cX7_isSeed 0 = .ok (.iload_n 0, 1) := by decide +kernel
theorem dX7_isSeed_1 : decode cX7_isSeed 1 = .ok (.i2l, 1) := by decide +kernel
theorem dX7_isSeed_2 : decode cX7_isSeed 2 = .ok (.lconst 0, 1) := by decide +kernel
theorem dX7_isSeed_3 : decode cX7_isSeed 3 = .ok (.ldc2_w 512, 3) := by decide +kernel
theorem dX7_isSeed_6 : decode cX7_isSeed 6 = .ok (.invokestatic 103, 3) := by decide +kernel
theorem dX7_isSeed_9 : decode cX7_isSeed 9 = .ok (.ireturn, 1) := by decide +kernel
theorem dX7_drawn_0 : decode cX7_drawn 0 = .ok (.aload_n 0, 1) := by decide +kernel
theorem dX7_drawn_1 : decode cX7_drawn 1 = .ok (.invokevirtual 114, 3) := by decide +kernel
theorem dX7_drawn_4 : decode cX7_drawn 4 = .ok (.ifCond .eq 20, 3) := by decide +kernel
theorem dX7_drawn_7 : decode cX7_drawn 7 = .ok (.iload_n 1, 1) := by decide +kernel
theorem dX7_drawn_8 : decode cX7_drawn 8 = .ok (.invokestatic 514, 3) := by decide +kernel
theorem dX7_drawn_11 : decode cX7_drawn 11 = .ok (.ifCond .eq 13, 3) := by decide +kernel
theorem dX7_drawn_14 : decode cX7_drawn 14 = .ok (.iload_n 2, 1) := by decide +kernel
theorem dX7_drawn_15 : decode cX7_drawn 15 = .ok (.i2l, 1) := by decide +kernel
theorem dX7_drawn_16 : decode cX7_drawn 16 = .ok (.lconst 0, 1) := by decide +kernel
theorem dX7_drawn_17 : decode cX7_drawn 17 = .ok (.lconst 1, 1) := by decide +kernel
theorem dX7_drawn_18 : decode cX7_drawn 18 = .ok (.invokestatic 103, 3) := by decide +kernel
theorem dX7_drawn_21 : decode cX7_drawn 21 = .ok (.ifCond .ne 6, 3) := by decide +kernel
theorem dX7_drawn_24 : decode cX7_drawn 24 = .ok (.bipush (-2), 2) := by decide +kernel
theorem dX7_drawn_26 : decode cX7_drawn 26 = .ok (.ireturn, 1) := by decide +kernel
theorem dX7_drawn_27 : decode cX7_drawn 27 = .ok (.aload_n 0, 1) := by decide +kernel
theorem dX7_drawn_28 : decode cX7_drawn 28 = .ok (.iload_n 1, 1) := by decide +kernel
theorem dX7_drawn_29 : decode cX7_drawn 29 = .ok (.i2l, 1) := by decide +kernel
theorem dX7_drawn_30 : decode cX7_drawn 30 = .ok (.invokevirtual 517, 3) := by decide +kernel
theorem dX7_drawn_33 : decode cX7_drawn 33 = .ok (.istore_n 3, 1) := by decide +kernel
theorem dX7_drawn_34 : decode cX7_drawn 34 = .ok (.iload_n 2, 1) := by decide +kernel
theorem dX7_drawn_35 : decode cX7_drawn 35 = .ok (.ifCond .ne 7, 3) := by decide +kernel
theorem dX7_drawn_38 : decode cX7_drawn 38 = .ok (.iload_n 3, 1) := by decide +kernel
theorem dX7_drawn_39 : decode cX7_drawn 39 = .ok (.goto 14, 3) := by decide +kernel
theorem dX7_drawn_42 : decode cX7_drawn 42 = .ok (.aload_n 0, 1) := by decide +kernel
theorem dX7_drawn_43 : decode cX7_drawn 43 = .ok (.iconst 0, 1) := by decide +kernel
theorem dX7_drawn_44 : decode cX7_drawn 44 = .ok (.bipush 32, 2) := by decide +kernel
theorem dX7_drawn_46 : decode cX7_drawn 46 = .ok (.aload_n 0, 1) := by decide +kernel
theorem dX7_drawn_47 : decode cX7_drawn 47 = .ok (.invokevirtual 111, 3) := by decide +kernel
theorem dX7_drawn_50 : decode cX7_drawn 50 = .ok (.invokevirtual 340, 3) := by decide +kernel
theorem dX7_drawn_53 : decode cX7_drawn 53 = .ok (.ireturn, 1) := by decide +kernel
theorem dX7_luck_0 : decode cX7_luck 0 = .ok (.aload_n 0, 1) := by decide +kernel
theorem dX7_luck_1 : decode cX7_luck 1 = .ok (.iload_n 3, 1) := by decide +kernel
theorem dX7_luck_2 : decode cX7_luck 2 = .ok (.i2l, 1) := by decide +kernel
theorem dX7_luck_3 : decode cX7_luck 3 = .ok (.invokevirtual 326, 3) := by decide +kernel
theorem dX7_luck_6 : decode cX7_luck 6 = .ok (.ifCond .eq 22, 3) := by decide +kernel
theorem dX7_luck_9 : decode cX7_luck 9 = .ok (.iload_n 1, 1) := by decide +kernel
theorem dX7_luck_10 : decode cX7_luck 10 = .ok (.invokestatic 514, 3) := by decide +kernel
theorem dX7_luck_13 : decode cX7_luck 13 = .ok (.ifCond .eq 15, 3) := by decide +kernel
theorem dX7_luck_16 : decode cX7_luck 16 = .ok (.iload_n 2, 1) := by decide +kernel
theorem dX7_luck_17 : decode cX7_luck 17 = .ok (.i2l, 1) := by decide +kernel
theorem dX7_luck_18 : decode cX7_luck 18 = .ok (.lconst 1, 1) := by decide +kernel
theorem dX7_luck_19 : decode cX7_luck 19 = .ok (.ldc2_w 394, 3) := by decide +kernel
theorem dX7_luck_22 : decode cX7_luck 22 = .ok (.invokestatic 103, 3) := by decide +kernel
theorem dX7_luck_25 : decode cX7_luck 25 = .ok (.ifCond .ne 6, 3) := by decide +kernel
theorem dX7_luck_28 : decode cX7_luck 28 = .ok (.bipush (-2), 2) := by decide +kernel
theorem dX7_luck_30 : decode cX7_luck 30 = .ok (.ireturn, 1) := by decide +kernel
theorem dX7_luck_31 : decode cX7_luck 31 = .ok (.iconst 0, 1) := by decide +kernel
theorem dX7_luck_32 : decode cX7_luck 32 = .ok (.istore 4, 2) := by decide +kernel
theorem dX7_luck_34 : decode cX7_luck 34 = .ok (.iconst 0, 1) := by decide +kernel
theorem dX7_luck_35 : decode cX7_luck 35 = .ok (.istore 5, 2) := by decide +kernel
theorem dX7_luck_37 : decode cX7_luck 37 = .ok (.iload 5, 2) := by decide +kernel
theorem dX7_luck_39 : decode cX7_luck 39 = .ok (.iload_n 2, 1) := by decide +kernel
theorem dX7_luck_40 : decode cX7_luck 40 = .ok (.if_icmp .ge 42, 3) := by decide +kernel
theorem dX7_luck_43 : decode cX7_luck 43 = .ok (.aload_n 0, 1) := by decide +kernel
theorem dX7_luck_44 : decode cX7_luck 44 = .ok (.iload_n 1, 1) := by decide +kernel
theorem dX7_luck_45 : decode cX7_luck 45 = .ok (.i2l, 1) := by decide +kernel
theorem dX7_luck_46 : decode cX7_luck 46 = .ok (.iload 5, 2) := by decide +kernel
theorem dX7_luck_48 : decode cX7_luck 48 = .ok (.i2l, 1) := by decide +kernel
theorem dX7_luck_49 : decode cX7_luck 49 = .ok (.ladd, 1) := by decide +kernel
theorem dX7_luck_50 : decode cX7_luck 50 = .ok (.invokevirtual 517, 3) := by decide +kernel
theorem dX7_luck_53 : decode cX7_luck 53 = .ok (.pop, 1) := by decide +kernel
theorem dX7_luck_54 : decode cX7_luck 54 = .ok (.iload 4, 2) := by decide +kernel
theorem dX7_luck_56 : decode cX7_luck 56 = .ok (.aload_n 0, 1) := by decide +kernel
theorem dX7_luck_57 : decode cX7_luck 57 = .ok (.iload_n 3, 1) := by decide +kernel
theorem dX7_luck_58 : decode cX7_luck 58 = .ok (.aload_n 0, 1) := by decide +kernel
theorem dX7_luck_59 : decode cX7_luck 59 = .ok (.invokevirtual 111, 3) := by decide +kernel
theorem dX7_luck_62 : decode cX7_luck 62 = .ok (.invokevirtual 283, 3) := by decide +kernel
theorem dX7_luck_65 : decode cX7_luck 65 = .ok (.ifCond .eq 7, 3) := by decide +kernel
theorem dX7_luck_68 : decode cX7_luck 68 = .ok (.iconst 1, 1) := by decide +kernel
theorem dX7_luck_69 : decode cX7_luck 69 = .ok (.goto 4, 3) := by decide +kernel
theorem dX7_luck_72 : decode cX7_luck 72 = .ok (.iconst 0, 1) := by decide +kernel
theorem dX7_luck_73 : decode cX7_luck 73 = .ok (.iadd, 1) := by decide +kernel
theorem dX7_luck_74 : decode cX7_luck 74 = .ok (.istore 4, 2) := by decide +kernel
theorem dX7_luck_76 : decode cX7_luck 76 = .ok (.iinc 5 1, 3) := by decide +kernel
theorem dX7_luck_79 : decode cX7_luck 79 = .ok (.goto (-42), 3) := by decide +kernel
theorem dX7_luck_82 : decode cX7_luck 82 = .ok (.iload 4, 2) := by decide +kernel
theorem dX7_luck_84 : decode cX7_luck 84 = .ok (.ireturn, 1) := by decide +kernel
theorem dX7_count_0 : decode cX7_count 0 = .ok (.iload_n 1, 1) := by decide +kernel
theorem dX7_count_1 : decode cX7_count 1 = .ok (.i2l, 1) := by decide +kernel
theorem dX7_count_2 : decode cX7_count 2 = .ok (.lconst 0, 1) := by decide +kernel
theorem dX7_count_3 : decode cX7_count 3 = .ok (.ldc2_w 343, 3) := by decide +kernel
theorem dX7_count_6 : decode cX7_count 6 = .ok (.invokestatic 103, 3) := by decide +kernel
theorem dX7_count_9 : decode cX7_count 9 = .ok (.ifCond .eq 10, 3) := by decide +kernel
theorem dX7_count_12 : decode cX7_count 12 = .ok (.aload_n 0, 1) := by decide +kernel
theorem dX7_count_13 : decode cX7_count 13 = .ok (.getfield 9, 3) := by decide +kernel
theorem dX7_count_16 : decode cX7_count 16 = .ok (.iload_n 1, 1) := by decide +kernel
theorem dX7_count_17 : decode cX7_count 17 = .ok (.iaload, 1) := by decide +kernel
theorem dX7_count_18 : decode cX7_count 18 = .ok (.ireturn, 1) := by decide +kernel
theorem dX7_count_19 : decode cX7_count 19 = .ok (.iload_n 1, 1) := by decide +kernel
theorem dX7_count_20 : decode cX7_count 20 = .ok (.bipush 6, 2) := by decide +kernel
theorem dX7_count_22 : decode cX7_count 22 = .ok (.if_icmp .ne 8, 3) := by decide +kernel
theorem dX7_count_25 : decode cX7_count 25 = .ok (.aload_n 0, 1) := by decide +kernel
theorem dX7_count_26 : decode cX7_count 26 = .ok (.getfield 140, 3) := by decide +kernel
theorem dX7_count_29 : decode cX7_count 29 = .ok (.ireturn, 1) := by decide +kernel
theorem dX7_count_30 : decode cX7_count 30 = .ok (.iload_n 1, 1) := by decide +kernel
theorem dX7_count_31 : decode cX7_count 31 = .ok (.bipush 7, 2) := by decide +kernel
theorem dX7_count_33 : decode cX7_count 33 = .ok (.if_icmp .eq 5, 3) := by decide +kernel
theorem dX7_count_36 : decode cX7_count 36 = .ok (.iconst (-1), 1) := by decide +kernel
theorem dX7_count_37 : decode cX7_count 37 = .ok (.ireturn, 1) := by decide +kernel
theorem dX7_count_38 : decode cX7_count 38 = .ok (.iconst 0, 1) := by decide +kernel
theorem dX7_count_39 : decode cX7_count 39 = .ok (.istore_n 2, 1) := by decide +kernel
theorem dX7_count_40 : decode cX7_count 40 = .ok (.iconst 0, 1) := by decide +kernel
theorem dX7_count_41 : decode cX7_count 41 = .ok (.istore_n 3, 1) := by decide +kernel
theorem dX7_count_42 : decode cX7_count 42 = .ok (.iload_n 3, 1) := by decide +kernel
theorem dX7_count_43 : decode cX7_count 43 = .ok (.iconst 4, 1) := by decide +kernel
theorem dX7_count_44 : decode cX7_count 44 = .ok (.if_icmp .ge 27, 3) := by decide +kernel
theorem dX7_count_47 : decode cX7_count 47 = .ok (.iload_n 2, 1) := by decide +kernel
theorem dX7_count_48 : decode cX7_count 48 = .ok (.aload_n 0, 1) := by decide +kernel
theorem dX7_count_49 : decode cX7_count 49 = .ok (.getfield 85, 3) := by decide +kernel
theorem dX7_count_52 : decode cX7_count 52 = .ok (.iload_n 3, 1) := by decide +kernel
theorem dX7_count_53 : decode cX7_count 53 = .ok (.iaload, 1) := by decide +kernel
theorem dX7_count_54 : decode cX7_count 54 = .ok (.iconst (-1), 1) := by decide +kernel
theorem dX7_count_55 : decode cX7_count 55 = .ok (.if_icmp .ne 7, 3) := by decide +kernel
theorem dX7_count_58 : decode cX7_count 58 = .ok (.iconst 0, 1) := by decide +kernel
theorem dX7_count_59 : decode cX7_count 59 = .ok (.goto 4, 3) := by decide +kernel
theorem dX7_count_62 : decode cX7_count 62 = .ok (.iconst 1, 1) := by decide +kernel
theorem dX7_count_63 : decode cX7_count 63 = .ok (.iadd, 1) := by decide +kernel
theorem dX7_count_64 : decode cX7_count 64 = .ok (.istore_n 2, 1) := by decide +kernel
theorem dX7_count_65 : decode cX7_count 65 = .ok (.iinc 3 1, 3) := by decide +kernel
theorem dX7_count_68 : decode cX7_count 68 = .ok (.goto (-26), 3) := by decide +kernel
theorem dX7_count_71 : decode cX7_count 71 = .ok (.iload_n 2, 1) := by decide +kernel
theorem dX7_count_72 : decode cX7_count 72 = .ok (.ireturn, 1) := by decide +kernel
theorem dX7_isSlot_0 : decode cX7_isSlot 0 = .ok (.iload_n 0, 1) := by decide +kernel
theorem dX7_isSlot_1 : decode cX7_isSlot 1 = .ok (.i2l, 1) := by decide +kernel
theorem dX7_isSlot_2 : decode cX7_isSlot 2 = .ok (.lconst 0, 1) := by decide +kernel
theorem dX7_isSlot_3 : decode cX7_isSlot 3 = .ok (.ldc2_w 332, 3) := by decide +kernel
theorem dX7_isSlot_6 : decode cX7_isSlot 6 = .ok (.invokestatic 103, 3) := by decide +kernel
theorem dX7_isSlot_9 : decode cX7_isSlot 9 = .ok (.ireturn, 1) := by decide +kernel
theorem dX7_clipped_0 : decode cX7_clipped 0 = .ok (.bipush 64, 2) := by decide +kernel
theorem dX7_clipped_2 : decode cX7_clipped 2 = .ok (.bipush 8, 2) := by decide +kernel
theorem dX7_clipped_4 : decode cX7_clipped 4 = .ok (.iload_n 2, 1) := by decide +kernel
theorem dX7_clipped_5 : decode cX7_clipped 5 = .ok (.ishl, 1) := by decide +kernel
theorem dX7_clipped_6 : decode cX7_clipped 6 = .ok (.isub, 1) := by decide +kernel
theorem dX7_clipped_7 : decode cX7_clipped 7 = .ok (.istore_n 3, 1) := by decide +kernel
theorem dX7_clipped_8 : decode cX7_clipped 8 = .ok (.lload_n 0, 1) := by decide +kernel
theorem dX7_clipped_9 : decode cX7_clipped 9 = .ok (.iload_n 3, 1) := by decide +kernel
theorem dX7_clipped_10 : decode cX7_clipped 10 = .ok (.lshl, 1) := by decide +kernel
theorem dX7_clipped_11 : decode cX7_clipped 11 = .ok (.iload_n 3, 1) := by decide +kernel
theorem dX7_clipped_12 : decode cX7_clipped 12 = .ok (.lshr, 1) := by decide +kernel
theorem dX7_clipped_13 : decode cX7_clipped 13 = .ok (.lreturn, 1) := by decide +kernel
theorem dX7_row_0 : decode cX7_row 0 = .ok (.iload_n 1, 1) := by decide +kernel
theorem dX7_row_1 : decode cX7_row 1 = .ok (.invokestatic 412, 3) := by decide +kernel
theorem dX7_row_4 : decode cX7_row 4 = .ok (.ifCond .eq 21, 3) := by decide +kernel
theorem dX7_row_7 : decode cX7_row 7 = .ok (.iload_n 2, 1) := by decide +kernel
theorem dX7_row_8 : decode cX7_row 8 = .ok (.i2l, 1) := by decide +kernel
theorem dX7_row_9 : decode cX7_row 9 = .ok (.lconst 0, 1) := by decide +kernel
theorem dX7_row_10 : decode cX7_row 10 = .ok (.ldc2_w 332, 3) := by decide +kernel
theorem dX7_row_13 : decode cX7_row 13 = .ok (.invokestatic 103, 3) := by decide +kernel
theorem dX7_row_16 : decode cX7_row 16 = .ok (.ifCond .eq 9, 3) := by decide +kernel
theorem dX7_row_19 : decode cX7_row 19 = .ok (.iload_n 3, 1) := by decide +kernel
theorem dX7_row_20 : decode cX7_row 20 = .ok (.bipush 60, 2) := by decide +kernel
theorem dX7_row_22 : decode cX7_row 22 = .ok (.if_icmp .le 6, 3) := by decide +kernel
theorem dX7_row_25 : decode cX7_row 25 = .ok (.bipush (-2), 2) := by decide +kernel
theorem dX7_row_27 : decode cX7_row 27 = .ok (.ireturn, 1) := by decide +kernel
theorem dX7_row_28 : decode cX7_row 28 = .ok (.iload_n 3, 1) := by decide +kernel
theorem dX7_row_29 : decode cX7_row 29 = .ok (.ifCond .ge 6, 3) := by decide +kernel
theorem dX7_row_32 : decode cX7_row 32 = .ok (.bipush (-3), 2) := by decide +kernel
theorem dX7_row_34 : decode cX7_row 34 = .ok (.ireturn, 1) := by decide +kernel
theorem dX7_row_35 : decode cX7_row 35 = .ok (.aload_n 0, 1) := by decide +kernel
theorem dX7_row_36 : decode cX7_row 36 = .ok (.getfield 85, 3) := by decide +kernel
theorem dX7_row_39 : decode cX7_row 39 = .ok (.iload_n 1, 1) := by decide +kernel
theorem dX7_row_40 : decode cX7_row 40 = .ok (.iload_n 3, 1) := by decide +kernel
theorem dX7_row_41 : decode cX7_row 41 = .ok (.iastore, 1) := by decide +kernel
theorem dX7_row_42 : decode cX7_row 42 = .ok (.aload_n 0, 1) := by decide +kernel
theorem dX7_row_43 : decode cX7_row 43 = .ok (.getfield 88, 3) := by decide +kernel
theorem dX7_row_46 : decode cX7_row 46 = .ok (.iload_n 1, 1) := by decide +kernel
theorem dX7_row_47 : decode cX7_row 47 = .ok (.iload_n 2, 1) := by decide +kernel
theorem dX7_row_48 : decode cX7_row 48 = .ok (.iastore, 1) := by decide +kernel
theorem dX7_row_49 : decode cX7_row 49 = .ok (.iconst 0, 1) := by decide +kernel
theorem dX7_row_50 : decode cX7_row 50 = .ok (.istore 4, 2) := by decide +kernel
theorem dX7_row_52 : decode cX7_row 52 = .ok (.iload 4, 2) := by decide +kernel
theorem dX7_row_54 : decode cX7_row 54 = .ok (.bipush 60, 2) := by decide +kernel
theorem dX7_row_56 : decode cX7_row 56 = .ok (.if_icmp .ge 22, 3) := by decide +kernel
theorem dX7_row_59 : decode cX7_row 59 = .ok (.aload_n 0, 1) := by decide +kernel
theorem dX7_row_60 : decode cX7_row 60 = .ok (.getfield 91, 3) := by decide +kernel
theorem dX7_row_63 : decode cX7_row 63 = .ok (.bipush 60, 2) := by decide +kernel
theorem dX7_row_65 : decode cX7_row 65 = .ok (.iload_n 1, 1) := by decide +kernel
theorem dX7_row_66 : decode cX7_row 66 = .ok (.imul, 1) := by decide +kernel
theorem dX7_row_67 : decode cX7_row 67 = .ok (.iload 4, 2) := by decide +kernel
theorem dX7_row_69 : decode cX7_row 69 = .ok (.iadd, 1) := by decide +kernel
theorem dX7_row_70 : decode cX7_row 70 = .ok (.lconst 0, 1) := by decide +kernel
theorem dX7_row_71 : decode cX7_row 71 = .ok (.lastore, 1) := by decide +kernel
theorem dX7_row_72 : decode cX7_row 72 = .ok (.iinc 4 1, 3) := by decide +kernel
theorem dX7_row_75 : decode cX7_row 75 = .ok (.goto (-23), 3) := by decide +kernel
theorem dX7_row_78 : decode cX7_row 78 = .ok (.iconst 0, 1) := by decide +kernel
theorem dX7_row_79 : decode cX7_row 79 = .ok (.ireturn, 1) := by decide +kernel
theorem dX7_write_0 : decode cX7_write 0 = .ok (.iload_n 1, 1) := by decide +kernel
theorem dX7_write_1 : decode cX7_write 1 = .ok (.invokestatic 412, 3) := by decide +kernel
theorem dX7_write_4 : decode cX7_write 4 = .ok (.ifCond .ne 6, 3) := by decide +kernel
theorem dX7_write_7 : decode cX7_write 7 = .ok (.bipush (-2), 2) := by decide +kernel
theorem dX7_write_9 : decode cX7_write 9 = .ok (.ireturn, 1) := by decide +kernel
theorem dX7_write_10 : decode cX7_write 10 = .ok (.aload_n 0, 1) := by decide +kernel
theorem dX7_write_11 : decode cX7_write 11 = .ok (.getfield 85, 3) := by decide +kernel
theorem dX7_write_14 : decode cX7_write 14 = .ok (.iload_n 1, 1) := by decide +kernel
theorem dX7_write_15 : decode cX7_write 15 = .ok (.iaload, 1) := by decide +kernel
theorem dX7_write_16 : decode cX7_write 16 = .ok (.iconst (-1), 1) := by decide +kernel
theorem dX7_write_17 : decode cX7_write 17 = .ok (.if_icmp .ne 6, 3) := by decide +kernel
theorem dX7_write_20 : decode cX7_write 20 = .ok (.bipush (-6), 2) := by decide +kernel
theorem dX7_write_22 : decode cX7_write 22 = .ok (.ireturn, 1) := by decide +kernel
theorem dX7_write_23 : decode cX7_write 23 = .ok (.iload_n 2, 1) := by decide +kernel
theorem dX7_write_24 : decode cX7_write 24 = .ok (.i2l, 1) := by decide +kernel
theorem dX7_write_25 : decode cX7_write 25 = .ok (.lconst 0, 1) := by decide +kernel
theorem dX7_write_26 : decode cX7_write 26 = .ok (.aload_n 0, 1) := by decide +kernel
theorem dX7_write_27 : decode cX7_write 27 = .ok (.getfield 85, 3) := by decide +kernel
theorem dX7_write_30 : decode cX7_write 30 = .ok (.iload_n 1, 1) := by decide +kernel
theorem dX7_write_31 : decode cX7_write 31 = .ok (.iaload, 1) := by decide +kernel
theorem dX7_write_32 : decode cX7_write 32 = .ok (.iconst 1, 1) := by decide +kernel
theorem dX7_write_33 : decode cX7_write 33 = .ok (.isub, 1) := by decide +kernel
theorem dX7_write_34 : decode cX7_write 34 = .ok (.i2l, 1) := by decide +kernel
theorem dX7_write_35 : decode cX7_write 35 = .ok (.invokestatic 103, 3) := by decide +kernel
theorem dX7_write_38 : decode cX7_write 38 = .ok (.ifCond .ne 6, 3) := by decide +kernel
theorem dX7_write_41 : decode cX7_write 41 = .ok (.bipush (-7), 2) := by decide +kernel
theorem dX7_write_43 : decode cX7_write 43 = .ok (.ireturn, 1) := by decide +kernel
theorem dX7_write_44 : decode cX7_write 44 = .ok (.aload_n 0, 1) := by decide +kernel
theorem dX7_write_45 : decode cX7_write 45 = .ok (.getfield 91, 3) := by decide +kernel
theorem dX7_write_48 : decode cX7_write 48 = .ok (.bipush 60, 2) := by decide +kernel
theorem dX7_write_50 : decode cX7_write 50 = .ok (.iload_n 1, 1) := by decide +kernel
theorem dX7_write_51 : decode cX7_write 51 = .ok (.imul, 1) := by decide +kernel
theorem dX7_write_52 : decode cX7_write 52 = .ok (.iload_n 2, 1) := by decide +kernel
theorem dX7_write_53 : decode cX7_write 53 = .ok (.iadd, 1) := by decide +kernel
theorem dX7_write_54 : decode cX7_write 54 = .ok (.lload_n 3, 1) := by decide +kernel
theorem dX7_write_55 : decode cX7_write 55 = .ok (.aload_n 0, 1) := by decide +kernel
theorem dX7_write_56 : decode cX7_write 56 = .ok (.getfield 88, 3) := by decide +kernel
theorem dX7_write_59 : decode cX7_write 59 = .ok (.iload_n 1, 1) := by decide +kernel
theorem dX7_write_60 : decode cX7_write 60 = .ok (.iaload, 1) := by decide +kernel
theorem dX7_write_61 : decode cX7_write 61 = .ok (.invokestatic 521, 3) := by decide +kernel
theorem dX7_write_64 : decode cX7_write 64 = .ok (.lastore, 1) := by decide +kernel
theorem dX7_write_65 : decode cX7_write 65 = .ok (.iconst 0, 1) := by decide +kernel
theorem dX7_write_66 : decode cX7_write 66 = .ok (.ireturn, 1) := by decide +kernel
theorem dX7_paste_0 : decode cX7_paste 0 = .ok (.iload_n 1, 1) := by decide +kernel
theorem dX7_paste_1 : decode cX7_paste 1 = .ok (.invokestatic 412, 3) := by decide +kernel
theorem dX7_paste_4 : decode cX7_paste 4 = .ok (.ifCond .eq 10, 3) := by decide +kernel
theorem dX7_paste_7 : decode cX7_paste 7 = .ok (.iload_n 3, 1) := by decide +kernel
theorem dX7_paste_8 : decode cX7_paste 8 = .ok (.invokestatic 412, 3) := by decide +kernel
theorem dX7_paste_11 : decode cX7_paste 11 = .ok (.ifCond .ne 6, 3) := by decide +kernel
theorem dX7_paste_14 : decode cX7_paste 14 = .ok (.bipush (-2), 2) := by decide +kernel
theorem dX7_paste_16 : decode cX7_paste 16 = .ok (.ireturn, 1) := by decide +kernel
theorem dX7_paste_17 : decode cX7_paste 17 = .ok (.aload_n 0, 1) := by decide +kernel
theorem dX7_paste_18 : decode cX7_paste 18 = .ok (.getfield 85, 3) := by decide +kernel
theorem dX7_paste_21 : decode cX7_paste 21 = .ok (.iload_n 1, 1) := by decide +kernel
theorem dX7_paste_22 : decode cX7_paste 22 = .ok (.iaload, 1) := by decide +kernel
theorem dX7_paste_23 : decode cX7_paste 23 = .ok (.iconst (-1), 1) := by decide +kernel
theorem dX7_paste_24 : decode cX7_paste 24 = .ok (.if_icmp .eq 13, 3) := by decide +kernel
theorem dX7_paste_27 : decode cX7_paste 27 = .ok (.aload_n 0, 1) := by decide +kernel
theorem dX7_paste_28 : decode cX7_paste 28 = .ok (.getfield 85, 3) := by decide +kernel
theorem dX7_paste_31 : decode cX7_paste 31 = .ok (.iload_n 3, 1) := by decide +kernel
theorem dX7_paste_32 : decode cX7_paste 32 = .ok (.iaload, 1) := by decide +kernel
theorem dX7_paste_33 : decode cX7_paste 33 = .ok (.iconst (-1), 1) := by decide +kernel
theorem dX7_paste_34 : decode cX7_paste 34 = .ok (.if_icmp .ne 6, 3) := by decide +kernel
theorem dX7_paste_37 : decode cX7_paste 37 = .ok (.bipush (-6), 2) := by decide +kernel
theorem dX7_paste_39 : decode cX7_paste 39 = .ok (.ireturn, 1) := by decide +kernel
theorem dX7_paste_40 : decode cX7_paste 40 = .ok (.aload_n 0, 1) := by decide +kernel
theorem dX7_paste_41 : decode cX7_paste 41 = .ok (.getfield 88, 3) := by decide +kernel
theorem dX7_paste_44 : decode cX7_paste 44 = .ok (.iload_n 1, 1) := by decide +kernel
theorem dX7_paste_45 : decode cX7_paste 45 = .ok (.iaload, 1) := by decide +kernel
theorem dX7_paste_46 : decode cX7_paste 46 = .ok (.aload_n 0, 1) := by decide +kernel
theorem dX7_paste_47 : decode cX7_paste 47 = .ok (.getfield 88, 3) := by decide +kernel
theorem dX7_paste_50 : decode cX7_paste 50 = .ok (.iload_n 3, 1) := by decide +kernel
theorem dX7_paste_51 : decode cX7_paste 51 = .ok (.iaload, 1) := by decide +kernel
theorem dX7_paste_52 : decode cX7_paste 52 = .ok (.if_icmp .eq 6, 3) := by decide +kernel
theorem dX7_paste_55 : decode cX7_paste 55 = .ok (.bipush (-8), 2) := by decide +kernel
theorem dX7_paste_57 : decode cX7_paste 57 = .ok (.ireturn, 1) := by decide +kernel
theorem dX7_paste_58 : decode cX7_paste 58 = .ok (.iload_n 2, 1) := by decide +kernel
theorem dX7_paste_59 : decode cX7_paste 59 = .ok (.ifCond .lt 48, 3) := by decide +kernel
theorem dX7_paste_62 : decode cX7_paste 62 = .ok (.iload 4, 2) := by decide +kernel
theorem dX7_paste_64 : decode cX7_paste 64 = .ok (.ifCond .lt 43, 3) := by decide +kernel
theorem dX7_paste_67 : decode cX7_paste 67 = .ok (.iload 5, 2) := by decide +kernel
theorem dX7_paste_69 : decode cX7_paste 69 = .ok (.ifCond .lt 38, 3) := by decide +kernel
theorem dX7_paste_72 : decode cX7_paste 72 = .ok (.iload_n 2, 1) := by decide +kernel
theorem dX7_paste_73 : decode cX7_paste 73 = .ok (.i2l, 1) := by decide +kernel
theorem dX7_paste_74 : decode cX7_paste 74 = .ok (.iload 5, 2) := by decide +kernel
theorem dX7_paste_76 : decode cX7_paste 76 = .ok (.i2l, 1) := by decide +kernel
theorem dX7_paste_77 : decode cX7_paste 77 = .ok (.ladd, 1) := by decide +kernel
theorem dX7_paste_78 : decode cX7_paste 78 = .ok (.aload_n 0, 1) := by decide +kernel
theorem dX7_paste_79 : decode cX7_paste 79 = .ok (.getfield 85, 3) := by decide +kernel
theorem dX7_paste_82 : decode cX7_paste 82 = .ok (.iload_n 1, 1) := by decide +kernel
theorem dX7_paste_83 : decode cX7_paste 83 = .ok (.iaload, 1) := by decide +kernel
theorem dX7_paste_84 : decode cX7_paste 84 = .ok (.i2l, 1) := by decide +kernel
theorem dX7_paste_85 : decode cX7_paste 85 = .ok (.lcmp, 1) := by decide +kernel
theorem dX7_paste_86 : decode cX7_paste 86 = .ok (.ifCond .gt 21, 3) := by decide +kernel
theorem dX7_paste_89 : decode cX7_paste 89 = .ok (.iload 4, 2) := by decide +kernel
theorem dX7_paste_91 : decode cX7_paste 91 = .ok (.i2l, 1) := by decide +kernel
theorem dX7_paste_92 : decode cX7_paste 92 = .ok (.iload 5, 2) := by decide +kernel
theorem dX7_paste_94 : decode cX7_paste 94 = .ok (.i2l, 1) := by decide +kernel
theorem dX7_paste_95 : decode cX7_paste 95 = .ok (.ladd, 1) := by decide +kernel
theorem dX7_paste_96 : decode cX7_paste 96 = .ok (.aload_n 0, 1) := by decide +kernel
theorem dX7_paste_97 : decode cX7_paste 97 = .ok (.getfield 85, 3) := by decide +kernel
theorem dX7_paste_100 : decode cX7_paste 100 = .ok (.iload_n 3, 1) := by decide +kernel
theorem dX7_paste_101 : decode cX7_paste 101 = .ok (.iaload, 1) := by decide +kernel
theorem dX7_paste_102 : decode cX7_paste 102 = .ok (.i2l, 1) := by decide +kernel
theorem dX7_paste_103 : decode cX7_paste 103 = .ok (.lcmp, 1) := by decide +kernel
theorem dX7_paste_104 : decode cX7_paste 104 = .ok (.ifCond .le 6, 3) := by decide +kernel
theorem dX7_paste_107 : decode cX7_paste 107 = .ok (.bipush (-7), 2) := by decide +kernel
theorem dX7_paste_109 : decode cX7_paste 109 = .ok (.ireturn, 1) := by decide +kernel
theorem dX7_paste_110 : decode cX7_paste 110 = .ok (.iconst 0, 1) := by decide +kernel
theorem dX7_paste_111 : decode cX7_paste 111 = .ok (.istore 6, 2) := by decide +kernel
theorem dX7_paste_113 : decode cX7_paste 113 = .ok (.iload 6, 2) := by decide +kernel
theorem dX7_paste_115 : decode cX7_paste 115 = .ok (.iload 5, 2) := by decide +kernel
theorem dX7_paste_117 : decode cX7_paste 117 = .ok (.if_icmp .ge 30, 3) := by decide +kernel
theorem dX7_paste_120 : decode cX7_paste 120 = .ok (.aload_n 0, 1) := by decide +kernel
theorem dX7_paste_121 : decode cX7_paste 121 = .ok (.getfield 95, 3) := by decide +kernel
theorem dX7_paste_124 : decode cX7_paste 124 = .ok (.iload 6, 2) := by decide +kernel
theorem dX7_paste_126 : decode cX7_paste 126 = .ok (.aload_n 0, 1) := by decide +kernel
theorem dX7_paste_127 : decode cX7_paste 127 = .ok (.getfield 91, 3) := by decide +kernel
theorem dX7_paste_130 : decode cX7_paste 130 = .ok (.bipush 60, 2) := by decide +kernel
theorem dX7_paste_132 : decode cX7_paste 132 = .ok (.iload_n 1, 1) := by decide +kernel
theorem dX7_paste_133 : decode cX7_paste 133 = .ok (.imul, 1) := by decide +kernel
theorem dX7_paste_134 : decode cX7_paste 134 = .ok (.iload_n 2, 1) := by decide +kernel
theorem dX7_paste_135 : decode cX7_paste 135 = .ok (.iadd, 1) := by decide +kernel
theorem dX7_paste_136 : decode cX7_paste 136 = .ok (.iload 6, 2) := by decide +kernel
theorem dX7_paste_138 : decode cX7_paste 138 = .ok (.iadd, 1) := by decide +kernel
theorem dX7_paste_139 : decode cX7_paste 139 = .ok (.laload, 1) := by decide +kernel
theorem dX7_paste_140 : decode cX7_paste 140 = .ok (.lastore, 1) := by decide +kernel
theorem dX7_paste_141 : decode cX7_paste 141 = .ok (.iinc 6 1, 3) := by decide +kernel
theorem dX7_paste_144 : decode cX7_paste 144 = .ok (.goto (-31), 3) := by decide +kernel
theorem dX7_paste_147 : decode cX7_paste 147 = .ok (.iconst 0, 1) := by decide +kernel
theorem dX7_paste_148 : decode cX7_paste 148 = .ok (.istore 6, 2) := by decide +kernel
theorem dX7_paste_150 : decode cX7_paste 150 = .ok (.iload 6, 2) := by decide +kernel
theorem dX7_paste_152 : decode cX7_paste 152 = .ok (.iload 5, 2) := by decide +kernel
theorem dX7_paste_154 : decode cX7_paste 154 = .ok (.if_icmp .ge 31, 3) := by decide +kernel
theorem dX7_paste_157 : decode cX7_paste 157 = .ok (.aload_n 0, 1) := by decide +kernel
theorem dX7_paste_158 : decode cX7_paste 158 = .ok (.getfield 91, 3) := by decide +kernel
theorem dX7_paste_161 : decode cX7_paste 161 = .ok (.bipush 60, 2) := by decide +kernel
theorem dX7_paste_163 : decode cX7_paste 163 = .ok (.iload_n 3, 1) := by decide +kernel
theorem dX7_paste_164 : decode cX7_paste 164 = .ok (.imul, 1) := by decide +kernel
theorem dX7_paste_165 : decode cX7_paste 165 = .ok (.iload 4, 2) := by decide +kernel
theorem dX7_paste_167 : decode cX7_paste 167 = .ok (.iadd, 1) := by decide +kernel
theorem dX7_paste_168 : decode cX7_paste 168 = .ok (.iload 6, 2) := by decide +kernel
theorem dX7_paste_170 : decode cX7_paste 170 = .ok (.iadd, 1) := by decide +kernel
theorem dX7_paste_171 : decode cX7_paste 171 = .ok (.aload_n 0, 1) := by decide +kernel
theorem dX7_paste_172 : decode cX7_paste 172 = .ok (.getfield 95, 3) := by decide +kernel
theorem dX7_paste_175 : decode cX7_paste 175 = .ok (.iload 6, 2) := by decide +kernel
theorem dX7_paste_177 : decode cX7_paste 177 = .ok (.laload, 1) := by decide +kernel
theorem dX7_paste_178 : decode cX7_paste 178 = .ok (.lastore, 1) := by decide +kernel
theorem dX7_paste_179 : decode cX7_paste 179 = .ok (.iinc 6 1, 3) := by decide +kernel
theorem dX7_paste_182 : decode cX7_paste 182 = .ok (.goto (-32), 3) := by decide +kernel
theorem dX7_paste_185 : decode cX7_paste 185 = .ok (.iconst 0, 1) := by decide +kernel
theorem dX7_paste_186 : decode cX7_paste 186 = .ok (.ireturn, 1) := by decide +kernel
