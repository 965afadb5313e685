theorem dX7_init_0 : decode cX7_init 0 = .ok (.aload_n 0, 1) := by decide +kernel
theorem dX7_init_1 : decode cX7_init 1 = .ok (.invokespecial 1, 3) := by decide +kernel
theorem dX7_init_4 : decode cX7_init 4 = .ok (.aload_n 0, 1) := by decide +kernel
theorem dX7_init_5 : decode cX7_init 5 = .ok (.sipush 300, 3) := by decide +kernel
theorem dX7_init_8 : decode cX7_init 8 = .ok (.newarray .byte, 2) := by decide +kernel
theorem dX7_init_10 : decode cX7_init 10 = .ok (.putfield 7, 3) := by decide +kernel
theorem dX7_init_13 : decode cX7_init 13 = .ok (.aload_n 0, 1) := by decide +kernel
theorem dX7_init_14 : decode cX7_init 14 = .ok (.iconst 2, 1) := by decide +kernel
theorem dX7_init_15 : decode cX7_init 15 = .ok (.newarray .int, 2) := by decide +kernel
theorem dX7_init_17 : decode cX7_init 17 = .ok (.putfield 13, 3) := by decide +kernel
theorem dX7_init_20 : decode cX7_init 20 = .ok (.aload_n 0, 1) := by decide +kernel
theorem dX7_init_21 : decode cX7_init 21 = .ok (.iconst 2, 1) := by decide +kernel
theorem dX7_init_22 : decode cX7_init 22 = .ok (.newarray .int, 2) := by decide +kernel
theorem dX7_init_24 : decode cX7_init 24 = .ok (.putfield 17, 3) := by decide +kernel
theorem dX7_init_27 : decode cX7_init 27 = .ok (.aload_n 0, 1) := by decide +kernel
theorem dX7_init_28 : decode cX7_init 28 = .ok (.iconst 2, 1) := by decide +kernel
theorem dX7_init_29 : decode cX7_init 29 = .ok (.newarray .int, 2) := by decide +kernel
theorem dX7_init_31 : decode cX7_init 31 = .ok (.putfield 20, 3) := by decide +kernel
theorem dX7_init_34 : decode cX7_init 34 = .ok (.aload_n 0, 1) := by decide +kernel
theorem dX7_init_35 : decode cX7_init 35 = .ok (.bipush 6, 2) := by decide +kernel
theorem dX7_init_37 : decode cX7_init 37 = .ok (.newarray .int, 2) := by decide +kernel
theorem dX7_init_39 : decode cX7_init 39 = .ok (.putfield 23, 3) := by decide +kernel
theorem dX7_init_42 : decode cX7_init 42 = .ok (.aload_n 0, 1) := by decide +kernel
theorem dX7_init_43 : decode cX7_init 43 = .ok (.bipush 6, 2) := by decide +kernel
theorem dX7_init_45 : decode cX7_init 45 = .ok (.newarray .int, 2) := by decide +kernel
theorem dX7_init_47 : decode cX7_init 47 = .ok (.putfield 26, 3) := by decide +kernel
theorem dX7_init_50 : decode cX7_init 50 = .ok (.aload_n 0, 1) := by decide +kernel
theorem dX7_init_51 : decode cX7_init 51 = .ok (.bipush 6, 2) := by decide +kernel
theorem dX7_init_53 : decode cX7_init 53 = .ok (.newarray .int, 2) := by decide +kernel
theorem dX7_init_55 : decode cX7_init 55 = .ok (.putfield 29, 3) := by decide +kernel
theorem dX7_init_58 : decode cX7_init 58 = .ok (.aload_n 0, 1) := by decide +kernel
theorem dX7_init_59 : decode cX7_init 59 = .ok (.bipush 32, 2) := by decide +kernel
theorem dX7_init_61 : decode cX7_init 61 = .ok (.newarray .int, 2) := by decide +kernel
theorem dX7_init_63 : decode cX7_init 63 = .ok (.putfield 32, 3) := by decide +kernel
theorem dX7_init_66 : decode cX7_init 66 = .ok (.aload_n 0, 1) := by decide +kernel
theorem dX7_init_67 : decode cX7_init 67 = .ok (.iconst 2, 1) := by decide +kernel
theorem dX7_init_68 : decode cX7_init 68 = .ok (.newarray .int, 2) := by decide +kernel
theorem dX7_init_70 : decode cX7_init 70 = .ok (.putfield 35, 3) := by decide +kernel
theorem dX7_init_73 : decode cX7_init 73 = .ok (.aload_n 0, 1) := by decide +kernel
theorem dX7_init_74 : decode cX7_init 74 = .ok (.bipush 6, 2) := by decide +kernel
theorem dX7_init_76 : decode cX7_init 76 = .ok (.newarray .int, 2) := by decide +kernel
theorem dX7_init_78 : decode cX7_init 78 = .ok (.putfield 38, 3) := by decide +kernel
theorem dX7_init_81 : decode cX7_init 81 = .ok (.aload_n 0, 1) := by decide +kernel
theorem dX7_init_82 : decode cX7_init 82 = .ok (.bipush 40, 2) := by decide +kernel
theorem dX7_init_84 : decode cX7_init 84 = .ok (.newarray .int, 2) := by decide +kernel
theorem dX7_init_86 : decode cX7_init 86 = .ok (.putfield 41, 3) := by decide +kernel
theorem dX7_init_89 : decode cX7_init 89 = .ok (.aload_n 0, 1) := by decide +kernel
theorem dX7_init_90 : decode cX7_init 90 = .ok (.bipush 10, 2) := by decide +kernel
theorem dX7_init_92 : decode cX7_init 92 = .ok (.newarray .long, 2) := by decide +kernel
theorem dX7_init_94 : decode cX7_init 94 = .ok (.putfield 44, 3) := by decide +kernel
theorem dX7_init_97 : decode cX7_init 97 = .ok (.aload_n 0, 1) := by decide +kernel
theorem dX7_init_98 : decode cX7_init 98 = .ok (.bipush 10, 2) := by decide +kernel
theorem dX7_init_100 : decode cX7_init 100 = .ok (.newarray .long, 2) := by decide +kernel
theorem dX7_init_102 : decode cX7_init 102 = .ok (.putfield 48, 3) := by decide +kernel
theorem dX7_init_105 : decode cX7_init 105 = .ok (.aload_n 0, 1) := by decide +kernel
theorem dX7_init_106 : decode cX7_init 106 = .ok (.sipush 640, 3) := by decide +kernel
theorem dX7_init_109 : decode cX7_init 109 = .ok (.newarray .int, 2) := by decide +kernel
theorem dX7_init_111 : decode cX7_init 111 = .ok (.putfield 51, 3) := by decide +kernel
theorem dX7_init_114 : decode cX7_init 114 = .ok (.aload_n 0, 1) := by decide +kernel
theorem dX7_init_115 : decode cX7_init 115 = .ok (.iconst 3, 1) := by decide +kernel
theorem dX7_init_116 : decode cX7_init 116 = .ok (.newarray .int, 2) := by decide +kernel
theorem dX7_init_118 : decode cX7_init 118 = .ok (.putfield 54, 3) := by decide +kernel
theorem dX7_init_121 : decode cX7_init 121 = .ok (.aload_n 0, 1) := by decide +kernel
theorem dX7_init_122 : decode cX7_init 122 = .ok (.iconst 3, 1) := by decide +kernel
theorem dX7_init_123 : decode cX7_init 123 = .ok (.newarray .int, 2) := by decide +kernel
theorem dX7_init_125 : decode cX7_init 125 = .ok (.putfield 57, 3) := by decide +kernel
theorem dX7_init_128 : decode cX7_init 128 = .ok (.aload_n 0, 1) := by decide +kernel
theorem dX7_init_129 : decode cX7_init 129 = .ok (.iconst 3, 1) := by decide +kernel
theorem dX7_init_130 : decode cX7_init 130 = .ok (.newarray .int, 2) := by decide +kernel
theorem dX7_init_132 : decode cX7_init 132 = .ok (.putfield 60, 3) := by decide +kernel
theorem dX7_init_135 : decode cX7_init 135 = .ok (.aload_n 0, 1) := by decide +kernel
theorem dX7_init_136 : decode cX7_init 136 = .ok (.sipush 16000, 3) := by decide +kernel
theorem dX7_init_139 : decode cX7_init 139 = .ok (.newarray .int, 2) := by decide +kernel
theorem dX7_init_141 : decode cX7_init 141 = .ok (.putfield 63, 3) := by decide +kernel
theorem dX7_init_144 : decode cX7_init 144 = .ok (.aload_n 0, 1) := by decide +kernel
theorem dX7_init_145 : decode cX7_init 145 = .ok (.iconst 3, 1) := by decide +kernel
theorem dX7_init_146 : decode cX7_init 146 = .ok (.newarray .int, 2) := by decide +kernel
theorem dX7_init_148 : decode cX7_init 148 = .ok (.dup, 1) := by decide +kernel
theorem dX7_init_149 : decode cX7_init 149 = .ok (.iconst 0, 1) := by decide +kernel
theorem dX7_init_150 : decode cX7_init 150 = .ok (.iconst 1, 1) := by decide +kernel
theorem dX7_init_151 : decode cX7_init 151 = .ok (.iastore, 1) := by decide +kernel
theorem dX7_init_152 : decode cX7_init 152 = .ok (.dup, 1) := by decide +kernel
theorem dX7_init_153 : decode cX7_init 153 = .ok (.iconst 1, 1) := by decide +kernel
theorem dX7_init_154 : decode cX7_init 154 = .ok (.bipush 10, 2) := by decide +kernel
theorem dX7_init_156 : decode cX7_init 156 = .ok (.iastore, 1) := by decide +kernel
theorem dX7_init_157 : decode cX7_init 157 = .ok (.dup, 1) := by decide +kernel
theorem dX7_init_158 : decode cX7_init 158 = .ok (.iconst 2, 1) := by decide +kernel
theorem dX7_init_159 : decode cX7_init 159 = .ok (.bipush 100, 2) := by decide +kernel
theorem dX7_init_161 : decode cX7_init 161 = .ok (.iastore, 1) := by decide +kernel
theorem dX7_init_162 : decode cX7_init 162 = .ok (.putfield 66, 3) := by decide +kernel
theorem dX7_init_165 : decode cX7_init 165 = .ok (.aload_n 0, 1) := by decide +kernel
theorem dX7_init_166 : decode cX7_init 166 = .ok (.sipush 144, 3) := by decide +kernel
theorem dX7_init_169 : decode cX7_init 169 = .ok (.newarray .int, 2) := by decide +kernel
theorem dX7_init_171 : decode cX7_init 171 = .ok (.putfield 69, 3) := by decide +kernel
theorem dX7_init_174 : decode cX7_init 174 = .ok (.aload_n 0, 1) := by decide +kernel
theorem dX7_init_175 : decode cX7_init 175 = .ok (.iconst 3, 1) := by decide +kernel
theorem dX7_init_176 : decode cX7_init 176 = .ok (.newarray .int, 2) := by decide +kernel
theorem dX7_init_178 : decode cX7_init 178 = .ok (.putfield 72, 3) := by decide +kernel
theorem dX7_init_181 : decode cX7_init 181 = .ok (.aload_n 0, 1) := by decide +kernel
theorem dX7_init_182 : decode cX7_init 182 = .ok (.bipush 18, 2) := by decide +kernel
theorem dX7_init_184 : decode cX7_init 184 = .ok (.newarray .int, 2) := by decide +kernel
theorem dX7_init_186 : decode cX7_init 186 = .ok (.putfield 75, 3) := by decide +kernel
theorem dX7_init_189 : decode cX7_init 189 = .ok (.aload_n 0, 1) := by decide +kernel
theorem dX7_init_190 : decode cX7_init 190 = .ok (.bipush 18, 2) := by decide +kernel
theorem dX7_init_192 : decode cX7_init 192 = .ok (.newarray .int, 2) := by decide +kernel
theorem dX7_init_194 : decode cX7_init 194 = .ok (.putfield 78, 3) := by decide +kernel
theorem dX7_init_197 : decode cX7_init 197 = .ok (.aload_n 0, 1) := by decide +kernel
theorem dX7_init_198 : decode cX7_init 198 = .ok (.iconst 2, 1) := by decide +kernel
theorem dX7_init_199 : decode cX7_init 199 = .ok (.newarray .boolean, 2) := by decide +kernel
theorem dX7_init_201 : decode cX7_init 201 = .ok (.putfield 81, 3) := by decide +kernel
theorem dX7_init_204 : decode cX7_init 204 = .ok (.aload_n 0, 1) := by decide +kernel
theorem dX7_init_205 : decode cX7_init 205 = .ok (.getfield 13, 3) := by decide +kernel
theorem dX7_init_208 : decode cX7_init 208 = .ok (.iconst 0, 1) := by decide +kernel
theorem dX7_init_209 : decode cX7_init 209 = .ok (.bipush 10, 2) := by decide +kernel
theorem dX7_init_211 : decode cX7_init 211 = .ok (.iastore, 1) := by decide +kernel
theorem dX7_init_212 : decode cX7_init 212 = .ok (.aload_n 0, 1) := by decide +kernel
theorem dX7_init_213 : decode cX7_init 213 = .ok (.getfield 17, 3) := by decide +kernel
theorem dX7_init_216 : decode cX7_init 216 = .ok (.iconst 0, 1) := by decide +kernel
theorem dX7_init_217 : decode cX7_init 217 = .ok (.bipush 10, 2) := by decide +kernel
theorem dX7_init_219 : decode cX7_init 219 = .ok (.iastore, 1) := by decide +kernel
theorem dX7_init_220 : decode cX7_init 220 = .ok (.aload_n 0, 1) := by decide +kernel
theorem dX7_init_221 : decode cX7_init 221 = .ok (.getfield 38, 3) := by decide +kernel
theorem dX7_init_224 : decode cX7_init 224 = .ok (.iconst 0, 1) := by decide +kernel
theorem dX7_init_225 : decode cX7_init 225 = .ok (.iconst 1, 1) := by decide +kernel
theorem dX7_init_226 : decode cX7_init 226 = .ok (.iastore, 1) := by decide +kernel
theorem dX7_init_227 : decode cX7_init 227 = .ok (.aload_n 0, 1) := by decide +kernel
theorem dX7_init_228 : decode cX7_init 228 = .ok (.getfield 38, 3) := by decide +kernel
theorem dX7_init_231 : decode cX7_init 231 = .ok (.iconst 1, 1) := by decide +kernel
theorem dX7_init_232 : decode cX7_init 232 = .ok (.iconst 3, 1) := by decide +kernel
theorem dX7_init_233 : decode cX7_init 233 = .ok (.iastore, 1) := by decide +kernel
theorem dX7_init_234 : decode cX7_init 234 = .ok (.aload_n 0, 1) := by decide +kernel
theorem dX7_init_235 : decode cX7_init 235 = .ok (.getfield 38, 3) := by decide +kernel
theorem dX7_init_238 : decode cX7_init 238 = .ok (.iconst 2, 1) := by decide +kernel
theorem dX7_init_239 : decode cX7_init 239 = .ok (.iconst 1, 1) := by decide +kernel
theorem dX7_init_240 : decode cX7_init 240 = .ok (.iastore, 1) := by decide +kernel
theorem dX7_init_241 : decode cX7_init 241 = .ok (.aload_n 0, 1) := by decide +kernel
theorem dX7_init_242 : decode cX7_init 242 = .ok (.getfield 38, 3) := by decide +kernel
theorem dX7_init_245 : decode cX7_init 245 = .ok (.iconst 3, 1) := by decide +kernel
theorem dX7_init_246 : decode cX7_init 246 = .ok (.iconst 5, 1) := by decide +kernel
theorem dX7_init_247 : decode cX7_init 247 = .ok (.iastore, 1) := by decide +kernel
theorem dX7_init_248 : decode cX7_init 248 = .ok (.aload_n 0, 1) := by decide +kernel
theorem dX7_init_249 : decode cX7_init 249 = .ok (.getfield 38, 3) := by decide +kernel
theorem dX7_init_252 : decode cX7_init 252 = .ok (.iconst 4, 1) := by decide +kernel
theorem dX7_init_253 : decode cX7_init 253 = .ok (.iconst 1, 1) := by decide +kernel
theorem dX7_init_254 : decode cX7_init 254 = .ok (.iastore, 1) := by decide +kernel
theorem dX7_init_255 : decode cX7_init 255 = .ok (.aload_n 0, 1) := by decide +kernel
theorem dX7_init_256 : decode cX7_init 256 = .ok (.getfield 38, 3) := by decide +kernel
theorem dX7_init_259 : decode cX7_init 259 = .ok (.iconst 5, 1) := by decide +kernel
theorem dX7_init_260 : decode cX7_init 260 = .ok (.bipush 10, 2) := by decide +kernel
theorem dX7_init_262 : decode cX7_init 262 = .ok (.iastore, 1) := by decide +kernel
theorem dX7_init_263 : decode cX7_init 263 = .ok (.return_, 1) := by decide +kernel
theorem dX7_in_0 : decode cX7_in 0 = .ok (.iload_n 0, 1) := by decide +kernel
theorem dX7_in_1 : decode cX7_in 1 = .ok (.iload_n 1, 1) := by decide +kernel
theorem dX7_in_2 : decode cX7_in 2 = .ok (.if_icmp .lt 12, 3) := by decide +kernel
theorem dX7_in_5 : decode cX7_in 5 = .ok (.iload_n 0, 1) := by decide +kernel
theorem dX7_in_6 : decode cX7_in 6 = .ok (.iload_n 2, 1) := by decide +kernel
theorem dX7_in_7 : decode cX7_in 7 = .ok (.if_icmp .gt 7, 3) := by decide +kernel
theorem dX7_in_10 : decode cX7_in 10 = .ok (.iconst 1, 1) := by decide +kernel
theorem dX7_in_11 : decode cX7_in 11 = .ok (.goto 4, 3) := by decide +kernel
theorem dX7_in_14 : decode cX7_in 14 = .ok (.iconst 0, 1) := by decide +kernel
theorem dX7_in_15 : decode cX7_in 15 = .ok (.ireturn, 1) := by decide +kernel
theorem dX7_type_0 : decode cX7_type 0 = .ok (.iload_n 3, 1) := by decide +kernel
theorem dX7_type_1 : decode cX7_type 1 = .ok (.iconst 1, 1) := by decide +kernel
theorem dX7_type_2 : decode cX7_type 2 = .ok (.bipush 8, 2) := by decide +kernel
theorem dX7_type_4 : decode cX7_type 4 = .ok (.invokestatic 85, 3) := by decide +kernel
theorem dX7_type_7 : decode cX7_type 7 = .ok (.ifCond .ne 5, 3) := by decide +kernel
theorem dX7_type_10 : decode cX7_type 10 = .ok (.iconst (-1), 1) := by decide +kernel
theorem dX7_type_11 : decode cX7_type 11 = .ok (.ireturn, 1) := by decide +kernel
theorem dX7_type_12 : decode cX7_type 12 = .ok (.aload_n 0, 1) := by decide +kernel
theorem dX7_type_13 : decode cX7_type 13 = .ok (.getfield 89, 3) := by decide +kernel
theorem dX7_type_16 : decode cX7_type 16 = .ok (.iload_n 3, 1) := by decide +kernel
theorem dX7_type_17 : decode cX7_type 17 = .ok (.iadd, 1) := by decide +kernel
theorem dX7_type_18 : decode cX7_type 18 = .ok (.sipush 300, 3) := by decide +kernel
theorem dX7_type_21 : decode cX7_type 21 = .ok (.if_icmp .le 6, 3) := by decide +kernel
theorem dX7_type_24 : decode cX7_type 24 = .ok (.bipush (-3), 2) := by decide +kernel
theorem dX7_type_26 : decode cX7_type 26 = .ok (.ireturn, 1) := by decide +kernel
theorem dX7_type_27 : decode cX7_type 27 = .ok (.iload_n 3, 1) := by decide +kernel
theorem dX7_type_28 : decode cX7_type 28 = .ok (.iconst 1, 1) := by decide +kernel
theorem dX7_type_29 : decode cX7_type 29 = .ok (.isub, 1) := by decide +kernel
theorem dX7_type_30 : decode cX7_type 30 = .ok (.istore 4, 2) := by decide +kernel
theorem dX7_type_32 : decode cX7_type 32 = .ok (.iload 4, 2) := by decide +kernel
theorem dX7_type_34 : decode cX7_type 34 = .ok (.ifCond .lt 41, 3) := by decide +kernel
theorem dX7_type_37 : decode cX7_type 37 = .ok (.aload_n 0, 1) := by decide +kernel
theorem dX7_type_38 : decode cX7_type 38 = .ok (.getfield 7, 3) := by decide +kernel
theorem dX7_type_41 : decode cX7_type 41 = .ok (.aload_n 0, 1) := by decide +kernel
theorem dX7_type_42 : decode cX7_type 42 = .ok (.getfield 89, 3) := by decide +kernel
theorem dX7_type_45 : decode cX7_type 45 = .ok (.lload_n 1, 1) := by decide +kernel
theorem dX7_type_46 : decode cX7_type 46 = .ok (.bipush 8, 2) := by decide +kernel
theorem dX7_type_48 : decode cX7_type 48 = .ok (.iload 4, 2) := by decide +kernel
theorem dX7_type_50 : decode cX7_type 50 = .ok (.imul, 1) := by decide +kernel
theorem dX7_type_51 : decode cX7_type 51 = .ok (.lshr, 1) := by decide +kernel
theorem dX7_type_52 : decode cX7_type 52 = .ok (.ldc2_w 93, 3) := by decide +kernel
theorem dX7_type_55 : decode cX7_type 55 = .ok (.land, 1) := by decide +kernel
theorem dX7_type_56 : decode cX7_type 56 = .ok (.l2i, 1) := by decide +kernel
theorem dX7_type_57 : decode cX7_type 57 = .ok (.i2b, 1) := by decide +kernel
theorem dX7_type_58 : decode cX7_type 58 = .ok (.bastore, 1) := by decide +kernel
theorem dX7_type_59 : decode cX7_type 59 = .ok (.aload_n 0, 1) := by decide +kernel
theorem dX7_type_60 : decode cX7_type 60 = .ok (.dup, 1) := by decide +kernel
theorem dX7_type_61 : decode cX7_type 61 = .ok (.getfield 89, 3) := by decide +kernel
theorem dX7_type_64 : decode cX7_type 64 = .ok (.iconst 1, 1) := by decide +kernel
theorem dX7_type_65 : decode cX7_type 65 = .ok (.iadd, 1) := by decide +kernel
theorem dX7_type_66 : decode cX7_type 66 = .ok (.putfield 89, 3) := by decide +kernel
theorem dX7_type_69 : decode cX7_type 69 = .ok (.iinc 4 (-1), 3) := by decide +kernel
theorem dX7_type_72 : decode cX7_type 72 = .ok (.goto (-40), 3) := by decide +kernel
theorem dX7_type_75 : decode cX7_type 75 = .ok (.aload_n 0, 1) := by decide +kernel
theorem dX7_type_76 : decode cX7_type 76 = .ok (.getfield 89, 3) := by decide +kernel
theorem dX7_type_79 : decode cX7_type 79 = .ok (.ireturn, 1) := by decide +kernel
theorem dX7_clear_0 : decode cX7_clear 0 = .ok (.aload_n 0, 1) := by decide +kernel
theorem dX7_clear_1 : decode cX7_clear 1 = .ok (.getfield 89, 3) := by decide +kernel
theorem dX7_clear_4 : decode cX7_clear 4 = .ok (.istore_n 1, 1) := by decide +kernel
theorem dX7_clear_5 : decode cX7_clear 5 = .ok (.aload_n 0, 1) := by decide +kernel
theorem dX7_clear_6 : decode cX7_clear 6 = .ok (.iconst 0, 1) := by decide +kernel
theorem dX7_clear_7 : decode cX7_clear 7 = .ok (.putfield 89, 3) := by decide +kernel
theorem dX7_clear_10 : decode cX7_clear 10 = .ok (.iload_n 1, 1) := by decide +kernel
theorem dX7_clear_11 : decode cX7_clear 11 = .ok (.ireturn, 1) := by decide +kernel
theorem dX7_here_0 : decode cX7_here 0 = .ok (.aload_n 0, 1) := by decide +kernel
theorem dX7_here_1 : decode cX7_here 1 = .ok (.getfield 95, 3) := by decide +kernel
theorem dX7_here_4 : decode cX7_here 4 = .ok (.aload_n 0, 1) := by decide +kernel
theorem dX7_here_5 : decode cX7_here 5 = .ok (.getfield 89, 3) := by decide +kernel
theorem dX7_here_8 : decode cX7_here 8 = .ok (.if_icmp .ge 19, 3) := by decide +kernel
theorem dX7_here_11 : decode cX7_here 11 = .ok (.aload_n 0, 1) := by decide +kernel
theorem dX7_here_12 : decode cX7_here 12 = .ok (.getfield 7, 3) := by decide +kernel
theorem dX7_here_15 : decode cX7_here 15 = .ok (.aload_n 0, 1) := by decide +kernel
theorem dX7_here_16 : decode cX7_here 16 = .ok (.getfield 95, 3) := by decide +kernel
theorem dX7_here_19 : decode cX7_here 19 = .ok (.baload, 1) := by decide +kernel
theorem dX7_here_20 : decode cX7_here 20 = .ok (.sipush 255, 3) := by decide +kernel
theorem dX7_here_23 : decode cX7_here 23 = .ok (.iand, 1) := by decide +kernel
theorem dX7_here_24 : decode cX7_here 24 = .ok (.goto 4, 3) := by decide +kernel
theorem dX7_here_27 : decode cX7_here 27 = .ok (.iconst (-1), 1) := by decide +kernel
theorem dX7_here_28 : decode cX7_here 28 = .ok (.ireturn, 1) := by decide +kernel
theorem dX7_next_0 : decode cX7_next 0 = .ok (.aload_n 0, 1) := by decide +kernel
theorem dX7_next_1 : decode cX7_next 1 = .ok (.invokevirtual 98, 3) := by decide +kernel
theorem dX7_next_4 : decode cX7_next 4 = .ok (.bipush 32, 2) := by decide +kernel
theorem dX7_next_6 : decode cX7_next 6 = .ok (.if_icmp .ne 16, 3) := by decide +kernel
theorem dX7_next_9 : decode cX7_next 9 = .ok (.aload_n 0, 1) := by decide +kernel
theorem dX7_next_10 : decode cX7_next 10 = .ok (.dup, 1) := by decide +kernel
theorem dX7_next_11 : decode cX7_next 11 = .ok (.getfield 95, 3) := by decide +kernel
theorem dX7_next_14 : decode cX7_next 14 = .ok (.iconst 1, 1) := by decide +kernel
theorem dX7_next_15 : decode cX7_next 15 = .ok (.iadd, 1) := by decide +kernel
theorem dX7_next_16 : decode cX7_next 16 = .ok (.putfield 95, 3) := by decide +kernel
theorem dX7_next_19 : decode cX7_next 19 = .ok (.goto (-19), 3) := by decide +kernel
theorem dX7_next_22 : decode cX7_next 22 = .ok (.aload_n 0, 1) := by decide +kernel
theorem dX7_next_23 : decode cX7_next 23 = .ok (.aload_n 0, 1) := by decide +kernel
theorem dX7_next_24 : decode cX7_next 24 = .ok (.getfield 95, 3) := by decide +kernel
theorem dX7_next_27 : decode cX7_next 27 = .ok (.putfield 102, 3) := by decide +kernel
theorem dX7_next_30 : decode cX7_next 30 = .ok (.aload_n 0, 1) := by decide +kernel
theorem dX7_next_31 : decode cX7_next 31 = .ok (.iconst 0, 1) := by decide +kernel
theorem dX7_next_32 : decode cX7_next 32 = .ok (.putfield 105, 3) := by decide +kernel
theorem dX7_next_35 : decode cX7_next 35 = .ok (.aload_n 0, 1) := by decide +kernel
theorem dX7_next_36 : decode cX7_next 36 = .ok (.invokevirtual 98, 3) := by decide +kernel
theorem dX7_next_39 : decode cX7_next 39 = .ok (.istore_n 1, 1) := by decide +kernel
theorem dX7_next_40 : decode cX7_next 40 = .ok (.iload_n 1, 1) := by decide +kernel
theorem dX7_next_41 : decode cX7_next 41 = .ok (.ifCond .ge 11, 3) := by decide +kernel
theorem dX7_next_44 : decode cX7_next 44 = .ok (.aload_n 0, 1) := by decide +kernel
theorem dX7_next_45 : decode cX7_next 45 = .ok (.iconst 0, 1) := by decide +kernel
theorem dX7_next_46 : decode cX7_next 46 = .ok (.putfield 108, 3) := by decide +kernel
theorem dX7_next_49 : decode cX7_next 49 = .ok (.goto 284, 3) := by decide +kernel
theorem dX7_next_52 : decode cX7_next 52 = .ok (.iload_n 1, 1) := by decide +kernel
theorem dX7_next_53 : decode cX7_next 53 = .ok (.bipush 97, 2) := by decide +kernel
theorem dX7_next_55 : decode cX7_next 55 = .ok (.bipush 122, 2) := by decide +kernel
theorem dX7_next_57 : decode cX7_next 57 = .ok (.invokestatic 85, 3) := by decide +kernel
theorem dX7_next_60 : decode cX7_next 60 = .ok (.ifCond .eq 132, 3) := by decide +kernel
theorem dX7_next_63 : decode cX7_next 63 = .ok (.iconst 0, 1) := by decide +kernel
theorem dX7_next_64 : decode cX7_next 64 = .ok (.istore_n 2, 1) := by decide +kernel
theorem dX7_next_65 : decode cX7_next 65 = .ok (.aload_n 0, 1) := by decide +kernel
theorem dX7_next_66 : decode cX7_next 66 = .ok (.invokevirtual 98, 3) := by decide +kernel
theorem dX7_next_69 : decode cX7_next 69 = .ok (.bipush 97, 2) := by decide +kernel
theorem dX7_next_71 : decode cX7_next 71 = .ok (.bipush 122, 2) := by decide +kernel
theorem dX7_next_73 : decode cX7_next 73 = .ok (.invokestatic 85, 3) := by decide +kernel
theorem dX7_next_76 : decode cX7_next 76 = .ok (.ifCond .eq 47, 3) := by decide +kernel
theorem dX7_next_79 : decode cX7_next 79 = .ok (.aload_n 0, 1) := by decide +kernel
theorem dX7_next_80 : decode cX7_next 80 = .ok (.getfield 95, 3) := by decide +kernel
theorem dX7_next_83 : decode cX7_next 83 = .ok (.aload_n 0, 1) := by decide +kernel
theorem dX7_next_84 : decode cX7_next 84 = .ok (.getfield 102, 3) := by decide +kernel
theorem dX7_next_87 : decode cX7_next 87 = .ok (.isub, 1) := by decide +kernel
theorem dX7_next_88 : decode cX7_next 88 = .ok (.bipush 6, 2) := by decide +kernel
theorem dX7_next_90 : decode cX7_next 90 = .ok (.if_icmp .ge 18, 3) := by decide +kernel
theorem dX7_next_93 : decode cX7_next 93 = .ok (.bipush 27, 2) := by decide +kernel
theorem dX7_next_95 : decode cX7_next 95 = .ok (.iload_n 2, 1) := by decide +kernel
theorem dX7_next_96 : decode cX7_next 96 = .ok (.imul, 1) := by decide +kernel
theorem dX7_next_97 : decode cX7_next 97 = .ok (.aload_n 0, 1) := by decide +kernel
theorem dX7_next_98 : decode cX7_next 98 = .ok (.invokevirtual 98, 3) := by decide +kernel
theorem dX7_next_101 : decode cX7_next 101 = .ok (.iadd, 1) := by decide +kernel
theorem dX7_next_102 : decode cX7_next 102 = .ok (.bipush 96, 2) := by decide +kernel
theorem dX7_next_104 : decode cX7_next 104 = .ok (.isub, 1) := by decide +kernel
theorem dX7_next_105 : decode cX7_next 105 = .ok (.goto 4, 3) := by decide +kernel
theorem dX7_next_108 : decode cX7_next 108 = .ok (.iconst 0, 1) := by decide +kernel
theorem dX7_next_109 : decode cX7_next 109 = .ok (.istore_n 2, 1) := by decide +kernel
theorem dX7_next_110 : decode cX7_next 110 = .ok (.aload_n 0, 1) := by decide +kernel
theorem dX7_next_111 : decode cX7_next 111 = .ok (.dup, 1) := by decide +kernel
theorem dX7_next_112 : decode cX7_next 112 = .ok (.getfield 95, 3) := by decide +kernel
theorem dX7_next_115 : decode cX7_next 115 = .ok (.iconst 1, 1) := by decide +kernel
theorem dX7_next_116 : decode cX7_next 116 = .ok (.iadd, 1) := by decide +kernel
theorem dX7_next_117 : decode cX7_next 117 = .ok (.putfield 95, 3) := by decide +kernel
theorem dX7_next_120 : decode cX7_next 120 = .ok (.goto (-55), 3) := by decide +kernel
theorem dX7_next_123 : decode cX7_next 123 = .ok (.aload_n 0, 1) := by decide +kernel
theorem dX7_next_124 : decode cX7_next 124 = .ok (.getfield 95, 3) := by decide +kernel
theorem dX7_next_127 : decode cX7_next 127 = .ok (.aload_n 0, 1) := by decide +kernel
theorem dX7_next_128 : decode cX7_next 128 = .ok (.getfield 102, 3) := by decide +kernel
theorem dX7_next_131 : decode cX7_next 131 = .ok (.isub, 1) := by decide +kernel
theorem dX7_next_132 : decode cX7_next 132 = .ok (.bipush 6, 2) := by decide +kernel
theorem dX7_next_134 : decode cX7_next 134 = .ok (.if_icmp .le 7, 3) := by decide +kernel
theorem dX7_next_137 : decode cX7_next 137 = .ok (.iconst 0, 1) := by decide +kernel
theorem dX7_next_138 : decode cX7_next 138 = .ok (.goto 4, 3) := by decide +kernel
theorem dX7_next_141 : decode cX7_next 141 = .ok (.iload_n 2, 1) := by decide +kernel
theorem dX7_next_142 : decode cX7_next 142 = .ok (.istore_n 2, 1) := by decide +kernel
theorem dX7_next_143 : decode cX7_next 143 = .ok (.aload_n 0, 1) := by decide +kernel
theorem dX7_next_144 : decode cX7_next 144 = .ok (.iload_n 2, 1) := by decide +kernel
theorem dX7_next_145 : decode cX7_next 145 = .ok (.ldc 111, 2) := by decide +kernel
theorem dX7_next_147 : decode cX7_next 147 = .ok (.if_icmp .ne 7, 3) := by decide +kernel
theorem dX7_next_150 : decode cX7_next 150 = .ok (.iconst 1, 1) := by decide +kernel
theorem dX7_next_151 : decode cX7_next 151 = .ok (.goto 35, 3) := by decide +kernel
theorem dX7_next_154 : decode cX7_next 154 = .ok (.iload_n 2, 1) := by decide +kernel
theorem dX7_next_155 : decode cX7_next 155 = .ok (.ldc 112, 2) := by decide +kernel
theorem dX7_next_157 : decode cX7_next 157 = .ok (.if_icmp .ne 7, 3) := by decide +kernel
theorem dX7_next_160 : decode cX7_next 160 = .ok (.iconst 2, 1) := by decide +kernel
theorem dX7_next_161 : decode cX7_next 161 = .ok (.goto 25, 3) := by decide +kernel
theorem dX7_next_164 : decode cX7_next 164 = .ok (.iload_n 2, 1) := by decide +kernel
theorem dX7_next_165 : decode cX7_next 165 = .ok (.ldc 113, 2) := by decide +kernel
theorem dX7_next_167 : decode cX7_next 167 = .ok (.if_icmp .ne 7, 3) := by decide +kernel
theorem dX7_next_170 : decode cX7_next 170 = .ok (.iconst 3, 1) := by decide +kernel
theorem dX7_next_171 : decode cX7_next 171 = .ok (.goto 15, 3) := by decide +kernel
theorem dX7_next_174 : decode cX7_next 174 = .ok (.iload_n 2, 1) := by decide +kernel
theorem dX7_next_175 : decode cX7_next 175 = .ok (.ldc 114, 2) := by decide +kernel
theorem dX7_next_177 : decode cX7_next 177 = .ok (.if_icmp .ne 7, 3) := by decide +kernel
theorem dX7_next_180 : decode cX7_next 180 = .ok (.iconst 4, 1) := by decide +kernel
theorem dX7_next_181 : decode cX7_next 181 = .ok (.goto 5, 3) := by decide +kernel
theorem dX7_next_184 : decode cX7_next 184 = .ok (.bipush 7, 2) := by decide +kernel
theorem dX7_next_186 : decode cX7_next 186 = .ok (.putfield 108, 3) := by decide +kernel
theorem dX7_next_189 : decode cX7_next 189 = .ok (.goto 144, 3) := by decide +kernel
theorem dX7_next_192 : decode cX7_next 192 = .ok (.iload_n 1, 1) := by decide +kernel
theorem dX7_next_193 : decode cX7_next 193 = .ok (.bipush 48, 2) := by decide +kernel
theorem dX7_next_195 : decode cX7_next 195 = .ok (.bipush 57, 2) := by decide +kernel
theorem dX7_next_197 : decode cX7_next 197 = .ok (.invokestatic 85, 3) := by decide +kernel
theorem dX7_next_200 : decode cX7_next 200 = .ok (.ifCond .eq 106, 3) := by decide +kernel
theorem dX7_next_203 : decode cX7_next 203 = .ok (.aload_n 0, 1) := by decide +kernel
theorem dX7_next_204 : decode cX7_next 204 = .ok (.invokevirtual 98, 3) := by decide +kernel
theorem dX7_next_207 : decode cX7_next 207 = .ok (.bipush 48, 2) := by decide +kernel
theorem dX7_next_209 : decode cX7_next 209 = .ok (.bipush 57, 2) := by decide +kernel
theorem dX7_next_211 : decode cX7_next 211 = .ok (.invokestatic 85, 3) := by decide +kernel
theorem dX7_next_214 : decode cX7_next 214 = .ok (.ifCond .eq 51, 3) := by decide +kernel
theorem dX7_next_217 : decode cX7_next 217 = .ok (.aload_n 0, 1) := by decide +kernel
theorem dX7_next_218 : decode cX7_next 218 = .ok (.aload_n 0, 1) := by decide +kernel
theorem dX7_next_219 : decode cX7_next 219 = .ok (.getfield 105, 3) := by decide +kernel
theorem dX7_next_222 : decode cX7_next 222 = .ok (.bipush 99, 2) := by decide +kernel
theorem dX7_next_224 : decode cX7_next 224 = .ok (.if_icmp .le 10, 3) := by decide +kernel
theorem dX7_next_227 : decode cX7_next 227 = .ok (.aload_n 0, 1) := by decide +kernel
theorem dX7_next_228 : decode cX7_next 228 = .ok (.getfield 105, 3) := by decide +kernel
theorem dX7_next_231 : decode cX7_next 231 = .ok (.goto 18, 3) := by decide +kernel
theorem dX7_next_234 : decode cX7_next 234 = .ok (.bipush 10, 2) := by decide +kernel
theorem dX7_next_236 : decode cX7_next 236 = .ok (.aload_n 0, 1) := by decide +kernel
theorem dX7_next_237 : decode cX7_next 237 = .ok (.getfield 105, 3) := by decide +kernel
theorem dX7_next_240 : decode cX7_next 240 = .ok (.imul, 1) := by decide +kernel
theorem dX7_next_241 : decode cX7_next 241 = .ok (.aload_n 0, 1) := by decide +kernel
theorem dX7_next_242 : decode cX7_next 242 = .ok (.invokevirtual 98, 3) := by decide +kernel
theorem dX7_next_245 : decode cX7_next 245 = .ok (.iadd, 1) := by decide +kernel
theorem dX7_next_246 : decode cX7_next 246 = .ok (.bipush 48, 2) := by decide +kernel
theorem dX7_next_248 : decode cX7_next 248 = .ok (.isub, 1) := by decide +kernel
theorem dX7_next_249 : decode cX7_next 249 = .ok (.putfield 105, 3) := by decide +kernel
theorem dX7_next_252 : decode cX7_next 252 = .ok (.aload_n 0, 1) := by decide +kernel
theorem dX7_next_253 : decode cX7_next 253 = .ok (.dup, 1) := by decide +kernel
theorem dX7_next_254 : decode cX7_next 254 = .ok (.getfield 95, 3) := by decide +kernel
theorem dX7_next_257 : decode cX7_next 257 = .ok (.iconst 1, 1) := by decide +kernel
theorem dX7_next_258 : decode cX7_next 258 = .ok (.iadd, 1) := by decide +kernel
theorem dX7_next_259 : decode cX7_next 259 = .ok (.putfield 95, 3) := by decide +kernel
theorem dX7_next_262 : decode cX7_next 262 = .ok (.goto (-59), 3) := by decide +kernel
theorem dX7_next_265 : decode cX7_next 265 = .ok (.aload_n 0, 1) := by decide +kernel
theorem dX7_next_266 : decode cX7_next 266 = .ok (.aload_n 0, 1) := by decide +kernel
theorem dX7_next_267 : decode cX7_next 267 = .ok (.getfield 105, 3) := by decide +kernel
theorem dX7_next_270 : decode cX7_next 270 = .ok (.bipush 99, 2) := by decide +kernel
theorem dX7_next_272 : decode cX7_next 272 = .ok (.if_icmp .gt 22, 3) := by decide +kernel
theorem dX7_next_275 : decode cX7_next 275 = .ok (.iload_n 1, 1) := by decide +kernel
theorem dX7_next_276 : decode cX7_next 276 = .ok (.bipush 48, 2) := by decide +kernel
theorem dX7_next_278 : decode cX7_next 278 = .ok (.if_icmp .ne 21, 3) := by decide +kernel
theorem dX7_next_281 : decode cX7_next 281 = .ok (.aload_n 0, 1) := by decide +kernel
theorem dX7_next_282 : decode cX7_next 282 = .ok (.getfield 95, 3) := by decide +kernel
theorem dX7_next_285 : decode cX7_next 285 = .ok (.aload_n 0, 1) := by decide +kernel
theorem dX7_next_286 : decode cX7_next 286 = .ok (.getfield 102, 3) := by decide +kernel
theorem dX7_next_289 : decode cX7_next 289 = .ok (.isub, 1) := by decide +kernel
theorem dX7_next_290 : decode cX7_next 290 = .ok (.iconst 1, 1) := by decide +kernel
theorem dX7_next_291 : decode cX7_next 291 = .ok (.if_icmp .le 8, 3) := by decide +kernel
theorem dX7_next_294 : decode cX7_next 294 = .ok (.bipush 7, 2) := by decide +kernel
theorem dX7_next_296 : decode cX7_next 296 = .ok (.goto 4, 3) := by decide +kernel
theorem dX7_next_299 : decode cX7_next 299 = .ok (.iconst 5, 1) := by decide +kernel
theorem dX7_next_300 : decode cX7_next 300 = .ok (.putfield 108, 3) := by decide +kernel
theorem dX7_next_303 : decode cX7_next 303 = .ok (.goto 30, 3) := by decide +kernel
theorem dX7_next_306 : decode cX7_next 306 = .ok (.aload_n 0, 1) := by decide +kernel
theorem dX7_next_307 : decode cX7_next 307 = .ok (.dup, 1) := by decide +kernel
theorem dX7_next_308 : decode cX7_next 308 = .ok (.getfield 95, 3) := by decide +kernel
theorem dX7_next_311 : decode cX7_next 311 = .ok (.iconst 1, 1) := by decide +kernel
theorem dX7_next_312 : decode cX7_next 312 = .ok (.iadd, 1) := by decide +kernel
theorem dX7_next_313 : decode cX7_next 313 = .ok (.putfield 95, 3) := by decide +kernel
theorem dX7_next_316 : decode cX7_next 316 = .ok (.aload_n 0, 1) := by decide +kernel
theorem dX7_next_317 : decode cX7_next 317 = .ok (.iload_n 1, 1) := by decide +kernel
theorem dX7_next_318 : decode cX7_next 318 = .ok (.bipush 59, 2) := by decide +kernel
theorem dX7_next_320 : decode cX7_next 320 = .ok (.if_icmp .ne 8, 3) := by decide +kernel
theorem dX7_next_323 : decode cX7_next 323 = .ok (.bipush 6, 2) := by decide +kernel
theorem dX7_next_325 : decode cX7_next 325 = .ok (.goto 5, 3) := by decide +kernel
theorem dX7_next_328 : decode cX7_next 328 = .ok (.bipush 7, 2) := by decide +kernel
theorem dX7_next_330 : decode cX7_next 330 = .ok (.putfield 108, 3) := by decide +kernel
theorem dX7_next_333 : decode cX7_next 333 = .ok (.return_, 1) := by decide +kernel
theorem dX7_due_0 : decode cX7_due 0 = .ok (.aload_n 0, 1) := by decide +kernel
theorem dX7_due_1 : decode cX7_due 1 = .ok (.getfield 105, 3) := by decide +kernel
theorem dX7_due_4 : decode cX7_due 4 = .ok (.istore_n 2, 1) := by decide +kernel
theorem dX7_due_5 : decode cX7_due 5 = .ok (.aload_n 0, 1) := by decide +kernel
theorem dX7_due_6 : decode cX7_due 6 = .ok (.getfield 115, 3) := by decide +kernel
theorem dX7_due_9 : decode cX7_due 9 = .ok (.bipush (-9), 2) := by decide +kernel
theorem dX7_due_11 : decode cX7_due 11 = .ok (.if_icmp .ne 22, 3) := by decide +kernel
theorem dX7_due_14 : decode cX7_due 14 = .ok (.iload_n 1, 1) := by decide +kernel
theorem dX7_due_15 : decode cX7_due 15 = .ok (.ifCond .eq 10, 3) := by decide +kernel
theorem dX7_due_18 : decode cX7_due 18 = .ok (.aload_n 0, 1) := by decide +kernel
theorem dX7_due_19 : decode cX7_due 19 = .ok (.invokevirtual 118, 3) := by decide +kernel
theorem dX7_due_22 : decode cX7_due 22 = .ok (.goto 11, 3) := by decide +kernel
theorem dX7_due_25 : decode cX7_due 25 = .ok (.aload_n 0, 1) := by decide +kernel
theorem dX7_due_26 : decode cX7_due 26 = .ok (.aload_n 0, 1) := by decide +kernel
theorem dX7_due_27 : decode cX7_due 27 = .ok (.getfield 102, 3) := by decide +kernel
theorem dX7_due_30 : decode cX7_due 30 = .ok (.putfield 115, 3) := by decide +kernel
theorem dX7_due_33 : decode cX7_due 33 = .ok (.iload_n 2, 1) := by decide +kernel
theorem dX7_due_34 : decode cX7_due 34 = .ok (.ireturn, 1) := by decide +kernel
theorem dX7_number_0 : decode cX7_number 0 = .ok (.aload_n 0, 1) := by decide +kernel
theorem dX7_number_1 : decode cX7_number 1 = .ok (.aload_n 0, 1) := by decide +kernel
theorem dX7_number_2 : decode cX7_number 2 = .ok (.getfield 108, 3) := by decide +kernel
theorem dX7_number_5 : decode cX7_number 5 = .ok (.iconst 5, 1) := by decide +kernel
theorem dX7_number_6 : decode cX7_number 6 = .ok (.if_icmp .ne 19, 3) := by decide +kernel
theorem dX7_number_9 : decode cX7_number 9 = .ok (.aload_n 0, 1) := by decide +kernel
theorem dX7_number_10 : decode cX7_number 10 = .ok (.getfield 105, 3) := by decide +kernel
theorem dX7_number_13 : decode cX7_number 13 = .ok (.iload_n 1, 1) := by decide +kernel
theorem dX7_number_14 : decode cX7_number 14 = .ok (.iload_n 2, 1) := by decide +kernel
theorem dX7_number_15 : decode cX7_number 15 = .ok (.invokestatic 85, 3) := by decide +kernel
theorem dX7_number_18 : decode cX7_number 18 = .ok (.ifCond .eq 7, 3) := by decide +kernel
theorem dX7_number_21 : decode cX7_number 21 = .ok (.iconst 1, 1) := by decide +kernel
theorem dX7_number_22 : decode cX7_number 22 = .ok (.goto 4, 3) := by decide +kernel
theorem dX7_number_25 : decode cX7_number 25 = .ok (.iconst 0, 1) := by decide +kernel
theorem dX7_number_26 : decode cX7_number 26 = .ok (.invokevirtual 121, 3) := by decide +kernel
theorem dX7_number_29 : decode cX7_number 29 = .ok (.ireturn, 1) := by decide +kernel
theorem dX7_span_0 : decode cX7_span 0 = .ok (.aload_n 0, 1) := by decide +kernel
theorem dX7_span_1 : decode cX7_span 1 = .ok (.iconst 0, 1) := by decide +kernel
theorem dX7_span_2 : decode cX7_span 2 = .ok (.aload_n 0, 1) := by decide +kernel
theorem dX7_span_3 : decode cX7_span 3 = .ok (.getfield 13, 3) := by decide +kernel
theorem dX7_span_6 : decode cX7_span 6 = .ok (.iconst 1, 1) := by decide +kernel
theorem dX7_span_7 : decode cX7_span 7 = .ok (.iaload, 1) := by decide +kernel
theorem dX7_span_8 : decode cX7_span 8 = .ok (.iconst 1, 1) := by decide +kernel
theorem dX7_span_9 : decode cX7_span 9 = .ok (.isub, 1) := by decide +kernel
theorem dX7_span_10 : decode cX7_span 10 = .ok (.invokevirtual 125, 3) := by decide +kernel
theorem dX7_span_13 : decode cX7_span 13 = .ok (.istore_n 1, 1) := by decide +kernel
theorem dX7_span_14 : decode cX7_span 14 = .ok (.aload_n 0, 1) := by decide +kernel
theorem dX7_span_15 : decode cX7_span 15 = .ok (.iload_n 1, 1) := by decide +kernel
theorem dX7_span_16 : decode cX7_span 16 = .ok (.aload_n 0, 1) := by decide +kernel
theorem dX7_span_17 : decode cX7_span 17 = .ok (.getfield 13, 3) := by decide +kernel
theorem dX7_span_20 : decode cX7_span 20 = .ok (.iconst 1, 1) := by decide +kernel
theorem dX7_span_21 : decode cX7_span 21 = .ok (.iaload, 1) := by decide +kernel
theorem dX7_span_22 : decode cX7_span 22 = .ok (.iconst 1, 1) := by decide +kernel
theorem dX7_span_23 : decode cX7_span 23 = .ok (.isub, 1) := by decide +kernel
theorem dX7_span_24 : decode cX7_span 24 = .ok (.invokevirtual 125, 3) := by decide +kernel
theorem dX7_span_27 : decode cX7_span 27 = .ok (.istore_n 2, 1) := by decide +kernel
theorem dX7_span_28 : decode cX7_span 28 = .ok (.aload_n 0, 1) := by decide +kernel
theorem dX7_span_29 : decode cX7_span 29 = .ok (.getfield 115, 3) := by decide +kernel
theorem dX7_span_32 : decode cX7_span 32 = .ok (.bipush (-9), 2) := by decide +kernel
theorem dX7_span_34 : decode cX7_span 34 = .ok (.if_icmp .ne 13, 3) := by decide +kernel
theorem dX7_span_37 : decode cX7_span 37 = .ok (.iconst 2, 1) := by decide +kernel
theorem dX7_span_38 : decode cX7_span 38 = .ok (.iload_n 2, 1) := by decide +kernel
theorem dX7_span_39 : decode cX7_span 39 = .ok (.ishl, 1) := by decide +kernel
theorem dX7_span_40 : decode cX7_span 40 = .ok (.iconst 1, 1) := by decide +kernel
theorem dX7_span_41 : decode cX7_span 41 = .ok (.iload_n 1, 1) := by decide +kernel
theorem dX7_span_42 : decode cX7_span 42 = .ok (.ishl, 1) := by decide +kernel
theorem dX7_span_43 : decode cX7_span 43 = .ok (.isub, 1) := by decide +kernel
theorem dX7_span_44 : decode cX7_span 44 = .ok (.goto 4, 3) := by decide +kernel
theorem dX7_span_47 : decode cX7_span 47 = .ok (.iconst 0, 1) := by decide +kernel
theorem dX7_span_48 : decode cX7_span 48 = .ok (.ireturn, 1) := by decide +kernel
theorem dX7_item_0 : decode cX7_item 0 = .ok (.aload_n 0, 1) := by decide +kernel
theorem dX7_item_1 : decode cX7_item 1 = .ok (.iload_n 1, 1) := by decide +kernel
theorem dX7_item_2 : decode cX7_item 2 = .ok (.iconst 1, 1) := by decide +kernel
theorem dX7_item_3 : decode cX7_item 3 = .ok (.if_icmp .ne 15, 3) := by decide +kernel
theorem dX7_item_6 : decode cX7_item 6 = .ok (.iload_n 2, 1) := by decide +kernel
theorem dX7_item_7 : decode cX7_item 7 = .ok (.ifCond .ne 7, 3) := by decide +kernel
theorem dX7_item_10 : decode cX7_item 10 = .ok (.iconst 1, 1) := by decide +kernel
theorem dX7_item_11 : decode cX7_item 11 = .ok (.goto 37, 3) := by decide +kernel
theorem dX7_item_14 : decode cX7_item 14 = .ok (.iconst 0, 1) := by decide +kernel
theorem dX7_item_15 : decode cX7_item 15 = .ok (.goto 33, 3) := by decide +kernel
theorem dX7_item_18 : decode cX7_item 18 = .ok (.iload_n 1, 1) := by decide +kernel
theorem dX7_item_19 : decode cX7_item 19 = .ok (.iconst 2, 1) := by decide +kernel
theorem dX7_item_20 : decode cX7_item 20 = .ok (.if_icmp .eq 23, 3) := by decide +kernel
theorem dX7_item_23 : decode cX7_item 23 = .ok (.iload_n 1, 1) := by decide +kernel
theorem dX7_item_24 : decode cX7_item 24 = .ok (.iconst 3, 1) := by decide +kernel
theorem dX7_item_25 : decode cX7_item 25 = .ok (.if_icmp .eq 18, 3) := by decide +kernel
theorem dX7_item_28 : decode cX7_item 28 = .ok (.iload_n 1, 1) := by decide +kernel
theorem dX7_item_29 : decode cX7_item 29 = .ok (.iconst 4, 1) := by decide +kernel
theorem dX7_item_30 : decode cX7_item 30 = .ok (.if_icmp .ne 17, 3) := by decide +kernel
theorem dX7_item_33 : decode cX7_item 33 = .ok (.aload_n 0, 1) := by decide +kernel
theorem dX7_item_34 : decode cX7_item 34 = .ok (.getfield 20, 3) := by decide +kernel
theorem dX7_item_37 : decode cX7_item 37 = .ok (.iconst 1, 1) := by decide +kernel
theorem dX7_item_38 : decode cX7_item 38 = .ok (.iaload, 1) := by decide +kernel
theorem dX7_item_39 : decode cX7_item 39 = .ok (.iconst 3, 1) := by decide +kernel
theorem dX7_item_40 : decode cX7_item 40 = .ok (.if_icmp .ge 7, 3) := by decide +kernel
theorem dX7_item_43 : decode cX7_item 43 = .ok (.iconst 1, 1) := by decide +kernel
theorem dX7_item_44 : decode cX7_item 44 = .ok (.goto 4, 3) := by decide +kernel
theorem dX7_item_47 : decode cX7_item 47 = .ok (.iconst 0, 1) := by decide +kernel
theorem dX7_item_48 : decode cX7_item 48 = .ok (.invokevirtual 121, 3) := by decide +kernel
theorem dX7_item_51 : decode cX7_item 51 = .ok (.pop, 1) := by decide +kernel
theorem dX7_item_52 : decode cX7_item 52 = .ok (.aload_n 0, 1) := by decide +kernel
theorem dX7_item_53 : decode cX7_item 53 = .ok (.getfield 115, 3) := by decide +kernel
theorem dX7_item_56 : decode cX7_item 56 = .ok (.bipush (-9), 2) := by decide +kernel
theorem dX7_item_58 : decode cX7_item 58 = .ok (.if_icmp .eq 4, 3) := by decide +kernel
theorem dX7_item_61 : decode cX7_item 61 = .ok (.return_, 1) := by decide +kernel
theorem dX7_item_62 : decode cX7_item 62 = .ok (.iload_n 1, 1) := by decide +kernel
theorem dX7_item_63 : decode cX7_item 63 = .ok (.iconst 1, 1) := by decide +kernel
theorem dX7_item_64 : decode cX7_item 64 = .ok (.if_icmp .ne 74, 3) := by decide +kernel
theorem dX7_item_67 : decode cX7_item 67 = .ok (.aload_n 0, 1) := by decide +kernel
theorem dX7_item_68 : decode cX7_item 68 = .ok (.iconst 2, 1) := by decide +kernel
theorem dX7_item_69 : decode cX7_item 69 = .ok (.bipush 10, 2) := by decide +kernel
theorem dX7_item_71 : decode cX7_item 71 = .ok (.invokevirtual 125, 3) := by decide +kernel
theorem dX7_item_74 : decode cX7_item 74 = .ok (.istore_n 3, 1) := by decide +kernel
theorem dX7_item_75 : decode cX7_item 75 = .ok (.aload_n 0, 1) := by decide +kernel
theorem dX7_item_76 : decode cX7_item 76 = .ok (.iconst 2, 1) := by decide +kernel
theorem dX7_item_77 : decode cX7_item 77 = .ok (.bipush 16, 2) := by decide +kernel
theorem dX7_item_79 : decode cX7_item 79 = .ok (.invokevirtual 125, 3) := by decide +kernel
theorem dX7_item_82 : decode cX7_item 82 = .ok (.istore 4, 2) := by decide +kernel
theorem dX7_item_84 : decode cX7_item 84 = .ok (.aload_n 0, 1) := by decide +kernel
theorem dX7_item_85 : decode cX7_item 85 = .ok (.getfield 13, 3) := by decide +kernel
theorem dX7_item_88 : decode cX7_item 88 = .ok (.iconst 1, 1) := by decide +kernel
theorem dX7_item_89 : decode cX7_item 89 = .ok (.aload_n 0, 1) := by decide +kernel
theorem dX7_item_90 : decode cX7_item 90 = .ok (.getfield 115, 3) := by decide +kernel
theorem dX7_item_93 : decode cX7_item 93 = .ok (.bipush (-9), 2) := by decide +kernel
theorem dX7_item_95 : decode cX7_item 95 = .ok (.if_icmp .ne 7, 3) := by decide +kernel
theorem dX7_item_98 : decode cX7_item 98 = .ok (.iload_n 3, 1) := by decide +kernel
theorem dX7_item_99 : decode cX7_item 99 = .ok (.goto 9, 3) := by decide +kernel
theorem dX7_item_102 : decode cX7_item 102 = .ok (.aload_n 0, 1) := by decide +kernel
theorem dX7_item_103 : decode cX7_item 103 = .ok (.getfield 13, 3) := by decide +kernel
theorem dX7_item_106 : decode cX7_item 106 = .ok (.iconst 1, 1) := by decide +kernel
theorem dX7_item_107 : decode cX7_item 107 = .ok (.iaload, 1) := by decide +kernel
theorem dX7_item_108 : decode cX7_item 108 = .ok (.iastore, 1) := by decide +kernel
theorem dX7_item_109 : decode cX7_item 109 = .ok (.aload_n 0, 1) := by decide +kernel
theorem dX7_item_110 : decode cX7_item 110 = .ok (.getfield 17, 3) := by decide +kernel
theorem dX7_item_113 : decode cX7_item 113 = .ok (.iconst 1, 1) := by decide +kernel
theorem dX7_item_114 : decode cX7_item 114 = .ok (.aload_n 0, 1) := by decide +kernel
theorem dX7_item_115 : decode cX7_item 115 = .ok (.getfield 115, 3) := by decide +kernel
theorem dX7_item_118 : decode cX7_item 118 = .ok (.bipush (-9), 2) := by decide +kernel
theorem dX7_item_120 : decode cX7_item 120 = .ok (.if_icmp .ne 8, 3) := by decide +kernel
theorem dX7_item_123 : decode cX7_item 123 = .ok (.iload 4, 2) := by decide +kernel
theorem dX7_item_125 : decode cX7_item 125 = .ok (.goto 9, 3) := by decide +kernel
theorem dX7_item_128 : decode cX7_item 128 = .ok (.aload_n 0, 1) := by decide +kernel
theorem dX7_item_129 : decode cX7_item 129 = .ok (.getfield 17, 3) := by decide +kernel
theorem dX7_item_132 : decode cX7_item 132 = .ok (.iconst 1, 1) := by decide +kernel
theorem dX7_item_133 : decode cX7_item 133 = .ok (.iaload, 1) := by decide +kernel
theorem dX7_item_134 : decode cX7_item 134 = .ok (.iastore, 1) := by decide +kernel
theorem dX7_item_135 : decode cX7_item 135 = .ok (.goto 149, 3) := by decide +kernel
theorem dX7_item_138 : decode cX7_item 138 = .ok (.iload_n 1, 1) := by decide +kernel
theorem dX7_item_139 : decode cX7_item 139 = .ok (.iconst 2, 1) := by decide +kernel
theorem dX7_item_140 : decode cX7_item 140 = .ok (.if_icmp .ne 53, 3) := by decide +kernel
theorem dX7_item_143 : decode cX7_item 143 = .ok (.aload_n 0, 1) := by decide +kernel
theorem dX7_item_144 : decode cX7_item 144 = .ok (.iconst 0, 1) := by decide +kernel
theorem dX7_item_145 : decode cX7_item 145 = .ok (.aload_n 0, 1) := by decide +kernel
theorem dX7_item_146 : decode cX7_item 146 = .ok (.getfield 17, 3) := by decide +kernel
theorem dX7_item_149 : decode cX7_item 149 = .ok (.iconst 1, 1) := by decide +kernel
theorem dX7_item_150 : decode cX7_item 150 = .ok (.iaload, 1) := by decide +kernel
theorem dX7_item_151 : decode cX7_item 151 = .ok (.iconst 1, 1) := by decide +kernel
theorem dX7_item_152 : decode cX7_item 152 = .ok (.isub, 1) := by decide +kernel
theorem dX7_item_153 : decode cX7_item 153 = .ok (.invokevirtual 125, 3) := by decide +kernel
theorem dX7_item_156 : decode cX7_item 156 = .ok (.istore_n 3, 1) := by decide +kernel
theorem dX7_item_157 : decode cX7_item 157 = .ok (.aload_n 0, 1) := by decide +kernel
theorem dX7_item_158 : decode cX7_item 158 = .ok (.invokevirtual 129, 3) := by decide +kernel
theorem dX7_item_161 : decode cX7_item 161 = .ok (.istore 4, 2) := by decide +kernel
theorem dX7_item_163 : decode cX7_item 163 = .ok (.aload_n 0, 1) := by decide +kernel
theorem dX7_item_164 : decode cX7_item 164 = .ok (.getfield 32, 3) := by decide +kernel
theorem dX7_item_167 : decode cX7_item 167 = .ok (.bipush 16, 2) := by decide +kernel
theorem dX7_item_169 : decode cX7_item 169 = .ok (.aload_n 0, 1) := by decide +kernel
theorem dX7_item_170 : decode cX7_item 170 = .ok (.getfield 115, 3) := by decide +kernel
theorem dX7_item_173 : decode cX7_item 173 = .ok (.bipush (-9), 2) := by decide +kernel
theorem dX7_item_175 : decode cX7_item 175 = .ok (.if_icmp .ne 7, 3) := by decide +kernel
theorem dX7_item_178 : decode cX7_item 178 = .ok (.iload_n 3, 1) := by decide +kernel
theorem dX7_item_179 : decode cX7_item 179 = .ok (.goto 4, 3) := by decide +kernel
theorem dX7_item_182 : decode cX7_item 182 = .ok (.iconst 0, 1) := by decide +kernel
theorem dX7_item_183 : decode cX7_item 183 = .ok (.iadd, 1) := by decide +kernel
theorem dX7_item_184 : decode cX7_item 184 = .ok (.dup2, 1) := by decide +kernel
theorem dX7_item_185 : decode cX7_item 185 = .ok (.iaload, 1) := by decide +kernel
theorem dX7_item_186 : decode cX7_item 186 = .ok (.iload 4, 2) := by decide +kernel
theorem dX7_item_188 : decode cX7_item 188 = .ok (.ior, 1) := by decide +kernel
theorem dX7_item_189 : decode cX7_item 189 = .ok (.iastore, 1) := by decide +kernel
theorem dX7_item_190 : decode cX7_item 190 = .ok (.goto 94, 3) := by decide +kernel
theorem dX7_item_193 : decode cX7_item 193 = .ok (.iload_n 1, 1) := by decide +kernel
theorem dX7_item_194 : decode cX7_item 194 = .ok (.iconst 3, 1) := by decide +kernel
theorem dX7_item_195 : decode cX7_item 195 = .ok (.if_icmp .ne 19, 3) := by decide +kernel
theorem dX7_item_198 : decode cX7_item 198 = .ok (.aload_n 0, 1) := by decide +kernel
theorem dX7_item_199 : decode cX7_item 199 = .ok (.getfield 35, 3) := by decide +kernel
theorem dX7_item_202 : decode cX7_item 202 = .ok (.iconst 1, 1) := by decide +kernel
theorem dX7_item_203 : decode cX7_item 203 = .ok (.dup2, 1) := by decide +kernel
theorem dX7_item_204 : decode cX7_item 204 = .ok (.iaload, 1) := by decide +kernel
theorem dX7_item_205 : decode cX7_item 205 = .ok (.aload_n 0, 1) := by decide +kernel
theorem dX7_item_206 : decode cX7_item 206 = .ok (.invokevirtual 129, 3) := by decide +kernel
theorem dX7_item_209 : decode cX7_item 209 = .ok (.ior, 1) := by decide +kernel
theorem dX7_item_210 : decode cX7_item 210 = .ok (.iastore, 1) := by decide +kernel
theorem dX7_item_211 : decode cX7_item 211 = .ok (.goto 73, 3) := by decide +kernel
theorem dX7_item_214 : decode cX7_item 214 = .ok (.iconst 3, 1) := by decide +kernel
theorem dX7_item_215 : decode cX7_item 215 = .ok (.aload_n 0, 1) := by decide +kernel
theorem dX7_item_216 : decode cX7_item 216 = .ok (.getfield 20, 3) := by decide +kernel
theorem dX7_item_219 : decode cX7_item 219 = .ok (.iconst 1, 1) := by decide +kernel
theorem dX7_item_220 : decode cX7_item 220 = .ok (.iaload, 1) := by decide +kernel
theorem dX7_item_221 : decode cX7_item 221 = .ok (.iadd, 1) := by decide +kernel
theorem dX7_item_222 : decode cX7_item 222 = .ok (.istore_n 3, 1) := by decide +kernel
theorem dX7_item_223 : decode cX7_item 223 = .ok (.aload_n 0, 1) := by decide +kernel
theorem dX7_item_224 : decode cX7_item 224 = .ok (.getfield 23, 3) := by decide +kernel
theorem dX7_item_227 : decode cX7_item 227 = .ok (.iload_n 3, 1) := by decide +kernel
theorem dX7_item_228 : decode cX7_item 228 = .ok (.aload_n 0, 1) := by decide +kernel
theorem dX7_item_229 : decode cX7_item 229 = .ok (.iconst 0, 1) := by decide +kernel
theorem dX7_item_230 : decode cX7_item 230 = .ok (.aload_n 0, 1) := by decide +kernel
theorem dX7_item_231 : decode cX7_item 231 = .ok (.getfield 17, 3) := by decide +kernel
theorem dX7_item_234 : decode cX7_item 234 = .ok (.iconst 1, 1) := by decide +kernel
theorem dX7_item_235 : decode cX7_item 235 = .ok (.iaload, 1) := by decide +kernel
theorem dX7_item_236 : decode cX7_item 236 = .ok (.iconst 2, 1) := by decide +kernel
theorem dX7_item_237 : decode cX7_item 237 = .ok (.isub, 1) := by decide +kernel
theorem dX7_item_238 : decode cX7_item 238 = .ok (.invokevirtual 125, 3) := by decide +kernel
theorem dX7_item_241 : decode cX7_item 241 = .ok (.iastore, 1) := by decide +kernel
theorem dX7_item_242 : decode cX7_item 242 = .ok (.aload_n 0, 1) := by decide +kernel
theorem dX7_item_243 : decode cX7_item 243 = .ok (.getfield 26, 3) := by decide +kernel
theorem dX7_item_246 : decode cX7_item 246 = .ok (.iload_n 3, 1) := by decide +kernel
theorem dX7_item_247 : decode cX7_item 247 = .ok (.aload_n 0, 1) := by decide +kernel
theorem dX7_item_248 : decode cX7_item 248 = .ok (.iconst 0, 1) := by decide +kernel
theorem dX7_item_249 : decode cX7_item 249 = .ok (.aload_n 0, 1) := by decide +kernel
theorem dX7_item_250 : decode cX7_item 250 = .ok (.getfield 13, 3) := by decide +kernel
theorem dX7_item_253 : decode cX7_item 253 = .ok (.iconst 1, 1) := by decide +kernel
theorem dX7_item_254 : decode cX7_item 254 = .ok (.iaload, 1) := by decide +kernel
theorem dX7_item_255 : decode cX7_item 255 = .ok (.iconst 1, 1) := by decide +kernel
theorem dX7_item_256 : decode cX7_item 256 = .ok (.isub, 1) := by decide +kernel
theorem dX7_item_257 : decode cX7_item 257 = .ok (.invokevirtual 125, 3) := by decide +kernel
theorem dX7_item_260 : decode cX7_item 260 = .ok (.iastore, 1) := by decide +kernel
theorem dX7_item_261 : decode cX7_item 261 = .ok (.aload_n 0, 1) := by decide +kernel
theorem dX7_item_262 : decode cX7_item 262 = .ok (.getfield 29, 3) := by decide +kernel
theorem dX7_item_265 : decode cX7_item 265 = .ok (.iload_n 3, 1) := by decide +kernel
theorem dX7_item_266 : decode cX7_item 266 = .ok (.aload_n 0, 1) := by decide +kernel
theorem dX7_item_267 : decode cX7_item 267 = .ok (.iconst 0, 1) := by decide +kernel
theorem dX7_item_268 : decode cX7_item 268 = .ok (.bipush 99, 2) := by decide +kernel
theorem dX7_item_270 : decode cX7_item 270 = .ok (.invokevirtual 125, 3) := by decide +kernel
theorem dX7_item_273 : decode cX7_item 273 = .ok (.iastore, 1) := by decide +kernel
theorem dX7_item_274 : decode cX7_item 274 = .ok (.aload_n 0, 1) := by decide +kernel
theorem dX7_item_275 : decode cX7_item 275 = .ok (.getfield 20, 3) := by decide +kernel
theorem dX7_item_278 : decode cX7_item 278 = .ok (.iconst 1, 1) := by decide +kernel
theorem dX7_item_279 : decode cX7_item 279 = .ok (.dup2, 1) := by decide +kernel
theorem dX7_item_280 : decode cX7_item 280 = .ok (.iaload, 1) := by decide +kernel
theorem dX7_item_281 : decode cX7_item 281 = .ok (.iconst 1, 1) := by decide +kernel
theorem dX7_item_282 : decode cX7_item 282 = .ok (.iadd, 1) := by decide +kernel
theorem dX7_item_283 : decode cX7_item 283 = .ok (.iastore, 1) := by decide +kernel
theorem dX7_item_284 : decode cX7_item 284 = .ok (.aload_n 0, 1) := by decide +kernel
theorem dX7_item_285 : decode cX7_item 285 = .ok (.aload_n 0, 1) := by decide +kernel
theorem dX7_item_286 : decode cX7_item 286 = .ok (.getfield 108, 3) := by decide +kernel
theorem dX7_item_289 : decode cX7_item 289 = .ok (.bipush 6, 2) := by decide +kernel
theorem dX7_item_291 : decode cX7_item 291 = .ok (.if_icmp .ne 7, 3) := by decide +kernel
theorem dX7_item_294 : decode cX7_item 294 = .ok (.iconst 1, 1) := by decide +kernel
theorem dX7_item_295 : decode cX7_item 295 = .ok (.goto 4, 3) := by decide +kernel
theorem dX7_item_298 : decode cX7_item 298 = .ok (.iconst 0, 1) := by decide +kernel
theorem dX7_item_299 : decode cX7_item 299 = .ok (.invokevirtual 121, 3) := by decide +kernel
theorem dX7_item_302 : decode cX7_item 302 = .ok (.pop, 1) := by decide +kernel
theorem dX7_item_303 : decode cX7_item 303 = .ok (.return_, 1) := by decide +kernel
theorem dX7_wall_0 : decode cX7_wall 0 = .ok (.aload_n 0, 1) := by decide +kernel
theorem dX7_wall_1 : decode cX7_wall 1 = .ok (.iconst 0, 1) := by decide +kernel
theorem dX7_wall_2 : decode cX7_wall 2 = .ok (.putfield 95, 3) := by decide +kernel
theorem dX7_wall_5 : decode cX7_wall 5 = .ok (.aload_n 0, 1) := by decide +kernel
theorem dX7_wall_6 : decode cX7_wall 6 = .ok (.bipush (-9), 2) := by decide +kernel
theorem dX7_wall_8 : decode cX7_wall 8 = .ok (.putfield 115, 3) := by decide +kernel
theorem dX7_wall_11 : decode cX7_wall 11 = .ok (.aload_n 0, 1) := by decide +kernel
theorem dX7_wall_12 : decode cX7_wall 12 = .ok (.getfield 13, 3) := by decide +kernel
theorem dX7_wall_15 : decode cX7_wall 15 = .ok (.iconst 1, 1) := by decide +kernel
theorem dX7_wall_16 : decode cX7_wall 16 = .ok (.bipush 10, 2) := by decide +kernel
theorem dX7_wall_18 : decode cX7_wall 18 = .ok (.iastore, 1) := by decide +kernel
theorem dX7_wall_19 : decode cX7_wall 19 = .ok (.aload_n 0, 1) := by decide +kernel
theorem dX7_wall_20 : decode cX7_wall 20 = .ok (.getfield 17, 3) := by decide +kernel
theorem dX7_wall_23 : decode cX7_wall 23 = .ok (.iconst 1, 1) := by decide +kernel
theorem dX7_wall_24 : decode cX7_wall 24 = .ok (.bipush 10, 2) := by decide +kernel
theorem dX7_wall_26 : decode cX7_wall 26 = .ok (.iastore, 1) := by decide +kernel
theorem dX7_wall_27 : decode cX7_wall 27 = .ok (.aload_n 0, 1) := by decide +kernel
theorem dX7_wall_28 : decode cX7_wall 28 = .ok (.getfield 20, 3) := by decide +kernel
theorem dX7_wall_31 : decode cX7_wall 31 = .ok (.iconst 1, 1) := by decide +kernel
theorem dX7_wall_32 : decode cX7_wall 32 = .ok (.iconst 0, 1) := by decide +kernel
theorem dX7_wall_33 : decode cX7_wall 33 = .ok (.iastore, 1) := by decide +kernel
theorem dX7_wall_34 : decode cX7_wall 34 = .ok (.aload_n 0, 1) := by decide +kernel
theorem dX7_wall_35 : decode cX7_wall 35 = .ok (.getfield 35, 3) := by decide +kernel
theorem dX7_wall_38 : decode cX7_wall 38 = .ok (.iconst 1, 1) := by decide +kernel
theorem dX7_wall_39 : decode cX7_wall 39 = .ok (.iconst 0, 1) := by decide +kernel
theorem dX7_wall_40 : decode cX7_wall 40 = .ok (.iastore, 1) := by decide +kernel
theorem dX7_wall_41 : decode cX7_wall 41 = .ok (.iconst 0, 1) := by decide +kernel
theorem dX7_wall_42 : decode cX7_wall 42 = .ok (.istore_n 1, 1) := by decide +kernel
theorem dX7_wall_43 : decode cX7_wall 43 = .ok (.iload_n 1, 1) := by decide +kernel
theorem dX7_wall_44 : decode cX7_wall 44 = .ok (.bipush 16, 2) := by decide +kernel
theorem dX7_wall_46 : decode cX7_wall 46 = .ok (.if_icmp .ge 19, 3) := by decide +kernel
theorem dX7_wall_49 : decode cX7_wall 49 = .ok (.aload_n 0, 1) := by decide +kernel
theorem dX7_wall_50 : decode cX7_wall 50 = .ok (.getfield 32, 3) := by decide +kernel
theorem dX7_wall_53 : decode cX7_wall 53 = .ok (.bipush 16, 2) := by decide +kernel
theorem dX7_wall_55 : decode cX7_wall 55 = .ok (.iload_n 1, 1) := by decide +kernel
theorem dX7_wall_56 : decode cX7_wall 56 = .ok (.iadd, 1) := by decide +kernel
theorem dX7_wall_57 : decode cX7_wall 57 = .ok (.iconst 0, 1) := by decide +kernel
theorem dX7_wall_58 : decode cX7_wall 58 = .ok (.iastore, 1) := by decide +kernel
theorem dX7_wall_59 : decode cX7_wall 59 = .ok (.iinc 1 1, 3) := by decide +kernel
theorem dX7_wall_62 : decode cX7_wall 62 = .ok (.goto (-19), 3) := by decide +kernel
theorem dX7_wall_65 : decode cX7_wall 65 = .ok (.iconst 0, 1) := by decide +kernel
theorem dX7_wall_66 : decode cX7_wall 66 = .ok (.istore_n 1, 1) := by decide +kernel
theorem dX7_wall_67 : decode cX7_wall 67 = .ok (.aload_n 0, 1) := by decide +kernel
theorem dX7_wall_68 : decode cX7_wall 68 = .ok (.invokevirtual 118, 3) := by decide +kernel
theorem dX7_wall_71 : decode cX7_wall 71 = .ok (.aload_n 0, 1) := by decide +kernel
theorem dX7_wall_72 : decode cX7_wall 72 = .ok (.getfield 115, 3) := by decide +kernel
theorem dX7_wall_75 : decode cX7_wall 75 = .ok (.bipush (-9), 2) := by decide +kernel
theorem dX7_wall_77 : decode cX7_wall 77 = .ok (.if_icmp .ne 25, 3) := by decide +kernel
theorem dX7_wall_80 : decode cX7_wall 80 = .ok (.aload_n 0, 1) := by decide +kernel
theorem dX7_wall_81 : decode cX7_wall 81 = .ok (.getfield 108, 3) := by decide +kernel
theorem dX7_wall_84 : decode cX7_wall 84 = .ok (.ifCond .eq 18, 3) := by decide +kernel
theorem dX7_wall_87 : decode cX7_wall 87 = .ok (.aload_n 0, 1) := by decide +kernel
theorem dX7_wall_88 : decode cX7_wall 88 = .ok (.aload_n 0, 1) := by decide +kernel
theorem dX7_wall_89 : decode cX7_wall 89 = .ok (.getfield 108, 3) := by decide +kernel
theorem dX7_wall_92 : decode cX7_wall 92 = .ok (.iload_n 1, 1) := by decide +kernel
theorem dX7_wall_93 : decode cX7_wall 93 = .ok (.invokevirtual 132, 3) := by decide +kernel
theorem dX7_wall_96 : decode cX7_wall 96 = .ok (.iinc 1 1, 3) := by decide +kernel
theorem dX7_wall_99 : decode cX7_wall 99 = .ok (.goto (-28), 3) := by decide +kernel
theorem dX7_wall_102 : decode cX7_wall 102 = .ok (.aload_n 0, 1) := by decide +kernel
theorem dX7_wall_103 : decode cX7_wall 103 = .ok (.getfield 115, 3) := by decide +kernel
theorem dX7_wall_106 : decode cX7_wall 106 = .ok (.bipush (-9), 2) := by decide +kernel
theorem dX7_wall_108 : decode cX7_wall 108 = .ok (.if_icmp .eq 11, 3) := by decide +kernel
theorem dX7_wall_111 : decode cX7_wall 111 = .ok (.bipush (-10), 2) := by decide +kernel
theorem dX7_wall_113 : decode cX7_wall 113 = .ok (.aload_n 0, 1) := by decide +kernel
theorem dX7_wall_114 : decode cX7_wall 114 = .ok (.getfield 115, 3) := by decide +kernel
theorem dX7_wall_117 : decode cX7_wall 117 = .ok (.isub, 1) := by decide +kernel
theorem dX7_wall_118 : decode cX7_wall 118 = .ok (.ireturn, 1) := by decide +kernel
theorem dX7_wall_119 : decode cX7_wall 119 = .ok (.aload_n 0, 1) := by decide +kernel
theorem dX7_wall_120 : decode cX7_wall 120 = .ok (.getfield 13, 3) := by decide +kernel
theorem dX7_wall_123 : decode cX7_wall 123 = .ok (.iconst 0, 1) := by decide +kernel
theorem dX7_wall_124 : decode cX7_wall 124 = .ok (.aload_n 0, 1) := by decide +kernel
theorem dX7_wall_125 : decode cX7_wall 125 = .ok (.getfield 13, 3) := by decide +kernel
theorem dX7_wall_128 : decode cX7_wall 128 = .ok (.iconst 1, 1) := by decide +kernel
theorem dX7_wall_129 : decode cX7_wall 129 = .ok (.iaload, 1) := by decide +kernel
theorem dX7_wall_130 : decode cX7_wall 130 = .ok (.iastore, 1) := by decide +kernel
theorem dX7_wall_131 : decode cX7_wall 131 = .ok (.aload_n 0, 1) := by decide +kernel
theorem dX7_wall_132 : decode cX7_wall 132 = .ok (.getfield 17, 3) := by decide +kernel
theorem dX7_wall_135 : decode cX7_wall 135 = .ok (.iconst 0, 1) := by decide +kernel
theorem dX7_wall_136 : decode cX7_wall 136 = .ok (.aload_n 0, 1) := by decide +kernel
theorem dX7_wall_137 : decode cX7_wall 137 = .ok (.getfield 17, 3) := by decide +kernel
theorem dX7_wall_140 : decode cX7_wall 140 = .ok (.iconst 1, 1) := by decide +kernel
theorem dX7_wall_141 : decode cX7_wall 141 = .ok (.iaload, 1) := by decide +kernel
theorem dX7_wall_142 : decode cX7_wall 142 = .ok (.iastore, 1) := by decide +kernel
theorem dX7_wall_143 : decode cX7_wall 143 = .ok (.aload_n 0, 1) := by decide +kernel
theorem dX7_wall_144 : decode cX7_wall 144 = .ok (.getfield 20, 3) := by decide +kernel
theorem dX7_wall_147 : decode cX7_wall 147 = .ok (.iconst 0, 1) := by decide +kernel
theorem dX7_wall_148 : decode cX7_wall 148 = .ok (.aload_n 0, 1) := by decide +kernel
theorem dX7_wall_149 : decode cX7_wall 149 = .ok (.getfield 20, 3) := by decide +kernel
theorem dX7_wall_152 : decode cX7_wall 152 = .ok (.iconst 1, 1) := by decide +kernel
theorem dX7_wall_153 : decode cX7_wall 153 = .ok (.iaload, 1) := by decide +kernel
theorem dX7_wall_154 : decode cX7_wall 154 = .ok (.iastore, 1) := by decide +kernel
theorem dX7_wall_155 : decode cX7_wall 155 = .ok (.aload_n 0, 1) := by decide +kernel
theorem dX7_wall_156 : decode cX7_wall 156 = .ok (.getfield 35, 3) := by decide +kernel
theorem dX7_wall_159 : decode cX7_wall 159 = .ok (.iconst 0, 1) := by decide +kernel
theorem dX7_wall_160 : decode cX7_wall 160 = .ok (.aload_n 0, 1) := by decide +kernel
theorem dX7_wall_161 : decode cX7_wall 161 = .ok (.getfield 35, 3) := by decide +kernel
theorem dX7_wall_164 : decode cX7_wall 164 = .ok (.iconst 1, 1) := by decide +kernel
theorem dX7_wall_165 : decode cX7_wall 165 = .ok (.iaload, 1) := by decide +kernel
theorem dX7_wall_166 : decode cX7_wall 166 = .ok (.iastore, 1) := by decide +kernel
theorem dX7_wall_167 : decode cX7_wall 167 = .ok (.iconst 0, 1) := by decide +kernel
theorem dX7_wall_168 : decode cX7_wall 168 = .ok (.istore_n 2, 1) := by decide +kernel
theorem dX7_wall_169 : decode cX7_wall 169 = .ok (.iload_n 2, 1) := by decide +kernel
theorem dX7_wall_170 : decode cX7_wall 170 = .ok (.bipush 16, 2) := by decide +kernel
theorem dX7_wall_172 : decode cX7_wall 172 = .ok (.if_icmp .ge 24, 3) := by decide +kernel
theorem dX7_wall_175 : decode cX7_wall 175 = .ok (.aload_n 0, 1) := by decide +kernel
theorem dX7_wall_176 : decode cX7_wall 176 = .ok (.getfield 32, 3) := by decide +kernel
theorem dX7_wall_179 : decode cX7_wall 179 = .ok (.iload_n 2, 1) := by decide +kernel
theorem dX7_wall_180 : decode cX7_wall 180 = .ok (.aload_n 0, 1) := by decide +kernel
theorem dX7_wall_181 : decode cX7_wall 181 = .ok (.getfield 32, 3) := by decide +kernel
theorem dX7_wall_184 : decode cX7_wall 184 = .ok (.bipush 16, 2) := by decide +kernel
theorem dX7_wall_186 : decode cX7_wall 186 = .ok (.iload_n 2, 1) := by decide +kernel
theorem dX7_wall_187 : decode cX7_wall 187 = .ok (.iadd, 1) := by decide +kernel
theorem dX7_wall_188 : decode cX7_wall 188 = .ok (.iaload, 1) := by decide +kernel
theorem dX7_wall_189 : decode cX7_wall 189 = .ok (.iastore, 1) := by decide +kernel
theorem dX7_wall_190 : decode cX7_wall 190 = .ok (.iinc 2 1, 3) := by decide +kernel
theorem dX7_wall_193 : decode cX7_wall 193 = .ok (.goto (-24), 3) := by decide +kernel
theorem dX7_wall_196 : decode cX7_wall 196 = .ok (.iconst 0, 1) := by decide +kernel
theorem dX7_wall_197 : decode cX7_wall 197 = .ok (.istore_n 2, 1) := by decide +kernel
theorem dX7_wall_198 : decode cX7_wall 198 = .ok (.iload_n 2, 1) := by decide +kernel
theorem dX7_wall_199 : decode cX7_wall 199 = .ok (.iconst 3, 1) := by decide +kernel
theorem dX7_wall_200 : decode cX7_wall 200 = .ok (.if_icmp .ge 82, 3) := by decide +kernel
theorem dX7_wall_203 : decode cX7_wall 203 = .ok (.aload_n 0, 1) := by decide +kernel
theorem dX7_wall_204 : decode cX7_wall 204 = .ok (.getfield 23, 3) := by decide +kernel
theorem dX7_wall_207 : decode cX7_wall 207 = .ok (.iload_n 2, 1) := by decide +kernel
theorem dX7_wall_208 : decode cX7_wall 208 = .ok (.aload_n 0, 1) := by decide +kernel
theorem dX7_wall_209 : decode cX7_wall 209 = .ok (.getfield 23, 3) := by decide +kernel
theorem dX7_wall_212 : decode cX7_wall 212 = .ok (.iconst 3, 1) := by decide +kernel
theorem dX7_wall_213 : decode cX7_wall 213 = .ok (.iload_n 2, 1) := by decide +kernel
theorem dX7_wall_214 : decode cX7_wall 214 = .ok (.iadd, 1) := by decide +kernel
theorem dX7_wall_215 : decode cX7_wall 215 = .ok (.iaload, 1) := by decide +kernel
theorem dX7_wall_216 : decode cX7_wall 216 = .ok (.iastore, 1) := by decide +kernel
theorem dX7_wall_217 : decode cX7_wall 217 = .ok (.aload_n 0, 1) := by decide +kernel
theorem dX7_wall_218 : decode cX7_wall 218 = .ok (.getfield 26, 3) := by decide +kernel
theorem dX7_wall_221 : decode cX7_wall 221 = .ok (.iload_n 2, 1) := by decide +kernel
theorem dX7_wall_222 : decode cX7_wall 222 = .ok (.aload_n 0, 1) := by decide +kernel
theorem dX7_wall_223 : decode cX7_wall 223 = .ok (.getfield 26, 3) := by decide +kernel
theorem dX7_wall_226 : decode cX7_wall 226 = .ok (.iconst 3, 1) := by decide +kernel
theorem dX7_wall_227 : decode cX7_wall 227 = .ok (.iload_n 2, 1) := by decide +kernel
theorem dX7_wall_228 : decode cX7_wall 228 = .ok (.iadd, 1) := by decide +kernel
theorem dX7_wall_229 : decode cX7_wall 229 = .ok (.iaload, 1) := by decide +kernel
theorem dX7_wall_230 : decode cX7_wall 230 = .ok (.iastore, 1) := by decide +kernel
theorem dX7_wall_231 : decode cX7_wall 231 = .ok (.aload_n 0, 1) := by decide +kernel
theorem dX7_wall_232 : decode cX7_wall 232 = .ok (.getfield 29, 3) := by decide +kernel
theorem dX7_wall_235 : decode cX7_wall 235 = .ok (.iload_n 2, 1) := by decide +kernel
theorem dX7_wall_236 : decode cX7_wall 236 = .ok (.aload_n 0, 1) := by decide +kernel
theorem dX7_wall_237 : decode cX7_wall 237 = .ok (.getfield 29, 3) := by decide +kernel
theorem dX7_wall_240 : decode cX7_wall 240 = .ok (.iconst 3, 1) := by decide +kernel
theorem dX7_wall_241 : decode cX7_wall 241 = .ok (.iload_n 2, 1) := by decide +kernel
theorem dX7_wall_242 : decode cX7_wall 242 = .ok (.iadd, 1) := by decide +kernel
theorem dX7_wall_243 : decode cX7_wall 243 = .ok (.iaload, 1) := by decide +kernel
theorem dX7_wall_244 : decode cX7_wall 244 = .ok (.iastore, 1) := by decide +kernel
theorem dX7_wall_245 : decode cX7_wall 245 = .ok (.iconst 0, 1) := by decide +kernel
theorem dX7_wall_246 : decode cX7_wall 246 = .ok (.istore_n 3, 1) := by decide +kernel
theorem dX7_wall_247 : decode cX7_wall 247 = .ok (.iload_n 3, 1) := by decide +kernel
theorem dX7_wall_248 : decode cX7_wall 248 = .ok (.bipush 16, 2) := by decide +kernel
theorem dX7_wall_250 : decode cX7_wall 250 = .ok (.if_icmp .ge 26, 3) := by decide +kernel
theorem dX7_wall_253 : decode cX7_wall 253 = .ok (.aload_n 0, 1) := by decide +kernel
theorem dX7_wall_254 : decode cX7_wall 254 = .ok (.getfield 69, 3) := by decide +kernel
theorem dX7_wall_257 : decode cX7_wall 257 = .ok (.bipush 16, 2) := by decide +kernel
theorem dX7_wall_259 : decode cX7_wall 259 = .ok (.iload_n 2, 1) := by decide +kernel
theorem dX7_wall_260 : decode cX7_wall 260 = .ok (.imul, 1) := by decide +kernel
theorem dX7_wall_261 : decode cX7_wall 261 = .ok (.iload_n 3, 1) := by decide +kernel
theorem dX7_wall_262 : decode cX7_wall 262 = .ok (.iadd, 1) := by decide +kernel
theorem dX7_wall_263 : decode cX7_wall 263 = .ok (.aload_n 0, 1) := by decide +kernel
theorem dX7_wall_264 : decode cX7_wall 264 = .ok (.getfield 26, 3) := by decide +kernel
theorem dX7_wall_267 : decode cX7_wall 267 = .ok (.iload_n 2, 1) := by decide +kernel
theorem dX7_wall_268 : decode cX7_wall 268 = .ok (.iaload, 1) := by decide +kernel
theorem dX7_wall_269 : decode cX7_wall 269 = .ok (.iastore, 1) := by decide +kernel
theorem dX7_wall_270 : decode cX7_wall 270 = .ok (.iinc 3 1, 3) := by decide +kernel
theorem dX7_wall_273 : decode cX7_wall 273 = .ok (.goto (-26), 3) := by decide +kernel
theorem dX7_wall_276 : decode cX7_wall 276 = .ok (.iinc 2 1, 3) := by decide +kernel
theorem dX7_wall_279 : decode cX7_wall 279 = .ok (.goto (-81), 3) := by decide +kernel
theorem dX7_wall_282 : decode cX7_wall 282 = .ok (.iconst 0, 1) := by decide +kernel
theorem dX7_wall_283 : decode cX7_wall 283 = .ok (.istore_n 2, 1) := by decide +kernel
theorem dX7_wall_284 : decode cX7_wall 284 = .ok (.iload_n 2, 1) := by decide +kernel
theorem dX7_wall_285 : decode cX7_wall 285 = .ok (.bipush 40, 2) := by decide +kernel
theorem dX7_wall_287 : decode cX7_wall 287 = .ok (.if_icmp .ge 16, 3) := by decide +kernel
theorem dX7_wall_290 : decode cX7_wall 290 = .ok (.aload_n 0, 1) := by decide +kernel
theorem dX7_wall_291 : decode cX7_wall 291 = .ok (.getfield 41, 3) := by decide +kernel
theorem dX7_wall_294 : decode cX7_wall 294 = .ok (.iload_n 2, 1) := by decide +kernel
theorem dX7_wall_295 : decode cX7_wall 295 = .ok (.iconst 0, 1) := by decide +kernel
theorem dX7_wall_296 : decode cX7_wall 296 = .ok (.iastore, 1) := by decide +kernel
theorem dX7_wall_297 : decode cX7_wall 297 = .ok (.iinc 2 1, 3) := by decide +kernel
theorem dX7_wall_300 : decode cX7_wall 300 = .ok (.goto (-16), 3) := by decide +kernel
theorem dX7_wall_303 : decode cX7_wall 303 = .ok (.aload_n 0, 1) := by decide +kernel
theorem dX7_wall_304 : decode cX7_wall 304 = .ok (.getfield 72, 3) := by decide +kernel
theorem dX7_wall_307 : decode cX7_wall 307 = .ok (.iconst 0, 1) := by decide +kernel
theorem dX7_wall_308 : decode cX7_wall 308 = .ok (.iconst 0, 1) := by decide +kernel
theorem dX7_wall_309 : decode cX7_wall 309 = .ok (.iastore, 1) := by decide +kernel
theorem dX7_wall_310 : decode cX7_wall 310 = .ok (.aload_n 0, 1) := by decide +kernel
theorem dX7_wall_311 : decode cX7_wall 311 = .ok (.getfield 81, 3) := by decide +kernel
theorem dX7_wall_314 : decode cX7_wall 314 = .ok (.iconst 0, 1) := by decide +kernel
theorem dX7_wall_315 : decode cX7_wall 315 = .ok (.iconst 0, 1) := by decide +kernel
theorem dX7_wall_316 : decode cX7_wall 316 = .ok (.bastore, 1) := by decide +kernel
theorem dX7_wall_317 : decode cX7_wall 317 = .ok (.aload_n 0, 1) := by decide +kernel
theorem dX7_wall_318 : decode cX7_wall 318 = .ok (.getfield 81, 3) := by decide +kernel
theorem dX7_wall_321 : decode cX7_wall 321 = .ok (.iconst 1, 1) := by decide +kernel
theorem dX7_wall_322 : decode cX7_wall 322 = .ok (.iconst 0, 1) := by decide +kernel
theorem dX7_wall_323 : decode cX7_wall 323 = .ok (.bastore, 1) := by decide +kernel
theorem dX7_wall_324 : decode cX7_wall 324 = .ok (.aload_n 0, 1) := by decide +kernel
theorem dX7_wall_325 : decode cX7_wall 325 = .ok (.iconst 0, 1) := by decide +kernel
theorem dX7_wall_326 : decode cX7_wall 326 = .ok (.putfield 89, 3) := by decide +kernel
theorem dX7_wall_329 : decode cX7_wall 329 = .ok (.aload_n 0, 1) := by decide +kernel
theorem dX7_wall_330 : decode cX7_wall 330 = .ok (.getfield 20, 3) := by decide +kernel
theorem dX7_wall_333 : decode cX7_wall 333 = .ok (.iconst 0, 1) := by decide +kernel
theorem dX7_wall_334 : decode cX7_wall 334 = .ok (.iaload, 1) := by decide +kernel
theorem dX7_wall_335 : decode cX7_wall 335 = .ok (.ireturn, 1) := by decide +kernel
theorem dX7_isIn_0 : decode cX7_isIn 0 = .ok (.iload_n 1, 1) := by decide +kernel
theorem dX7_isIn_1 : decode cX7_isIn 1 = .ok (.iconst 0, 1) := by decide +kernel
theorem dX7_isIn_2 : decode cX7_isIn 2 = .ok (.aload_n 0, 1) := by decide +kernel
theorem dX7_isIn_3 : decode cX7_isIn 3 = .ok (.getfield 13, 3) := by decide +kernel
theorem dX7_isIn_6 : decode cX7_isIn 6 = .ok (.iconst 0, 1) := by decide +kernel
theorem dX7_isIn_7 : decode cX7_isIn 7 = .ok (.iaload, 1) := by decide +kernel
theorem dX7_isIn_8 : decode cX7_isIn 8 = .ok (.iconst 1, 1) := by decide +kernel
theorem dX7_isIn_9 : decode cX7_isIn 9 = .ok (.isub, 1) := by decide +kernel
theorem dX7_isIn_10 : decode cX7_isIn 10 = .ok (.invokestatic 85, 3) := by decide +kernel
theorem dX7_isIn_13 : decode cX7_isIn 13 = .ok (.ireturn, 1) := by decide +kernel
theorem dX7_isCourse_0 : decode cX7_isCourse 0 = .ok (.iload_n 1, 1) := by decide +kernel
theorem dX7_isCourse_1 : decode cX7_isCourse 1 = .ok (.iconst 0, 1) := by decide +kernel
theorem dX7_isCourse_2 : decode cX7_isCourse 2 = .ok (.aload_n 0, 1) := by decide +kernel
theorem dX7_isCourse_3 : decode cX7_isCourse 3 = .ok (.getfield 17, 3) := by decide +kernel
theorem dX7_isCourse_6 : decode cX7_isCourse 6 = .ok (.iconst 0, 1) := by decide +kernel
theorem dX7_isCourse_7 : decode cX7_isCourse 7 = .ok (.iaload, 1) := by decide +kernel
theorem dX7_isCourse_8 : decode cX7_isCourse 8 = .ok (.iconst 1, 1) := by decide +kernel
theorem dX7_isCourse_9 : decode cX7_isCourse 9 = .ok (.isub, 1) := by decide +kernel
theorem dX7_isCourse_10 : decode cX7_isCourse 10 = .ok (.invokestatic 85, 3) := by decide +kernel
theorem dX7_isCourse_13 : decode cX7_isCourse 13 = .ok (.ireturn, 1) := by decide +kernel
theorem dX7_isHearth_0 : decode cX7_isHearth 0 = .ok (.iload_n 1, 1) := by decide +kernel
theorem dX7_isHearth_1 : decode cX7_isHearth 1 = .ok (.iconst 0, 1) := by decide +kernel
theorem dX7_isHearth_2 : decode cX7_isHearth 2 = .ok (.aload_n 0, 1) := by decide +kernel
theorem dX7_isHearth_3 : decode cX7_isHearth 3 = .ok (.getfield 20, 3) := by decide +kernel
theorem dX7_isHearth_6 : decode cX7_isHearth 6 = .ok (.iconst 0, 1) := by decide +kernel
theorem dX7_isHearth_7 : decode cX7_isHearth 7 = .ok (.iaload, 1) := by decide +kernel
theorem dX7_isHearth_8 : decode cX7_isHearth 8 = .ok (.iconst 1, 1) := by decide +kernel
theorem dX7_isHearth_9 : decode cX7_isHearth 9 = .ok (.isub, 1) := by decide +kernel
theorem dX7_isHearth_10 : decode cX7_isHearth 10 = .ok (.invokestatic 85, 3) := by decide +kernel
theorem dX7_isHearth_13 : decode cX7_isHearth 13 = .ok (.ireturn, 1) := by decide +kernel
theorem dX7_isBarred_0 : decode cX7_isBarred 0 = .ok (.aload_n 0, 1) := by decide +kernel
theorem dX7_isBarred_1 : decode cX7_isBarred 1 = .ok (.getfield 32, 3) := by decide +kernel
theorem dX7_isBarred_4 : decode cX7_isBarred 4 = .ok (.iload_n 1, 1) := by decide +kernel
theorem dX7_isBarred_5 : decode cX7_isBarred 5 = .ok (.iaload, 1) := by decide +kernel
theorem dX7_isBarred_6 : decode cX7_isBarred 6 = .ok (.iload_n 2, 1) := by decide +kernel
theorem dX7_isBarred_7 : decode cX7_isBarred 7 = .ok (.ishr, 1) := by decide +kernel
theorem dX7_isBarred_8 : decode cX7_isBarred 8 = .ok (.iconst 1, 1) := by decide +kernel
theorem dX7_isBarred_9 : decode cX7_isBarred 9 = .ok (.iand, 1) := by decide +kernel
theorem dX7_isBarred_10 : decode cX7_isBarred 10 = .ok (.iconst 1, 1) := by decide +kernel
theorem dX7_isBarred_11 : decode cX7_isBarred 11 = .ok (.if_icmp .ne 7, 3) := by decide +kernel
theorem dX7_isBarred_14 : decode cX7_isBarred 14 = .ok (.iconst 1, 1) := by decide +kernel
theorem dX7_isBarred_15 : decode cX7_isBarred 15 = .ok (.goto 4, 3) := by decide +kernel
theorem dX7_isBarred_18 : decode cX7_isBarred 18 = .ok (.iconst 0, 1) := by decide +kernel
theorem dX7_isBarred_19 : decode cX7_isBarred 19 = .ok (.ireturn, 1) := by decide +kernel
theorem dX7_isCold_0 : decode cX7_isCold 0 = .ok (.aload_n 0, 1) := by decide +kernel
theorem dX7_isCold_1 : decode cX7_isCold 1 = .ok (.iload_n 1, 1) := by decide +kernel
theorem dX7_isCold_2 : decode cX7_isCold 2 = .ok (.invokevirtual 136, 3) := by decide +kernel
theorem dX7_isCold_5 : decode cX7_isCold 5 = .ok (.ifCond .eq 21, 3) := by decide +kernel
theorem dX7_isCold_8 : decode cX7_isCold 8 = .ok (.aload_n 0, 1) := by decide +kernel
theorem dX7_isCold_9 : decode cX7_isCold 9 = .ok (.getfield 35, 3) := by decide +kernel
theorem dX7_isCold_12 : decode cX7_isCold 12 = .ok (.iconst 0, 1) := by decide +kernel
theorem dX7_isCold_13 : decode cX7_isCold 13 = .ok (.iaload, 1) := by decide +kernel
theorem dX7_isCold_14 : decode cX7_isCold 14 = .ok (.iload_n 1, 1) := by decide +kernel
theorem dX7_isCold_15 : decode cX7_isCold 15 = .ok (.ishr, 1) := by decide +kernel
theorem dX7_isCold_16 : decode cX7_isCold 16 = .ok (.iconst 1, 1) := by decide +kernel
theorem dX7_isCold_17 : decode cX7_isCold 17 = .ok (.iand, 1) := by decide +kernel
theorem dX7_isCold_18 : decode cX7_isCold 18 = .ok (.iconst 1, 1) := by decide +kernel
theorem dX7_isCold_19 : decode cX7_isCold 19 = .ok (.if_icmp .ne 7, 3) := by decide +kernel
theorem dX7_isCold_22 : decode cX7_isCold 22 = .ok (.iconst 1, 1) := by decide +kernel
theorem dX7_isCold_23 : decode cX7_isCold 23 = .ok (.goto 4, 3) := by decide +kernel
theorem dX7_isCold_26 : decode cX7_isCold 26 = .ok (.iconst 0, 1) := by decide +kernel
theorem dX7_isCold_27 : decode cX7_isCold 27 = .ok (.ireturn, 1) := by decide +kernel
theorem dX7_brick_0 : decode cX7_brick 0 = .ok (.aload_n 0, 1) := by decide +kernel
theorem dX7_brick_1 : decode cX7_brick 1 = .ok (.iload_n 1, 1) := by decide +kernel
theorem dX7_brick_2 : decode cX7_brick 2 = .ok (.invokevirtual 140, 3) := by decide +kernel
theorem dX7_brick_5 : decode cX7_brick 5 = .ok (.ifCond .eq 42, 3) := by decide +kernel
theorem dX7_brick_8 : decode cX7_brick 8 = .ok (.aload_n 0, 1) := by decide +kernel
theorem dX7_brick_9 : decode cX7_brick 9 = .ok (.iload_n 2, 1) := by decide +kernel
theorem dX7_brick_10 : decode cX7_brick 10 = .ok (.invokevirtual 136, 3) := by decide +kernel
theorem dX7_brick_13 : decode cX7_brick 13 = .ok (.ifCond .eq 34, 3) := by decide +kernel
theorem dX7_brick_16 : decode cX7_brick 16 = .ok (.aload_n 0, 1) := by decide +kernel
theorem dX7_brick_17 : decode cX7_brick 17 = .ok (.iload_n 1, 1) := by decide +kernel
theorem dX7_brick_18 : decode cX7_brick 18 = .ok (.iload_n 2, 1) := by decide +kernel
theorem dX7_brick_19 : decode cX7_brick 19 = .ok (.invokevirtual 143, 3) := by decide +kernel
theorem dX7_brick_22 : decode cX7_brick 22 = .ok (.ifCond .eq 7, 3) := by decide +kernel
theorem dX7_brick_25 : decode cX7_brick 25 = .ok (.iconst 1, 1) := by decide +kernel
theorem dX7_brick_26 : decode cX7_brick 26 = .ok (.goto 4, 3) := by decide +kernel
theorem dX7_brick_29 : decode cX7_brick 29 = .ok (.iconst 0, 1) := by decide +kernel
theorem dX7_brick_30 : decode cX7_brick 30 = .ok (.aload_n 0, 1) := by decide +kernel
theorem dX7_brick_31 : decode cX7_brick 31 = .ok (.iload_n 2, 1) := by decide +kernel
theorem dX7_brick_32 : decode cX7_brick 32 = .ok (.invokevirtual 147, 3) := by decide +kernel
theorem dX7_brick_35 : decode cX7_brick 35 = .ok (.ifCond .eq 7, 3) := by decide +kernel
theorem dX7_brick_38 : decode cX7_brick 38 = .ok (.iconst 2, 1) := by decide +kernel
theorem dX7_brick_39 : decode cX7_brick 39 = .ok (.goto 4, 3) := by decide +kernel
theorem dX7_brick_42 : decode cX7_brick 42 = .ok (.iconst 0, 1) := by decide +kernel
theorem dX7_brick_43 : decode cX7_brick 43 = .ok (.iadd, 1) := by decide +kernel
theorem dX7_brick_44 : decode cX7_brick 44 = .ok (.goto 4, 3) := by decide +kernel
theorem dX7_brick_47 : decode cX7_brick 47 = .ok (.iconst (-1), 1) := by decide +kernel
theorem dX7_brick_48 : decode cX7_brick 48 = .ok (.ireturn, 1) := by decide +kernel
theorem dX7_hearth_0 : decode cX7_hearth 0 = .ok (.aload_n 0, 1) := by decide +kernel
theorem dX7_hearth_1 : decode cX7_hearth 1 = .ok (.iload_n 1, 1) := by decide +kernel
theorem dX7_hearth_2 : decode cX7_hearth 2 = .ok (.invokevirtual 150, 3) := by decide +kernel
theorem dX7_hearth_5 : decode cX7_hearth 5 = .ok (.ifCond .ne 5, 3) := by decide +kernel
theorem dX7_hearth_8 : decode cX7_hearth 8 = .ok (.iconst (-1), 1) := by decide +kernel
theorem dX7_hearth_9 : decode cX7_hearth 9 = .ok (.ireturn, 1) := by decide +kernel
theorem dX7_hearth_10 : decode cX7_hearth 10 = .ok (.iload_n 2, 1) := by decide +kernel
theorem dX7_hearth_11 : decode cX7_hearth 11 = .ok (.ifCond .ne 12, 3) := by decide +kernel
theorem dX7_hearth_14 : decode cX7_hearth 14 = .ok (.aload_n 0, 1) := by decide +kernel
theorem dX7_hearth_15 : decode cX7_hearth 15 = .ok (.getfield 23, 3) := by decide +kernel
theorem dX7_hearth_18 : decode cX7_hearth 18 = .ok (.iload_n 1, 1) := by decide +kernel
theorem dX7_hearth_19 : decode cX7_hearth 19 = .ok (.iaload, 1) := by decide +kernel
theorem dX7_hearth_20 : decode cX7_hearth 20 = .ok (.goto 32, 3) := by decide +kernel
theorem dX7_hearth_23 : decode cX7_hearth 23 = .ok (.iload_n 2, 1) := by decide +kernel
theorem dX7_hearth_24 : decode cX7_hearth 24 = .ok (.iconst 1, 1) := by decide +kernel
theorem dX7_hearth_25 : decode cX7_hearth 25 = .ok (.if_icmp .ne 12, 3) := by decide +kernel
theorem dX7_hearth_28 : decode cX7_hearth 28 = .ok (.aload_n 0, 1) := by decide +kernel
theorem dX7_hearth_29 : decode cX7_hearth 29 = .ok (.getfield 26, 3) := by decide +kernel
theorem dX7_hearth_32 : decode cX7_hearth 32 = .ok (.iload_n 1, 1) := by decide +kernel
theorem dX7_hearth_33 : decode cX7_hearth 33 = .ok (.iaload, 1) := by decide +kernel
theorem dX7_hearth_34 : decode cX7_hearth 34 = .ok (.goto 18, 3) := by decide +kernel
theorem dX7_hearth_37 : decode cX7_hearth 37 = .ok (.iload_n 2, 1) := by decide +kernel
theorem dX7_hearth_38 : decode cX7_hearth 38 = .ok (.iconst 2, 1) := by decide +kernel
theorem dX7_hearth_39 : decode cX7_hearth 39 = .ok (.if_icmp .ne 12, 3) := by decide +kernel
theorem dX7_hearth_42 : decode cX7_hearth 42 = .ok (.aload_n 0, 1) := by decide +kernel
theorem dX7_hearth_43 : decode cX7_hearth 43 = .ok (.getfield 29, 3) := by decide +kernel
theorem dX7_hearth_46 : decode cX7_hearth 46 = .ok (.iload_n 1, 1) := by decide +kernel
theorem dX7_hearth_47 : decode cX7_hearth 47 = .ok (.iaload, 1) := by decide +kernel
theorem dX7_hearth_48 : decode cX7_hearth 48 = .ok (.goto 4, 3) := by decide +kernel
theorem dX7_hearth_51 : decode cX7_hearth 51 = .ok (.iconst (-1), 1) := by decide +kernel
theorem dX7_hearth_52 : decode cX7_hearth 52 = .ok (.ireturn, 1) := by decide +kernel
theorem dX7_tune_0 : decode cX7_tune 0 = .ok (.iload_n 1, 1) := by decide +kernel
theorem dX7_tune_1 : decode cX7_tune 1 = .ok (.ifCond .ne 7, 3) := by decide +kernel
theorem dX7_tune_4 : decode cX7_tune 4 = .ok (.iconst 3, 1) := by decide +kernel
theorem dX7_tune_5 : decode cX7_tune 5 = .ok (.goto 25, 3) := by decide +kernel
theorem dX7_tune_8 : decode cX7_tune 8 = .ok (.iload_n 1, 1) := by decide +kernel
theorem dX7_tune_9 : decode cX7_tune 9 = .ok (.iconst 4, 1) := by decide +kernel
theorem dX7_tune_10 : decode cX7_tune 10 = .ok (.if_icmp .ne 8, 3) := by decide +kernel
theorem dX7_tune_13 : decode cX7_tune 13 = .ok (.bipush 9, 2) := by decide +kernel
theorem dX7_tune_15 : decode cX7_tune 15 = .ok (.goto 15, 3) := by decide +kernel
theorem dX7_tune_18 : decode cX7_tune 18 = .ok (.iload_n 1, 1) := by decide +kernel
theorem dX7_tune_19 : decode cX7_tune 19 = .ok (.iconst 5, 1) := by decide +kernel
theorem dX7_tune_20 : decode cX7_tune 20 = .ok (.if_icmp .ne 8, 3) := by decide +kernel
theorem dX7_tune_23 : decode cX7_tune 23 = .ok (.bipush 99, 2) := by decide +kernel
theorem dX7_tune_25 : decode cX7_tune 25 = .ok (.goto 5, 3) := by decide +kernel
theorem dX7_tune_28 : decode cX7_tune 28 = .ok (.bipush 20, 2) := by decide +kernel
theorem dX7_tune_30 : decode cX7_tune 30 = .ok (.istore_n 3, 1) := by decide +kernel
theorem dX7_tune_31 : decode cX7_tune 31 = .ok (.iload_n 1, 1) := by decide +kernel
theorem dX7_tune_32 : decode cX7_tune 32 = .ok (.iconst 0, 1) := by decide +kernel
theorem dX7_tune_33 : decode cX7_tune 33 = .ok (.iconst 5, 1) := by decide +kernel
theorem dX7_tune_34 : decode cX7_tune 34 = .ok (.invokestatic 85, 3) := by decide +kernel
theorem dX7_tune_37 : decode cX7_tune 37 = .ok (.ifCond .eq 21, 3) := by decide +kernel
theorem dX7_tune_40 : decode cX7_tune 40 = .ok (.iload_n 2, 1) := by decide +kernel
theorem dX7_tune_41 : decode cX7_tune 41 = .ok (.iload_n 1, 1) := by decide +kernel
theorem dX7_tune_42 : decode cX7_tune 42 = .ok (.iconst 3, 1) := by decide +kernel
theorem dX7_tune_43 : decode cX7_tune 43 = .ok (.if_icmp .ne 7, 3) := by decide +kernel
theorem dX7_tune_46 : decode cX7_tune 46 = .ok (.iconst 1, 1) := by decide +kernel
theorem dX7_tune_47 : decode cX7_tune 47 = .ok (.goto 4, 3) := by decide +kernel
theorem dX7_tune_50 : decode cX7_tune 50 = .ok (.iconst 0, 1) := by decide +kernel
theorem dX7_tune_51 : decode cX7_tune 51 = .ok (.iload_n 3, 1) := by decide +kernel
theorem dX7_tune_52 : decode cX7_tune 52 = .ok (.invokestatic 85, 3) := by decide +kernel
theorem dX7_tune_55 : decode cX7_tune 55 = .ok (.ifCond .ne 5, 3) := by decide +kernel
theorem dX7_tune_58 : decode cX7_tune 58 = .ok (.iconst (-1), 1) := by decide +kernel
theorem dX7_tune_59 : decode cX7_tune 59 = .ok (.ireturn, 1) := by decide +kernel
theorem dX7_tune_60 : decode cX7_tune 60 = .ok (.aload_n 0, 1) := by decide +kernel
theorem dX7_tune_61 : decode cX7_tune 61 = .ok (.getfield 38, 3) := by decide +kernel
theorem dX7_tune_64 : decode cX7_tune 64 = .ok (.iload_n 1, 1) := by decide +kernel
theorem dX7_tune_65 : decode cX7_tune 65 = .ok (.iaload, 1) := by decide +kernel
theorem dX7_tune_66 : decode cX7_tune 66 = .ok (.istore 4, 2) := by decide +kernel
theorem dX7_tune_68 : decode cX7_tune 68 = .ok (.aload_n 0, 1) := by decide +kernel
theorem dX7_tune_69 : decode cX7_tune 69 = .ok (.getfield 38, 3) := by decide +kernel
theorem dX7_tune_72 : decode cX7_tune 72 = .ok (.iload_n 1, 1) := by decide +kernel
theorem dX7_tune_73 : decode cX7_tune 73 = .ok (.iload_n 2, 1) := by decide +kernel
theorem dX7_tune_74 : decode cX7_tune 74 = .ok (.iastore, 1) := by decide +kernel
theorem dX7_tune_75 : decode cX7_tune 75 = .ok (.iload 4, 2) := by decide +kernel
theorem dX7_tune_77 : decode cX7_tune 77 = .ok (.ireturn, 1) := by decide +kernel
theorem dX7_wind_0 : decode cX7_wind 0 = .ok (.iload_n 1, 1) := by decide +kernel
theorem dX7_wind_1 : decode cX7_wind 1 = .ok (.iconst 0, 1) := by decide +kernel
theorem dX7_wind_2 : decode cX7_wind 2 = .ok (.iconst 3, 1) := by decide +kernel
theorem dX7_wind_3 : decode cX7_wind 3 = .ok (.invokestatic 85, 3) := by decide +kernel
theorem dX7_wind_6 : decode cX7_wind 6 = .ok (.ifCond .eq 22, 3) := by decide +kernel
theorem dX7_wind_9 : decode cX7_wind 9 = .ok (.aload_n 0, 1) := by decide +kernel
theorem dX7_wind_10 : decode cX7_wind 10 = .ok (.iload_n 2, 1) := by decide +kernel
theorem dX7_wind_11 : decode cX7_wind 11 = .ok (.invokevirtual 136, 3) := by decide +kernel
theorem dX7_wind_14 : decode cX7_wind 14 = .ok (.ifCond .eq 14, 3) := by decide +kernel
theorem dX7_wind_17 : decode cX7_wind 17 = .ok (.iload_n 3, 1) := by decide +kernel
theorem dX7_wind_18 : decode cX7_wind 18 = .ok (.bipush (-9), 2) := by decide +kernel
theorem dX7_wind_20 : decode cX7_wind 20 = .ok (.bipush 9, 2) := by decide +kernel
theorem dX7_wind_22 : decode cX7_wind 22 = .ok (.invokestatic 85, 3) := by decide +kernel
theorem dX7_wind_25 : decode cX7_wind 25 = .ok (.ifCond .ne 6, 3) := by decide +kernel
theorem dX7_wind_28 : decode cX7_wind 28 = .ok (.ldc 153, 2) := by decide +kernel
theorem dX7_wind_30 : decode cX7_wind 30 = .ok (.ireturn, 1) := by decide +kernel
theorem dX7_wind_31 : decode cX7_wind 31 = .ok (.aload_n 0, 1) := by decide +kernel
theorem dX7_wind_32 : decode cX7_wind 32 = .ok (.getfield 41, 3) := by decide +kernel
theorem dX7_wind_35 : decode cX7_wind 35 = .ok (.bipush 10, 2) := by decide +kernel
theorem dX7_wind_37 : decode cX7_wind 37 = .ok (.iload_n 1, 1) := by decide +kernel
theorem dX7_wind_38 : decode cX7_wind 38 = .ok (.imul, 1) := by decide +kernel
theorem dX7_wind_39 : decode cX7_wind 39 = .ok (.iload_n 2, 1) := by decide +kernel
theorem dX7_wind_40 : decode cX7_wind 40 = .ok (.iadd, 1) := by decide +kernel
theorem dX7_wind_41 : decode cX7_wind 41 = .ok (.iaload, 1) := by decide +kernel
theorem dX7_wind_42 : decode cX7_wind 42 = .ok (.istore 4, 2) := by decide +kernel
theorem dX7_wind_44 : decode cX7_wind 44 = .ok (.aload_n 0, 1) := by decide +kernel
theorem dX7_wind_45 : decode cX7_wind 45 = .ok (.getfield 41, 3) := by decide +kernel
theorem dX7_wind_48 : decode cX7_wind 48 = .ok (.bipush 10, 2) := by decide +kernel
theorem dX7_wind_50 : decode cX7_wind 50 = .ok (.iload_n 1, 1) := by decide +kernel
theorem dX7_wind_51 : decode cX7_wind 51 = .ok (.imul, 1) := by decide +kernel
theorem dX7_wind_52 : decode cX7_wind 52 = .ok (.iload_n 2, 1) := by decide +kernel
theorem dX7_wind_53 : decode cX7_wind 53 = .ok (.iadd, 1) := by decide +kernel
theorem dX7_wind_54 : decode cX7_wind 54 = .ok (.iload_n 3, 1) := by decide +kernel
theorem dX7_wind_55 : decode cX7_wind 55 = .ok (.iastore, 1) := by decide +kernel
theorem dX7_wind_56 : decode cX7_wind 56 = .ok (.iload 4, 2) := by decide +kernel
theorem dX7_wind_58 : decode cX7_wind 58 = .ok (.ireturn, 1) := by decide +kernel
theorem dX7_isMarked_0 : decode cX7_isMarked 0 = .ok (.iconst 1, 1) := by decide +kernel
theorem dX7_isMarked_1 : decode cX7_isMarked 1 = .ok (.istore 4, 2) := by decide +kernel
theorem dX7_isMarked_3 : decode cX7_isMarked 3 = .ok (.iconst 0, 1) := by decide +kernel
theorem dX7_isMarked_4 : decode cX7_isMarked 4 = .ok (.istore 5, 2) := by decide +kernel
theorem dX7_isMarked_6 : decode cX7_isMarked 6 = .ok (.iload 5, 2) := by decide +kernel
theorem dX7_isMarked_8 : decode cX7_isMarked 8 = .ok (.aload_n 0, 1) := by decide +kernel
theorem dX7_isMarked_9 : decode cX7_isMarked 9 = .ok (.getfield 72, 3) := by decide +kernel
theorem dX7_isMarked_12 : decode cX7_isMarked 12 = .ok (.iconst 0, 1) := by decide +kernel
theorem dX7_isMarked_13 : decode cX7_isMarked 13 = .ok (.iaload, 1) := by decide +kernel
theorem dX7_isMarked_14 : decode cX7_isMarked 14 = .ok (.if_icmp .ge 47, 3) := by decide +kernel
theorem dX7_isMarked_17 : decode cX7_isMarked 17 = .ok (.iload_n 3, 1) := by decide +kernel
theorem dX7_isMarked_18 : decode cX7_isMarked 18 = .ok (.ifCond .eq 43, 3) := by decide +kernel
theorem dX7_isMarked_21 : decode cX7_isMarked 21 = .ok (.iload 4, 2) := by decide +kernel
theorem dX7_isMarked_23 : decode cX7_isMarked 23 = .ok (.ifCond .eq 29, 3) := by decide +kernel
theorem dX7_isMarked_26 : decode cX7_isMarked 26 = .ok (.aload_n 0, 1) := by decide +kernel
theorem dX7_isMarked_27 : decode cX7_isMarked 27 = .ok (.getfield 75, 3) := by decide +kernel
theorem dX7_isMarked_30 : decode cX7_isMarked 30 = .ok (.iload 5, 2) := by decide +kernel
theorem dX7_isMarked_32 : decode cX7_isMarked 32 = .ok (.iaload, 1) := by decide +kernel
theorem dX7_isMarked_33 : decode cX7_isMarked 33 = .ok (.iload_n 1, 1) := by decide +kernel
theorem dX7_isMarked_34 : decode cX7_isMarked 34 = .ok (.if_icmp .ne 14, 3) := by decide +kernel
theorem dX7_isMarked_37 : decode cX7_isMarked 37 = .ok (.aload_n 0, 1) := by decide +kernel
theorem dX7_isMarked_38 : decode cX7_isMarked 38 = .ok (.getfield 78, 3) := by decide +kernel
theorem dX7_isMarked_41 : decode cX7_isMarked 41 = .ok (.iload 5, 2) := by decide +kernel
theorem dX7_isMarked_43 : decode cX7_isMarked 43 = .ok (.iaload, 1) := by decide +kernel
theorem dX7_isMarked_44 : decode cX7_isMarked 44 = .ok (.iload_n 2, 1) := by decide +kernel
theorem dX7_isMarked_45 : decode cX7_isMarked 45 = .ok (.if_icmp .ne 7, 3) := by decide +kernel
theorem dX7_isMarked_48 : decode cX7_isMarked 48 = .ok (.iconst 1, 1) := by decide +kernel
theorem dX7_isMarked_49 : decode cX7_isMarked 49 = .ok (.goto 4, 3) := by decide +kernel
theorem dX7_isMarked_52 : decode cX7_isMarked 52 = .ok (.iconst 0, 1) := by decide +kernel
theorem dX7_isMarked_53 : decode cX7_isMarked 53 = .ok (.istore 4, 2) := by decide +kernel
theorem dX7_isMarked_55 : decode cX7_isMarked 55 = .ok (.iinc 5 1, 3) := by decide +kernel
theorem dX7_isMarked_58 : decode cX7_isMarked 58 = .ok (.goto (-52), 3) := by decide +kernel
theorem dX7_isMarked_61 : decode cX7_isMarked 61 = .ok (.iload 4, 2) := by decide +kernel
theorem dX7_isMarked_63 : decode cX7_isMarked 63 = .ok (.ireturn, 1) := by decide +kernel
theorem dX7_countWays_0 : decode cX7_countWays 0 = .ok (.aload_n 0, 1) := by decide +kernel
theorem dX7_countWays_1 : decode cX7_countWays 1 = .ok (.getfield 23, 3) := by decide +kernel
theorem dX7_countWays_4 : decode cX7_countWays 4 = .ok (.iload_n 1, 1) := by decide +kernel
theorem dX7_countWays_5 : decode cX7_countWays 5 = .ok (.iaload, 1) := by decide +kernel
theorem dX7_countWays_6 : decode cX7_countWays 6 = .ok (.istore_n 3, 1) := by decide +kernel
theorem dX7_countWays_7 : decode cX7_countWays 7 = .ok (.iload_n 3, 1) := by decide +kernel
theorem dX7_countWays_8 : decode cX7_countWays 8 = .ok (.aload_n 0, 1) := by decide +kernel
theorem dX7_countWays_9 : decode cX7_countWays 9 = .ok (.getfield 17, 3) := by decide +kernel
theorem dX7_countWays_12 : decode cX7_countWays 12 = .ok (.iconst 0, 1) := by decide +kernel
theorem dX7_countWays_13 : decode cX7_countWays 13 = .ok (.iaload, 1) := by decide +kernel
theorem dX7_countWays_14 : decode cX7_countWays 14 = .ok (.if_icmp .ge 176, 3) := by decide +kernel
theorem dX7_countWays_17 : decode cX7_countWays 17 = .ok (.iconst 0, 1) := by decide +kernel
theorem dX7_countWays_18 : decode cX7_countWays 18 = .ok (.istore 4, 2) := by decide +kernel
theorem dX7_countWays_20 : decode cX7_countWays 20 = .ok (.iload 4, 2) := by decide +kernel
theorem dX7_countWays_22 : decode cX7_countWays 22 = .ok (.bipush 10, 2) := by decide +kernel
theorem dX7_countWays_24 : decode cX7_countWays 24 = .ok (.if_icmp .ge 23, 3) := by decide +kernel
theorem dX7_countWays_27 : decode cX7_countWays 27 = .ok (.aload_n 0, 1) := by decide +kernel
theorem dX7_countWays_28 : decode cX7_countWays 28 = .ok (.getfield 48, 3) := by decide +kernel
theorem dX7_countWays_31 : decode cX7_countWays 31 = .ok (.iload 4, 2) := by decide +kernel
theorem dX7_countWays_33 : decode cX7_countWays 33 = .ok (.aload_n 0, 1) := by decide +kernel
theorem dX7_countWays_34 : decode cX7_countWays 34 = .ok (.getfield 44, 3) := by decide +kernel
theorem dX7_countWays_37 : decode cX7_countWays 37 = .ok (.iload 4, 2) := by decide +kernel
theorem dX7_countWays_39 : decode cX7_countWays 39 = .ok (.laload, 1) := by decide +kernel
theorem dX7_countWays_40 : decode cX7_countWays 40 = .ok (.lastore, 1) := by decide +kernel
theorem dX7_countWays_41 : decode cX7_countWays 41 = .ok (.iinc 4 1, 3) := by decide +kernel
theorem dX7_countWays_44 : decode cX7_countWays 44 = .ok (.goto (-24), 3) := by decide +kernel
theorem dX7_countWays_47 : decode cX7_countWays 47 = .ok (.iconst 0, 1) := by decide +kernel
theorem dX7_countWays_48 : decode cX7_countWays 48 = .ok (.istore 4, 2) := by decide +kernel
theorem dX7_countWays_50 : decode cX7_countWays 50 = .ok (.iload 4, 2) := by decide +kernel
theorem dX7_countWays_52 : decode cX7_countWays 52 = .ok (.bipush 10, 2) := by decide +kernel
theorem dX7_countWays_54 : decode cX7_countWays 54 = .ok (.if_icmp .ge 130, 3) := by decide +kernel
theorem dX7_countWays_57 : decode cX7_countWays 57 = .ok (.iload_n 3, 1) := by decide +kernel
theorem dX7_countWays_58 : decode cX7_countWays 58 = .ok (.aload_n 0, 1) := by decide +kernel
theorem dX7_countWays_59 : decode cX7_countWays 59 = .ok (.getfield 23, 3) := by decide +kernel
theorem dX7_countWays_62 : decode cX7_countWays 62 = .ok (.iload_n 1, 1) := by decide +kernel
theorem dX7_countWays_63 : decode cX7_countWays 63 = .ok (.iaload, 1) := by decide +kernel
theorem dX7_countWays_64 : decode cX7_countWays 64 = .ok (.if_icmp .ne 22, 3) := by decide +kernel
theorem dX7_countWays_67 : decode cX7_countWays 67 = .ok (.iload 4, 2) := by decide +kernel
theorem dX7_countWays_69 : decode cX7_countWays 69 = .ok (.aload_n 0, 1) := by decide +kernel
theorem dX7_countWays_70 : decode cX7_countWays 70 = .ok (.getfield 26, 3) := by decide +kernel
theorem dX7_countWays_73 : decode cX7_countWays 73 = .ok (.iload_n 1, 1) := by decide +kernel
theorem dX7_countWays_74 : decode cX7_countWays 74 = .ok (.iaload, 1) := by decide +kernel
theorem dX7_countWays_75 : decode cX7_countWays 75 = .ok (.if_icmp .ne 7, 3) := by decide +kernel
theorem dX7_countWays_78 : decode cX7_countWays 78 = .ok (.lconst 1, 1) := by decide +kernel
theorem dX7_countWays_79 : decode cX7_countWays 79 = .ok (.goto 54, 3) := by decide +kernel
theorem dX7_countWays_82 : decode cX7_countWays 82 = .ok (.lconst 0, 1) := by decide +kernel
theorem dX7_countWays_83 : decode cX7_countWays 83 = .ok (.goto 50, 3) := by decide +kernel
theorem dX7_countWays_86 : decode cX7_countWays 86 = .ok (.aload_n 0, 1) := by decide +kernel
theorem dX7_countWays_87 : decode cX7_countWays 87 = .ok (.getfield 48, 3) := by decide +kernel
theorem dX7_countWays_90 : decode cX7_countWays 90 = .ok (.iload 4, 2) := by decide +kernel
theorem dX7_countWays_92 : decode cX7_countWays 92 = .ok (.laload, 1) := by decide +kernel
theorem dX7_countWays_93 : decode cX7_countWays 93 = .ok (.iload 4, 2) := by decide +kernel
theorem dX7_countWays_95 : decode cX7_countWays 95 = .ok (.ifCond .le 15, 3) := by decide +kernel
theorem dX7_countWays_98 : decode cX7_countWays 98 = .ok (.aload_n 0, 1) := by decide +kernel
theorem dX7_countWays_99 : decode cX7_countWays 99 = .ok (.getfield 48, 3) := by decide +kernel
theorem dX7_countWays_102 : decode cX7_countWays 102 = .ok (.iload 4, 2) := by decide +kernel
theorem dX7_countWays_104 : decode cX7_countWays 104 = .ok (.iconst 1, 1) := by decide +kernel
theorem dX7_countWays_105 : decode cX7_countWays 105 = .ok (.isub, 1) := by decide +kernel
theorem dX7_countWays_106 : decode cX7_countWays 106 = .ok (.laload, 1) := by decide +kernel
theorem dX7_countWays_107 : decode cX7_countWays 107 = .ok (.goto 4, 3) := by decide +kernel
theorem dX7_countWays_110 : decode cX7_countWays 110 = .ok (.lconst 0, 1) := by decide +kernel
theorem dX7_countWays_111 : decode cX7_countWays 111 = .ok (.ladd, 1) := by decide +kernel
theorem dX7_countWays_112 : decode cX7_countWays 112 = .ok (.iload 4, 2) := by decide +kernel
theorem dX7_countWays_114 : decode cX7_countWays 114 = .ok (.bipush 9, 2) := by decide +kernel
theorem dX7_countWays_116 : decode cX7_countWays 116 = .ok (.if_icmp .ge 15, 3) := by decide +kernel
theorem dX7_countWays_119 : decode cX7_countWays 119 = .ok (.aload_n 0, 1) := by decide +kernel
theorem dX7_countWays_120 : decode cX7_countWays 120 = .ok (.getfield 48, 3) := by decide +kernel
theorem dX7_countWays_123 : decode cX7_countWays 123 = .ok (.iload 4, 2) := by decide +kernel
theorem dX7_countWays_125 : decode cX7_countWays 125 = .ok (.iconst 1, 1) := by decide +kernel
theorem dX7_countWays_126 : decode cX7_countWays 126 = .ok (.iadd, 1) := by decide +kernel
theorem dX7_countWays_127 : decode cX7_countWays 127 = .ok (.laload, 1) := by decide +kernel
theorem dX7_countWays_128 : decode cX7_countWays 128 = .ok (.goto 4, 3) := by decide +kernel
theorem dX7_countWays_131 : decode cX7_countWays 131 = .ok (.lconst 0, 1) := by decide +kernel
theorem dX7_countWays_132 : decode cX7_countWays 132 = .ok (.ladd, 1) := by decide +kernel
theorem dX7_countWays_133 : decode cX7_countWays 133 = .ok (.lstore 5, 2) := by decide +kernel
theorem dX7_countWays_135 : decode cX7_countWays 135 = .ok (.aload_n 0, 1) := by decide +kernel
theorem dX7_countWays_136 : decode cX7_countWays 136 = .ok (.getfield 44, 3) := by decide +kernel
theorem dX7_countWays_139 : decode cX7_countWays 139 = .ok (.iload 4, 2) := by decide +kernel
theorem dX7_countWays_141 : decode cX7_countWays 141 = .ok (.aload_n 0, 1) := by decide +kernel
theorem dX7_countWays_142 : decode cX7_countWays 142 = .ok (.iload 4, 2) := by decide +kernel
theorem dX7_countWays_144 : decode cX7_countWays 144 = .ok (.invokevirtual 136, 3) := by decide +kernel
theorem dX7_countWays_147 : decode cX7_countWays 147 = .ok (.ifCond .eq 29, 3) := by decide +kernel
theorem dX7_countWays_150 : decode cX7_countWays 150 = .ok (.aload_n 0, 1) := by decide +kernel
theorem dX7_countWays_151 : decode cX7_countWays 151 = .ok (.iload_n 3, 1) := by decide +kernel
theorem dX7_countWays_152 : decode cX7_countWays 152 = .ok (.iload 4, 2) := by decide +kernel
theorem dX7_countWays_154 : decode cX7_countWays 154 = .ok (.invokevirtual 143, 3) := by decide +kernel
theorem dX7_countWays_157 : decode cX7_countWays 157 = .ok (.ifCond .ne 19, 3) := by decide +kernel
theorem dX7_countWays_160 : decode cX7_countWays 160 = .ok (.aload_n 0, 1) := by decide +kernel
theorem dX7_countWays_161 : decode cX7_countWays 161 = .ok (.iload_n 3, 1) := by decide +kernel
theorem dX7_countWays_162 : decode cX7_countWays 162 = .ok (.iload 4, 2) := by decide +kernel
theorem dX7_countWays_164 : decode cX7_countWays 164 = .ok (.iload_n 2, 1) := by decide +kernel
theorem dX7_countWays_165 : decode cX7_countWays 165 = .ok (.invokevirtual 154, 3) := by decide +kernel
theorem dX7_countWays_168 : decode cX7_countWays 168 = .ok (.ifCond .eq 8, 3) := by decide +kernel
theorem dX7_countWays_171 : decode cX7_countWays 171 = .ok (.lload 5, 2) := by decide +kernel
theorem dX7_countWays_173 : decode cX7_countWays 173 = .ok (.goto 4, 3) := by decide +kernel
theorem dX7_countWays_176 : decode cX7_countWays 176 = .ok (.lconst 0, 1) := by decide +kernel
theorem dX7_countWays_177 : decode cX7_countWays 177 = .ok (.lastore, 1) := by decide +kernel
theorem dX7_countWays_178 : decode cX7_countWays 178 = .ok (.iinc 4 1, 3) := by decide +kernel
theorem dX7_countWays_181 : decode cX7_countWays 181 = .ok (.goto (-131), 3) := by decide +kernel
theorem dX7_countWays_184 : decode cX7_countWays 184 = .ok (.iinc 3 1, 3) := by decide +kernel
theorem dX7_countWays_187 : decode cX7_countWays 187 = .ok (.goto (-180), 3) := by decide +kernel
theorem dX7_countWays_190 : decode cX7_countWays 190 = .ok (.lconst 0, 1) := by decide +kernel
theorem dX7_countWays_191 : decode cX7_countWays 191 = .ok (.lstore_n 3, 1) := by decide +kernel
theorem dX7_countWays_192 : decode cX7_countWays 192 = .ok (.iconst 0, 1) := by decide +kernel
theorem dX7_countWays_193 : decode cX7_countWays 193 = .ok (.istore 5, 2) := by decide +kernel
theorem dX7_countWays_195 : decode cX7_countWays 195 = .ok (.iload 5, 2) := by decide +kernel
theorem dX7_countWays_197 : decode cX7_countWays 197 = .ok (.bipush 10, 2) := by decide +kernel
theorem dX7_countWays_199 : decode cX7_countWays 199 = .ok (.if_icmp .ge 19, 3) := by decide +kernel
theorem dX7_countWays_202 : decode cX7_countWays 202 = .ok (.lload_n 3, 1) := by decide +kernel
theorem dX7_countWays_203 : decode cX7_countWays 203 = .ok (.aload_n 0, 1) := by decide +kernel
theorem dX7_countWays_204 : decode cX7_countWays 204 = .ok (.getfield 44, 3) := by decide +kernel
theorem dX7_countWays_207 : decode cX7_countWays 207 = .ok (.iload 5, 2) := by decide +kernel
theorem dX7_countWays_209 : decode cX7_countWays 209 = .ok (.laload, 1) := by decide +kernel
theorem dX7_countWays_210 : decode cX7_countWays 210 = .ok (.ladd, 1) := by decide +kernel
theorem dX7_countWays_211 : decode cX7_countWays 211 = .ok (.lstore_n 3, 1) := by decide +kernel
theorem dX7_countWays_212 : decode cX7_countWays 212 = .ok (.iinc 5 1, 3) := by decide +kernel
theorem dX7_countWays_215 : decode cX7_countWays 215 = .ok (.goto (-20), 3) := by decide +kernel
theorem dX7_countWays_218 : decode cX7_countWays 218 = .ok (.lload_n 3, 1) := by decide +kernel
theorem dX7_countWays_219 : decode cX7_countWays 219 = .ok (.lreturn, 1) := by decide +kernel
theorem dX7_many_0 : decode cX7_many 0 = .ok (.aload_n 0, 1) := by decide +kernel
theorem dX7_many_1 : decode cX7_many 1 = .ok (.iload_n 1, 1) := by decide +kernel
theorem dX7_many_2 : decode cX7_many 2 = .ok (.invokevirtual 150, 3) := by decide +kernel
theorem dX7_many_5 : decode cX7_many 5 = .ok (.ifCond .eq 12, 3) := by decide +kernel
theorem dX7_many_8 : decode cX7_many 8 = .ok (.aload_n 0, 1) := by decide +kernel
theorem dX7_many_9 : decode cX7_many 9 = .ok (.iload_n 1, 1) := by decide +kernel
theorem dX7_many_10 : decode cX7_many 10 = .ok (.iconst 0, 1) := by decide +kernel
theorem dX7_many_11 : decode cX7_many 11 = .ok (.invokevirtual 158, 3) := by decide +kernel
theorem dX7_many_14 : decode cX7_many 14 = .ok (.goto 6, 3) := by decide +kernel
theorem dX7_many_17 : decode cX7_many 17 = .ok (.ldc2_w 162, 3) := by decide +kernel
theorem dX7_many_20 : decode cX7_many 20 = .ok (.lreturn, 1) := by decide +kernel
theorem dX7_guess_0 : decode cX7_guess 0 = .ok (.aload_n 0, 1) := by decide +kernel
theorem dX7_guess_1 : decode cX7_guess 1 = .ok (.iload_n 1, 1) := by decide +kernel
theorem dX7_guess_2 : decode cX7_guess 2 = .ok (.invokevirtual 150, 3) := by decide +kernel
theorem dX7_guess_5 : decode cX7_guess 5 = .ok (.ifCond .eq 12, 3) := by decide +kernel
theorem dX7_guess_8 : decode cX7_guess 8 = .ok (.aload_n 0, 1) := by decide +kernel
theorem dX7_guess_9 : decode cX7_guess 9 = .ok (.iload_n 1, 1) := by decide +kernel
theorem dX7_guess_10 : decode cX7_guess 10 = .ok (.iconst 1, 1) := by decide +kernel
theorem dX7_guess_11 : decode cX7_guess 11 = .ok (.invokevirtual 158, 3) := by decide +kernel
theorem dX7_guess_14 : decode cX7_guess 14 = .ok (.goto 6, 3) := by decide +kernel
theorem dX7_guess_17 : decode cX7_guess 17 = .ok (.ldc2_w 162, 3) := by decide +kernel
theorem dX7_guess_20 : decode cX7_guess 20 = .ok (.lreturn, 1) := by decide +kernel
theorem dX7_stillAt_0 : decode cX7_stillAt 0 = .ok (.aload_n 0, 1) := by decide +kernel
theorem dX7_stillAt_1 : decode cX7_stillAt 1 = .ok (.getfield 51, 3) := by decide +kernel
theorem dX7_stillAt_4 : decode cX7_stillAt 4 = .ok (.bipush 10, 2) := by decide +kernel
theorem dX7_stillAt_6 : decode cX7_stillAt 6 = .ok (.iload_n 1, 1) := by decide +kernel
theorem dX7_stillAt_7 : decode cX7_stillAt 7 = .ok (.imul, 1) := by decide +kernel
theorem dX7_stillAt_8 : decode cX7_stillAt 8 = .ok (.iload_n 2, 1) := by decide +kernel
theorem dX7_stillAt_9 : decode cX7_stillAt 9 = .ok (.iadd, 1) := by decide +kernel
theorem dX7_stillAt_10 : decode cX7_stillAt 10 = .ok (.iconst 4, 1) := by decide +kernel
theorem dX7_stillAt_11 : decode cX7_stillAt 11 = .ok (.imul, 1) := by decide +kernel
theorem dX7_stillAt_12 : decode cX7_stillAt 12 = .ok (.iload_n 3, 1) := by decide +kernel
theorem dX7_stillAt_13 : decode cX7_stillAt 13 = .ok (.iadd, 1) := by decide +kernel
theorem dX7_stillAt_14 : decode cX7_stillAt 14 = .ok (.iaload, 1) := by decide +kernel
theorem dX7_stillAt_15 : decode cX7_stillAt 15 = .ok (.ireturn, 1) := by decide +kernel
theorem dX7_byStep_0 : decode cX7_byStep 0 = .ok (.iload_n 2, 1) := by decide +kernel
theorem dX7_byStep_1 : decode cX7_byStep 1 = .ok (.iload 4, 2) := by decide +kernel
theorem dX7_byStep_3 : decode cX7_byStep 3 = .ok (.iadd, 1) := by decide +kernel
theorem dX7_byStep_4 : decode cX7_byStep 4 = .ok (.istore 5, 2) := by decide +kernel
theorem dX7_byStep_6 : decode cX7_byStep 6 = .ok (.aload_n 0, 1) := by decide +kernel
theorem dX7_byStep_7 : decode cX7_byStep 7 = .ok (.iload 5, 2) := by decide +kernel
theorem dX7_byStep_9 : decode cX7_byStep 9 = .ok (.invokevirtual 136, 3) := by decide +kernel
theorem dX7_byStep_12 : decode cX7_byStep 12 = .ok (.ifCond .eq 15, 3) := by decide +kernel
theorem dX7_byStep_15 : decode cX7_byStep 15 = .ok (.aload_n 0, 1) := by decide +kernel
theorem dX7_byStep_16 : decode cX7_byStep 16 = .ok (.iload_n 1, 1) := by decide +kernel
theorem dX7_byStep_17 : decode cX7_byStep 17 = .ok (.iconst 1, 1) := by decide +kernel
theorem dX7_byStep_18 : decode cX7_byStep 18 = .ok (.iadd, 1) := by decide +kernel
theorem dX7_byStep_19 : decode cX7_byStep 19 = .ok (.iload 5, 2) := by decide +kernel
theorem dX7_byStep_21 : decode cX7_byStep 21 = .ok (.invokevirtual 143, 3) := by decide +kernel
theorem dX7_byStep_24 : decode cX7_byStep 24 = .ok (.ifCond .eq 6, 3) := by decide +kernel
theorem dX7_byStep_27 : decode cX7_byStep 27 = .ok (.ldc 164, 2) := by decide +kernel
theorem dX7_byStep_29 : decode cX7_byStep 29 = .ok (.ireturn, 1) := by decide +kernel
theorem dX7_byStep_30 : decode cX7_byStep 30 = .ok (.iload_n 3, 1) := by decide +kernel
theorem dX7_byStep_31 : decode cX7_byStep 31 = .ok (.ifCond .le 16, 3) := by decide +kernel
theorem dX7_byStep_34 : decode cX7_byStep 34 = .ok (.iload_n 3, 1) := by decide +kernel
theorem dX7_byStep_35 : decode cX7_byStep 35 = .ok (.iload 4, 2) := by decide +kernel
theorem dX7_byStep_37 : decode cX7_byStep 37 = .ok (.iconst 2, 1) := by decide +kernel
theorem dX7_byStep_38 : decode cX7_byStep 38 = .ok (.iadd, 1) := by decide +kernel
theorem dX7_byStep_39 : decode cX7_byStep 39 = .ok (.if_icmp .eq 8, 3) := by decide +kernel
theorem dX7_byStep_42 : decode cX7_byStep 42 = .ok (.bipush 100, 2) := by decide +kernel
theorem dX7_byStep_44 : decode cX7_byStep 44 = .ok (.goto 4, 3) := by decide +kernel
theorem dX7_byStep_47 : decode cX7_byStep 47 = .ok (.iconst 0, 1) := by decide +kernel
theorem dX7_byStep_48 : decode cX7_byStep 48 = .ok (.istore 6, 2) := by decide +kernel
theorem dX7_byStep_50 : decode cX7_byStep 50 = .ok (.aload_n 0, 1) := by decide +kernel
theorem dX7_byStep_51 : decode cX7_byStep 51 = .ok (.iload_n 1, 1) := by decide +kernel
theorem dX7_byStep_52 : decode cX7_byStep 52 = .ok (.iconst 1, 1) := by decide +kernel
theorem dX7_byStep_53 : decode cX7_byStep 53 = .ok (.iadd, 1) := by decide +kernel
theorem dX7_byStep_54 : decode cX7_byStep 54 = .ok (.iload 5, 2) := by decide +kernel
theorem dX7_byStep_56 : decode cX7_byStep 56 = .ok (.iload 4, 2) := by decide +kernel
theorem dX7_byStep_58 : decode cX7_byStep 58 = .ok (.iconst 2, 1) := by decide +kernel
theorem dX7_byStep_59 : decode cX7_byStep 59 = .ok (.iadd, 1) := by decide +kernel
theorem dX7_byStep_60 : decode cX7_byStep 60 = .ok (.invokevirtual 165, 3) := by decide +kernel
theorem dX7_byStep_63 : decode cX7_byStep 63 = .ok (.iload 6, 2) := by decide +kernel
theorem dX7_byStep_65 : decode cX7_byStep 65 = .ok (.iadd, 1) := by decide +kernel
theorem dX7_byStep_66 : decode cX7_byStep 66 = .ok (.iload 4, 2) := by decide +kernel
theorem dX7_byStep_68 : decode cX7_byStep 68 = .ok (.ifCond .ne 7, 3) := by decide +kernel
theorem dX7_byStep_71 : decode cX7_byStep 71 = .ok (.iconst 0, 1) := by decide +kernel
theorem dX7_byStep_72 : decode cX7_byStep 72 = .ok (.goto 4, 3) := by decide +kernel
theorem dX7_byStep_75 : decode cX7_byStep 75 = .ok (.iconst 1, 1) := by decide +kernel
theorem dX7_byStep_76 : decode cX7_byStep 76 = .ok (.iadd, 1) := by decide +kernel
theorem dX7_byStep_77 : decode cX7_byStep 77 = .ok (.ireturn, 1) := by decide +kernel
theorem dX7_leastOne_0 : decode cX7_leastOne 0 = .ok (.aload_n 0, 1) := by decide +kernel
theorem dX7_leastOne_1 : decode cX7_leastOne 1 = .ok (.getfield 17, 3) := by decide +kernel
theorem dX7_leastOne_4 : decode cX7_leastOne 4 = .ok (.iconst 0, 1) := by decide +kernel
theorem dX7_leastOne_5 : decode cX7_leastOne 5 = .ok (.iaload, 1) := by decide +kernel
theorem dX7_leastOne_6 : decode cX7_leastOne 6 = .ok (.iconst 1, 1) := by decide +kernel
theorem dX7_leastOne_7 : decode cX7_leastOne 7 = .ok (.isub, 1) := by decide +kernel
theorem dX7_leastOne_8 : decode cX7_leastOne 8 = .ok (.istore_n 2, 1) := by decide +kernel
theorem dX7_leastOne_9 : decode cX7_leastOne 9 = .ok (.iload_n 2, 1) := by decide +kernel
theorem dX7_leastOne_10 : decode cX7_leastOne 10 = .ok (.aload_n 0, 1) := by decide +kernel
theorem dX7_leastOne_11 : decode cX7_leastOne 11 = .ok (.getfield 23, 3) := by decide +kernel
theorem dX7_leastOne_14 : decode cX7_leastOne 14 = .ok (.iload_n 1, 1) := by decide +kernel
theorem dX7_leastOne_15 : decode cX7_leastOne 15 = .ok (.iaload, 1) := by decide +kernel
theorem dX7_leastOne_16 : decode cX7_leastOne 16 = .ok (.if_icmp .lt 149, 3) := by decide +kernel
theorem dX7_leastOne_19 : decode cX7_leastOne 19 = .ok (.iconst 0, 1) := by decide +kernel
theorem dX7_leastOne_20 : decode cX7_leastOne 20 = .ok (.istore_n 3, 1) := by decide +kernel
theorem dX7_leastOne_21 : decode cX7_leastOne 21 = .ok (.iload_n 3, 1) := by decide +kernel
theorem dX7_leastOne_22 : decode cX7_leastOne 22 = .ok (.aload_n 0, 1) := by decide +kernel
theorem dX7_leastOne_23 : decode cX7_leastOne 23 = .ok (.getfield 13, 3) := by decide +kernel
theorem dX7_leastOne_26 : decode cX7_leastOne 26 = .ok (.iconst 0, 1) := by decide +kernel
theorem dX7_leastOne_27 : decode cX7_leastOne 27 = .ok (.iaload, 1) := by decide +kernel
theorem dX7_leastOne_28 : decode cX7_leastOne 28 = .ok (.if_icmp .ge 131, 3) := by decide +kernel
theorem dX7_leastOne_31 : decode cX7_leastOne 31 = .ok (.iconst 0, 1) := by decide +kernel
theorem dX7_leastOne_32 : decode cX7_leastOne 32 = .ok (.istore 4, 2) := by decide +kernel
theorem dX7_leastOne_34 : decode cX7_leastOne 34 = .ok (.iload 4, 2) := by decide +kernel
theorem dX7_leastOne_36 : decode cX7_leastOne 36 = .ok (.iconst 4, 1) := by decide +kernel
theorem dX7_leastOne_37 : decode cX7_leastOne 37 = .ok (.if_icmp .ge 116, 3) := by decide +kernel
theorem dX7_leastOne_40 : decode cX7_leastOne 40 = .ok (.iload_n 2, 1) := by decide +kernel
theorem dX7_leastOne_41 : decode cX7_leastOne 41 = .ok (.aload_n 0, 1) := by decide +kernel
theorem dX7_leastOne_42 : decode cX7_leastOne 42 = .ok (.getfield 17, 3) := by decide +kernel
theorem dX7_leastOne_45 : decode cX7_leastOne 45 = .ok (.iconst 0, 1) := by decide +kernel
theorem dX7_leastOne_46 : decode cX7_leastOne 46 = .ok (.iaload, 1) := by decide +kernel
theorem dX7_leastOne_47 : decode cX7_leastOne 47 = .ok (.iconst 1, 1) := by decide +kernel
theorem dX7_leastOne_48 : decode cX7_leastOne 48 = .ok (.isub, 1) := by decide +kernel
theorem dX7_leastOne_49 : decode cX7_leastOne 49 = .ok (.if_icmp .ne 7, 3) := by decide +kernel
theorem dX7_leastOne_52 : decode cX7_leastOne 52 = .ok (.iconst 0, 1) := by decide +kernel
theorem dX7_leastOne_53 : decode cX7_leastOne 53 = .ok (.goto 5, 3) := by decide +kernel
theorem dX7_leastOne_56 : decode cX7_leastOne 56 = .ok (.ldc 164, 2) := by decide +kernel
theorem dX7_leastOne_58 : decode cX7_leastOne 58 = .ok (.istore 5, 2) := by decide +kernel
theorem dX7_leastOne_60 : decode cX7_leastOne 60 = .ok (.iconst (-1), 1) := by decide +kernel
theorem dX7_leastOne_61 : decode cX7_leastOne 61 = .ok (.istore 6, 2) := by decide +kernel
theorem dX7_leastOne_63 : decode cX7_leastOne 63 = .ok (.iload 6, 2) := by decide +kernel
theorem dX7_leastOne_65 : decode cX7_leastOne 65 = .ok (.iconst 1, 1) := by decide +kernel
theorem dX7_leastOne_66 : decode cX7_leastOne 66 = .ok (.if_icmp .gt 49, 3) := by decide +kernel
theorem dX7_leastOne_69 : decode cX7_leastOne 69 = .ok (.iload_n 2, 1) := by decide +kernel
theorem dX7_leastOne_70 : decode cX7_leastOne 70 = .ok (.aload_n 0, 1) := by decide +kernel
theorem dX7_leastOne_71 : decode cX7_leastOne 71 = .ok (.getfield 17, 3) := by decide +kernel
theorem dX7_leastOne_74 : decode cX7_leastOne 74 = .ok (.iconst 0, 1) := by decide +kernel
theorem dX7_leastOne_75 : decode cX7_leastOne 75 = .ok (.iaload, 1) := by decide +kernel
theorem dX7_leastOne_76 : decode cX7_leastOne 76 = .ok (.iconst 1, 1) := by decide +kernel
theorem dX7_leastOne_77 : decode cX7_leastOne 77 = .ok (.isub, 1) := by decide +kernel
theorem dX7_leastOne_78 : decode cX7_leastOne 78 = .ok (.if_icmp .ge 37, 3) := by decide +kernel
theorem dX7_leastOne_81 : decode cX7_leastOne 81 = .ok (.aload_n 0, 1) := by decide +kernel
theorem dX7_leastOne_82 : decode cX7_leastOne 82 = .ok (.iload_n 2, 1) := by decide +kernel
theorem dX7_leastOne_83 : decode cX7_leastOne 83 = .ok (.iload_n 3, 1) := by decide +kernel
theorem dX7_leastOne_84 : decode cX7_leastOne 84 = .ok (.iload 4, 2) := by decide +kernel
theorem dX7_leastOne_86 : decode cX7_leastOne 86 = .ok (.iload 6, 2) := by decide +kernel
theorem dX7_leastOne_88 : decode cX7_leastOne 88 = .ok (.invokevirtual 169, 3) := by decide +kernel
theorem dX7_leastOne_91 : decode cX7_leastOne 91 = .ok (.istore 7, 2) := by decide +kernel
theorem dX7_leastOne_93 : decode cX7_leastOne 93 = .ok (.iload 7, 2) := by decide +kernel
theorem dX7_leastOne_95 : decode cX7_leastOne 95 = .ok (.iload 5, 2) := by decide +kernel
theorem dX7_leastOne_97 : decode cX7_leastOne 97 = .ok (.if_icmp .ge 8, 3) := by decide +kernel
theorem dX7_leastOne_100 : decode cX7_leastOne 100 = .ok (.iload 7, 2) := by decide +kernel
theorem dX7_leastOne_102 : decode cX7_leastOne 102 = .ok (.goto 5, 3) := by decide +kernel
theorem dX7_leastOne_105 : decode cX7_leastOne 105 = .ok (.iload 5, 2) := by decide +kernel
theorem dX7_leastOne_107 : decode cX7_leastOne 107 = .ok (.istore 5, 2) := by decide +kernel
theorem dX7_leastOne_109 : decode cX7_leastOne 109 = .ok (.iinc 6 1, 3) := by decide +kernel
theorem dX7_leastOne_112 : decode cX7_leastOne 112 = .ok (.goto (-49), 3) := by decide +kernel
theorem dX7_leastOne_115 : decode cX7_leastOne 115 = .ok (.aload_n 0, 1) := by decide +kernel
theorem dX7_leastOne_116 : decode cX7_leastOne 116 = .ok (.getfield 51, 3) := by decide +kernel
theorem dX7_leastOne_119 : decode cX7_leastOne 119 = .ok (.bipush 10, 2) := by decide +kernel
theorem dX7_leastOne_121 : decode cX7_leastOne 121 = .ok (.iload_n 2, 1) := by decide +kernel
theorem dX7_leastOne_122 : decode cX7_leastOne 122 = .ok (.imul, 1) := by decide +kernel
theorem dX7_leastOne_123 : decode cX7_leastOne 123 = .ok (.iload_n 3, 1) := by decide +kernel
theorem dX7_leastOne_124 : decode cX7_leastOne 124 = .ok (.iadd, 1) := by decide +kernel
theorem dX7_leastOne_125 : decode cX7_leastOne 125 = .ok (.iconst 4, 1) := by decide +kernel
theorem dX7_leastOne_126 : decode cX7_leastOne 126 = .ok (.imul, 1) := by decide +kernel
theorem dX7_leastOne_127 : decode cX7_leastOne 127 = .ok (.iload 4, 2) := by decide +kernel
theorem dX7_leastOne_129 : decode cX7_leastOne 129 = .ok (.iadd, 1) := by decide +kernel
theorem dX7_leastOne_130 : decode cX7_leastOne 130 = .ok (.aload_n 0, 1) := by decide +kernel
theorem dX7_leastOne_131 : decode cX7_leastOne 131 = .ok (.iload_n 2, 1) := by decide +kernel
theorem dX7_leastOne_132 : decode cX7_leastOne 132 = .ok (.iload_n 3, 1) := by decide +kernel
theorem dX7_leastOne_133 : decode cX7_leastOne 133 = .ok (.invokevirtual 143, 3) := by decide +kernel
theorem dX7_leastOne_136 : decode cX7_leastOne 136 = .ok (.ifCond .eq 8, 3) := by decide +kernel
theorem dX7_leastOne_139 : decode cX7_leastOne 139 = .ok (.ldc 164, 2) := by decide +kernel
theorem dX7_leastOne_141 : decode cX7_leastOne 141 = .ok (.goto 5, 3) := by decide +kernel
theorem dX7_leastOne_144 : decode cX7_leastOne 144 = .ok (.iload 5, 2) := by decide +kernel
theorem dX7_leastOne_146 : decode cX7_leastOne 146 = .ok (.iastore, 1) := by decide +kernel
theorem dX7_leastOne_147 : decode cX7_leastOne 147 = .ok (.iinc 4 1, 3) := by decide +kernel
theorem dX7_leastOne_150 : decode cX7_leastOne 150 = .ok (.goto (-116), 3) := by decide +kernel
theorem dX7_leastOne_153 : decode cX7_leastOne 153 = .ok (.iinc 3 1, 3) := by decide +kernel
theorem dX7_leastOne_156 : decode cX7_leastOne 156 = .ok (.goto (-135), 3) := by decide +kernel
theorem dX7_leastOne_159 : decode cX7_leastOne 159 = .ok (.iinc 2 (-1), 3) := by decide +kernel
theorem dX7_leastOne_162 : decode cX7_leastOne 162 = .ok (.goto (-153), 3) := by decide +kernel
theorem dX7_leastOne_165 : decode cX7_leastOne 165 = .ok (.aload_n 0, 1) := by decide +kernel
theorem dX7_leastOne_166 : decode cX7_leastOne 166 = .ok (.aload_n 0, 1) := by decide +kernel
theorem dX7_leastOne_167 : decode cX7_leastOne 167 = .ok (.getfield 23, 3) := by decide +kernel
theorem dX7_leastOne_170 : decode cX7_leastOne 170 = .ok (.iload_n 1, 1) := by decide +kernel
theorem dX7_leastOne_171 : decode cX7_leastOne 171 = .ok (.iaload, 1) := by decide +kernel
theorem dX7_leastOne_172 : decode cX7_leastOne 172 = .ok (.aload_n 0, 1) := by decide +kernel
theorem dX7_leastOne_173 : decode cX7_leastOne 173 = .ok (.getfield 26, 3) := by decide +kernel
theorem dX7_leastOne_176 : decode cX7_leastOne 176 = .ok (.iload_n 1, 1) := by decide +kernel
theorem dX7_leastOne_177 : decode cX7_leastOne 177 = .ok (.iaload, 1) := by decide +kernel
theorem dX7_leastOne_178 : decode cX7_leastOne 178 = .ok (.iconst 0, 1) := by decide +kernel
theorem dX7_leastOne_179 : decode cX7_leastOne 179 = .ok (.invokevirtual 165, 3) := by decide +kernel
theorem dX7_leastOne_182 : decode cX7_leastOne 182 = .ok (.ireturn, 1) := by decide +kernel
theorem dX7_one_0 : decode cX7_one 0 = .ok (.aload_n 0, 1) := by decide +kernel
theorem dX7_one_1 : decode cX7_one 1 = .ok (.iload_n 1, 1) := by decide +kernel
theorem dX7_one_2 : decode cX7_one 2 = .ok (.invokevirtual 150, 3) := by decide +kernel
theorem dX7_one_5 : decode cX7_one 5 = .ok (.ifCond .eq 34, 3) := by decide +kernel
theorem dX7_one_8 : decode cX7_one 8 = .ok (.iload_n 2, 1) := by decide +kernel
theorem dX7_one_9 : decode cX7_one 9 = .ok (.bipush (-2), 2) := by decide +kernel
theorem dX7_one_11 : decode cX7_one 11 = .ok (.iconst (-1), 1) := by decide +kernel
theorem dX7_one_12 : decode cX7_one 12 = .ok (.invokestatic 85, 3) := by decide +kernel
theorem dX7_one_15 : decode cX7_one 15 = .ok (.ifCond .ne 26, 3) := by decide +kernel
theorem dX7_one_18 : decode cX7_one 18 = .ok (.iload_n 2, 1) := by decide +kernel
theorem dX7_one_19 : decode cX7_one 19 = .ok (.aload_n 0, 1) := by decide +kernel
theorem dX7_one_20 : decode cX7_one 20 = .ok (.getfield 23, 3) := by decide +kernel
theorem dX7_one_23 : decode cX7_one 23 = .ok (.iload_n 1, 1) := by decide +kernel
theorem dX7_one_24 : decode cX7_one 24 = .ok (.iaload, 1) := by decide +kernel
theorem dX7_one_25 : decode cX7_one 25 = .ok (.aload_n 0, 1) := by decide +kernel
theorem dX7_one_26 : decode cX7_one 26 = .ok (.getfield 17, 3) := by decide +kernel
theorem dX7_one_29 : decode cX7_one 29 = .ok (.iconst 0, 1) := by decide +kernel
theorem dX7_one_30 : decode cX7_one 30 = .ok (.iaload, 1) := by decide +kernel
theorem dX7_one_31 : decode cX7_one 31 = .ok (.iconst 1, 1) := by decide +kernel
theorem dX7_one_32 : decode cX7_one 32 = .ok (.isub, 1) := by decide +kernel
theorem dX7_one_33 : decode cX7_one 33 = .ok (.invokestatic 85, 3) := by decide +kernel
theorem dX7_one_36 : decode cX7_one 36 = .ok (.ifCond .ne 5, 3) := by decide +kernel
theorem dX7_one_39 : decode cX7_one 39 = .ok (.iconst (-1), 1) := by decide +kernel
theorem dX7_one_40 : decode cX7_one 40 = .ok (.ireturn, 1) := by decide +kernel
theorem dX7_one_41 : decode cX7_one 41 = .ok (.aload_n 0, 1) := by decide +kernel
theorem dX7_one_42 : decode cX7_one 42 = .ok (.iload_n 1, 1) := by decide +kernel
theorem dX7_one_43 : decode cX7_one 43 = .ok (.invokevirtual 173, 3) := by decide +kernel
theorem dX7_one_46 : decode cX7_one 46 = .ok (.istore_n 3, 1) := by decide +kernel
theorem dX7_one_47 : decode cX7_one 47 = .ok (.iload_n 3, 1) := by decide +kernel
theorem dX7_one_48 : decode cX7_one 48 = .ok (.ldc 164, 2) := by decide +kernel
theorem dX7_one_50 : decode cX7_one 50 = .ok (.if_icmp .lt 6, 3) := by decide +kernel
theorem dX7_one_53 : decode cX7_one 53 = .ok (.bipush (-9), 2) := by decide +kernel
theorem dX7_one_55 : decode cX7_one 55 = .ok (.ireturn, 1) := by decide +kernel
theorem dX7_one_56 : decode cX7_one 56 = .ok (.iload_n 2, 1) := by decide +kernel
theorem dX7_one_57 : decode cX7_one 57 = .ok (.ifCond .ge 20, 3) := by decide +kernel
theorem dX7_one_60 : decode cX7_one 60 = .ok (.iload_n 2, 1) := by decide +kernel
theorem dX7_one_61 : decode cX7_one 61 = .ok (.iconst (-1), 1) := by decide +kernel
theorem dX7_one_62 : decode cX7_one 62 = .ok (.if_icmp .ne 10, 3) := by decide +kernel
theorem dX7_one_65 : decode cX7_one 65 = .ok (.iload_n 3, 1) := by decide +kernel
theorem dX7_one_66 : decode cX7_one 66 = .ok (.bipush 100, 2) := by decide +kernel
theorem dX7_one_68 : decode cX7_one 68 = .ok (.idiv, 1) := by decide +kernel
theorem dX7_one_69 : decode cX7_one 69 = .ok (.goto 7, 3) := by decide +kernel
theorem dX7_one_72 : decode cX7_one 72 = .ok (.iload_n 3, 1) := by decide +kernel
theorem dX7_one_73 : decode cX7_one 73 = .ok (.bipush 100, 2) := by decide +kernel
theorem dX7_one_75 : decode cX7_one 75 = .ok (.irem, 1) := by decide +kernel
theorem dX7_one_76 : decode cX7_one 76 = .ok (.ireturn, 1) := by decide +kernel
theorem dX7_one_77 : decode cX7_one 77 = .ok (.aload_n 0, 1) := by decide +kernel
theorem dX7_one_78 : decode cX7_one 78 = .ok (.getfield 26, 3) := by decide +kernel
theorem dX7_one_81 : decode cX7_one 81 = .ok (.iload_n 1, 1) := by decide +kernel
theorem dX7_one_82 : decode cX7_one 82 = .ok (.iaload, 1) := by decide +kernel
theorem dX7_one_83 : decode cX7_one 83 = .ok (.istore 4, 2) := by decide +kernel
theorem dX7_one_85 : decode cX7_one 85 = .ok (.iconst 0, 1) := by decide +kernel
theorem dX7_one_86 : decode cX7_one 86 = .ok (.istore 5, 2) := by decide +kernel
theorem dX7_one_88 : decode cX7_one 88 = .ok (.aload_n 0, 1) := by decide +kernel
theorem dX7_one_89 : decode cX7_one 89 = .ok (.getfield 23, 3) := by decide +kernel
theorem dX7_one_92 : decode cX7_one 92 = .ok (.iload_n 1, 1) := by decide +kernel
theorem dX7_one_93 : decode cX7_one 93 = .ok (.iaload, 1) := by decide +kernel
theorem dX7_one_94 : decode cX7_one 94 = .ok (.istore 6, 2) := by decide +kernel
theorem dX7_one_96 : decode cX7_one 96 = .ok (.iload 6, 2) := by decide +kernel
theorem dX7_one_98 : decode cX7_one 98 = .ok (.iload_n 2, 1) := by decide +kernel
theorem dX7_one_99 : decode cX7_one 99 = .ok (.if_icmp .ge 56, 3) := by decide +kernel
theorem dX7_one_102 : decode cX7_one 102 = .ok (.iconst (-1), 1) := by decide +kernel
theorem dX7_one_103 : decode cX7_one 103 = .ok (.istore 7, 2) := by decide +kernel
theorem dX7_one_105 : decode cX7_one 105 = .ok (.aload_n 0, 1) := by decide +kernel
theorem dX7_one_106 : decode cX7_one 106 = .ok (.iload 6, 2) := by decide +kernel
theorem dX7_one_108 : decode cX7_one 108 = .ok (.iload 4, 2) := by decide +kernel
theorem dX7_one_110 : decode cX7_one 110 = .ok (.iload 5, 2) := by decide +kernel
theorem dX7_one_112 : decode cX7_one 112 = .ok (.iload 7, 2) := by decide +kernel
theorem dX7_one_114 : decode cX7_one 114 = .ok (.invokevirtual 169, 3) := by decide +kernel
theorem dX7_one_117 : decode cX7_one 117 = .ok (.aload_n 0, 1) := by decide +kernel
theorem dX7_one_118 : decode cX7_one 118 = .ok (.iload 6, 2) := by decide +kernel
theorem dX7_one_120 : decode cX7_one 120 = .ok (.iload 4, 2) := by decide +kernel
theorem dX7_one_122 : decode cX7_one 122 = .ok (.iload 5, 2) := by decide +kernel
theorem dX7_one_124 : decode cX7_one 124 = .ok (.invokevirtual 165, 3) := by decide +kernel
theorem dX7_one_127 : decode cX7_one 127 = .ok (.if_icmp .eq 9, 3) := by decide +kernel
theorem dX7_one_130 : decode cX7_one 130 = .ok (.iinc 7 1, 3) := by decide +kernel
theorem dX7_one_133 : decode cX7_one 133 = .ok (.goto (-28), 3) := by decide +kernel
theorem dX7_one_136 : decode cX7_one 136 = .ok (.iload 4, 2) := by decide +kernel
theorem dX7_one_138 : decode cX7_one 138 = .ok (.iload 7, 2) := by decide +kernel
theorem dX7_one_140 : decode cX7_one 140 = .ok (.iadd, 1) := by decide +kernel
theorem dX7_one_141 : decode cX7_one 141 = .ok (.istore 4, 2) := by decide +kernel
theorem dX7_one_143 : decode cX7_one 143 = .ok (.iload 7, 2) := by decide +kernel
theorem dX7_one_145 : decode cX7_one 145 = .ok (.iconst 2, 1) := by decide +kernel
theorem dX7_one_146 : decode cX7_one 146 = .ok (.iadd, 1) := by decide +kernel
theorem dX7_one_147 : decode cX7_one 147 = .ok (.istore 5, 2) := by decide +kernel
theorem dX7_one_149 : decode cX7_one 149 = .ok (.iinc 6 1, 3) := by decide +kernel
theorem dX7_one_152 : decode cX7_one 152 = .ok (.goto (-56), 3) := by decide +kernel
theorem dX7_one_155 : decode cX7_one 155 = .ok (.iload 4, 2) := by decide +kernel
theorem dX7_one_157 : decode cX7_one 157 = .ok (.ireturn, 1) := by decide +kernel
theorem dX7_add_0 : decode cX7_add 0 = .ok (.aload_n 0, 1) := by decide +kernel
theorem dX7_add_1 : decode cX7_add 1 = .ok (.getfield 54, 3) := by decide +kernel
theorem dX7_add_4 : decode cX7_add 4 = .ok (.aload_n 0, 1) := by decide +kernel
theorem dX7_add_5 : decode cX7_add 5 = .ok (.getfield 177, 3) := by decide +kernel
theorem dX7_add_8 : decode cX7_add 8 = .ok (.iload_n 1, 1) := by decide +kernel
theorem dX7_add_9 : decode cX7_add 9 = .ok (.iastore, 1) := by decide +kernel
theorem dX7_add_10 : decode cX7_add 10 = .ok (.aload_n 0, 1) := by decide +kernel
theorem dX7_add_11 : decode cX7_add 11 = .ok (.getfield 57, 3) := by decide +kernel
theorem dX7_add_14 : decode cX7_add 14 = .ok (.aload_n 0, 1) := by decide +kernel
theorem dX7_add_15 : decode cX7_add 15 = .ok (.getfield 177, 3) := by decide +kernel
theorem dX7_add_18 : decode cX7_add 18 = .ok (.iload_n 2, 1) := by decide +kernel
theorem dX7_add_19 : decode cX7_add 19 = .ok (.iastore, 1) := by decide +kernel
theorem dX7_add_20 : decode cX7_add 20 = .ok (.aload_n 0, 1) := by decide +kernel
theorem dX7_add_21 : decode cX7_add 21 = .ok (.getfield 60, 3) := by decide +kernel
theorem dX7_add_24 : decode cX7_add 24 = .ok (.aload_n 0, 1) := by decide +kernel
theorem dX7_add_25 : decode cX7_add 25 = .ok (.getfield 177, 3) := by decide +kernel
theorem dX7_add_28 : decode cX7_add 28 = .ok (.iload_n 3, 1) := by decide +kernel
theorem dX7_add_29 : decode cX7_add 29 = .ok (.iastore, 1) := by decide +kernel
theorem dX7_add_30 : decode cX7_add 30 = .ok (.aload_n 0, 1) := by decide +kernel
theorem dX7_add_31 : decode cX7_add 31 = .ok (.dup, 1) := by decide +kernel
theorem dX7_add_32 : decode cX7_add 32 = .ok (.getfield 177, 3) := by decide +kernel
theorem dX7_add_35 : decode cX7_add 35 = .ok (.iconst 1, 1) := by decide +kernel
theorem dX7_add_36 : decode cX7_add 36 = .ok (.iadd, 1) := by decide +kernel
theorem dX7_add_37 : decode cX7_add 37 = .ok (.putfield 177, 3) := by decide +kernel
theorem dX7_add_40 : decode cX7_add 40 = .ok (.aload_n 0, 1) := by decide +kernel
theorem dX7_add_41 : decode cX7_add 41 = .ok (.iload_n 1, 1) := by decide +kernel
theorem dX7_add_42 : decode cX7_add 42 = .ok (.aload_n 0, 1) := by decide +kernel
theorem dX7_add_43 : decode cX7_add 43 = .ok (.getfield 180, 3) := by decide +kernel
theorem dX7_add_46 : decode cX7_add 46 = .ok (.if_icmp .ge 7, 3) := by decide +kernel
theorem dX7_add_49 : decode cX7_add 49 = .ok (.iload_n 1, 1) := by decide +kernel
theorem dX7_add_50 : decode cX7_add 50 = .ok (.goto 7, 3) := by decide +kernel
theorem dX7_add_53 : decode cX7_add 53 = .ok (.aload_n 0, 1) := by decide +kernel
theorem dX7_add_54 : decode cX7_add 54 = .ok (.getfield 180, 3) := by decide +kernel
theorem dX7_add_57 : decode cX7_add 57 = .ok (.putfield 180, 3) := by decide +kernel
theorem dX7_add_60 : decode cX7_add 60 = .ok (.return_, 1) := by decide +kernel
theorem dX7_gather_0 : decode cX7_gather 0 = .ok (.aload_n 0, 1) := by decide +kernel
theorem dX7_gather_1 : decode cX7_gather 1 = .ok (.iconst 0, 1) := by decide +kernel
theorem dX7_gather_2 : decode cX7_gather 2 = .ok (.putfield 177, 3) := by decide +kernel
theorem dX7_gather_5 : decode cX7_gather 5 = .ok (.aload_n 0, 1) := by decide +kernel
theorem dX7_gather_6 : decode cX7_gather 6 = .ok (.bipush 16, 2) := by decide +kernel
theorem dX7_gather_8 : decode cX7_gather 8 = .ok (.putfield 180, 3) := by decide +kernel
theorem dX7_gather_11 : decode cX7_gather 11 = .ok (.aload_n 0, 1) := by decide +kernel
theorem dX7_gather_12 : decode cX7_gather 12 = .ok (.iconst 0, 1) := by decide +kernel
theorem dX7_gather_13 : decode cX7_gather 13 = .ok (.putfield 183, 3) := by decide +kernel
theorem dX7_gather_16 : decode cX7_gather 16 = .ok (.iconst 0, 1) := by decide +kernel
theorem dX7_gather_17 : decode cX7_gather 17 = .ok (.istore_n 2, 1) := by decide +kernel
theorem dX7_gather_18 : decode cX7_gather 18 = .ok (.iload_n 2, 1) := by decide +kernel
theorem dX7_gather_19 : decode cX7_gather 19 = .ok (.iconst 3, 1) := by decide +kernel
theorem dX7_gather_20 : decode cX7_gather 20 = .ok (.if_icmp .ge 35, 3) := by decide +kernel
theorem dX7_gather_23 : decode cX7_gather 23 = .ok (.iload_n 1, 1) := by decide +kernel
theorem dX7_gather_24 : decode cX7_gather 24 = .ok (.iload_n 2, 1) := by decide +kernel
theorem dX7_gather_25 : decode cX7_gather 25 = .ok (.ishr, 1) := by decide +kernel
theorem dX7_gather_26 : decode cX7_gather 26 = .ok (.iconst 1, 1) := by decide +kernel
theorem dX7_gather_27 : decode cX7_gather 27 = .ok (.iand, 1) := by decide +kernel
theorem dX7_gather_28 : decode cX7_gather 28 = .ok (.iconst 1, 1) := by decide +kernel
theorem dX7_gather_29 : decode cX7_gather 29 = .ok (.if_icmp .ne 20, 3) := by decide +kernel
theorem dX7_gather_32 : decode cX7_gather 32 = .ok (.aload_n 0, 1) := by decide +kernel
theorem dX7_gather_33 : decode cX7_gather 33 = .ok (.aload_n 0, 1) := by decide +kernel
theorem dX7_gather_34 : decode cX7_gather 34 = .ok (.getfield 23, 3) := by decide +kernel
theorem dX7_gather_37 : decode cX7_gather 37 = .ok (.iload_n 2, 1) := by decide +kernel
theorem dX7_gather_38 : decode cX7_gather 38 = .ok (.iaload, 1) := by decide +kernel
theorem dX7_gather_39 : decode cX7_gather 39 = .ok (.aload_n 0, 1) := by decide +kernel
theorem dX7_gather_40 : decode cX7_gather 40 = .ok (.getfield 26, 3) := by decide +kernel
theorem dX7_gather_43 : decode cX7_gather 43 = .ok (.iload_n 2, 1) := by decide +kernel
theorem dX7_gather_44 : decode cX7_gather 44 = .ok (.iaload, 1) := by decide +kernel
theorem dX7_gather_45 : decode cX7_gather 45 = .ok (.iconst (-1), 1) := by decide +kernel
theorem dX7_gather_46 : decode cX7_gather 46 = .ok (.invokevirtual 186, 3) := by decide +kernel
theorem dX7_gather_49 : decode cX7_gather 49 = .ok (.iinc 2 1, 3) := by decide +kernel
theorem dX7_gather_52 : decode cX7_gather 52 = .ok (.goto (-34), 3) := by decide +kernel
theorem dX7_gather_55 : decode cX7_gather 55 = .ok (.return_, 1) := by decide +kernel
theorem dX7_placeIn_0 : decode cX7_placeIn 0 = .ok (.iload_n 1, 1) := by decide +kernel
theorem dX7_placeIn_1 : decode cX7_placeIn 1 = .ok (.aload_n 0, 1) := by decide +kernel
theorem dX7_placeIn_2 : decode cX7_placeIn 2 = .ok (.getfield 66, 3) := by decide +kernel
theorem dX7_placeIn_5 : decode cX7_placeIn 5 = .ok (.iload_n 2, 1) := by decide +kernel
theorem dX7_placeIn_6 : decode cX7_placeIn 6 = .ok (.iaload, 1) := by decide +kernel
theorem dX7_placeIn_7 : decode cX7_placeIn 7 = .ok (.idiv, 1) := by decide +kernel
theorem dX7_placeIn_8 : decode cX7_placeIn 8 = .ok (.bipush 10, 2) := by decide +kernel
theorem dX7_placeIn_10 : decode cX7_placeIn 10 = .ok (.irem, 1) := by decide +kernel
theorem dX7_placeIn_11 : decode cX7_placeIn 11 = .ok (.ireturn, 1) := by decide +kernel
theorem dX7_mayBe_0 : decode cX7_mayBe 0 = .ok (.iload_n 2, 1) := by decide +kernel
theorem dX7_mayBe_1 : decode cX7_mayBe 1 = .ok (.aload_n 0, 1) := by decide +kernel
theorem dX7_mayBe_2 : decode cX7_mayBe 2 = .ok (.getfield 54, 3) := by decide +kernel
theorem dX7_mayBe_5 : decode cX7_mayBe 5 = .ok (.iload_n 1, 1) := by decide +kernel
theorem dX7_mayBe_6 : decode cX7_mayBe 6 = .ok (.iaload, 1) := by decide +kernel
theorem dX7_mayBe_7 : decode cX7_mayBe 7 = .ok (.if_icmp .ge 13, 3) := by decide +kernel
theorem dX7_mayBe_10 : decode cX7_mayBe 10 = .ok (.iload_n 3, 1) := by decide +kernel
theorem dX7_mayBe_11 : decode cX7_mayBe 11 = .ok (.ifCond .ne 7, 3) := by decide +kernel
theorem dX7_mayBe_14 : decode cX7_mayBe 14 = .ok (.iconst 1, 1) := by decide +kernel
theorem dX7_mayBe_15 : decode cX7_mayBe 15 = .ok (.goto 4, 3) := by decide +kernel
theorem dX7_mayBe_18 : decode cX7_mayBe 18 = .ok (.iconst 0, 1) := by decide +kernel
theorem dX7_mayBe_19 : decode cX7_mayBe 19 = .ok (.ireturn, 1) := by decide +kernel
theorem dX7_mayBe_20 : decode cX7_mayBe 20 = .ok (.aload_n 0, 1) := by decide +kernel
theorem dX7_mayBe_21 : decode cX7_mayBe 21 = .ok (.iload_n 3, 1) := by decide +kernel
theorem dX7_mayBe_22 : decode cX7_mayBe 22 = .ok (.invokevirtual 136, 3) := by decide +kernel
theorem dX7_mayBe_25 : decode cX7_mayBe 25 = .ok (.ifCond .eq 47, 3) := by decide +kernel
theorem dX7_mayBe_28 : decode cX7_mayBe 28 = .ok (.aload_n 0, 1) := by decide +kernel
theorem dX7_mayBe_29 : decode cX7_mayBe 29 = .ok (.iload_n 2, 1) := by decide +kernel
theorem dX7_mayBe_30 : decode cX7_mayBe 30 = .ok (.iload_n 3, 1) := by decide +kernel
theorem dX7_mayBe_31 : decode cX7_mayBe 31 = .ok (.invokevirtual 143, 3) := by decide +kernel
theorem dX7_mayBe_34 : decode cX7_mayBe 34 = .ok (.ifCond .ne 38, 3) := by decide +kernel
theorem dX7_mayBe_37 : decode cX7_mayBe 37 = .ok (.aload_n 0, 1) := by decide +kernel
theorem dX7_mayBe_38 : decode cX7_mayBe 38 = .ok (.getfield 183, 3) := by decide +kernel
theorem dX7_mayBe_41 : decode cX7_mayBe 41 = .ok (.iload_n 3, 1) := by decide +kernel
theorem dX7_mayBe_42 : decode cX7_mayBe 42 = .ok (.ishr, 1) := by decide +kernel
theorem dX7_mayBe_43 : decode cX7_mayBe 43 = .ok (.iconst 1, 1) := by decide +kernel
theorem dX7_mayBe_44 : decode cX7_mayBe 44 = .ok (.iand, 1) := by decide +kernel
theorem dX7_mayBe_45 : decode cX7_mayBe 45 = .ok (.ifCond .ne 27, 3) := by decide +kernel
theorem dX7_mayBe_48 : decode cX7_mayBe 48 = .ok (.iload_n 2, 1) := by decide +kernel
theorem dX7_mayBe_49 : decode cX7_mayBe 49 = .ok (.aload_n 0, 1) := by decide +kernel
theorem dX7_mayBe_50 : decode cX7_mayBe 50 = .ok (.getfield 54, 3) := by decide +kernel
theorem dX7_mayBe_53 : decode cX7_mayBe 53 = .ok (.iload_n 1, 1) := by decide +kernel
theorem dX7_mayBe_54 : decode cX7_mayBe 54 = .ok (.iaload, 1) := by decide +kernel
theorem dX7_mayBe_55 : decode cX7_mayBe 55 = .ok (.if_icmp .gt 13, 3) := by decide +kernel
theorem dX7_mayBe_58 : decode cX7_mayBe 58 = .ok (.iload_n 3, 1) := by decide +kernel
theorem dX7_mayBe_59 : decode cX7_mayBe 59 = .ok (.aload_n 0, 1) := by decide +kernel
theorem dX7_mayBe_60 : decode cX7_mayBe 60 = .ok (.getfield 57, 3) := by decide +kernel
theorem dX7_mayBe_63 : decode cX7_mayBe 63 = .ok (.iload_n 1, 1) := by decide +kernel
theorem dX7_mayBe_64 : decode cX7_mayBe 64 = .ok (.iaload, 1) := by decide +kernel
theorem dX7_mayBe_65 : decode cX7_mayBe 65 = .ok (.if_icmp .ne 7, 3) := by decide +kernel
theorem dX7_mayBe_68 : decode cX7_mayBe 68 = .ok (.iconst 1, 1) := by decide +kernel
theorem dX7_mayBe_69 : decode cX7_mayBe 69 = .ok (.goto 4, 3) := by decide +kernel
theorem dX7_mayBe_72 : decode cX7_mayBe 72 = .ok (.iconst 0, 1) := by decide +kernel
theorem dX7_mayBe_73 : decode cX7_mayBe 73 = .ok (.istore 4, 2) := by decide +kernel
theorem dX7_mayBe_75 : decode cX7_mayBe 75 = .ok (.iload 4, 2) := by decide +kernel
theorem dX7_mayBe_77 : decode cX7_mayBe 77 = .ok (.ifCond .eq 37, 3) := by decide +kernel
theorem dX7_mayBe_80 : decode cX7_mayBe 80 = .ok (.aload_n 0, 1) := by decide +kernel
theorem dX7_mayBe_81 : decode cX7_mayBe 81 = .ok (.getfield 60, 3) := by decide +kernel
theorem dX7_mayBe_84 : decode cX7_mayBe 84 = .ok (.iload_n 1, 1) := by decide +kernel
theorem dX7_mayBe_85 : decode cX7_mayBe 85 = .ok (.iaload, 1) := by decide +kernel
theorem dX7_mayBe_86 : decode cX7_mayBe 86 = .ok (.iconst (-1), 1) := by decide +kernel
theorem dX7_mayBe_87 : decode cX7_mayBe 87 = .ok (.if_icmp .eq 23, 3) := by decide +kernel
theorem dX7_mayBe_90 : decode cX7_mayBe 90 = .ok (.aload_n 0, 1) := by decide +kernel
theorem dX7_mayBe_91 : decode cX7_mayBe 91 = .ok (.getfield 69, 3) := by decide +kernel
theorem dX7_mayBe_94 : decode cX7_mayBe 94 = .ok (.bipush 16, 2) := by decide +kernel
theorem dX7_mayBe_96 : decode cX7_mayBe 96 = .ok (.aload_n 0, 1) := by decide +kernel
theorem dX7_mayBe_97 : decode cX7_mayBe 97 = .ok (.getfield 60, 3) := by decide +kernel
theorem dX7_mayBe_100 : decode cX7_mayBe 100 = .ok (.iload_n 1, 1) := by decide +kernel
theorem dX7_mayBe_101 : decode cX7_mayBe 101 = .ok (.iaload, 1) := by decide +kernel
theorem dX7_mayBe_102 : decode cX7_mayBe 102 = .ok (.imul, 1) := by decide +kernel
theorem dX7_mayBe_103 : decode cX7_mayBe 103 = .ok (.iload_n 2, 1) := by decide +kernel
theorem dX7_mayBe_104 : decode cX7_mayBe 104 = .ok (.iadd, 1) := by decide +kernel
theorem dX7_mayBe_105 : decode cX7_mayBe 105 = .ok (.iaload, 1) := by decide +kernel
theorem dX7_mayBe_106 : decode cX7_mayBe 106 = .ok (.iload_n 3, 1) := by decide +kernel
theorem dX7_mayBe_107 : decode cX7_mayBe 107 = .ok (.if_icmp .ne 7, 3) := by decide +kernel
theorem dX7_mayBe_110 : decode cX7_mayBe 110 = .ok (.iconst 1, 1) := by decide +kernel
theorem dX7_mayBe_111 : decode cX7_mayBe 111 = .ok (.goto 4, 3) := by decide +kernel
theorem dX7_mayBe_114 : decode cX7_mayBe 114 = .ok (.iconst 0, 1) := by decide +kernel
theorem dX7_mayBe_115 : decode cX7_mayBe 115 = .ok (.ireturn, 1) := by decide +kernel
theorem dX7_isSpot_0 : decode cX7_isSpot 0 = .ok (.iconst 1, 1) := by decide +kernel
theorem dX7_isSpot_1 : decode cX7_isSpot 1 = .ok (.istore_n 3, 1) := by decide +kernel
theorem dX7_isSpot_2 : decode cX7_isSpot 2 = .ok (.iconst 0, 1) := by decide +kernel
theorem dX7_isSpot_3 : decode cX7_isSpot 3 = .ok (.istore 4, 2) := by decide +kernel
theorem dX7_isSpot_5 : decode cX7_isSpot 5 = .ok (.iload 4, 2) := by decide +kernel
theorem dX7_isSpot_7 : decode cX7_isSpot 7 = .ok (.aload_n 0, 1) := by decide +kernel
theorem dX7_isSpot_8 : decode cX7_isSpot 8 = .ok (.getfield 177, 3) := by decide +kernel
theorem dX7_isSpot_11 : decode cX7_isSpot 11 = .ok (.if_icmp .ge 115, 3) := by decide +kernel
theorem dX7_isSpot_14 : decode cX7_isSpot 14 = .ok (.iload_n 3, 1) := by decide +kernel
theorem dX7_isSpot_15 : decode cX7_isSpot 15 = .ok (.ifCond .eq 111, 3) := by decide +kernel
theorem dX7_isSpot_18 : decode cX7_isSpot 18 = .ok (.aload_n 0, 1) := by decide +kernel
theorem dX7_isSpot_19 : decode cX7_isSpot 19 = .ok (.iload 4, 2) := by decide +kernel
theorem dX7_isSpot_21 : decode cX7_isSpot 21 = .ok (.iload_n 1, 1) := by decide +kernel
theorem dX7_isSpot_22 : decode cX7_isSpot 22 = .ok (.aload_n 0, 1) := by decide +kernel
theorem dX7_isSpot_23 : decode cX7_isSpot 23 = .ok (.iload_n 2, 1) := by decide +kernel
theorem dX7_isSpot_24 : decode cX7_isSpot 24 = .ok (.iload 4, 2) := by decide +kernel
theorem dX7_isSpot_26 : decode cX7_isSpot 26 = .ok (.invokevirtual 190, 3) := by decide +kernel
theorem dX7_isSpot_29 : decode cX7_isSpot 29 = .ok (.invokevirtual 193, 3) := by decide +kernel
theorem dX7_isSpot_32 : decode cX7_isSpot 32 = .ok (.istore_n 3, 1) := by decide +kernel
theorem dX7_isSpot_33 : decode cX7_isSpot 33 = .ok (.iconst 0, 1) := by decide +kernel
theorem dX7_isSpot_34 : decode cX7_isSpot 34 = .ok (.istore 5, 2) := by decide +kernel
theorem dX7_isSpot_36 : decode cX7_isSpot 36 = .ok (.iload 5, 2) := by decide +kernel
theorem dX7_isSpot_38 : decode cX7_isSpot 38 = .ok (.iload 4, 2) := by decide +kernel
theorem dX7_isSpot_40 : decode cX7_isSpot 40 = .ok (.if_icmp .ge 80, 3) := by decide +kernel
theorem dX7_isSpot_43 : decode cX7_isSpot 43 = .ok (.iload_n 3, 1) := by decide +kernel
theorem dX7_isSpot_44 : decode cX7_isSpot 44 = .ok (.ifCond .eq 76, 3) := by decide +kernel
theorem dX7_isSpot_47 : decode cX7_isSpot 47 = .ok (.iload_n 1, 1) := by decide +kernel
theorem dX7_isSpot_48 : decode cX7_isSpot 48 = .ok (.aload_n 0, 1) := by decide +kernel
theorem dX7_isSpot_49 : decode cX7_isSpot 49 = .ok (.getfield 54, 3) := by decide +kernel
theorem dX7_isSpot_52 : decode cX7_isSpot 52 = .ok (.iload 4, 2) := by decide +kernel
theorem dX7_isSpot_54 : decode cX7_isSpot 54 = .ok (.iaload, 1) := by decide +kernel
theorem dX7_isSpot_55 : decode cX7_isSpot 55 = .ok (.if_icmp .lt 65, 3) := by decide +kernel
theorem dX7_isSpot_58 : decode cX7_isSpot 58 = .ok (.aload_n 0, 1) := by decide +kernel
theorem dX7_isSpot_59 : decode cX7_isSpot 59 = .ok (.iload_n 2, 1) := by decide +kernel
theorem dX7_isSpot_60 : decode cX7_isSpot 60 = .ok (.iload 4, 2) := by decide +kernel
theorem dX7_isSpot_62 : decode cX7_isSpot 62 = .ok (.invokevirtual 190, 3) := by decide +kernel
theorem dX7_isSpot_65 : decode cX7_isSpot 65 = .ok (.aload_n 0, 1) := by decide +kernel
theorem dX7_isSpot_66 : decode cX7_isSpot 66 = .ok (.iload_n 2, 1) := by decide +kernel
theorem dX7_isSpot_67 : decode cX7_isSpot 67 = .ok (.iload 5, 2) := by decide +kernel
theorem dX7_isSpot_69 : decode cX7_isSpot 69 = .ok (.invokevirtual 190, 3) := by decide +kernel
theorem dX7_isSpot_72 : decode cX7_isSpot 72 = .ok (.isub, 1) := by decide +kernel
theorem dX7_isSpot_73 : decode cX7_isSpot 73 = .ok (.istore 6, 2) := by decide +kernel
theorem dX7_isSpot_75 : decode cX7_isSpot 75 = .ok (.iload_n 1, 1) := by decide +kernel
theorem dX7_isSpot_76 : decode cX7_isSpot 76 = .ok (.aload_n 0, 1) := by decide +kernel
theorem dX7_isSpot_77 : decode cX7_isSpot 77 = .ok (.getfield 54, 3) := by decide +kernel
theorem dX7_isSpot_80 : decode cX7_isSpot 80 = .ok (.iload 5, 2) := by decide +kernel
theorem dX7_isSpot_82 : decode cX7_isSpot 82 = .ok (.iaload, 1) := by decide +kernel
theorem dX7_isSpot_83 : decode cX7_isSpot 83 = .ok (.if_icmp .lt 25, 3) := by decide +kernel
theorem dX7_isSpot_86 : decode cX7_isSpot 86 = .ok (.iload 6, 2) := by decide +kernel
theorem dX7_isSpot_88 : decode cX7_isSpot 88 = .ok (.ifCond .ge 9, 3) := by decide +kernel
theorem dX7_isSpot_91 : decode cX7_isSpot 91 = .ok (.iload 6, 2) := by decide +kernel
theorem dX7_isSpot_93 : decode cX7_isSpot 93 = .ok (.ineg, 1) := by decide +kernel
theorem dX7_isSpot_94 : decode cX7_isSpot 94 = .ok (.goto 5, 3) := by decide +kernel
theorem dX7_isSpot_97 : decode cX7_isSpot 97 = .ok (.iload 6, 2) := by decide +kernel
theorem dX7_isSpot_99 : decode cX7_isSpot 99 = .ok (.aload_n 0, 1) := by decide +kernel
theorem dX7_isSpot_100 : decode cX7_isSpot 100 = .ok (.getfield 38, 3) := by decide +kernel
theorem dX7_isSpot_103 : decode cX7_isSpot 103 = .ok (.iconst 0, 1) := by decide +kernel
theorem dX7_isSpot_104 : decode cX7_isSpot 104 = .ok (.iaload, 1) := by decide +kernel
theorem dX7_isSpot_105 : decode cX7_isSpot 105 = .ok (.if_icmp .le 7, 3) := by decide +kernel
theorem dX7_isSpot_108 : decode cX7_isSpot 108 = .ok (.iconst 1, 1) := by decide +kernel
theorem dX7_isSpot_109 : decode cX7_isSpot 109 = .ok (.goto 4, 3) := by decide +kernel
theorem dX7_isSpot_112 : decode cX7_isSpot 112 = .ok (.iconst 0, 1) := by decide +kernel
theorem dX7_isSpot_113 : decode cX7_isSpot 113 = .ok (.istore_n 3, 1) := by decide +kernel
theorem dX7_isSpot_114 : decode cX7_isSpot 114 = .ok (.iinc 5 1, 3) := by decide +kernel
theorem dX7_isSpot_117 : decode cX7_isSpot 117 = .ok (.goto (-81), 3) := by decide +kernel
theorem dX7_isSpot_120 : decode cX7_isSpot 120 = .ok (.iinc 4 1, 3) := by decide +kernel
theorem dX7_isSpot_123 : decode cX7_isSpot 123 = .ok (.goto (-118), 3) := by decide +kernel
theorem dX7_isSpot_126 : decode cX7_isSpot 126 = .ok (.iload_n 3, 1) := by decide +kernel
theorem dX7_isSpot_127 : decode cX7_isSpot 127 = .ok (.ireturn, 1) := by decide +kernel
theorem dX7_breadthOf_0 : decode cX7_breadthOf 0 = .ok (.bipush 10, 2) := by decide +kernel
theorem dX7_breadthOf_2 : decode cX7_breadthOf 2 = .ok (.istore_n 2, 1) := by decide +kernel
theorem dX7_breadthOf_3 : decode cX7_breadthOf 3 = .ok (.iconst 0, 1) := by decide +kernel
theorem dX7_breadthOf_4 : decode cX7_breadthOf 4 = .ok (.istore_n 3, 1) := by decide +kernel
theorem dX7_breadthOf_5 : decode cX7_breadthOf 5 = .ok (.iconst 0, 1) := by decide +kernel
theorem dX7_breadthOf_6 : decode cX7_breadthOf 6 = .ok (.istore 4, 2) := by decide +kernel
theorem dX7_breadthOf_8 : decode cX7_breadthOf 8 = .ok (.iload 4, 2) := by decide +kernel
theorem dX7_breadthOf_10 : decode cX7_breadthOf 10 = .ok (.aload_n 0, 1) := by decide +kernel
theorem dX7_breadthOf_11 : decode cX7_breadthOf 11 = .ok (.getfield 177, 3) := by decide +kernel
theorem dX7_breadthOf_14 : decode cX7_breadthOf 14 = .ok (.if_icmp .ge 55, 3) := by decide +kernel
theorem dX7_breadthOf_17 : decode cX7_breadthOf 17 = .ok (.aload_n 0, 1) := by decide +kernel
theorem dX7_breadthOf_18 : decode cX7_breadthOf 18 = .ok (.iload_n 1, 1) := by decide +kernel
theorem dX7_breadthOf_19 : decode cX7_breadthOf 19 = .ok (.iload 4, 2) := by decide +kernel
theorem dX7_breadthOf_21 : decode cX7_breadthOf 21 = .ok (.invokevirtual 190, 3) := by decide +kernel
theorem dX7_breadthOf_24 : decode cX7_breadthOf 24 = .ok (.iload_n 2, 1) := by decide +kernel
theorem dX7_breadthOf_25 : decode cX7_breadthOf 25 = .ok (.if_icmp .ge 13, 3) := by decide +kernel
theorem dX7_breadthOf_28 : decode cX7_breadthOf 28 = .ok (.aload_n 0, 1) := by decide +kernel
theorem dX7_breadthOf_29 : decode cX7_breadthOf 29 = .ok (.iload_n 1, 1) := by decide +kernel
theorem dX7_breadthOf_30 : decode cX7_breadthOf 30 = .ok (.iload 4, 2) := by decide +kernel
theorem dX7_breadthOf_32 : decode cX7_breadthOf 32 = .ok (.invokevirtual 190, 3) := by decide +kernel
theorem dX7_breadthOf_35 : decode cX7_breadthOf 35 = .ok (.goto 4, 3) := by decide +kernel
theorem dX7_breadthOf_38 : decode cX7_breadthOf 38 = .ok (.iload_n 2, 1) := by decide +kernel
theorem dX7_breadthOf_39 : decode cX7_breadthOf 39 = .ok (.istore_n 2, 1) := by decide +kernel
theorem dX7_breadthOf_40 : decode cX7_breadthOf 40 = .ok (.aload_n 0, 1) := by decide +kernel
theorem dX7_breadthOf_41 : decode cX7_breadthOf 41 = .ok (.iload_n 1, 1) := by decide +kernel
theorem dX7_breadthOf_42 : decode cX7_breadthOf 42 = .ok (.iload 4, 2) := by decide +kernel
theorem dX7_breadthOf_44 : decode cX7_breadthOf 44 = .ok (.invokevirtual 190, 3) := by decide +kernel
theorem dX7_breadthOf_47 : decode cX7_breadthOf 47 = .ok (.iload_n 3, 1) := by decide +kernel
theorem dX7_breadthOf_48 : decode cX7_breadthOf 48 = .ok (.if_icmp .le 13, 3) := by decide +kernel
theorem dX7_breadthOf_51 : decode cX7_breadthOf 51 = .ok (.aload_n 0, 1) := by decide +kernel
theorem dX7_breadthOf_52 : decode cX7_breadthOf 52 = .ok (.iload_n 1, 1) := by decide +kernel
theorem dX7_breadthOf_53 : decode cX7_breadthOf 53 = .ok (.iload 4, 2) := by decide +kernel
theorem dX7_breadthOf_55 : decode cX7_breadthOf 55 = .ok (.invokevirtual 190, 3) := by decide +kernel
theorem dX7_breadthOf_58 : decode cX7_breadthOf 58 = .ok (.goto 4, 3) := by decide +kernel
theorem dX7_breadthOf_61 : decode cX7_breadthOf 61 = .ok (.iload_n 3, 1) := by decide +kernel
theorem dX7_breadthOf_62 : decode cX7_breadthOf 62 = .ok (.istore_n 3, 1) := by decide +kernel
theorem dX7_breadthOf_63 : decode cX7_breadthOf 63 = .ok (.iinc 4 1, 3) := by decide +kernel
theorem dX7_breadthOf_66 : decode cX7_breadthOf 66 = .ok (.goto (-58), 3) := by decide +kernel
theorem dX7_breadthOf_69 : decode cX7_breadthOf 69 = .ok (.iload_n 3, 1) := by decide +kernel
theorem dX7_breadthOf_70 : decode cX7_breadthOf 70 = .ok (.iload_n 2, 1) := by decide +kernel
theorem dX7_breadthOf_71 : decode cX7_breadthOf 71 = .ok (.isub, 1) := by decide +kernel
theorem dX7_breadthOf_72 : decode cX7_breadthOf 72 = .ok (.iconst 1, 1) := by decide +kernel
theorem dX7_breadthOf_73 : decode cX7_breadthOf 73 = .ok (.iadd, 1) := by decide +kernel
theorem dX7_breadthOf_74 : decode cX7_breadthOf 74 = .ok (.ireturn, 1) := by decide +kernel
theorem dX7_leansTo_0 : decode cX7_leansTo 0 = .ok (.iconst 0, 1) := by decide +kernel
theorem dX7_leansTo_1 : decode cX7_leansTo 1 = .ok (.istore 4, 2) := by decide +kernel
theorem dX7_leansTo_3 : decode cX7_leansTo 3 = .ok (.iconst 0, 1) := by decide +kernel
theorem dX7_leansTo_4 : decode cX7_leansTo 4 = .ok (.istore 5, 2) := by decide +kernel
theorem dX7_leansTo_6 : decode cX7_leansTo 6 = .ok (.iload 5, 2) := by decide +kernel
theorem dX7_leansTo_8 : decode cX7_leansTo 8 = .ok (.aload_n 0, 1) := by decide +kernel
theorem dX7_leansTo_9 : decode cX7_leansTo 9 = .ok (.getfield 177, 3) := by decide +kernel
theorem dX7_leansTo_12 : decode cX7_leansTo 12 = .ok (.if_icmp .ge 142, 3) := by decide +kernel
theorem dX7_leansTo_15 : decode cX7_leansTo 15 = .ok (.iload_n 1, 1) := by decide +kernel
theorem dX7_leansTo_16 : decode cX7_leansTo 16 = .ok (.aload_n 0, 1) := by decide +kernel
theorem dX7_leansTo_17 : decode cX7_leansTo 17 = .ok (.getfield 54, 3) := by decide +kernel
theorem dX7_leansTo_20 : decode cX7_leansTo 20 = .ok (.iload 5, 2) := by decide +kernel
theorem dX7_leansTo_22 : decode cX7_leansTo 22 = .ok (.iaload, 1) := by decide +kernel
theorem dX7_leansTo_23 : decode cX7_leansTo 23 = .ok (.if_icmp .lt 125, 3) := by decide +kernel
theorem dX7_leansTo_26 : decode cX7_leansTo 26 = .ok (.aload_n 0, 1) := by decide +kernel
theorem dX7_leansTo_27 : decode cX7_leansTo 27 = .ok (.iload_n 3, 1) := by decide +kernel
theorem dX7_leansTo_28 : decode cX7_leansTo 28 = .ok (.iload 5, 2) := by decide +kernel
theorem dX7_leansTo_30 : decode cX7_leansTo 30 = .ok (.invokevirtual 190, 3) := by decide +kernel
theorem dX7_leansTo_33 : decode cX7_leansTo 33 = .ok (.aload_n 0, 1) := by decide +kernel
theorem dX7_leansTo_34 : decode cX7_leansTo 34 = .ok (.iload_n 2, 1) := by decide +kernel
theorem dX7_leansTo_35 : decode cX7_leansTo 35 = .ok (.iload 5, 2) := by decide +kernel
theorem dX7_leansTo_37 : decode cX7_leansTo 37 = .ok (.invokevirtual 190, 3) := by decide +kernel
theorem dX7_leansTo_40 : decode cX7_leansTo 40 = .ok (.isub, 1) := by decide +kernel
theorem dX7_leansTo_41 : decode cX7_leansTo 41 = .ok (.istore 6, 2) := by decide +kernel
theorem dX7_leansTo_43 : decode cX7_leansTo 43 = .ok (.iload 6, 2) := by decide +kernel
theorem dX7_leansTo_45 : decode cX7_leansTo 45 = .ok (.iconst (-1), 1) := by decide +kernel
theorem dX7_leansTo_46 : decode cX7_leansTo 46 = .ok (.iconst 1, 1) := by decide +kernel
theorem dX7_leansTo_47 : decode cX7_leansTo 47 = .ok (.invokestatic 85, 3) := by decide +kernel
theorem dX7_leansTo_50 : decode cX7_leansTo 50 = .ok (.ifCond .ne 6, 3) := by decide +kernel
theorem dX7_leansTo_53 : decode cX7_leansTo 53 = .ok (.ldc 164, 2) := by decide +kernel
theorem dX7_leansTo_55 : decode cX7_leansTo 55 = .ok (.ireturn, 1) := by decide +kernel
theorem dX7_leansTo_56 : decode cX7_leansTo 56 = .ok (.iload 4, 2) := by decide +kernel
theorem dX7_leansTo_58 : decode cX7_leansTo 58 = .ok (.iload 6, 2) := by decide +kernel
theorem dX7_leansTo_60 : decode cX7_leansTo 60 = .ok (.ifCond .ne 7, 3) := by decide +kernel
theorem dX7_leansTo_63 : decode cX7_leansTo 63 = .ok (.iconst 0, 1) := by decide +kernel
theorem dX7_leansTo_64 : decode cX7_leansTo 64 = .ok (.goto 4, 3) := by decide +kernel
theorem dX7_leansTo_67 : decode cX7_leansTo 67 = .ok (.iconst 1, 1) := by decide +kernel
theorem dX7_leansTo_68 : decode cX7_leansTo 68 = .ok (.iadd, 1) := by decide +kernel
theorem dX7_leansTo_69 : decode cX7_leansTo 69 = .ok (.istore 4, 2) := by decide +kernel
theorem dX7_leansTo_71 : decode cX7_leansTo 71 = .ok (.iconst 0, 1) := by decide +kernel
theorem dX7_leansTo_72 : decode cX7_leansTo 72 = .ok (.istore 7, 2) := by decide +kernel
theorem dX7_leansTo_74 : decode cX7_leansTo 74 = .ok (.iload 7, 2) := by decide +kernel
theorem dX7_leansTo_76 : decode cX7_leansTo 76 = .ok (.iload 5, 2) := by decide +kernel
theorem dX7_leansTo_78 : decode cX7_leansTo 78 = .ok (.if_icmp .ge 70, 3) := by decide +kernel
theorem dX7_leansTo_81 : decode cX7_leansTo 81 = .ok (.iload_n 1, 1) := by decide +kernel
theorem dX7_leansTo_82 : decode cX7_leansTo 82 = .ok (.aload_n 0, 1) := by decide +kernel
theorem dX7_leansTo_83 : decode cX7_leansTo 83 = .ok (.getfield 54, 3) := by decide +kernel
theorem dX7_leansTo_86 : decode cX7_leansTo 86 = .ok (.iload 7, 2) := by decide +kernel
theorem dX7_leansTo_88 : decode cX7_leansTo 88 = .ok (.iaload, 1) := by decide +kernel
theorem dX7_leansTo_89 : decode cX7_leansTo 89 = .ok (.if_icmp .lt 53, 3) := by decide +kernel
theorem dX7_leansTo_92 : decode cX7_leansTo 92 = .ok (.aload_n 0, 1) := by decide +kernel
theorem dX7_leansTo_93 : decode cX7_leansTo 93 = .ok (.iload_n 2, 1) := by decide +kernel
theorem dX7_leansTo_94 : decode cX7_leansTo 94 = .ok (.iload 5, 2) := by decide +kernel
theorem dX7_leansTo_96 : decode cX7_leansTo 96 = .ok (.invokevirtual 190, 3) := by decide +kernel
theorem dX7_leansTo_99 : decode cX7_leansTo 99 = .ok (.aload_n 0, 1) := by decide +kernel
theorem dX7_leansTo_100 : decode cX7_leansTo 100 = .ok (.iload_n 2, 1) := by decide +kernel
theorem dX7_leansTo_101 : decode cX7_leansTo 101 = .ok (.iload 7, 2) := by decide +kernel
theorem dX7_leansTo_103 : decode cX7_leansTo 103 = .ok (.invokevirtual 190, 3) := by decide +kernel
theorem dX7_leansTo_106 : decode cX7_leansTo 106 = .ok (.if_icmp .ge 7, 3) := by decide +kernel
theorem dX7_leansTo_109 : decode cX7_leansTo 109 = .ok (.iconst 1, 1) := by decide +kernel
theorem dX7_leansTo_110 : decode cX7_leansTo 110 = .ok (.goto 4, 3) := by decide +kernel
theorem dX7_leansTo_113 : decode cX7_leansTo 113 = .ok (.iconst 0, 1) := by decide +kernel
theorem dX7_leansTo_114 : decode cX7_leansTo 114 = .ok (.aload_n 0, 1) := by decide +kernel
theorem dX7_leansTo_115 : decode cX7_leansTo 115 = .ok (.iload_n 3, 1) := by decide +kernel
theorem dX7_leansTo_116 : decode cX7_leansTo 116 = .ok (.iload 5, 2) := by decide +kernel
theorem dX7_leansTo_118 : decode cX7_leansTo 118 = .ok (.invokevirtual 190, 3) := by decide +kernel
theorem dX7_leansTo_121 : decode cX7_leansTo 121 = .ok (.aload_n 0, 1) := by decide +kernel
theorem dX7_leansTo_122 : decode cX7_leansTo 122 = .ok (.iload_n 3, 1) := by decide +kernel
theorem dX7_leansTo_123 : decode cX7_leansTo 123 = .ok (.iload 7, 2) := by decide +kernel
theorem dX7_leansTo_125 : decode cX7_leansTo 125 = .ok (.invokevirtual 190, 3) := by decide +kernel
theorem dX7_leansTo_128 : decode cX7_leansTo 128 = .ok (.if_icmp .ge 7, 3) := by decide +kernel
theorem dX7_leansTo_131 : decode cX7_leansTo 131 = .ok (.iconst 1, 1) := by decide +kernel
theorem dX7_leansTo_132 : decode cX7_leansTo 132 = .ok (.goto 4, 3) := by decide +kernel
theorem dX7_leansTo_135 : decode cX7_leansTo 135 = .ok (.iconst 0, 1) := by decide +kernel
theorem dX7_leansTo_136 : decode cX7_leansTo 136 = .ok (.if_icmp .eq 6, 3) := by decide +kernel
theorem dX7_leansTo_139 : decode cX7_leansTo 139 = .ok (.ldc 164, 2) := by decide +kernel
theorem dX7_leansTo_141 : decode cX7_leansTo 141 = .ok (.ireturn, 1) := by decide +kernel
theorem dX7_leansTo_142 : decode cX7_leansTo 142 = .ok (.iinc 7 1, 3) := by decide +kernel
theorem dX7_leansTo_145 : decode cX7_leansTo 145 = .ok (.goto (-71), 3) := by decide +kernel
theorem dX7_leansTo_148 : decode cX7_leansTo 148 = .ok (.iinc 5 1, 3) := by decide +kernel
theorem dX7_leansTo_151 : decode cX7_leansTo 151 = .ok (.goto (-145), 3) := by decide +kernel
theorem dX7_leansTo_154 : decode cX7_leansTo 154 = .ok (.iload 4, 2) := by decide +kernel
theorem dX7_leansTo_156 : decode cX7_leansTo 156 = .ok (.ireturn, 1) := by decide +kernel
theorem dX7_spots_0 : decode cX7_spots 0 = .ok (.aload_n 0, 1) := by decide +kernel
theorem dX7_spots_1 : decode cX7_spots 1 = .ok (.getfield 177, 3) := by decide +kernel
theorem dX7_spots_4 : decode cX7_spots 4 = .ok (.ifCond .ne 7, 3) := by decide +kernel
theorem dX7_spots_7 : decode cX7_spots 7 = .ok (.iconst 1, 1) := by decide +kernel
theorem dX7_spots_8 : decode cX7_spots 8 = .ok (.goto 32, 3) := by decide +kernel
theorem dX7_spots_11 : decode cX7_spots 11 = .ok (.aload_n 0, 1) := by decide +kernel
theorem dX7_spots_12 : decode cX7_spots 12 = .ok (.getfield 177, 3) := by decide +kernel
theorem dX7_spots_15 : decode cX7_spots 15 = .ok (.iconst 1, 1) := by decide +kernel
theorem dX7_spots_16 : decode cX7_spots 16 = .ok (.if_icmp .ne 8, 3) := by decide +kernel
theorem dX7_spots_19 : decode cX7_spots 19 = .ok (.bipush 10, 2) := by decide +kernel
theorem dX7_spots_21 : decode cX7_spots 21 = .ok (.goto 19, 3) := by decide +kernel
theorem dX7_spots_24 : decode cX7_spots 24 = .ok (.aload_n 0, 1) := by decide +kernel
theorem dX7_spots_25 : decode cX7_spots 25 = .ok (.getfield 177, 3) := by decide +kernel
theorem dX7_spots_28 : decode cX7_spots 28 = .ok (.iconst 2, 1) := by decide +kernel
theorem dX7_spots_29 : decode cX7_spots 29 = .ok (.if_icmp .ne 8, 3) := by decide +kernel
theorem dX7_spots_32 : decode cX7_spots 32 = .ok (.bipush 100, 2) := by decide +kernel
theorem dX7_spots_34 : decode cX7_spots 34 = .ok (.goto 6, 3) := by decide +kernel
theorem dX7_spots_37 : decode cX7_spots 37 = .ok (.sipush 1000, 3) := by decide +kernel
theorem dX7_spots_40 : decode cX7_spots 40 = .ok (.ireturn, 1) := by decide +kernel
theorem dX7_firstOf_0 : decode cX7_firstOf 0 = .ok (.iload_n 1, 1) := by decide +kernel
theorem dX7_firstOf_1 : decode cX7_firstOf 1 = .ok (.aload_n 0, 1) := by decide +kernel
theorem dX7_firstOf_2 : decode cX7_firstOf 2 = .ok (.getfield 177, 3) := by decide +kernel
theorem dX7_firstOf_5 : decode cX7_firstOf 5 = .ok (.if_icmp .ge 15, 3) := by decide +kernel
theorem dX7_firstOf_8 : decode cX7_firstOf 8 = .ok (.iload_n 2, 1) := by decide +kernel
theorem dX7_firstOf_9 : decode cX7_firstOf 9 = .ok (.iconst 1, 1) := by decide +kernel
theorem dX7_firstOf_10 : decode cX7_firstOf 10 = .ok (.iadd, 1) := by decide +kernel
theorem dX7_firstOf_11 : decode cX7_firstOf 11 = .ok (.aload_n 0, 1) := by decide +kernel
theorem dX7_firstOf_12 : decode cX7_firstOf 12 = .ok (.getfield 54, 3) := by decide +kernel
theorem dX7_firstOf_15 : decode cX7_firstOf 15 = .ok (.iload_n 1, 1) := by decide +kernel
theorem dX7_firstOf_16 : decode cX7_firstOf 16 = .ok (.iaload, 1) := by decide +kernel
theorem dX7_firstOf_17 : decode cX7_firstOf 17 = .ok (.if_icmp .ge 7, 3) := by decide +kernel
theorem dX7_firstOf_20 : decode cX7_firstOf 20 = .ok (.iconst 0, 1) := by decide +kernel
theorem dX7_firstOf_21 : decode cX7_firstOf 21 = .ok (.goto 45, 3) := by decide +kernel
theorem dX7_firstOf_24 : decode cX7_firstOf 24 = .ok (.iload_n 2, 1) := by decide +kernel
theorem dX7_firstOf_25 : decode cX7_firstOf 25 = .ok (.iconst 1, 1) := by decide +kernel
theorem dX7_firstOf_26 : decode cX7_firstOf 26 = .ok (.iadd, 1) := by decide +kernel
theorem dX7_firstOf_27 : decode cX7_firstOf 27 = .ok (.aload_n 0, 1) := by decide +kernel
theorem dX7_firstOf_28 : decode cX7_firstOf 28 = .ok (.getfield 54, 3) := by decide +kernel
theorem dX7_firstOf_31 : decode cX7_firstOf 31 = .ok (.iload_n 1, 1) := by decide +kernel
theorem dX7_firstOf_32 : decode cX7_firstOf 32 = .ok (.iaload, 1) := by decide +kernel
theorem dX7_firstOf_33 : decode cX7_firstOf 33 = .ok (.if_icmp .ne 12, 3) := by decide +kernel
theorem dX7_firstOf_36 : decode cX7_firstOf 36 = .ok (.aload_n 0, 1) := by decide +kernel
theorem dX7_firstOf_37 : decode cX7_firstOf 37 = .ok (.getfield 57, 3) := by decide +kernel
theorem dX7_firstOf_40 : decode cX7_firstOf 40 = .ok (.iload_n 1, 1) := by decide +kernel
theorem dX7_firstOf_41 : decode cX7_firstOf 41 = .ok (.iaload, 1) := by decide +kernel
theorem dX7_firstOf_42 : decode cX7_firstOf 42 = .ok (.goto 24, 3) := by decide +kernel
theorem dX7_firstOf_45 : decode cX7_firstOf 45 = .ok (.aload_n 0, 1) := by decide +kernel
theorem dX7_firstOf_46 : decode cX7_firstOf 46 = .ok (.iload_n 3, 1) := by decide +kernel
theorem dX7_firstOf_47 : decode cX7_firstOf 47 = .ok (.iload_n 1, 1) := by decide +kernel
theorem dX7_firstOf_48 : decode cX7_firstOf 48 = .ok (.invokevirtual 190, 3) := by decide +kernel
theorem dX7_firstOf_51 : decode cX7_firstOf 51 = .ok (.ifCond .le 14, 3) := by decide +kernel
theorem dX7_firstOf_54 : decode cX7_firstOf 54 = .ok (.aload_n 0, 1) := by decide +kernel
theorem dX7_firstOf_55 : decode cX7_firstOf 55 = .ok (.iload_n 3, 1) := by decide +kernel
theorem dX7_firstOf_56 : decode cX7_firstOf 56 = .ok (.iload_n 1, 1) := by decide +kernel
theorem dX7_firstOf_57 : decode cX7_firstOf 57 = .ok (.invokevirtual 190, 3) := by decide +kernel
theorem dX7_firstOf_60 : decode cX7_firstOf 60 = .ok (.iconst 1, 1) := by decide +kernel
theorem dX7_firstOf_61 : decode cX7_firstOf 61 = .ok (.isub, 1) := by decide +kernel
theorem dX7_firstOf_62 : decode cX7_firstOf 62 = .ok (.goto 4, 3) := by decide +kernel
theorem dX7_firstOf_65 : decode cX7_firstOf 65 = .ok (.iconst 0, 1) := by decide +kernel
theorem dX7_firstOf_66 : decode cX7_firstOf 66 = .ok (.ireturn, 1) := by decide +kernel
theorem dX7_lastOf_0 : decode cX7_lastOf 0 = .ok (.iload_n 1, 1) := by decide +kernel
theorem dX7_lastOf_1 : decode cX7_lastOf 1 = .ok (.aload_n 0, 1) := by decide +kernel
theorem dX7_lastOf_2 : decode cX7_lastOf 2 = .ok (.getfield 177, 3) := by decide +kernel
theorem dX7_lastOf_5 : decode cX7_lastOf 5 = .ok (.if_icmp .ge 15, 3) := by decide +kernel
theorem dX7_lastOf_8 : decode cX7_lastOf 8 = .ok (.iload_n 2, 1) := by decide +kernel
theorem dX7_lastOf_9 : decode cX7_lastOf 9 = .ok (.iconst 1, 1) := by decide +kernel
theorem dX7_lastOf_10 : decode cX7_lastOf 10 = .ok (.iadd, 1) := by decide +kernel
theorem dX7_lastOf_11 : decode cX7_lastOf 11 = .ok (.aload_n 0, 1) := by decide +kernel
theorem dX7_lastOf_12 : decode cX7_lastOf 12 = .ok (.getfield 54, 3) := by decide +kernel
theorem dX7_lastOf_15 : decode cX7_lastOf 15 = .ok (.iload_n 1, 1) := by decide +kernel
theorem dX7_lastOf_16 : decode cX7_lastOf 16 = .ok (.iaload, 1) := by decide +kernel
theorem dX7_lastOf_17 : decode cX7_lastOf 17 = .ok (.if_icmp .ge 7, 3) := by decide +kernel
theorem dX7_lastOf_20 : decode cX7_lastOf 20 = .ok (.iconst 0, 1) := by decide +kernel
theorem dX7_lastOf_21 : decode cX7_lastOf 21 = .ok (.goto 48, 3) := by decide +kernel
theorem dX7_lastOf_24 : decode cX7_lastOf 24 = .ok (.iload_n 2, 1) := by decide +kernel
theorem dX7_lastOf_25 : decode cX7_lastOf 25 = .ok (.iconst 1, 1) := by decide +kernel
theorem dX7_lastOf_26 : decode cX7_lastOf 26 = .ok (.iadd, 1) := by decide +kernel
theorem dX7_lastOf_27 : decode cX7_lastOf 27 = .ok (.aload_n 0, 1) := by decide +kernel
theorem dX7_lastOf_28 : decode cX7_lastOf 28 = .ok (.getfield 54, 3) := by decide +kernel
theorem dX7_lastOf_31 : decode cX7_lastOf 31 = .ok (.iload_n 1, 1) := by decide +kernel
theorem dX7_lastOf_32 : decode cX7_lastOf 32 = .ok (.iaload, 1) := by decide +kernel
theorem dX7_lastOf_33 : decode cX7_lastOf 33 = .ok (.if_icmp .ne 12, 3) := by decide +kernel
theorem dX7_lastOf_36 : decode cX7_lastOf 36 = .ok (.aload_n 0, 1) := by decide +kernel
theorem dX7_lastOf_37 : decode cX7_lastOf 37 = .ok (.getfield 57, 3) := by decide +kernel
theorem dX7_lastOf_40 : decode cX7_lastOf 40 = .ok (.iload_n 1, 1) := by decide +kernel
theorem dX7_lastOf_41 : decode cX7_lastOf 41 = .ok (.iaload, 1) := by decide +kernel
theorem dX7_lastOf_42 : decode cX7_lastOf 42 = .ok (.goto 27, 3) := by decide +kernel
theorem dX7_lastOf_45 : decode cX7_lastOf 45 = .ok (.aload_n 0, 1) := by decide +kernel
theorem dX7_lastOf_46 : decode cX7_lastOf 46 = .ok (.iload_n 3, 1) := by decide +kernel
theorem dX7_lastOf_47 : decode cX7_lastOf 47 = .ok (.iload_n 1, 1) := by decide +kernel
theorem dX7_lastOf_48 : decode cX7_lastOf 48 = .ok (.invokevirtual 190, 3) := by decide +kernel
theorem dX7_lastOf_51 : decode cX7_lastOf 51 = .ok (.bipush 9, 2) := by decide +kernel
theorem dX7_lastOf_53 : decode cX7_lastOf 53 = .ok (.if_icmp .ge 14, 3) := by decide +kernel
theorem dX7_lastOf_56 : decode cX7_lastOf 56 = .ok (.aload_n 0, 1) := by decide +kernel
theorem dX7_lastOf_57 : decode cX7_lastOf 57 = .ok (.iload_n 3, 1) := by decide +kernel
theorem dX7_lastOf_58 : decode cX7_lastOf 58 = .ok (.iload_n 1, 1) := by decide +kernel
theorem dX7_lastOf_59 : decode cX7_lastOf 59 = .ok (.invokevirtual 190, 3) := by decide +kernel
theorem dX7_lastOf_62 : decode cX7_lastOf 62 = .ok (.iconst 1, 1) := by decide +kernel
theorem dX7_lastOf_63 : decode cX7_lastOf 63 = .ok (.iadd, 1) := by decide +kernel
theorem dX7_lastOf_64 : decode cX7_lastOf 64 = .ok (.goto 5, 3) := by decide +kernel
theorem dX7_lastOf_67 : decode cX7_lastOf 67 = .ok (.bipush 9, 2) := by decide +kernel
theorem dX7_lastOf_69 : decode cX7_lastOf 69 = .ok (.ireturn, 1) := by decide +kernel
theorem dX7_leastNext_0 : decode cX7_leastNext 0 = .ok (.ldc 164, 2) := by decide +kernel
theorem dX7_leastNext_2 : decode cX7_leastNext 2 = .ok (.istore_n 3, 1) := by decide +kernel
theorem dX7_leastNext_3 : decode cX7_leastNext 3 = .ok (.aload_n 0, 1) := by decide +kernel
theorem dX7_leastNext_4 : decode cX7_leastNext 4 = .ok (.bipush (-9), 2) := by decide +kernel
theorem dX7_leastNext_6 : decode cX7_leastNext 6 = .ok (.putfield 196, 3) := by decide +kernel
theorem dX7_leastNext_9 : decode cX7_leastNext 9 = .ok (.aload_n 0, 1) := by decide +kernel
theorem dX7_leastNext_10 : decode cX7_leastNext 10 = .ok (.iconst 0, 1) := by decide +kernel
theorem dX7_leastNext_11 : decode cX7_leastNext 11 = .ok (.iload_n 1, 1) := by decide +kernel
theorem dX7_leastNext_12 : decode cX7_leastNext 12 = .ok (.iload_n 2, 1) := by decide +kernel
theorem dX7_leastNext_13 : decode cX7_leastNext 13 = .ok (.invokevirtual 199, 3) := by decide +kernel
theorem dX7_leastNext_16 : decode cX7_leastNext 16 = .ok (.istore 4, 2) := by decide +kernel
theorem dX7_leastNext_18 : decode cX7_leastNext 18 = .ok (.iload 4, 2) := by decide +kernel
theorem dX7_leastNext_20 : decode cX7_leastNext 20 = .ok (.aload_n 0, 1) := by decide +kernel
theorem dX7_leastNext_21 : decode cX7_leastNext 21 = .ok (.iconst 0, 1) := by decide +kernel
theorem dX7_leastNext_22 : decode cX7_leastNext 22 = .ok (.iload_n 1, 1) := by decide +kernel
theorem dX7_leastNext_23 : decode cX7_leastNext 23 = .ok (.iload_n 2, 1) := by decide +kernel
theorem dX7_leastNext_24 : decode cX7_leastNext 24 = .ok (.invokevirtual 202, 3) := by decide +kernel
theorem dX7_leastNext_27 : decode cX7_leastNext 27 = .ok (.if_icmp .gt 153, 3) := by decide +kernel
theorem dX7_leastNext_30 : decode cX7_leastNext 30 = .ok (.aload_n 0, 1) := by decide +kernel
theorem dX7_leastNext_31 : decode cX7_leastNext 31 = .ok (.iconst 1, 1) := by decide +kernel
theorem dX7_leastNext_32 : decode cX7_leastNext 32 = .ok (.iload_n 1, 1) := by decide +kernel
theorem dX7_leastNext_33 : decode cX7_leastNext 33 = .ok (.iload_n 2, 1) := by decide +kernel
theorem dX7_leastNext_34 : decode cX7_leastNext 34 = .ok (.invokevirtual 199, 3) := by decide +kernel
theorem dX7_leastNext_37 : decode cX7_leastNext 37 = .ok (.istore 5, 2) := by decide +kernel
theorem dX7_leastNext_39 : decode cX7_leastNext 39 = .ok (.iload 5, 2) := by decide +kernel
theorem dX7_leastNext_41 : decode cX7_leastNext 41 = .ok (.aload_n 0, 1) := by decide +kernel
theorem dX7_leastNext_42 : decode cX7_leastNext 42 = .ok (.iconst 1, 1) := by decide +kernel
theorem dX7_leastNext_43 : decode cX7_leastNext 43 = .ok (.iload_n 1, 1) := by decide +kernel
theorem dX7_leastNext_44 : decode cX7_leastNext 44 = .ok (.iload_n 2, 1) := by decide +kernel
theorem dX7_leastNext_45 : decode cX7_leastNext 45 = .ok (.invokevirtual 202, 3) := by decide +kernel
theorem dX7_leastNext_48 : decode cX7_leastNext 48 = .ok (.if_icmp .gt 126, 3) := by decide +kernel
theorem dX7_leastNext_51 : decode cX7_leastNext 51 = .ok (.aload_n 0, 1) := by decide +kernel
theorem dX7_leastNext_52 : decode cX7_leastNext 52 = .ok (.iconst 2, 1) := by decide +kernel
theorem dX7_leastNext_53 : decode cX7_leastNext 53 = .ok (.iload_n 1, 1) := by decide +kernel
theorem dX7_leastNext_54 : decode cX7_leastNext 54 = .ok (.iload_n 2, 1) := by decide +kernel
theorem dX7_leastNext_55 : decode cX7_leastNext 55 = .ok (.invokevirtual 199, 3) := by decide +kernel
theorem dX7_leastNext_58 : decode cX7_leastNext 58 = .ok (.istore 6, 2) := by decide +kernel
theorem dX7_leastNext_60 : decode cX7_leastNext 60 = .ok (.iload 6, 2) := by decide +kernel
theorem dX7_leastNext_62 : decode cX7_leastNext 62 = .ok (.aload_n 0, 1) := by decide +kernel
theorem dX7_leastNext_63 : decode cX7_leastNext 63 = .ok (.iconst 2, 1) := by decide +kernel
theorem dX7_leastNext_64 : decode cX7_leastNext 64 = .ok (.iload_n 1, 1) := by decide +kernel
theorem dX7_leastNext_65 : decode cX7_leastNext 65 = .ok (.iload_n 2, 1) := by decide +kernel
theorem dX7_leastNext_66 : decode cX7_leastNext 66 = .ok (.invokevirtual 202, 3) := by decide +kernel
theorem dX7_leastNext_69 : decode cX7_leastNext 69 = .ok (.if_icmp .gt 99, 3) := by decide +kernel
theorem dX7_leastNext_72 : decode cX7_leastNext 72 = .ok (.iload 4, 2) := by decide +kernel
theorem dX7_leastNext_74 : decode cX7_leastNext 74 = .ok (.bipush 10, 2) := by decide +kernel
theorem dX7_leastNext_76 : decode cX7_leastNext 76 = .ok (.iload 5, 2) := by decide +kernel
theorem dX7_leastNext_78 : decode cX7_leastNext 78 = .ok (.imul, 1) := by decide +kernel
theorem dX7_leastNext_79 : decode cX7_leastNext 79 = .ok (.iadd, 1) := by decide +kernel
theorem dX7_leastNext_80 : decode cX7_leastNext 80 = .ok (.bipush 100, 2) := by decide +kernel
theorem dX7_leastNext_82 : decode cX7_leastNext 82 = .ok (.iload 6, 2) := by decide +kernel
theorem dX7_leastNext_84 : decode cX7_leastNext 84 = .ok (.imul, 1) := by decide +kernel
theorem dX7_leastNext_85 : decode cX7_leastNext 85 = .ok (.iadd, 1) := by decide +kernel
theorem dX7_leastNext_86 : decode cX7_leastNext 86 = .ok (.istore 7, 2) := by decide +kernel
theorem dX7_leastNext_88 : decode cX7_leastNext 88 = .ok (.aload_n 0, 1) := by decide +kernel
theorem dX7_leastNext_89 : decode cX7_leastNext 89 = .ok (.getfield 63, 3) := by decide +kernel
theorem dX7_leastNext_92 : decode cX7_leastNext 92 = .ok (.sipush 1000, 3) := by decide +kernel
theorem dX7_leastNext_95 : decode cX7_leastNext 95 = .ok (.iload_n 1, 1) := by decide +kernel
theorem dX7_leastNext_96 : decode cX7_leastNext 96 = .ok (.iconst 1, 1) := by decide +kernel
theorem dX7_leastNext_97 : decode cX7_leastNext 97 = .ok (.iadd, 1) := by decide +kernel
theorem dX7_leastNext_98 : decode cX7_leastNext 98 = .ok (.imul, 1) := by decide +kernel
theorem dX7_leastNext_99 : decode cX7_leastNext 99 = .ok (.iload 7, 2) := by decide +kernel
theorem dX7_leastNext_101 : decode cX7_leastNext 101 = .ok (.iadd, 1) := by decide +kernel
theorem dX7_leastNext_102 : decode cX7_leastNext 102 = .ok (.iaload, 1) := by decide +kernel
theorem dX7_leastNext_103 : decode cX7_leastNext 103 = .ok (.istore 8, 2) := by decide +kernel
theorem dX7_leastNext_105 : decode cX7_leastNext 105 = .ok (.iload 8, 2) := by decide +kernel
theorem dX7_leastNext_107 : decode cX7_leastNext 107 = .ok (.ldc 164, 2) := by decide +kernel
theorem dX7_leastNext_109 : decode cX7_leastNext 109 = .ok (.if_icmp .lt 8, 3) := by decide +kernel
theorem dX7_leastNext_112 : decode cX7_leastNext 112 = .ok (.ldc 164, 2) := by decide +kernel
theorem dX7_leastNext_114 : decode cX7_leastNext 114 = .ok (.goto 14, 3) := by decide +kernel
theorem dX7_leastNext_117 : decode cX7_leastNext 117 = .ok (.iload 8, 2) := by decide +kernel
theorem dX7_leastNext_119 : decode cX7_leastNext 119 = .ok (.aload_n 0, 1) := by decide +kernel
theorem dX7_leastNext_120 : decode cX7_leastNext 120 = .ok (.iload_n 1, 1) := by decide +kernel
theorem dX7_leastNext_121 : decode cX7_leastNext 121 = .ok (.iload_n 2, 1) := by decide +kernel
theorem dX7_leastNext_122 : decode cX7_leastNext 122 = .ok (.iload 7, 2) := by decide +kernel
theorem dX7_leastNext_124 : decode cX7_leastNext 124 = .ok (.invokevirtual 205, 3) := by decide +kernel
theorem dX7_leastNext_127 : decode cX7_leastNext 127 = .ok (.iadd, 1) := by decide +kernel
theorem dX7_leastNext_128 : decode cX7_leastNext 128 = .ok (.istore 9, 2) := by decide +kernel
theorem dX7_leastNext_130 : decode cX7_leastNext 130 = .ok (.aload_n 0, 1) := by decide +kernel
theorem dX7_leastNext_131 : decode cX7_leastNext 131 = .ok (.iload 9, 2) := by decide +kernel
theorem dX7_leastNext_133 : decode cX7_leastNext 133 = .ok (.iload_n 3, 1) := by decide +kernel
theorem dX7_leastNext_134 : decode cX7_leastNext 134 = .ok (.if_icmp .ge 8, 3) := by decide +kernel
theorem dX7_leastNext_137 : decode cX7_leastNext 137 = .ok (.iload 7, 2) := by decide +kernel
theorem dX7_leastNext_139 : decode cX7_leastNext 139 = .ok (.goto 7, 3) := by decide +kernel
theorem dX7_leastNext_142 : decode cX7_leastNext 142 = .ok (.aload_n 0, 1) := by decide +kernel
theorem dX7_leastNext_143 : decode cX7_leastNext 143 = .ok (.getfield 196, 3) := by decide +kernel
theorem dX7_leastNext_146 : decode cX7_leastNext 146 = .ok (.putfield 196, 3) := by decide +kernel
theorem dX7_leastNext_149 : decode cX7_leastNext 149 = .ok (.iload 9, 2) := by decide +kernel
theorem dX7_leastNext_151 : decode cX7_leastNext 151 = .ok (.iload_n 3, 1) := by decide +kernel
theorem dX7_leastNext_152 : decode cX7_leastNext 152 = .ok (.if_icmp .ge 8, 3) := by decide +kernel
theorem dX7_leastNext_155 : decode cX7_leastNext 155 = .ok (.iload 9, 2) := by decide +kernel
theorem dX7_leastNext_157 : decode cX7_leastNext 157 = .ok (.goto 4, 3) := by decide +kernel
theorem dX7_leastNext_160 : decode cX7_leastNext 160 = .ok (.iload_n 3, 1) := by decide +kernel
theorem dX7_leastNext_161 : decode cX7_leastNext 161 = .ok (.istore_n 3, 1) := by decide +kernel
theorem dX7_leastNext_162 : decode cX7_leastNext 162 = .ok (.iinc 6 1, 3) := by decide +kernel
theorem dX7_leastNext_165 : decode cX7_leastNext 165 = .ok (.goto (-105), 3) := by decide +kernel
theorem dX7_leastNext_168 : decode cX7_leastNext 168 = .ok (.iinc 5 1, 3) := by decide +kernel
theorem dX7_leastNext_171 : decode cX7_leastNext 171 = .ok (.goto (-132), 3) := by decide +kernel
theorem dX7_leastNext_174 : decode cX7_leastNext 174 = .ok (.iinc 4 1, 3) := by decide +kernel
theorem dX7_leastNext_177 : decode cX7_leastNext 177 = .ok (.goto (-159), 3) := by decide +kernel
theorem dX7_leastNext_180 : decode cX7_leastNext 180 = .ok (.iload_n 3, 1) := by decide +kernel
theorem dX7_leastNext_181 : decode cX7_leastNext 181 = .ok (.ireturn, 1) := by decide +kernel
theorem dX7_firstSpot_0 : decode cX7_firstSpot 0 = .ok (.iconst 0, 1) := by decide +kernel
theorem dX7_firstSpot_1 : decode cX7_firstSpot 1 = .ok (.istore_n 1, 1) := by decide +kernel
theorem dX7_firstSpot_2 : decode cX7_firstSpot 2 = .ok (.iconst 0, 1) := by decide +kernel
theorem dX7_firstSpot_3 : decode cX7_firstSpot 3 = .ok (.istore_n 2, 1) := by decide +kernel
theorem dX7_firstSpot_4 : decode cX7_firstSpot 4 = .ok (.iload_n 2, 1) := by decide +kernel
theorem dX7_firstSpot_5 : decode cX7_firstSpot 5 = .ok (.aload_n 0, 1) := by decide +kernel
theorem dX7_firstSpot_6 : decode cX7_firstSpot 6 = .ok (.getfield 177, 3) := by decide +kernel
theorem dX7_firstSpot_9 : decode cX7_firstSpot 9 = .ok (.if_icmp .ge 42, 3) := by decide +kernel
theorem dX7_firstSpot_12 : decode cX7_firstSpot 12 = .ok (.iload_n 1, 1) := by decide +kernel
theorem dX7_firstSpot_13 : decode cX7_firstSpot 13 = .ok (.aload_n 0, 1) := by decide +kernel
theorem dX7_firstSpot_14 : decode cX7_firstSpot 14 = .ok (.getfield 54, 3) := by decide +kernel
theorem dX7_firstSpot_17 : decode cX7_firstSpot 17 = .ok (.iload_n 2, 1) := by decide +kernel
theorem dX7_firstSpot_18 : decode cX7_firstSpot 18 = .ok (.iaload, 1) := by decide +kernel
theorem dX7_firstSpot_19 : decode cX7_firstSpot 19 = .ok (.aload_n 0, 1) := by decide +kernel
theorem dX7_firstSpot_20 : decode cX7_firstSpot 20 = .ok (.getfield 180, 3) := by decide +kernel
theorem dX7_firstSpot_23 : decode cX7_firstSpot 23 = .ok (.if_icmp .ne 19, 3) := by decide +kernel
theorem dX7_firstSpot_26 : decode cX7_firstSpot 26 = .ok (.aload_n 0, 1) := by decide +kernel
theorem dX7_firstSpot_27 : decode cX7_firstSpot 27 = .ok (.getfield 57, 3) := by decide +kernel
theorem dX7_firstSpot_30 : decode cX7_firstSpot 30 = .ok (.iload_n 2, 1) := by decide +kernel
theorem dX7_firstSpot_31 : decode cX7_firstSpot 31 = .ok (.iaload, 1) := by decide +kernel
theorem dX7_firstSpot_32 : decode cX7_firstSpot 32 = .ok (.aload_n 0, 1) := by decide +kernel
theorem dX7_firstSpot_33 : decode cX7_firstSpot 33 = .ok (.getfield 66, 3) := by decide +kernel
theorem dX7_firstSpot_36 : decode cX7_firstSpot 36 = .ok (.iload_n 2, 1) := by decide +kernel
theorem dX7_firstSpot_37 : decode cX7_firstSpot 37 = .ok (.iaload, 1) := by decide +kernel
theorem dX7_firstSpot_38 : decode cX7_firstSpot 38 = .ok (.imul, 1) := by decide +kernel
theorem dX7_firstSpot_39 : decode cX7_firstSpot 39 = .ok (.goto 4, 3) := by decide +kernel
theorem dX7_firstSpot_42 : decode cX7_firstSpot 42 = .ok (.iconst 0, 1) := by decide +kernel
theorem dX7_firstSpot_43 : decode cX7_firstSpot 43 = .ok (.iadd, 1) := by decide +kernel
theorem dX7_firstSpot_44 : decode cX7_firstSpot 44 = .ok (.istore_n 1, 1) := by decide +kernel
theorem dX7_firstSpot_45 : decode cX7_firstSpot 45 = .ok (.iinc 2 1, 3) := by decide +kernel
theorem dX7_firstSpot_48 : decode cX7_firstSpot 48 = .ok (.goto (-44), 3) := by decide +kernel
theorem dX7_firstSpot_51 : decode cX7_firstSpot 51 = .ok (.iload_n 1, 1) := by decide +kernel
theorem dX7_firstSpot_52 : decode cX7_firstSpot 52 = .ok (.ireturn, 1) := by decide +kernel
theorem dX7_goBroad_0 : decode cX7_goBroad 0 = .ok (.aload_n 0, 1) := by decide +kernel
theorem dX7_goBroad_1 : decode cX7_goBroad 1 = .ok (.getfield 17, 3) := by decide +kernel
theorem dX7_goBroad_4 : decode cX7_goBroad 4 = .ok (.iconst 0, 1) := by decide +kernel
theorem dX7_goBroad_5 : decode cX7_goBroad 5 = .ok (.iaload, 1) := by decide +kernel
theorem dX7_goBroad_6 : decode cX7_goBroad 6 = .ok (.iconst 1, 1) := by decide +kernel
theorem dX7_goBroad_7 : decode cX7_goBroad 7 = .ok (.isub, 1) := by decide +kernel
theorem dX7_goBroad_8 : decode cX7_goBroad 8 = .ok (.istore_n 2, 1) := by decide +kernel
theorem dX7_goBroad_9 : decode cX7_goBroad 9 = .ok (.iload_n 2, 1) := by decide +kernel
theorem dX7_goBroad_10 : decode cX7_goBroad 10 = .ok (.aload_n 0, 1) := by decide +kernel
theorem dX7_goBroad_11 : decode cX7_goBroad 11 = .ok (.getfield 180, 3) := by decide +kernel
theorem dX7_goBroad_14 : decode cX7_goBroad 14 = .ok (.if_icmp .lt 94, 3) := by decide +kernel
theorem dX7_goBroad_17 : decode cX7_goBroad 17 = .ok (.iconst 0, 1) := by decide +kernel
theorem dX7_goBroad_18 : decode cX7_goBroad 18 = .ok (.istore_n 3, 1) := by decide +kernel
theorem dX7_goBroad_19 : decode cX7_goBroad 19 = .ok (.iload_n 3, 1) := by decide +kernel
theorem dX7_goBroad_20 : decode cX7_goBroad 20 = .ok (.aload_n 0, 1) := by decide +kernel
theorem dX7_goBroad_21 : decode cX7_goBroad 21 = .ok (.invokevirtual 208, 3) := by decide +kernel
theorem dX7_goBroad_24 : decode cX7_goBroad 24 = .ok (.if_icmp .ge 78, 3) := by decide +kernel
theorem dX7_goBroad_27 : decode cX7_goBroad 27 = .ok (.aload_n 0, 1) := by decide +kernel
theorem dX7_goBroad_28 : decode cX7_goBroad 28 = .ok (.iload_n 2, 1) := by decide +kernel
theorem dX7_goBroad_29 : decode cX7_goBroad 29 = .ok (.iload_n 3, 1) := by decide +kernel
theorem dX7_goBroad_30 : decode cX7_goBroad 30 = .ok (.invokevirtual 211, 3) := by decide +kernel
theorem dX7_goBroad_33 : decode cX7_goBroad 33 = .ok (.istore 4, 2) := by decide +kernel
theorem dX7_goBroad_35 : decode cX7_goBroad 35 = .ok (.ldc 164, 2) := by decide +kernel
theorem dX7_goBroad_37 : decode cX7_goBroad 37 = .ok (.istore 5, 2) := by decide +kernel
theorem dX7_goBroad_39 : decode cX7_goBroad 39 = .ok (.iload 4, 2) := by decide +kernel
theorem dX7_goBroad_41 : decode cX7_goBroad 41 = .ok (.ifCond .eq 41, 3) := by decide +kernel
theorem dX7_goBroad_44 : decode cX7_goBroad 44 = .ok (.iload_n 2, 1) := by decide +kernel
theorem dX7_goBroad_45 : decode cX7_goBroad 45 = .ok (.aload_n 0, 1) := by decide +kernel
theorem dX7_goBroad_46 : decode cX7_goBroad 46 = .ok (.getfield 17, 3) := by decide +kernel
theorem dX7_goBroad_49 : decode cX7_goBroad 49 = .ok (.iconst 0, 1) := by decide +kernel
theorem dX7_goBroad_50 : decode cX7_goBroad 50 = .ok (.iaload, 1) := by decide +kernel
theorem dX7_goBroad_51 : decode cX7_goBroad 51 = .ok (.iconst 1, 1) := by decide +kernel
theorem dX7_goBroad_52 : decode cX7_goBroad 52 = .ok (.isub, 1) := by decide +kernel
theorem dX7_goBroad_53 : decode cX7_goBroad 53 = .ok (.if_icmp .ge 12, 3) := by decide +kernel
theorem dX7_goBroad_56 : decode cX7_goBroad 56 = .ok (.aload_n 0, 1) := by decide +kernel
theorem dX7_goBroad_57 : decode cX7_goBroad 57 = .ok (.iload_n 2, 1) := by decide +kernel
theorem dX7_goBroad_58 : decode cX7_goBroad 58 = .ok (.iload_n 3, 1) := by decide +kernel
theorem dX7_goBroad_59 : decode cX7_goBroad 59 = .ok (.invokevirtual 214, 3) := by decide +kernel
theorem dX7_goBroad_62 : decode cX7_goBroad 62 = .ok (.goto 18, 3) := by decide +kernel
theorem dX7_goBroad_65 : decode cX7_goBroad 65 = .ok (.aload_n 0, 1) := by decide +kernel
theorem dX7_goBroad_66 : decode cX7_goBroad 66 = .ok (.iload_n 3, 1) := by decide +kernel
theorem dX7_goBroad_67 : decode cX7_goBroad 67 = .ok (.invokevirtual 217, 3) := by decide +kernel
theorem dX7_goBroad_70 : decode cX7_goBroad 70 = .ok (.iload_n 1, 1) := by decide +kernel
theorem dX7_goBroad_71 : decode cX7_goBroad 71 = .ok (.if_icmp .ne 7, 3) := by decide +kernel
theorem dX7_goBroad_74 : decode cX7_goBroad 74 = .ok (.iconst 0, 1) := by decide +kernel
theorem dX7_goBroad_75 : decode cX7_goBroad 75 = .ok (.goto 5, 3) := by decide +kernel
theorem dX7_goBroad_78 : decode cX7_goBroad 78 = .ok (.ldc 164, 2) := by decide +kernel
theorem dX7_goBroad_80 : decode cX7_goBroad 80 = .ok (.istore 5, 2) := by decide +kernel
theorem dX7_goBroad_82 : decode cX7_goBroad 82 = .ok (.aload_n 0, 1) := by decide +kernel
theorem dX7_goBroad_83 : decode cX7_goBroad 83 = .ok (.getfield 63, 3) := by decide +kernel
theorem dX7_goBroad_86 : decode cX7_goBroad 86 = .ok (.sipush 1000, 3) := by decide +kernel
theorem dX7_goBroad_89 : decode cX7_goBroad 89 = .ok (.iload_n 2, 1) := by decide +kernel
theorem dX7_goBroad_90 : decode cX7_goBroad 90 = .ok (.imul, 1) := by decide +kernel
theorem dX7_goBroad_91 : decode cX7_goBroad 91 = .ok (.iload_n 3, 1) := by decide +kernel
theorem dX7_goBroad_92 : decode cX7_goBroad 92 = .ok (.iadd, 1) := by decide +kernel
theorem dX7_goBroad_93 : decode cX7_goBroad 93 = .ok (.iload 5, 2) := by decide +kernel
theorem dX7_goBroad_95 : decode cX7_goBroad 95 = .ok (.iastore, 1) := by decide +kernel
theorem dX7_goBroad_96 : decode cX7_goBroad 96 = .ok (.iinc 3 1, 3) := by decide +kernel
theorem dX7_goBroad_99 : decode cX7_goBroad 99 = .ok (.goto (-80), 3) := by decide +kernel
theorem dX7_goBroad_102 : decode cX7_goBroad 102 = .ok (.iinc 2 (-1), 3) := by decide +kernel
theorem dX7_goBroad_105 : decode cX7_goBroad 105 = .ok (.goto (-96), 3) := by decide +kernel
theorem dX7_goBroad_108 : decode cX7_goBroad 108 = .ok (.aload_n 0, 1) := by decide +kernel
theorem dX7_goBroad_109 : decode cX7_goBroad 109 = .ok (.getfield 63, 3) := by decide +kernel
theorem dX7_goBroad_112 : decode cX7_goBroad 112 = .ok (.sipush 1000, 3) := by decide +kernel
theorem dX7_goBroad_115 : decode cX7_goBroad 115 = .ok (.aload_n 0, 1) := by decide +kernel
theorem dX7_goBroad_116 : decode cX7_goBroad 116 = .ok (.getfield 180, 3) := by decide +kernel
theorem dX7_goBroad_119 : decode cX7_goBroad 119 = .ok (.imul, 1) := by decide +kernel
theorem dX7_goBroad_120 : decode cX7_goBroad 120 = .ok (.aload_n 0, 1) := by decide +kernel
theorem dX7_goBroad_121 : decode cX7_goBroad 121 = .ok (.invokevirtual 220, 3) := by decide +kernel
theorem dX7_goBroad_124 : decode cX7_goBroad 124 = .ok (.iadd, 1) := by decide +kernel
theorem dX7_goBroad_125 : decode cX7_goBroad 125 = .ok (.iaload, 1) := by decide +kernel
theorem dX7_goBroad_126 : decode cX7_goBroad 126 = .ok (.ireturn, 1) := by decide +kernel
theorem dX7_goTogether_0 : decode cX7_goTogether 0 = .ok (.iconst 1, 1) := by decide +kernel
theorem dX7_goTogether_1 : decode cX7_goTogether 1 = .ok (.istore_n 1, 1) := by decide +kernel
theorem dX7_goTogether_2 : decode cX7_goTogether 2 = .ok (.iload_n 1, 1) := by decide +kernel
theorem dX7_goTogether_3 : decode cX7_goTogether 3 = .ok (.aload_n 0, 1) := by decide +kernel
theorem dX7_goTogether_4 : decode cX7_goTogether 4 = .ok (.getfield 13, 3) := by decide +kernel
theorem dX7_goTogether_7 : decode cX7_goTogether 7 = .ok (.iconst 0, 1) := by decide +kernel
theorem dX7_goTogether_8 : decode cX7_goTogether 8 = .ok (.iaload, 1) := by decide +kernel
theorem dX7_goTogether_9 : decode cX7_goTogether 9 = .ok (.if_icmp .gt 28, 3) := by decide +kernel
theorem dX7_goTogether_12 : decode cX7_goTogether 12 = .ok (.aload_n 0, 1) := by decide +kernel
theorem dX7_goTogether_13 : decode cX7_goTogether 13 = .ok (.getfield 177, 3) := by decide +kernel
theorem dX7_goTogether_16 : decode cX7_goTogether 16 = .ok (.ifCond .le 21, 3) := by decide +kernel
theorem dX7_goTogether_19 : decode cX7_goTogether 19 = .ok (.aload_n 0, 1) := by decide +kernel
theorem dX7_goTogether_20 : decode cX7_goTogether 20 = .ok (.iload_n 1, 1) := by decide +kernel
theorem dX7_goTogether_21 : decode cX7_goTogether 21 = .ok (.invokevirtual 223, 3) := by decide +kernel
theorem dX7_goTogether_24 : decode cX7_goTogether 24 = .ok (.ldc 164, 2) := by decide +kernel
theorem dX7_goTogether_26 : decode cX7_goTogether 26 = .ok (.if_icmp .ge 5, 3) := by decide +kernel
theorem dX7_goTogether_29 : decode cX7_goTogether 29 = .ok (.iload_n 1, 1) := by decide +kernel
theorem dX7_goTogether_30 : decode cX7_goTogether 30 = .ok (.ireturn, 1) := by decide +kernel
theorem dX7_goTogether_31 : decode cX7_goTogether 31 = .ok (.iinc 1 1, 3) := by decide +kernel
theorem dX7_goTogether_34 : decode cX7_goTogether 34 = .ok (.goto (-32), 3) := by decide +kernel
theorem dX7_goTogether_37 : decode cX7_goTogether 37 = .ok (.bipush (-9), 2) := by decide +kernel
theorem dX7_goTogether_39 : decode cX7_goTogether 39 = .ok (.ireturn, 1) := by decide +kernel
theorem dX7_isSet_0 : decode cX7_isSet 0 = .ok (.iload_n 1, 1) := by decide +kernel
theorem dX7_isSet_1 : decode cX7_isSet 1 = .ok (.iconst 1, 1) := by decide +kernel
theorem dX7_isSet_2 : decode cX7_isSet 2 = .ok (.iconst 1, 1) := by decide +kernel
theorem dX7_isSet_3 : decode cX7_isSet 3 = .ok (.aload_n 0, 1) := by decide +kernel
theorem dX7_isSet_4 : decode cX7_isSet 4 = .ok (.getfield 20, 3) := by decide +kernel
theorem dX7_isSet_7 : decode cX7_isSet 7 = .ok (.iconst 0, 1) := by decide +kernel
theorem dX7_isSet_8 : decode cX7_isSet 8 = .ok (.iaload, 1) := by decide +kernel
theorem dX7_isSet_9 : decode cX7_isSet 9 = .ok (.ishl, 1) := by decide +kernel
theorem dX7_isSet_10 : decode cX7_isSet 10 = .ok (.iconst 1, 1) := by decide +kernel
theorem dX7_isSet_11 : decode cX7_isSet 11 = .ok (.isub, 1) := by decide +kernel
theorem dX7_isSet_12 : decode cX7_isSet 12 = .ok (.invokestatic 85, 3) := by decide +kernel
theorem dX7_isSet_15 : decode cX7_isSet 15 = .ok (.ireturn, 1) := by decide +kernel
theorem dX7_together_0 : decode cX7_together 0 = .ok (.aload_n 0, 1) := by decide +kernel
theorem dX7_together_1 : decode cX7_together 1 = .ok (.iload_n 1, 1) := by decide +kernel
theorem dX7_together_2 : decode cX7_together 2 = .ok (.invokevirtual 226, 3) := by decide +kernel
theorem dX7_together_5 : decode cX7_together 5 = .ok (.ifCond .eq 12, 3) := by decide +kernel
theorem dX7_together_8 : decode cX7_together 8 = .ok (.iload_n 2, 1) := by decide +kernel
theorem dX7_together_9 : decode cX7_together 9 = .ok (.iconst 0, 1) := by decide +kernel
theorem dX7_together_10 : decode cX7_together 10 = .ok (.iconst 1, 1) := by decide +kernel
theorem dX7_together_11 : decode cX7_together 11 = .ok (.invokestatic 85, 3) := by decide +kernel
theorem dX7_together_14 : decode cX7_together 14 = .ok (.ifCond .ne 5, 3) := by decide +kernel
theorem dX7_together_17 : decode cX7_together 17 = .ok (.iconst (-1), 1) := by decide +kernel
theorem dX7_together_18 : decode cX7_together 18 = .ok (.ireturn, 1) := by decide +kernel
theorem dX7_together_19 : decode cX7_together 19 = .ok (.aload_n 0, 1) := by decide +kernel
theorem dX7_together_20 : decode cX7_together 20 = .ok (.iload_n 1, 1) := by decide +kernel
theorem dX7_together_21 : decode cX7_together 21 = .ok (.invokevirtual 229, 3) := by decide +kernel
theorem dX7_together_24 : decode cX7_together 24 = .ok (.aload_n 0, 1) := by decide +kernel
theorem dX7_together_25 : decode cX7_together 25 = .ok (.invokevirtual 233, 3) := by decide +kernel
theorem dX7_together_28 : decode cX7_together 28 = .ok (.istore_n 3, 1) := by decide +kernel
theorem dX7_together_29 : decode cX7_together 29 = .ok (.iload_n 3, 1) := by decide +kernel
theorem dX7_together_30 : decode cX7_together 30 = .ok (.bipush (-9), 2) := by decide +kernel
theorem dX7_together_32 : decode cX7_together 32 = .ok (.if_icmp .eq 7, 3) := by decide +kernel
theorem dX7_together_35 : decode cX7_together 35 = .ok (.iload_n 2, 1) := by decide +kernel
theorem dX7_together_36 : decode cX7_together 36 = .ok (.ifCond .ne 7, 3) := by decide +kernel
theorem dX7_together_39 : decode cX7_together 39 = .ok (.iload_n 3, 1) := by decide +kernel
theorem dX7_together_40 : decode cX7_together 40 = .ok (.goto 21, 3) := by decide +kernel
theorem dX7_together_43 : decode cX7_together 43 = .ok (.aload_n 0, 1) := by decide +kernel
theorem dX7_together_44 : decode cX7_together 44 = .ok (.getfield 63, 3) := by decide +kernel
theorem dX7_together_47 : decode cX7_together 47 = .ok (.sipush 1000, 3) := by decide +kernel
theorem dX7_together_50 : decode cX7_together 50 = .ok (.aload_n 0, 1) := by decide +kernel
theorem dX7_together_51 : decode cX7_together 51 = .ok (.getfield 180, 3) := by decide +kernel
theorem dX7_together_54 : decode cX7_together 54 = .ok (.imul, 1) := by decide +kernel
theorem dX7_together_55 : decode cX7_together 55 = .ok (.aload_n 0, 1) := by decide +kernel
theorem dX7_together_56 : decode cX7_together 56 = .ok (.invokevirtual 220, 3) := by decide +kernel
theorem dX7_together_59 : decode cX7_together 59 = .ok (.iadd, 1) := by decide +kernel
theorem dX7_together_60 : decode cX7_together 60 = .ok (.iaload, 1) := by decide +kernel
theorem dX7_together_61 : decode cX7_together 61 = .ok (.ireturn, 1) := by decide +kernel
theorem dX7_bitsIn_0 : decode cX7_bitsIn 0 = .ok (.iload_n 0, 1) := by decide +kernel
theorem dX7_bitsIn_1 : decode cX7_bitsIn 1 = .ok (.iconst 1, 1) := by decide +kernel
theorem dX7_bitsIn_2 : decode cX7_bitsIn 2 = .ok (.iand, 1) := by decide +kernel
theorem dX7_bitsIn_3 : decode cX7_bitsIn 3 = .ok (.iload_n 0, 1) := by decide +kernel
theorem dX7_bitsIn_4 : decode cX7_bitsIn 4 = .ok (.iconst 1, 1) := by decide +kernel
theorem dX7_bitsIn_5 : decode cX7_bitsIn 5 = .ok (.ishr, 1) := by decide +kernel
theorem dX7_bitsIn_6 : decode cX7_bitsIn 6 = .ok (.iconst 1, 1) := by decide +kernel
theorem dX7_bitsIn_7 : decode cX7_bitsIn 7 = .ok (.iand, 1) := by decide +kernel
theorem dX7_bitsIn_8 : decode cX7_bitsIn 8 = .ok (.iadd, 1) := by decide +kernel
theorem dX7_bitsIn_9 : decode cX7_bitsIn 9 = .ok (.iload_n 0, 1) := by decide +kernel
theorem dX7_bitsIn_10 : decode cX7_bitsIn 10 = .ok (.iconst 2, 1) := by decide +kernel
theorem dX7_bitsIn_11 : decode cX7_bitsIn 11 = .ok (.ishr, 1) := by decide +kernel
theorem dX7_bitsIn_12 : decode cX7_bitsIn 12 = .ok (.iconst 1, 1) := by decide +kernel
theorem dX7_bitsIn_13 : decode cX7_bitsIn 13 = .ok (.iand, 1) := by decide +kernel
theorem dX7_bitsIn_14 : decode cX7_bitsIn 14 = .ok (.iadd, 1) := by decide +kernel
theorem dX7_bitsIn_15 : decode cX7_bitsIn 15 = .ok (.ireturn, 1) := by decide +kernel
theorem dX7_share_0 : decode cX7_share 0 = .ok (.iload_n 1, 1) := by decide +kernel
theorem dX7_share_1 : decode cX7_share 1 = .ok (.iconst 0, 1) := by decide +kernel
theorem dX7_share_2 : decode cX7_share 2 = .ok (.iconst 1, 1) := by decide +kernel
theorem dX7_share_3 : decode cX7_share 3 = .ok (.invokestatic 85, 3) := by decide +kernel
theorem dX7_share_6 : decode cX7_share 6 = .ok (.ifCond .ne 5, 3) := by decide +kernel
theorem dX7_share_9 : decode cX7_share 9 = .ok (.iconst (-1), 1) := by decide +kernel
theorem dX7_share_10 : decode cX7_share 10 = .ok (.ireturn, 1) := by decide +kernel
theorem dX7_share_11 : decode cX7_share 11 = .ok (.iconst 0, 1) := by decide +kernel
theorem dX7_share_12 : decode cX7_share 12 = .ok (.istore_n 2, 1) := by decide +kernel
theorem dX7_share_13 : decode cX7_share 13 = .ok (.iconst 1, 1) := by decide +kernel
theorem dX7_share_14 : decode cX7_share 14 = .ok (.istore_n 3, 1) := by decide +kernel
theorem dX7_share_15 : decode cX7_share 15 = .ok (.iload_n 3, 1) := by decide +kernel
theorem dX7_share_16 : decode cX7_share 16 = .ok (.iconst 1, 1) := by decide +kernel
theorem dX7_share_17 : decode cX7_share 17 = .ok (.aload_n 0, 1) := by decide +kernel
theorem dX7_share_18 : decode cX7_share 18 = .ok (.getfield 20, 3) := by decide +kernel
theorem dX7_share_21 : decode cX7_share 21 = .ok (.iconst 0, 1) := by decide +kernel
theorem dX7_share_22 : decode cX7_share 22 = .ok (.iaload, 1) := by decide +kernel
theorem dX7_share_23 : decode cX7_share 23 = .ok (.ishl, 1) := by decide +kernel
theorem dX7_share_24 : decode cX7_share 24 = .ok (.if_icmp .ge 40, 3) := by decide +kernel
theorem dX7_share_27 : decode cX7_share 27 = .ok (.iload_n 3, 1) := by decide +kernel
theorem dX7_share_28 : decode cX7_share 28 = .ok (.invokestatic 236, 3) := by decide +kernel
theorem dX7_share_31 : decode cX7_share 31 = .ok (.iload_n 2, 1) := by decide +kernel
theorem dX7_share_32 : decode cX7_share 32 = .ok (.invokestatic 236, 3) := by decide +kernel
theorem dX7_share_35 : decode cX7_share 35 = .ok (.if_icmp .le 23, 3) := by decide +kernel
theorem dX7_share_38 : decode cX7_share 38 = .ok (.aload_n 0, 1) := by decide +kernel
theorem dX7_share_39 : decode cX7_share 39 = .ok (.iload_n 3, 1) := by decide +kernel
theorem dX7_share_40 : decode cX7_share 40 = .ok (.invokevirtual 229, 3) := by decide +kernel
theorem dX7_share_43 : decode cX7_share 43 = .ok (.aload_n 0, 1) := by decide +kernel
theorem dX7_share_44 : decode cX7_share 44 = .ok (.invokevirtual 233, 3) := by decide +kernel
theorem dX7_share_47 : decode cX7_share 47 = .ok (.bipush (-9), 2) := by decide +kernel
theorem dX7_share_49 : decode cX7_share 49 = .ok (.if_icmp .ne 7, 3) := by decide +kernel
theorem dX7_share_52 : decode cX7_share 52 = .ok (.iload_n 2, 1) := by decide +kernel
theorem dX7_share_53 : decode cX7_share 53 = .ok (.goto 4, 3) := by decide +kernel
theorem dX7_share_56 : decode cX7_share 56 = .ok (.iload_n 3, 1) := by decide +kernel
theorem dX7_share_57 : decode cX7_share 57 = .ok (.istore_n 2, 1) := by decide +kernel
theorem dX7_share_58 : decode cX7_share 58 = .ok (.iinc 3 1, 3) := by decide +kernel
theorem dX7_share_61 : decode cX7_share 61 = .ok (.goto (-46), 3) := by decide +kernel
theorem dX7_share_64 : decode cX7_share 64 = .ok (.iload_n 1, 1) := by decide +kernel
theorem dX7_share_65 : decode cX7_share 65 = .ok (.ifCond .ne 7, 3) := by decide +kernel
theorem dX7_share_68 : decode cX7_share 68 = .ok (.iload_n 2, 1) := by decide +kernel
theorem dX7_share_69 : decode cX7_share 69 = .ok (.goto 7, 3) := by decide +kernel
theorem dX7_share_72 : decode cX7_share 72 = .ok (.iload_n 2, 1) := by decide +kernel
theorem dX7_share_73 : decode cX7_share 73 = .ok (.invokestatic 236, 3) := by decide +kernel
theorem dX7_share_76 : decode cX7_share 76 = .ok (.ireturn, 1) := by decide +kernel
theorem dX7_more_0 : decode cX7_more 0 = .ok (.iload_n 1, 1) := by decide +kernel
theorem dX7_more_1 : decode cX7_more 1 = .ok (.iconst 0, 1) := by decide +kernel
theorem dX7_more_2 : decode cX7_more 2 = .ok (.iconst 1, 1) := by decide +kernel
theorem dX7_more_3 : decode cX7_more 3 = .ok (.aload_n 0, 1) := by decide +kernel
theorem dX7_more_4 : decode cX7_more 4 = .ok (.getfield 20, 3) := by decide +kernel
theorem dX7_more_7 : decode cX7_more 7 = .ok (.iconst 0, 1) := by decide +kernel
theorem dX7_more_8 : decode cX7_more 8 = .ok (.iaload, 1) := by decide +kernel
theorem dX7_more_9 : decode cX7_more 9 = .ok (.ishl, 1) := by decide +kernel
theorem dX7_more_10 : decode cX7_more 10 = .ok (.iconst 1, 1) := by decide +kernel
theorem dX7_more_11 : decode cX7_more 11 = .ok (.isub, 1) := by decide +kernel
theorem dX7_more_12 : decode cX7_more 12 = .ok (.invokestatic 85, 3) := by decide +kernel
theorem dX7_more_15 : decode cX7_more 15 = .ok (.ifCond .eq 36, 3) := by decide +kernel
theorem dX7_more_18 : decode cX7_more 18 = .ok (.iload_n 1, 1) := by decide +kernel
theorem dX7_more_19 : decode cX7_more 19 = .ok (.invokestatic 236, 3) := by decide +kernel
theorem dX7_more_22 : decode cX7_more 22 = .ok (.iconst 3, 1) := by decide +kernel
theorem dX7_more_23 : decode cX7_more 23 = .ok (.if_icmp .eq 28, 3) := by decide +kernel
theorem dX7_more_26 : decode cX7_more 26 = .ok (.iload_n 2, 1) := by decide +kernel
theorem dX7_more_27 : decode cX7_more 27 = .ok (.iconst 0, 1) := by decide +kernel
theorem dX7_more_28 : decode cX7_more 28 = .ok (.aload_n 0, 1) := by decide +kernel
theorem dX7_more_29 : decode cX7_more 29 = .ok (.getfield 17, 3) := by decide +kernel
theorem dX7_more_32 : decode cX7_more 32 = .ok (.iconst 0, 1) := by decide +kernel
theorem dX7_more_33 : decode cX7_more 33 = .ok (.iaload, 1) := by decide +kernel
theorem dX7_more_34 : decode cX7_more 34 = .ok (.iconst 2, 1) := by decide +kernel
theorem dX7_more_35 : decode cX7_more 35 = .ok (.isub, 1) := by decide +kernel
theorem dX7_more_36 : decode cX7_more 36 = .ok (.invokestatic 85, 3) := by decide +kernel
theorem dX7_more_39 : decode cX7_more 39 = .ok (.ifCond .eq 12, 3) := by decide +kernel
theorem dX7_more_42 : decode cX7_more 42 = .ok (.iload_n 3, 1) := by decide +kernel
theorem dX7_more_43 : decode cX7_more 43 = .ok (.iconst 0, 1) := by decide +kernel
theorem dX7_more_44 : decode cX7_more 44 = .ok (.iconst 1, 1) := by decide +kernel
theorem dX7_more_45 : decode cX7_more 45 = .ok (.invokestatic 85, 3) := by decide +kernel
theorem dX7_more_48 : decode cX7_more 48 = .ok (.ifCond .ne 5, 3) := by decide +kernel
theorem dX7_more_51 : decode cX7_more 51 = .ok (.iconst (-1), 1) := by decide +kernel
theorem dX7_more_52 : decode cX7_more 52 = .ok (.ireturn, 1) := by decide +kernel
theorem dX7_more_53 : decode cX7_more 53 = .ok (.iconst 0, 1) := by decide +kernel
theorem dX7_more_54 : decode cX7_more 54 = .ok (.istore 4, 2) := by decide +kernel
theorem dX7_more_56 : decode cX7_more 56 = .ok (.bipush (-9), 2) := by decide +kernel
theorem dX7_more_58 : decode cX7_more 58 = .ok (.istore 5, 2) := by decide +kernel
theorem dX7_more_60 : decode cX7_more 60 = .ok (.aload_n 0, 1) := by decide +kernel
theorem dX7_more_61 : decode cX7_more 61 = .ok (.getfield 13, 3) := by decide +kernel
theorem dX7_more_64 : decode cX7_more 64 = .ok (.iconst 0, 1) := by decide +kernel
theorem dX7_more_65 : decode cX7_more 65 = .ok (.iaload, 1) := by decide +kernel
theorem dX7_more_66 : decode cX7_more 66 = .ok (.iconst 1, 1) := by decide +kernel
theorem dX7_more_67 : decode cX7_more 67 = .ok (.isub, 1) := by decide +kernel
theorem dX7_more_68 : decode cX7_more 68 = .ok (.istore 6, 2) := by decide +kernel
theorem dX7_more_70 : decode cX7_more 70 = .ok (.iload 6, 2) := by decide +kernel
theorem dX7_more_72 : decode cX7_more 72 = .ok (.ifCond .lt 38, 3) := by decide +kernel
theorem dX7_more_75 : decode cX7_more 75 = .ok (.aload_n 0, 1) := by decide +kernel
theorem dX7_more_76 : decode cX7_more 76 = .ok (.iload_n 1, 1) := by decide +kernel
theorem dX7_more_77 : decode cX7_more 77 = .ok (.invokevirtual 229, 3) := by decide +kernel
theorem dX7_more_80 : decode cX7_more 80 = .ok (.aload_n 0, 1) := by decide +kernel
theorem dX7_more_81 : decode cX7_more 81 = .ok (.iload_n 2, 1) := by decide +kernel
theorem dX7_more_82 : decode cX7_more 82 = .ok (.iload 6, 2) := by decide +kernel
theorem dX7_more_84 : decode cX7_more 84 = .ok (.iconst (-1), 1) := by decide +kernel
theorem dX7_more_85 : decode cX7_more 85 = .ok (.invokevirtual 186, 3) := by decide +kernel
theorem dX7_more_88 : decode cX7_more 88 = .ok (.aload_n 0, 1) := by decide +kernel
theorem dX7_more_89 : decode cX7_more 89 = .ok (.invokevirtual 233, 3) := by decide +kernel
theorem dX7_more_92 : decode cX7_more 92 = .ok (.bipush (-9), 2) := by decide +kernel
theorem dX7_more_94 : decode cX7_more 94 = .ok (.if_icmp .eq 10, 3) := by decide +kernel
theorem dX7_more_97 : decode cX7_more 97 = .ok (.iinc 4 1, 3) := by decide +kernel
theorem dX7_more_100 : decode cX7_more 100 = .ok (.iload 6, 2) := by decide +kernel
theorem dX7_more_102 : decode cX7_more 102 = .ok (.istore 5, 2) := by decide +kernel
theorem dX7_more_104 : decode cX7_more 104 = .ok (.iinc 6 (-1), 3) := by decide +kernel
theorem dX7_more_107 : decode cX7_more 107 = .ok (.goto (-37), 3) := by decide +kernel
theorem dX7_more_110 : decode cX7_more 110 = .ok (.iload_n 3, 1) := by decide +kernel
theorem dX7_more_111 : decode cX7_more 111 = .ok (.ifCond .ne 8, 3) := by decide +kernel
theorem dX7_more_114 : decode cX7_more 114 = .ok (.iload 4, 2) := by decide +kernel
theorem dX7_more_116 : decode cX7_more 116 = .ok (.goto 5, 3) := by decide +kernel
theorem dX7_more_119 : decode cX7_more 119 = .ok (.iload 5, 2) := by decide +kernel
theorem dX7_more_121 : decode cX7_more 121 = .ok (.ireturn, 1) := by decide +kernel
theorem dX7_take_0 : decode cX7_take 0 = .ok (.aload_n 0, 1) := by decide +kernel
theorem dX7_take_1 : decode cX7_take 1 = .ok (.iload_n 1, 1) := by decide +kernel
theorem dX7_take_2 : decode cX7_take 2 = .ok (.invokevirtual 226, 3) := by decide +kernel
theorem dX7_take_5 : decode cX7_take 5 = .ok (.ifCond .ne 5, 3) := by decide +kernel
theorem dX7_take_8 : decode cX7_take 8 = .ok (.iconst (-1), 1) := by decide +kernel
theorem dX7_take_9 : decode cX7_take 9 = .ok (.ireturn, 1) := by decide +kernel
theorem dX7_take_10 : decode cX7_take 10 = .ok (.aload_n 0, 1) := by decide +kernel
theorem dX7_take_11 : decode cX7_take 11 = .ok (.iload_n 1, 1) := by decide +kernel
theorem dX7_take_12 : decode cX7_take 12 = .ok (.invokevirtual 229, 3) := by decide +kernel
theorem dX7_take_15 : decode cX7_take 15 = .ok (.aload_n 0, 1) := by decide +kernel
theorem dX7_take_16 : decode cX7_take 16 = .ok (.invokevirtual 233, 3) := by decide +kernel
theorem dX7_take_19 : decode cX7_take 19 = .ok (.bipush (-9), 2) := by decide +kernel
theorem dX7_take_21 : decode cX7_take 21 = .ok (.if_icmp .ne 6, 3) := by decide +kernel
theorem dX7_take_24 : decode cX7_take 24 = .ok (.bipush (-2), 2) := by decide +kernel
theorem dX7_take_26 : decode cX7_take 26 = .ok (.ireturn, 1) := by decide +kernel
theorem dX7_take_27 : decode cX7_take 27 = .ok (.aload_n 0, 1) := by decide +kernel
theorem dX7_take_28 : decode cX7_take 28 = .ok (.invokevirtual 220, 3) := by decide +kernel
theorem dX7_take_31 : decode cX7_take 31 = .ok (.istore_n 2, 1) := by decide +kernel
theorem dX7_take_32 : decode cX7_take 32 = .ok (.aload_n 0, 1) := by decide +kernel
theorem dX7_take_33 : decode cX7_take 33 = .ok (.getfield 180, 3) := by decide +kernel
theorem dX7_take_36 : decode cX7_take 36 = .ok (.istore_n 3, 1) := by decide +kernel
theorem dX7_take_37 : decode cX7_take 37 = .ok (.iload_n 3, 1) := by decide +kernel
theorem dX7_take_38 : decode cX7_take 38 = .ok (.aload_n 0, 1) := by decide +kernel
theorem dX7_take_39 : decode cX7_take 39 = .ok (.getfield 17, 3) := by decide +kernel
theorem dX7_take_42 : decode cX7_take 42 = .ok (.iconst 0, 1) := by decide +kernel
theorem dX7_take_43 : decode cX7_take 43 = .ok (.iaload, 1) := by decide +kernel
theorem dX7_take_44 : decode cX7_take 44 = .ok (.if_icmp .ge 94, 3) := by decide +kernel
theorem dX7_take_47 : decode cX7_take 47 = .ok (.iconst 0, 1) := by decide +kernel
theorem dX7_take_48 : decode cX7_take 48 = .ok (.istore 4, 2) := by decide +kernel
theorem dX7_take_50 : decode cX7_take 50 = .ok (.iconst 0, 1) := by decide +kernel
theorem dX7_take_51 : decode cX7_take 51 = .ok (.istore 5, 2) := by decide +kernel
theorem dX7_take_53 : decode cX7_take 53 = .ok (.iload 5, 2) := by decide +kernel
theorem dX7_take_55 : decode cX7_take 55 = .ok (.iconst 3, 1) := by decide +kernel
theorem dX7_take_56 : decode cX7_take 56 = .ok (.if_icmp .ge 52, 3) := by decide +kernel
theorem dX7_take_59 : decode cX7_take 59 = .ok (.iload_n 1, 1) := by decide +kernel
theorem dX7_take_60 : decode cX7_take 60 = .ok (.iload 5, 2) := by decide +kernel
theorem dX7_take_62 : decode cX7_take 62 = .ok (.ishr, 1) := by decide +kernel
theorem dX7_take_63 : decode cX7_take 63 = .ok (.iconst 1, 1) := by decide +kernel
theorem dX7_take_64 : decode cX7_take 64 = .ok (.iand, 1) := by decide +kernel
theorem dX7_take_65 : decode cX7_take 65 = .ok (.iconst 1, 1) := by decide +kernel
theorem dX7_take_66 : decode cX7_take 66 = .ok (.if_icmp .ne 36, 3) := by decide +kernel
theorem dX7_take_69 : decode cX7_take 69 = .ok (.iload_n 3, 1) := by decide +kernel
theorem dX7_take_70 : decode cX7_take 70 = .ok (.aload_n 0, 1) := by decide +kernel
theorem dX7_take_71 : decode cX7_take 71 = .ok (.getfield 54, 3) := by decide +kernel
theorem dX7_take_74 : decode cX7_take 74 = .ok (.iload 4, 2) := by decide +kernel
theorem dX7_take_76 : decode cX7_take 76 = .ok (.iaload, 1) := by decide +kernel
theorem dX7_take_77 : decode cX7_take 77 = .ok (.if_icmp .lt 22, 3) := by decide +kernel
theorem dX7_take_80 : decode cX7_take 80 = .ok (.aload_n 0, 1) := by decide +kernel
theorem dX7_take_81 : decode cX7_take 81 = .ok (.getfield 69, 3) := by decide +kernel
theorem dX7_take_84 : decode cX7_take 84 = .ok (.bipush 16, 2) := by decide +kernel
theorem dX7_take_86 : decode cX7_take 86 = .ok (.iload 5, 2) := by decide +kernel
theorem dX7_take_88 : decode cX7_take 88 = .ok (.imul, 1) := by decide +kernel
theorem dX7_take_89 : decode cX7_take 89 = .ok (.iload_n 3, 1) := by decide +kernel
theorem dX7_take_90 : decode cX7_take 90 = .ok (.iadd, 1) := by decide +kernel
theorem dX7_take_91 : decode cX7_take 91 = .ok (.aload_n 0, 1) := by decide +kernel
theorem dX7_take_92 : decode cX7_take 92 = .ok (.iload_n 2, 1) := by decide +kernel
theorem dX7_take_93 : decode cX7_take 93 = .ok (.iload 4, 2) := by decide +kernel
theorem dX7_take_95 : decode cX7_take 95 = .ok (.invokevirtual 190, 3) := by decide +kernel
theorem dX7_take_98 : decode cX7_take 98 = .ok (.iastore, 1) := by decide +kernel
theorem dX7_take_99 : decode cX7_take 99 = .ok (.iinc 4 1, 3) := by decide +kernel
theorem dX7_take_102 : decode cX7_take 102 = .ok (.iinc 5 1, 3) := by decide +kernel
theorem dX7_take_105 : decode cX7_take 105 = .ok (.goto (-52), 3) := by decide +kernel
theorem dX7_take_108 : decode cX7_take 108 = .ok (.iload_n 3, 1) := by decide +kernel
theorem dX7_take_109 : decode cX7_take 109 = .ok (.aload_n 0, 1) := by decide +kernel
theorem dX7_take_110 : decode cX7_take 110 = .ok (.getfield 17, 3) := by decide +kernel
theorem dX7_take_113 : decode cX7_take 113 = .ok (.iconst 0, 1) := by decide +kernel
theorem dX7_take_114 : decode cX7_take 114 = .ok (.iaload, 1) := by decide +kernel
theorem dX7_take_115 : decode cX7_take 115 = .ok (.iconst 1, 1) := by decide +kernel
theorem dX7_take_116 : decode cX7_take 116 = .ok (.isub, 1) := by decide +kernel
theorem dX7_take_117 : decode cX7_take 117 = .ok (.if_icmp .ge 15, 3) := by decide +kernel
theorem dX7_take_120 : decode cX7_take 120 = .ok (.aload_n 0, 1) := by decide +kernel
theorem dX7_take_121 : decode cX7_take 121 = .ok (.iload_n 3, 1) := by decide +kernel
theorem dX7_take_122 : decode cX7_take 122 = .ok (.iload_n 2, 1) := by decide +kernel
theorem dX7_take_123 : decode cX7_take 123 = .ok (.invokevirtual 214, 3) := by decide +kernel
theorem dX7_take_126 : decode cX7_take 126 = .ok (.pop, 1) := by decide +kernel
theorem dX7_take_127 : decode cX7_take 127 = .ok (.aload_n 0, 1) := by decide +kernel
theorem dX7_take_128 : decode cX7_take 128 = .ok (.getfield 196, 3) := by decide +kernel
theorem dX7_take_131 : decode cX7_take 131 = .ok (.istore_n 2, 1) := by decide +kernel
theorem dX7_take_132 : decode cX7_take 132 = .ok (.iinc 3 1, 3) := by decide +kernel
theorem dX7_take_135 : decode cX7_take 135 = .ok (.goto (-98), 3) := by decide +kernel
theorem dX7_take_138 : decode cX7_take 138 = .ok (.iconst 1, 1) := by decide +kernel
theorem dX7_take_139 : decode cX7_take 139 = .ok (.ireturn, 1) := by decide +kernel
theorem dX7_way_0 : decode cX7_way 0 = .ok (.aload_n 0, 1) := by decide +kernel
theorem dX7_way_1 : decode cX7_way 1 = .ok (.iload_n 1, 1) := by decide +kernel
theorem dX7_way_2 : decode cX7_way 2 = .ok (.invokevirtual 150, 3) := by decide +kernel
theorem dX7_way_5 : decode cX7_way 5 = .ok (.ifCond .eq 38, 3) := by decide +kernel
theorem dX7_way_8 : decode cX7_way 8 = .ok (.iload_n 2, 1) := by decide +kernel
theorem dX7_way_9 : decode cX7_way 9 = .ok (.aload_n 0, 1) := by decide +kernel
theorem dX7_way_10 : decode cX7_way 10 = .ok (.getfield 23, 3) := by decide +kernel
theorem dX7_way_13 : decode cX7_way 13 = .ok (.iload_n 1, 1) := by decide +kernel
theorem dX7_way_14 : decode cX7_way 14 = .ok (.iaload, 1) := by decide +kernel
theorem dX7_way_15 : decode cX7_way 15 = .ok (.aload_n 0, 1) := by decide +kernel
theorem dX7_way_16 : decode cX7_way 16 = .ok (.getfield 17, 3) := by decide +kernel
theorem dX7_way_19 : decode cX7_way 19 = .ok (.iconst 0, 1) := by decide +kernel
theorem dX7_way_20 : decode cX7_way 20 = .ok (.iaload, 1) := by decide +kernel
theorem dX7_way_21 : decode cX7_way 21 = .ok (.iconst 1, 1) := by decide +kernel
theorem dX7_way_22 : decode cX7_way 22 = .ok (.isub, 1) := by decide +kernel
theorem dX7_way_23 : decode cX7_way 23 = .ok (.invokestatic 85, 3) := by decide +kernel
theorem dX7_way_26 : decode cX7_way 26 = .ok (.ifCond .eq 17, 3) := by decide +kernel
theorem dX7_way_29 : decode cX7_way 29 = .ok (.aload_n 0, 1) := by decide +kernel
theorem dX7_way_30 : decode cX7_way 30 = .ok (.getfield 69, 3) := by decide +kernel
theorem dX7_way_33 : decode cX7_way 33 = .ok (.bipush 16, 2) := by decide +kernel
theorem dX7_way_35 : decode cX7_way 35 = .ok (.iload_n 1, 1) := by decide +kernel
theorem dX7_way_36 : decode cX7_way 36 = .ok (.imul, 1) := by decide +kernel
theorem dX7_way_37 : decode cX7_way 37 = .ok (.iload_n 2, 1) := by decide +kernel
theorem dX7_way_38 : decode cX7_way 38 = .ok (.iadd, 1) := by decide +kernel
theorem dX7_way_39 : decode cX7_way 39 = .ok (.iaload, 1) := by decide +kernel
theorem dX7_way_40 : decode cX7_way 40 = .ok (.goto 5, 3) := by decide +kernel
theorem dX7_way_43 : decode cX7_way 43 = .ok (.ldc 153, 2) := by decide +kernel
theorem dX7_way_45 : decode cX7_way 45 = .ok (.ireturn, 1) := by decide +kernel
theorem dX7_turn_0 : decode cX7_turn 0 = .ok (.aload_n 0, 1) := by decide +kernel
theorem dX7_turn_1 : decode cX7_turn 1 = .ok (.iload_n 1, 1) := by decide +kernel
theorem dX7_turn_2 : decode cX7_turn 2 = .ok (.invokevirtual 150, 3) := by decide +kernel
theorem dX7_turn_5 : decode cX7_turn 5 = .ok (.ifCond .eq 35, 3) := by decide +kernel
theorem dX7_turn_8 : decode cX7_turn 8 = .ok (.iload_n 2, 1) := by decide +kernel
theorem dX7_turn_9 : decode cX7_turn 9 = .ok (.aload_n 0, 1) := by decide +kernel
theorem dX7_turn_10 : decode cX7_turn 10 = .ok (.getfield 23, 3) := by decide +kernel
theorem dX7_turn_13 : decode cX7_turn 13 = .ok (.iload_n 1, 1) := by decide +kernel
theorem dX7_turn_14 : decode cX7_turn 14 = .ok (.iaload, 1) := by decide +kernel
theorem dX7_turn_15 : decode cX7_turn 15 = .ok (.iconst 1, 1) := by decide +kernel
theorem dX7_turn_16 : decode cX7_turn 16 = .ok (.iadd, 1) := by decide +kernel
theorem dX7_turn_17 : decode cX7_turn 17 = .ok (.aload_n 0, 1) := by decide +kernel
theorem dX7_turn_18 : decode cX7_turn 18 = .ok (.getfield 17, 3) := by decide +kernel
theorem dX7_turn_21 : decode cX7_turn 21 = .ok (.iconst 0, 1) := by decide +kernel
theorem dX7_turn_22 : decode cX7_turn 22 = .ok (.iaload, 1) := by decide +kernel
theorem dX7_turn_23 : decode cX7_turn 23 = .ok (.iconst 1, 1) := by decide +kernel
theorem dX7_turn_24 : decode cX7_turn 24 = .ok (.isub, 1) := by decide +kernel
theorem dX7_turn_25 : decode cX7_turn 25 = .ok (.invokestatic 85, 3) := by decide +kernel
theorem dX7_turn_28 : decode cX7_turn 28 = .ok (.ifCond .eq 12, 3) := by decide +kernel
theorem dX7_turn_31 : decode cX7_turn 31 = .ok (.iload_n 3, 1) := by decide +kernel
theorem dX7_turn_32 : decode cX7_turn 32 = .ok (.iconst (-1), 1) := by decide +kernel
theorem dX7_turn_33 : decode cX7_turn 33 = .ok (.iconst 1, 1) := by decide +kernel
theorem dX7_turn_34 : decode cX7_turn 34 = .ok (.invokestatic 85, 3) := by decide +kernel
theorem dX7_turn_37 : decode cX7_turn 37 = .ok (.ifCond .ne 6, 3) := by decide +kernel
theorem dX7_turn_40 : decode cX7_turn 40 = .ok (.ldc 153, 2) := by decide +kernel
theorem dX7_turn_42 : decode cX7_turn 42 = .ok (.ireturn, 1) := by decide +kernel
theorem dX7_turn_43 : decode cX7_turn 43 = .ok (.aload_n 0, 1) := by decide +kernel
theorem dX7_turn_44 : decode cX7_turn 44 = .ok (.getfield 69, 3) := by decide +kernel
theorem dX7_turn_47 : decode cX7_turn 47 = .ok (.bipush 16, 2) := by decide +kernel
theorem dX7_turn_49 : decode cX7_turn 49 = .ok (.iload_n 1, 1) := by decide +kernel
theorem dX7_turn_50 : decode cX7_turn 50 = .ok (.imul, 1) := by decide +kernel
theorem dX7_turn_51 : decode cX7_turn 51 = .ok (.iload_n 2, 1) := by decide +kernel
theorem dX7_turn_52 : decode cX7_turn 52 = .ok (.iadd, 1) := by decide +kernel
theorem dX7_turn_53 : decode cX7_turn 53 = .ok (.iaload, 1) := by decide +kernel
theorem dX7_turn_54 : decode cX7_turn 54 = .ok (.aload_n 0, 1) := by decide +kernel
theorem dX7_turn_55 : decode cX7_turn 55 = .ok (.getfield 69, 3) := by decide +kernel
theorem dX7_turn_58 : decode cX7_turn 58 = .ok (.bipush 16, 2) := by decide +kernel
theorem dX7_turn_60 : decode cX7_turn 60 = .ok (.iload_n 1, 1) := by decide +kernel
theorem dX7_turn_61 : decode cX7_turn 61 = .ok (.imul, 1) := by decide +kernel
theorem dX7_turn_62 : decode cX7_turn 62 = .ok (.iload_n 2, 1) := by decide +kernel
theorem dX7_turn_63 : decode cX7_turn 63 = .ok (.iadd, 1) := by decide +kernel
theorem dX7_turn_64 : decode cX7_turn 64 = .ok (.iconst 1, 1) := by decide +kernel
theorem dX7_turn_65 : decode cX7_turn 65 = .ok (.isub, 1) := by decide +kernel
theorem dX7_turn_66 : decode cX7_turn 66 = .ok (.iaload, 1) := by decide +kernel
theorem dX7_turn_67 : decode cX7_turn 67 = .ok (.isub, 1) := by decide +kernel
theorem dX7_turn_68 : decode cX7_turn 68 = .ok (.istore 4, 2) := by decide +kernel
theorem dX7_turn_70 : decode cX7_turn 70 = .ok (.iload_n 2, 1) := by decide +kernel
theorem dX7_turn_71 : decode cX7_turn 71 = .ok (.istore 5, 2) := by decide +kernel
theorem dX7_turn_73 : decode cX7_turn 73 = .ok (.iload 5, 2) := by decide +kernel
theorem dX7_turn_75 : decode cX7_turn 75 = .ok (.aload_n 0, 1) := by decide +kernel
theorem dX7_turn_76 : decode cX7_turn 76 = .ok (.getfield 17, 3) := by decide +kernel
theorem dX7_turn_79 : decode cX7_turn 79 = .ok (.iconst 0, 1) := by decide +kernel
theorem dX7_turn_80 : decode cX7_turn 80 = .ok (.iaload, 1) := by decide +kernel
theorem dX7_turn_81 : decode cX7_turn 81 = .ok (.if_icmp .ge 28, 3) := by decide +kernel
theorem dX7_turn_84 : decode cX7_turn 84 = .ok (.aload_n 0, 1) := by decide +kernel
theorem dX7_turn_85 : decode cX7_turn 85 = .ok (.getfield 69, 3) := by decide +kernel
theorem dX7_turn_88 : decode cX7_turn 88 = .ok (.bipush 16, 2) := by decide +kernel
theorem dX7_turn_90 : decode cX7_turn 90 = .ok (.iload_n 1, 1) := by decide +kernel
theorem dX7_turn_91 : decode cX7_turn 91 = .ok (.imul, 1) := by decide +kernel
theorem dX7_turn_92 : decode cX7_turn 92 = .ok (.iload 5, 2) := by decide +kernel
theorem dX7_turn_94 : decode cX7_turn 94 = .ok (.iadd, 1) := by decide +kernel
theorem dX7_turn_95 : decode cX7_turn 95 = .ok (.dup2, 1) := by decide +kernel
theorem dX7_turn_96 : decode cX7_turn 96 = .ok (.iaload, 1) := by decide +kernel
theorem dX7_turn_97 : decode cX7_turn 97 = .ok (.iload_n 3, 1) := by decide +kernel
theorem dX7_turn_98 : decode cX7_turn 98 = .ok (.iload 4, 2) := by decide +kernel
theorem dX7_turn_100 : decode cX7_turn 100 = .ok (.isub, 1) := by decide +kernel
theorem dX7_turn_101 : decode cX7_turn 101 = .ok (.iadd, 1) := by decide +kernel
theorem dX7_turn_102 : decode cX7_turn 102 = .ok (.iastore, 1) := by decide +kernel
theorem dX7_turn_103 : decode cX7_turn 103 = .ok (.iinc 5 1, 3) := by decide +kernel
theorem dX7_turn_106 : decode cX7_turn 106 = .ok (.goto (-33), 3) := by decide +kernel
theorem dX7_turn_109 : decode cX7_turn 109 = .ok (.iload 4, 2) := by decide +kernel
theorem dX7_turn_111 : decode cX7_turn 111 = .ok (.ireturn, 1) := by decide +kernel
theorem dX7_troubleAt_0 : decode cX7_troubleAt 0 = .ok (.aload_n 0, 1) := by decide +kernel
theorem dX7_troubleAt_1 : decode cX7_troubleAt 1 = .ok (.getfield 69, 3) := by decide +kernel
theorem dX7_troubleAt_4 : decode cX7_troubleAt 4 = .ok (.bipush 16, 2) := by decide +kernel
theorem dX7_troubleAt_6 : decode cX7_troubleAt 6 = .ok (.iload_n 1, 1) := by decide +kernel
theorem dX7_troubleAt_7 : decode cX7_troubleAt 7 = .ok (.imul, 1) := by decide +kernel
theorem dX7_troubleAt_8 : decode cX7_troubleAt 8 = .ok (.iload_n 2, 1) := by decide +kernel
theorem dX7_troubleAt_9 : decode cX7_troubleAt 9 = .ok (.iadd, 1) := by decide +kernel
theorem dX7_troubleAt_10 : decode cX7_troubleAt 10 = .ok (.iaload, 1) := by decide +kernel
theorem dX7_troubleAt_11 : decode cX7_troubleAt 11 = .ok (.istore_n 3, 1) := by decide +kernel
theorem dX7_troubleAt_12 : decode cX7_troubleAt 12 = .ok (.aload_n 0, 1) := by decide +kernel
theorem dX7_troubleAt_13 : decode cX7_troubleAt 13 = .ok (.iload_n 3, 1) := by decide +kernel
theorem dX7_troubleAt_14 : decode cX7_troubleAt 14 = .ok (.invokevirtual 136, 3) := by decide +kernel
theorem dX7_troubleAt_17 : decode cX7_troubleAt 17 = .ok (.ifCond .ne 5, 3) := by decide +kernel
theorem dX7_troubleAt_20 : decode cX7_troubleAt 20 = .ok (.iconst 1, 1) := by decide +kernel
theorem dX7_troubleAt_21 : decode cX7_troubleAt 21 = .ok (.ireturn, 1) := by decide +kernel
theorem dX7_troubleAt_22 : decode cX7_troubleAt 22 = .ok (.aload_n 0, 1) := by decide +kernel
theorem dX7_troubleAt_23 : decode cX7_troubleAt 23 = .ok (.iload_n 2, 1) := by decide +kernel
theorem dX7_troubleAt_24 : decode cX7_troubleAt 24 = .ok (.iload_n 3, 1) := by decide +kernel
theorem dX7_troubleAt_25 : decode cX7_troubleAt 25 = .ok (.invokevirtual 143, 3) := by decide +kernel
theorem dX7_troubleAt_28 : decode cX7_troubleAt 28 = .ok (.ifCond .eq 5, 3) := by decide +kernel
theorem dX7_troubleAt_31 : decode cX7_troubleAt 31 = .ok (.iconst 2, 1) := by decide +kernel
theorem dX7_troubleAt_32 : decode cX7_troubleAt 32 = .ok (.ireturn, 1) := by decide +kernel
theorem dX7_troubleAt_33 : decode cX7_troubleAt 33 = .ok (.iconst 0, 1) := by decide +kernel
theorem dX7_troubleAt_34 : decode cX7_troubleAt 34 = .ok (.istore 4, 2) := by decide +kernel
theorem dX7_troubleAt_36 : decode cX7_troubleAt 36 = .ok (.iconst 0, 1) := by decide +kernel
theorem dX7_troubleAt_37 : decode cX7_troubleAt 37 = .ok (.istore 5, 2) := by decide +kernel
theorem dX7_troubleAt_39 : decode cX7_troubleAt 39 = .ok (.iconst 0, 1) := by decide +kernel
theorem dX7_troubleAt_40 : decode cX7_troubleAt 40 = .ok (.istore 6, 2) := by decide +kernel
theorem dX7_troubleAt_42 : decode cX7_troubleAt 42 = .ok (.iload 6, 2) := by decide +kernel
theorem dX7_troubleAt_44 : decode cX7_troubleAt 44 = .ok (.iload_n 1, 1) := by decide +kernel
theorem dX7_troubleAt_45 : decode cX7_troubleAt 45 = .ok (.if_icmp .ge 173, 3) := by decide +kernel
theorem dX7_troubleAt_48 : decode cX7_troubleAt 48 = .ok (.iload_n 2, 1) := by decide +kernel
theorem dX7_troubleAt_49 : decode cX7_troubleAt 49 = .ok (.aload_n 0, 1) := by decide +kernel
theorem dX7_troubleAt_50 : decode cX7_troubleAt 50 = .ok (.getfield 23, 3) := by decide +kernel
theorem dX7_troubleAt_53 : decode cX7_troubleAt 53 = .ok (.iload 6, 2) := by decide +kernel
theorem dX7_troubleAt_55 : decode cX7_troubleAt 55 = .ok (.iaload, 1) := by decide +kernel
theorem dX7_troubleAt_56 : decode cX7_troubleAt 56 = .ok (.if_icmp .lt 156, 3) := by decide +kernel
theorem dX7_troubleAt_59 : decode cX7_troubleAt 59 = .ok (.iload_n 3, 1) := by decide +kernel
theorem dX7_troubleAt_60 : decode cX7_troubleAt 60 = .ok (.aload_n 0, 1) := by decide +kernel
theorem dX7_troubleAt_61 : decode cX7_troubleAt 61 = .ok (.getfield 69, 3) := by decide +kernel
theorem dX7_troubleAt_64 : decode cX7_troubleAt 64 = .ok (.bipush 16, 2) := by decide +kernel
theorem dX7_troubleAt_66 : decode cX7_troubleAt 66 = .ok (.iload 6, 2) := by decide +kernel
theorem dX7_troubleAt_68 : decode cX7_troubleAt 68 = .ok (.imul, 1) := by decide +kernel
theorem dX7_troubleAt_69 : decode cX7_troubleAt 69 = .ok (.iload_n 2, 1) := by decide +kernel
theorem dX7_troubleAt_70 : decode cX7_troubleAt 70 = .ok (.iadd, 1) := by decide +kernel
theorem dX7_troubleAt_71 : decode cX7_troubleAt 71 = .ok (.iaload, 1) := by decide +kernel
theorem dX7_troubleAt_72 : decode cX7_troubleAt 72 = .ok (.isub, 1) := by decide +kernel
theorem dX7_troubleAt_73 : decode cX7_troubleAt 73 = .ok (.istore 7, 2) := by decide +kernel
theorem dX7_troubleAt_75 : decode cX7_troubleAt 75 = .ok (.iload 4, 2) := by decide +kernel
theorem dX7_troubleAt_77 : decode cX7_troubleAt 77 = .ok (.ifCond .ne 25, 3) := by decide +kernel
theorem dX7_troubleAt_80 : decode cX7_troubleAt 80 = .ok (.iload 7, 2) := by decide +kernel
theorem dX7_troubleAt_82 : decode cX7_troubleAt 82 = .ok (.ifCond .ge 9, 3) := by decide +kernel
theorem dX7_troubleAt_85 : decode cX7_troubleAt 85 = .ok (.iload 7, 2) := by decide +kernel
theorem dX7_troubleAt_87 : decode cX7_troubleAt 87 = .ok (.ineg, 1) := by decide +kernel
theorem dX7_troubleAt_88 : decode cX7_troubleAt 88 = .ok (.goto 5, 3) := by decide +kernel
theorem dX7_troubleAt_91 : decode cX7_troubleAt 91 = .ok (.iload 7, 2) := by decide +kernel
theorem dX7_troubleAt_93 : decode cX7_troubleAt 93 = .ok (.aload_n 0, 1) := by decide +kernel
theorem dX7_troubleAt_94 : decode cX7_troubleAt 94 = .ok (.getfield 38, 3) := by decide +kernel
theorem dX7_troubleAt_97 : decode cX7_troubleAt 97 = .ok (.iconst 0, 1) := by decide +kernel
theorem dX7_troubleAt_98 : decode cX7_troubleAt 98 = .ok (.iaload, 1) := by decide +kernel
theorem dX7_troubleAt_99 : decode cX7_troubleAt 99 = .ok (.if_icmp .gt 7, 3) := by decide +kernel
theorem dX7_troubleAt_102 : decode cX7_troubleAt 102 = .ok (.iconst 1, 1) := by decide +kernel
theorem dX7_troubleAt_103 : decode cX7_troubleAt 103 = .ok (.goto 4, 3) := by decide +kernel
theorem dX7_troubleAt_106 : decode cX7_troubleAt 106 = .ok (.iconst 0, 1) := by decide +kernel
theorem dX7_troubleAt_107 : decode cX7_troubleAt 107 = .ok (.istore 4, 2) := by decide +kernel
theorem dX7_troubleAt_109 : decode cX7_troubleAt 109 = .ok (.iload_n 2, 1) := by decide +kernel
theorem dX7_troubleAt_110 : decode cX7_troubleAt 110 = .ok (.aload_n 0, 1) := by decide +kernel
theorem dX7_troubleAt_111 : decode cX7_troubleAt 111 = .ok (.getfield 23, 3) := by decide +kernel
theorem dX7_troubleAt_114 : decode cX7_troubleAt 114 = .ok (.iload 6, 2) := by decide +kernel
theorem dX7_troubleAt_116 : decode cX7_troubleAt 116 = .ok (.iaload, 1) := by decide +kernel
theorem dX7_troubleAt_117 : decode cX7_troubleAt 117 = .ok (.if_icmp .le 17, 3) := by decide +kernel
theorem dX7_troubleAt_120 : decode cX7_troubleAt 120 = .ok (.iload_n 2, 1) := by decide +kernel
theorem dX7_troubleAt_121 : decode cX7_troubleAt 121 = .ok (.aload_n 0, 1) := by decide +kernel
theorem dX7_troubleAt_122 : decode cX7_troubleAt 122 = .ok (.getfield 23, 3) := by decide +kernel
theorem dX7_troubleAt_125 : decode cX7_troubleAt 125 = .ok (.iload_n 1, 1) := by decide +kernel
theorem dX7_troubleAt_126 : decode cX7_troubleAt 126 = .ok (.iaload, 1) := by decide +kernel
theorem dX7_troubleAt_127 : decode cX7_troubleAt 127 = .ok (.if_icmp .le 7, 3) := by decide +kernel
theorem dX7_troubleAt_130 : decode cX7_troubleAt 130 = .ok (.iconst 1, 1) := by decide +kernel
theorem dX7_troubleAt_131 : decode cX7_troubleAt 131 = .ok (.goto 4, 3) := by decide +kernel
theorem dX7_troubleAt_134 : decode cX7_troubleAt 134 = .ok (.iconst 0, 1) := by decide +kernel
theorem dX7_troubleAt_135 : decode cX7_troubleAt 135 = .ok (.istore 8, 2) := by decide +kernel
theorem dX7_troubleAt_137 : decode cX7_troubleAt 137 = .ok (.iload 8, 2) := by decide +kernel
theorem dX7_troubleAt_139 : decode cX7_troubleAt 139 = .ok (.ifCond .eq 34, 3) := by decide +kernel
theorem dX7_troubleAt_142 : decode cX7_troubleAt 142 = .ok (.aload_n 0, 1) := by decide +kernel
theorem dX7_troubleAt_143 : decode cX7_troubleAt 143 = .ok (.getfield 69, 3) := by decide +kernel
theorem dX7_troubleAt_146 : decode cX7_troubleAt 146 = .ok (.bipush 16, 2) := by decide +kernel
theorem dX7_troubleAt_148 : decode cX7_troubleAt 148 = .ok (.iload_n 1, 1) := by decide +kernel
theorem dX7_troubleAt_149 : decode cX7_troubleAt 149 = .ok (.imul, 1) := by decide +kernel
theorem dX7_troubleAt_150 : decode cX7_troubleAt 150 = .ok (.iload_n 2, 1) := by decide +kernel
theorem dX7_troubleAt_151 : decode cX7_troubleAt 151 = .ok (.iadd, 1) := by decide +kernel
theorem dX7_troubleAt_152 : decode cX7_troubleAt 152 = .ok (.iconst 1, 1) := by decide +kernel
theorem dX7_troubleAt_153 : decode cX7_troubleAt 153 = .ok (.isub, 1) := by decide +kernel
theorem dX7_troubleAt_154 : decode cX7_troubleAt 154 = .ok (.iaload, 1) := by decide +kernel
theorem dX7_troubleAt_155 : decode cX7_troubleAt 155 = .ok (.aload_n 0, 1) := by decide +kernel
theorem dX7_troubleAt_156 : decode cX7_troubleAt 156 = .ok (.getfield 69, 3) := by decide +kernel
theorem dX7_troubleAt_159 : decode cX7_troubleAt 159 = .ok (.bipush 16, 2) := by decide +kernel
theorem dX7_troubleAt_161 : decode cX7_troubleAt 161 = .ok (.iload 6, 2) := by decide +kernel
theorem dX7_troubleAt_163 : decode cX7_troubleAt 163 = .ok (.imul, 1) := by decide +kernel
theorem dX7_troubleAt_164 : decode cX7_troubleAt 164 = .ok (.iload_n 2, 1) := by decide +kernel
theorem dX7_troubleAt_165 : decode cX7_troubleAt 165 = .ok (.iadd, 1) := by decide +kernel
theorem dX7_troubleAt_166 : decode cX7_troubleAt 166 = .ok (.iconst 1, 1) := by decide +kernel
theorem dX7_troubleAt_167 : decode cX7_troubleAt 167 = .ok (.isub, 1) := by decide +kernel
theorem dX7_troubleAt_168 : decode cX7_troubleAt 168 = .ok (.iaload, 1) := by decide +kernel
theorem dX7_troubleAt_169 : decode cX7_troubleAt 169 = .ok (.isub, 1) := by decide +kernel
theorem dX7_troubleAt_170 : decode cX7_troubleAt 170 = .ok (.goto 5, 3) := by decide +kernel
theorem dX7_troubleAt_173 : decode cX7_troubleAt 173 = .ok (.iload 7, 2) := by decide +kernel
theorem dX7_troubleAt_175 : decode cX7_troubleAt 175 = .ok (.istore 9, 2) := by decide +kernel
theorem dX7_troubleAt_177 : decode cX7_troubleAt 177 = .ok (.iload 5, 2) := by decide +kernel
theorem dX7_troubleAt_179 : decode cX7_troubleAt 179 = .ok (.ifCond .ne 26, 3) := by decide +kernel
theorem dX7_troubleAt_182 : decode cX7_troubleAt 182 = .ok (.iload 7, 2) := by decide +kernel
theorem dX7_troubleAt_184 : decode cX7_troubleAt 184 = .ok (.ifCond .ge 7, 3) := by decide +kernel
theorem dX7_troubleAt_187 : decode cX7_troubleAt 187 = .ok (.iconst 1, 1) := by decide +kernel
theorem dX7_troubleAt_188 : decode cX7_troubleAt 188 = .ok (.goto 4, 3) := by decide +kernel
theorem dX7_troubleAt_191 : decode cX7_troubleAt 191 = .ok (.iconst 0, 1) := by decide +kernel
theorem dX7_troubleAt_192 : decode cX7_troubleAt 192 = .ok (.iload 9, 2) := by decide +kernel
theorem dX7_troubleAt_194 : decode cX7_troubleAt 194 = .ok (.ifCond .ge 7, 3) := by decide +kernel
theorem dX7_troubleAt_197 : decode cX7_troubleAt 197 = .ok (.iconst 1, 1) := by decide +kernel
theorem dX7_troubleAt_198 : decode cX7_troubleAt 198 = .ok (.goto 4, 3) := by decide +kernel
theorem dX7_troubleAt_201 : decode cX7_troubleAt 201 = .ok (.iconst 0, 1) := by decide +kernel
theorem dX7_troubleAt_202 : decode cX7_troubleAt 202 = .ok (.if_icmp .eq 7, 3) := by decide +kernel
theorem dX7_troubleAt_205 : decode cX7_troubleAt 205 = .ok (.iconst 1, 1) := by decide +kernel
theorem dX7_troubleAt_206 : decode cX7_troubleAt 206 = .ok (.goto 4, 3) := by decide +kernel
theorem dX7_troubleAt_209 : decode cX7_troubleAt 209 = .ok (.iconst 0, 1) := by decide +kernel
theorem dX7_troubleAt_210 : decode cX7_troubleAt 210 = .ok (.istore 5, 2) := by decide +kernel
theorem dX7_troubleAt_212 : decode cX7_troubleAt 212 = .ok (.iinc 6 1, 3) := by decide +kernel
theorem dX7_troubleAt_215 : decode cX7_troubleAt 215 = .ok (.goto (-173), 3) := by decide +kernel
theorem dX7_troubleAt_218 : decode cX7_troubleAt 218 = .ok (.iload 4, 2) := by decide +kernel
theorem dX7_troubleAt_220 : decode cX7_troubleAt 220 = .ok (.ifCond .eq 7, 3) := by decide +kernel
theorem dX7_troubleAt_223 : decode cX7_troubleAt 223 = .ok (.iconst 3, 1) := by decide +kernel
theorem dX7_troubleAt_224 : decode cX7_troubleAt 224 = .ok (.goto 14, 3) := by decide +kernel
theorem dX7_troubleAt_227 : decode cX7_troubleAt 227 = .ok (.iload 5, 2) := by decide +kernel
theorem dX7_troubleAt_229 : decode cX7_troubleAt 229 = .ok (.ifCond .eq 7, 3) := by decide +kernel
theorem dX7_troubleAt_232 : decode cX7_troubleAt 232 = .ok (.iconst 4, 1) := by decide +kernel
theorem dX7_troubleAt_233 : decode cX7_troubleAt 233 = .ok (.goto 5, 3) := by decide +kernel
theorem dX7_troubleAt_236 : decode cX7_troubleAt 236 = .ok (.bipush (-9), 2) := by decide +kernel
theorem dX7_troubleAt_238 : decode cX7_troubleAt 238 = .ok (.ireturn, 1) := by decide +kernel
theorem dX7_judge_0 : decode cX7_judge 0 = .ok (.iload_n 1, 1) := by decide +kernel
theorem dX7_judge_1 : decode cX7_judge 1 = .ok (.iconst 0, 1) := by decide +kernel
theorem dX7_judge_2 : decode cX7_judge 2 = .ok (.iconst 2, 1) := by decide +kernel
theorem dX7_judge_3 : decode cX7_judge 3 = .ok (.invokestatic 85, 3) := by decide +kernel
theorem dX7_judge_6 : decode cX7_judge 6 = .ok (.ifCond .ne 5, 3) := by decide +kernel
theorem dX7_judge_9 : decode cX7_judge 9 = .ok (.iconst (-1), 1) := by decide +kernel
theorem dX7_judge_10 : decode cX7_judge 10 = .ok (.ireturn, 1) := by decide +kernel
theorem dX7_judge_11 : decode cX7_judge 11 = .ok (.iconst 0, 1) := by decide +kernel
theorem dX7_judge_12 : decode cX7_judge 12 = .ok (.istore_n 2, 1) := by decide +kernel
theorem dX7_judge_13 : decode cX7_judge 13 = .ok (.iload_n 2, 1) := by decide +kernel
theorem dX7_judge_14 : decode cX7_judge 14 = .ok (.aload_n 0, 1) := by decide +kernel
theorem dX7_judge_15 : decode cX7_judge 15 = .ok (.getfield 17, 3) := by decide +kernel
theorem dX7_judge_18 : decode cX7_judge 18 = .ok (.iconst 0, 1) := by decide +kernel
theorem dX7_judge_19 : decode cX7_judge 19 = .ok (.iaload, 1) := by decide +kernel
theorem dX7_judge_20 : decode cX7_judge 20 = .ok (.if_icmp .ge 77, 3) := by decide +kernel
theorem dX7_judge_23 : decode cX7_judge 23 = .ok (.iconst 0, 1) := by decide +kernel
theorem dX7_judge_24 : decode cX7_judge 24 = .ok (.istore_n 3, 1) := by decide +kernel
theorem dX7_judge_25 : decode cX7_judge 25 = .ok (.iload_n 3, 1) := by decide +kernel
theorem dX7_judge_26 : decode cX7_judge 26 = .ok (.aload_n 0, 1) := by decide +kernel
theorem dX7_judge_27 : decode cX7_judge 27 = .ok (.getfield 20, 3) := by decide +kernel
theorem dX7_judge_30 : decode cX7_judge 30 = .ok (.iconst 0, 1) := by decide +kernel
theorem dX7_judge_31 : decode cX7_judge 31 = .ok (.iaload, 1) := by decide +kernel
theorem dX7_judge_32 : decode cX7_judge 32 = .ok (.if_icmp .ge 59, 3) := by decide +kernel
theorem dX7_judge_35 : decode cX7_judge 35 = .ok (.iload_n 2, 1) := by decide +kernel
theorem dX7_judge_36 : decode cX7_judge 36 = .ok (.aload_n 0, 1) := by decide +kernel
theorem dX7_judge_37 : decode cX7_judge 37 = .ok (.getfield 23, 3) := by decide +kernel
theorem dX7_judge_40 : decode cX7_judge 40 = .ok (.iload_n 3, 1) := by decide +kernel
theorem dX7_judge_41 : decode cX7_judge 41 = .ok (.iaload, 1) := by decide +kernel
theorem dX7_judge_42 : decode cX7_judge 42 = .ok (.if_icmp .lt 12, 3) := by decide +kernel
theorem dX7_judge_45 : decode cX7_judge 45 = .ok (.aload_n 0, 1) := by decide +kernel
theorem dX7_judge_46 : decode cX7_judge 46 = .ok (.iload_n 3, 1) := by decide +kernel
theorem dX7_judge_47 : decode cX7_judge 47 = .ok (.iload_n 2, 1) := by decide +kernel
theorem dX7_judge_48 : decode cX7_judge 48 = .ok (.invokevirtual 239, 3) := by decide +kernel
theorem dX7_judge_51 : decode cX7_judge 51 = .ok (.goto 5, 3) := by decide +kernel
theorem dX7_judge_54 : decode cX7_judge 54 = .ok (.bipush (-9), 2) := by decide +kernel
theorem dX7_judge_56 : decode cX7_judge 56 = .ok (.istore 4, 2) := by decide +kernel
theorem dX7_judge_58 : decode cX7_judge 58 = .ok (.iload 4, 2) := by decide +kernel
theorem dX7_judge_60 : decode cX7_judge 60 = .ok (.bipush (-9), 2) := by decide +kernel
theorem dX7_judge_62 : decode cX7_judge 62 = .ok (.if_icmp .eq 23, 3) := by decide +kernel
theorem dX7_judge_65 : decode cX7_judge 65 = .ok (.iload_n 1, 1) := by decide +kernel
theorem dX7_judge_66 : decode cX7_judge 66 = .ok (.ifCond .ne 8, 3) := by decide +kernel
theorem dX7_judge_69 : decode cX7_judge 69 = .ok (.iload 4, 2) := by decide +kernel
theorem dX7_judge_71 : decode cX7_judge 71 = .ok (.goto 13, 3) := by decide +kernel
theorem dX7_judge_74 : decode cX7_judge 74 = .ok (.iload_n 1, 1) := by decide +kernel
theorem dX7_judge_75 : decode cX7_judge 75 = .ok (.iconst 1, 1) := by decide +kernel
theorem dX7_judge_76 : decode cX7_judge 76 = .ok (.if_icmp .ne 7, 3) := by decide +kernel
theorem dX7_judge_79 : decode cX7_judge 79 = .ok (.iload_n 3, 1) := by decide +kernel
theorem dX7_judge_80 : decode cX7_judge 80 = .ok (.goto 4, 3) := by decide +kernel
theorem dX7_judge_83 : decode cX7_judge 83 = .ok (.iload_n 2, 1) := by decide +kernel
theorem dX7_judge_84 : decode cX7_judge 84 = .ok (.ireturn, 1) := by decide +kernel
theorem dX7_judge_85 : decode cX7_judge 85 = .ok (.iinc 3 1, 3) := by decide +kernel
theorem dX7_judge_88 : decode cX7_judge 88 = .ok (.goto (-63), 3) := by decide +kernel
theorem dX7_judge_91 : decode cX7_judge 91 = .ok (.iinc 2 1, 3) := by decide +kernel
theorem dX7_judge_94 : decode cX7_judge 94 = .ok (.goto (-81), 3) := by decide +kernel
theorem dX7_judge_97 : decode cX7_judge 97 = .ok (.bipush (-9), 2) := by decide +kernel
theorem dX7_judge_99 : decode cX7_judge 99 = .ok (.ireturn, 1) := by decide +kernel
theorem dX7_stepInto_0 : decode cX7_stepInto 0 = .ok (.aload_n 0, 1) := by decide +kernel
theorem dX7_stepInto_1 : decode cX7_stepInto 1 = .ok (.getfield 69, 3) := by decide +kernel
theorem dX7_stepInto_4 : decode cX7_stepInto 4 = .ok (.bipush 16, 2) := by decide +kernel
theorem dX7_stepInto_6 : decode cX7_stepInto 6 = .ok (.iload_n 1, 1) := by decide +kernel
theorem dX7_stepInto_7 : decode cX7_stepInto 7 = .ok (.imul, 1) := by decide +kernel
theorem dX7_stepInto_8 : decode cX7_stepInto 8 = .ok (.iload_n 2, 1) := by decide +kernel
theorem dX7_stepInto_9 : decode cX7_stepInto 9 = .ok (.iadd, 1) := by decide +kernel
theorem dX7_stepInto_10 : decode cX7_stepInto 10 = .ok (.iaload, 1) := by decide +kernel
theorem dX7_stepInto_11 : decode cX7_stepInto 11 = .ok (.aload_n 0, 1) := by decide +kernel
theorem dX7_stepInto_12 : decode cX7_stepInto 12 = .ok (.getfield 69, 3) := by decide +kernel
theorem dX7_stepInto_15 : decode cX7_stepInto 15 = .ok (.bipush 16, 2) := by decide +kernel
theorem dX7_stepInto_17 : decode cX7_stepInto 17 = .ok (.iload_n 1, 1) := by decide +kernel
theorem dX7_stepInto_18 : decode cX7_stepInto 18 = .ok (.imul, 1) := by decide +kernel
theorem dX7_stepInto_19 : decode cX7_stepInto 19 = .ok (.iload_n 2, 1) := by decide +kernel
theorem dX7_stepInto_20 : decode cX7_stepInto 20 = .ok (.iadd, 1) := by decide +kernel
theorem dX7_stepInto_21 : decode cX7_stepInto 21 = .ok (.iconst 1, 1) := by decide +kernel
theorem dX7_stepInto_22 : decode cX7_stepInto 22 = .ok (.isub, 1) := by decide +kernel
theorem dX7_stepInto_23 : decode cX7_stepInto 23 = .ok (.iaload, 1) := by decide +kernel
theorem dX7_stepInto_24 : decode cX7_stepInto 24 = .ok (.isub, 1) := by decide +kernel
theorem dX7_stepInto_25 : decode cX7_stepInto 25 = .ok (.ireturn, 1) := by decide +kernel
theorem dX7_bendsOf_0 : decode cX7_bendsOf 0 = .ok (.iconst 0, 1) := by decide +kernel
theorem dX7_bendsOf_1 : decode cX7_bendsOf 1 = .ok (.istore_n 2, 1) := by decide +kernel
theorem dX7_bendsOf_2 : decode cX7_bendsOf 2 = .ok (.aload_n 0, 1) := by decide +kernel
theorem dX7_bendsOf_3 : decode cX7_bendsOf 3 = .ok (.getfield 23, 3) := by decide +kernel
theorem dX7_bendsOf_6 : decode cX7_bendsOf 6 = .ok (.iload_n 1, 1) := by decide +kernel
theorem dX7_bendsOf_7 : decode cX7_bendsOf 7 = .ok (.iaload, 1) := by decide +kernel
theorem dX7_bendsOf_8 : decode cX7_bendsOf 8 = .ok (.iconst 2, 1) := by decide +kernel
theorem dX7_bendsOf_9 : decode cX7_bendsOf 9 = .ok (.iadd, 1) := by decide +kernel
theorem dX7_bendsOf_10 : decode cX7_bendsOf 10 = .ok (.istore_n 3, 1) := by decide +kernel
theorem dX7_bendsOf_11 : decode cX7_bendsOf 11 = .ok (.iload_n 3, 1) := by decide +kernel
theorem dX7_bendsOf_12 : decode cX7_bendsOf 12 = .ok (.aload_n 0, 1) := by decide +kernel
theorem dX7_bendsOf_13 : decode cX7_bendsOf 13 = .ok (.getfield 17, 3) := by decide +kernel
theorem dX7_bendsOf_16 : decode cX7_bendsOf 16 = .ok (.iconst 0, 1) := by decide +kernel
theorem dX7_bendsOf_17 : decode cX7_bendsOf 17 = .ok (.iaload, 1) := by decide +kernel
theorem dX7_bendsOf_18 : decode cX7_bendsOf 18 = .ok (.if_icmp .ge 34, 3) := by decide +kernel
theorem dX7_bendsOf_21 : decode cX7_bendsOf 21 = .ok (.iload_n 2, 1) := by decide +kernel
theorem dX7_bendsOf_22 : decode cX7_bendsOf 22 = .ok (.aload_n 0, 1) := by decide +kernel
theorem dX7_bendsOf_23 : decode cX7_bendsOf 23 = .ok (.iload_n 1, 1) := by decide +kernel
theorem dX7_bendsOf_24 : decode cX7_bendsOf 24 = .ok (.iload_n 3, 1) := by decide +kernel
theorem dX7_bendsOf_25 : decode cX7_bendsOf 25 = .ok (.invokevirtual 242, 3) := by decide +kernel
theorem dX7_bendsOf_28 : decode cX7_bendsOf 28 = .ok (.aload_n 0, 1) := by decide +kernel
theorem dX7_bendsOf_29 : decode cX7_bendsOf 29 = .ok (.iload_n 1, 1) := by decide +kernel
theorem dX7_bendsOf_30 : decode cX7_bendsOf 30 = .ok (.iload_n 3, 1) := by decide +kernel
theorem dX7_bendsOf_31 : decode cX7_bendsOf 31 = .ok (.iconst 1, 1) := by decide +kernel
theorem dX7_bendsOf_32 : decode cX7_bendsOf 32 = .ok (.isub, 1) := by decide +kernel
theorem dX7_bendsOf_33 : decode cX7_bendsOf 33 = .ok (.invokevirtual 242, 3) := by decide +kernel
theorem dX7_bendsOf_36 : decode cX7_bendsOf 36 = .ok (.if_icmp .eq 7, 3) := by decide +kernel
theorem dX7_bendsOf_39 : decode cX7_bendsOf 39 = .ok (.iconst 1, 1) := by decide +kernel
theorem dX7_bendsOf_40 : decode cX7_bendsOf 40 = .ok (.goto 4, 3) := by decide +kernel
theorem dX7_bendsOf_43 : decode cX7_bendsOf 43 = .ok (.iconst 0, 1) := by decide +kernel
theorem dX7_bendsOf_44 : decode cX7_bendsOf 44 = .ok (.iadd, 1) := by decide +kernel
theorem dX7_bendsOf_45 : decode cX7_bendsOf 45 = .ok (.istore_n 2, 1) := by decide +kernel
theorem dX7_bendsOf_46 : decode cX7_bendsOf 46 = .ok (.iinc 3 1, 3) := by decide +kernel
theorem dX7_bendsOf_49 : decode cX7_bendsOf 49 = .ok (.goto (-38), 3) := by decide +kernel
theorem dX7_bendsOf_52 : decode cX7_bendsOf 52 = .ok (.iload_n 2, 1) := by decide +kernel
theorem dX7_bendsOf_53 : decode cX7_bendsOf 53 = .ok (.ireturn, 1) := by decide +kernel
theorem dX7_leansOf_0 : decode cX7_leansOf 0 = .ok (.iconst 0, 1) := by decide +kernel
theorem dX7_leansOf_1 : decode cX7_leansOf 1 = .ok (.istore_n 2, 1) := by decide +kernel
theorem dX7_leansOf_2 : decode cX7_leansOf 2 = .ok (.aload_n 0, 1) := by decide +kernel
theorem dX7_leansOf_3 : decode cX7_leansOf 3 = .ok (.getfield 23, 3) := by decide +kernel
theorem dX7_leansOf_6 : decode cX7_leansOf 6 = .ok (.iload_n 1, 1) := by decide +kernel
theorem dX7_leansOf_7 : decode cX7_leansOf 7 = .ok (.iaload, 1) := by decide +kernel
theorem dX7_leansOf_8 : decode cX7_leansOf 8 = .ok (.iconst 1, 1) := by decide +kernel
theorem dX7_leansOf_9 : decode cX7_leansOf 9 = .ok (.iadd, 1) := by decide +kernel
theorem dX7_leansOf_10 : decode cX7_leansOf 10 = .ok (.istore_n 3, 1) := by decide +kernel
theorem dX7_leansOf_11 : decode cX7_leansOf 11 = .ok (.iload_n 3, 1) := by decide +kernel
theorem dX7_leansOf_12 : decode cX7_leansOf 12 = .ok (.aload_n 0, 1) := by decide +kernel
theorem dX7_leansOf_13 : decode cX7_leansOf 13 = .ok (.getfield 17, 3) := by decide +kernel
theorem dX7_leansOf_16 : decode cX7_leansOf 16 = .ok (.iconst 0, 1) := by decide +kernel
theorem dX7_leansOf_17 : decode cX7_leansOf 17 = .ok (.iaload, 1) := by decide +kernel
theorem dX7_leansOf_18 : decode cX7_leansOf 18 = .ok (.if_icmp .ge 26, 3) := by decide +kernel
theorem dX7_leansOf_21 : decode cX7_leansOf 21 = .ok (.iload_n 2, 1) := by decide +kernel
theorem dX7_leansOf_22 : decode cX7_leansOf 22 = .ok (.aload_n 0, 1) := by decide +kernel
theorem dX7_leansOf_23 : decode cX7_leansOf 23 = .ok (.iload_n 1, 1) := by decide +kernel
theorem dX7_leansOf_24 : decode cX7_leansOf 24 = .ok (.iload_n 3, 1) := by decide +kernel
theorem dX7_leansOf_25 : decode cX7_leansOf 25 = .ok (.invokevirtual 242, 3) := by decide +kernel
theorem dX7_leansOf_28 : decode cX7_leansOf 28 = .ok (.ifCond .eq 7, 3) := by decide +kernel
theorem dX7_leansOf_31 : decode cX7_leansOf 31 = .ok (.iconst 1, 1) := by decide +kernel
theorem dX7_leansOf_32 : decode cX7_leansOf 32 = .ok (.goto 4, 3) := by decide +kernel
theorem dX7_leansOf_35 : decode cX7_leansOf 35 = .ok (.iconst 0, 1) := by decide +kernel
theorem dX7_leansOf_36 : decode cX7_leansOf 36 = .ok (.iadd, 1) := by decide +kernel
theorem dX7_leansOf_37 : decode cX7_leansOf 37 = .ok (.istore_n 2, 1) := by decide +kernel
theorem dX7_leansOf_38 : decode cX7_leansOf 38 = .ok (.iinc 3 1, 3) := by decide +kernel
theorem dX7_leansOf_41 : decode cX7_leansOf 41 = .ok (.goto (-30), 3) := by decide +kernel
theorem dX7_leansOf_44 : decode cX7_leansOf 44 = .ok (.iload_n 2, 1) := by decide +kernel
theorem dX7_leansOf_45 : decode cX7_leansOf 45 = .ok (.ireturn, 1) := by decide +kernel
theorem dX7_coldOf_0 : decode cX7_coldOf 0 = .ok (.iconst 0, 1) := by decide +kernel
theorem dX7_coldOf_1 : decode cX7_coldOf 1 = .ok (.istore_n 2, 1) := by decide +kernel
theorem dX7_coldOf_2 : decode cX7_coldOf 2 = .ok (.aload_n 0, 1) := by decide +kernel
theorem dX7_coldOf_3 : decode cX7_coldOf 3 = .ok (.getfield 23, 3) := by decide +kernel
theorem dX7_coldOf_6 : decode cX7_coldOf 6 = .ok (.iload_n 1, 1) := by decide +kernel
theorem dX7_coldOf_7 : decode cX7_coldOf 7 = .ok (.iaload, 1) := by decide +kernel
theorem dX7_coldOf_8 : decode cX7_coldOf 8 = .ok (.istore_n 3, 1) := by decide +kernel
theorem dX7_coldOf_9 : decode cX7_coldOf 9 = .ok (.iload_n 3, 1) := by decide +kernel
theorem dX7_coldOf_10 : decode cX7_coldOf 10 = .ok (.aload_n 0, 1) := by decide +kernel
theorem dX7_coldOf_11 : decode cX7_coldOf 11 = .ok (.getfield 17, 3) := by decide +kernel
theorem dX7_coldOf_14 : decode cX7_coldOf 14 = .ok (.iconst 0, 1) := by decide +kernel
theorem dX7_coldOf_15 : decode cX7_coldOf 15 = .ok (.iaload, 1) := by decide +kernel
theorem dX7_coldOf_16 : decode cX7_coldOf 16 = .ok (.if_icmp .ge 35, 3) := by decide +kernel
theorem dX7_coldOf_19 : decode cX7_coldOf 19 = .ok (.iload_n 2, 1) := by decide +kernel
theorem dX7_coldOf_20 : decode cX7_coldOf 20 = .ok (.aload_n 0, 1) := by decide +kernel
theorem dX7_coldOf_21 : decode cX7_coldOf 21 = .ok (.aload_n 0, 1) := by decide +kernel
theorem dX7_coldOf_22 : decode cX7_coldOf 22 = .ok (.getfield 69, 3) := by decide +kernel
theorem dX7_coldOf_25 : decode cX7_coldOf 25 = .ok (.bipush 16, 2) := by decide +kernel
theorem dX7_coldOf_27 : decode cX7_coldOf 27 = .ok (.iload_n 1, 1) := by decide +kernel
theorem dX7_coldOf_28 : decode cX7_coldOf 28 = .ok (.imul, 1) := by decide +kernel
theorem dX7_coldOf_29 : decode cX7_coldOf 29 = .ok (.iload_n 3, 1) := by decide +kernel
theorem dX7_coldOf_30 : decode cX7_coldOf 30 = .ok (.iadd, 1) := by decide +kernel
theorem dX7_coldOf_31 : decode cX7_coldOf 31 = .ok (.iaload, 1) := by decide +kernel
theorem dX7_coldOf_32 : decode cX7_coldOf 32 = .ok (.invokevirtual 147, 3) := by decide +kernel
theorem dX7_coldOf_35 : decode cX7_coldOf 35 = .ok (.ifCond .eq 7, 3) := by decide +kernel
theorem dX7_coldOf_38 : decode cX7_coldOf 38 = .ok (.iconst 1, 1) := by decide +kernel
theorem dX7_coldOf_39 : decode cX7_coldOf 39 = .ok (.goto 4, 3) := by decide +kernel
theorem dX7_coldOf_42 : decode cX7_coldOf 42 = .ok (.iconst 0, 1) := by decide +kernel
theorem dX7_coldOf_43 : decode cX7_coldOf 43 = .ok (.iadd, 1) := by decide +kernel
theorem dX7_coldOf_44 : decode cX7_coldOf 44 = .ok (.istore_n 2, 1) := by decide +kernel
theorem dX7_coldOf_45 : decode cX7_coldOf 45 = .ok (.iinc 3 1, 3) := by decide +kernel
theorem dX7_coldOf_48 : decode cX7_coldOf 48 = .ok (.goto (-39), 3) := by decide +kernel
theorem dX7_coldOf_51 : decode cX7_coldOf 51 = .ok (.iload_n 2, 1) := by decide +kernel
theorem dX7_coldOf_52 : decode cX7_coldOf 52 = .ok (.ireturn, 1) := by decide +kernel
theorem dX7_plan_0 : decode cX7_plan 0 = .ok (.aload_n 0, 1) := by decide +kernel
theorem dX7_plan_1 : decode cX7_plan 1 = .ok (.iload_n 1, 1) := by decide +kernel
theorem dX7_plan_2 : decode cX7_plan 2 = .ok (.invokevirtual 150, 3) := by decide +kernel
theorem dX7_plan_5 : decode cX7_plan 5 = .ok (.ifCond .eq 12, 3) := by decide +kernel
theorem dX7_plan_8 : decode cX7_plan 8 = .ok (.iload_n 2, 1) := by decide +kernel
theorem dX7_plan_9 : decode cX7_plan 9 = .ok (.iconst 0, 1) := by decide +kernel
theorem dX7_plan_10 : decode cX7_plan 10 = .ok (.iconst 3, 1) := by decide +kernel
theorem dX7_plan_11 : decode cX7_plan 11 = .ok (.invokestatic 85, 3) := by decide +kernel
theorem dX7_plan_14 : decode cX7_plan 14 = .ok (.ifCond .ne 5, 3) := by decide +kernel
theorem dX7_plan_17 : decode cX7_plan 17 = .ok (.iconst (-1), 1) := by decide +kernel
theorem dX7_plan_18 : decode cX7_plan 18 = .ok (.ireturn, 1) := by decide +kernel
theorem dX7_plan_19 : decode cX7_plan 19 = .ok (.aload_n 0, 1) := by decide +kernel
theorem dX7_plan_20 : decode cX7_plan 20 = .ok (.iload_n 1, 1) := by decide +kernel
theorem dX7_plan_21 : decode cX7_plan 21 = .ok (.invokevirtual 245, 3) := by decide +kernel
theorem dX7_plan_24 : decode cX7_plan 24 = .ok (.iconst 1, 1) := by decide +kernel
theorem dX7_plan_25 : decode cX7_plan 25 = .ok (.iadd, 1) := by decide +kernel
theorem dX7_plan_26 : decode cX7_plan 26 = .ok (.iconst 2, 1) := by decide +kernel
theorem dX7_plan_27 : decode cX7_plan 27 = .ok (.aload_n 0, 1) := by decide +kernel
theorem dX7_plan_28 : decode cX7_plan 28 = .ok (.getfield 38, 3) := by decide +kernel
theorem dX7_plan_31 : decode cX7_plan 31 = .ok (.iconst 4, 1) := by decide +kernel
theorem dX7_plan_32 : decode cX7_plan 32 = .ok (.iaload, 1) := by decide +kernel
theorem dX7_plan_33 : decode cX7_plan 33 = .ok (.iconst 1, 1) := by decide +kernel
theorem dX7_plan_34 : decode cX7_plan 34 = .ok (.iadd, 1) := by decide +kernel
theorem dX7_plan_35 : decode cX7_plan 35 = .ok (.imul, 1) := by decide +kernel
theorem dX7_plan_36 : decode cX7_plan 36 = .ok (.isub, 1) := by decide +kernel
theorem dX7_plan_37 : decode cX7_plan 37 = .ok (.istore_n 3, 1) := by decide +kernel
theorem dX7_plan_38 : decode cX7_plan 38 = .ok (.iconst 2, 1) := by decide +kernel
theorem dX7_plan_39 : decode cX7_plan 39 = .ok (.aload_n 0, 1) := by decide +kernel
theorem dX7_plan_40 : decode cX7_plan 40 = .ok (.getfield 38, 3) := by decide +kernel
theorem dX7_plan_43 : decode cX7_plan 43 = .ok (.iconst 4, 1) := by decide +kernel
theorem dX7_plan_44 : decode cX7_plan 44 = .ok (.iaload, 1) := by decide +kernel
theorem dX7_plan_45 : decode cX7_plan 45 = .ok (.imul, 1) := by decide +kernel
theorem dX7_plan_46 : decode cX7_plan 46 = .ok (.iconst 1, 1) := by decide +kernel
theorem dX7_plan_47 : decode cX7_plan 47 = .ok (.iadd, 1) := by decide +kernel
theorem dX7_plan_48 : decode cX7_plan 48 = .ok (.istore 4, 2) := by decide +kernel
theorem dX7_plan_50 : decode cX7_plan 50 = .ok (.iload_n 2, 1) := by decide +kernel
theorem dX7_plan_51 : decode cX7_plan 51 = .ok (.ifCond .ne 11, 3) := by decide +kernel
theorem dX7_plan_54 : decode cX7_plan 54 = .ok (.aload_n 0, 1) := by decide +kernel
theorem dX7_plan_55 : decode cX7_plan 55 = .ok (.iload_n 1, 1) := by decide +kernel
theorem dX7_plan_56 : decode cX7_plan 56 = .ok (.invokevirtual 245, 3) := by decide +kernel
theorem dX7_plan_59 : decode cX7_plan 59 = .ok (.goto 46, 3) := by decide +kernel
theorem dX7_plan_62 : decode cX7_plan 62 = .ok (.iload_n 2, 1) := by decide +kernel
theorem dX7_plan_63 : decode cX7_plan 63 = .ok (.iconst 1, 1) := by decide +kernel
theorem dX7_plan_64 : decode cX7_plan 64 = .ok (.if_icmp .ne 11, 3) := by decide +kernel
theorem dX7_plan_67 : decode cX7_plan 67 = .ok (.aload_n 0, 1) := by decide +kernel
theorem dX7_plan_68 : decode cX7_plan 68 = .ok (.iload_n 1, 1) := by decide +kernel
theorem dX7_plan_69 : decode cX7_plan 69 = .ok (.invokevirtual 248, 3) := by decide +kernel
theorem dX7_plan_72 : decode cX7_plan 72 = .ok (.goto 33, 3) := by decide +kernel
theorem dX7_plan_75 : decode cX7_plan 75 = .ok (.iload_n 2, 1) := by decide +kernel
theorem dX7_plan_76 : decode cX7_plan 76 = .ok (.iconst 2, 1) := by decide +kernel
theorem dX7_plan_77 : decode cX7_plan 77 = .ok (.if_icmp .ne 11, 3) := by decide +kernel
theorem dX7_plan_80 : decode cX7_plan 80 = .ok (.aload_n 0, 1) := by decide +kernel
theorem dX7_plan_81 : decode cX7_plan 81 = .ok (.iload_n 1, 1) := by decide +kernel
theorem dX7_plan_82 : decode cX7_plan 82 = .ok (.invokevirtual 251, 3) := by decide +kernel
theorem dX7_plan_85 : decode cX7_plan 85 = .ok (.goto 20, 3) := by decide +kernel
theorem dX7_plan_88 : decode cX7_plan 88 = .ok (.iload_n 3, 1) := by decide +kernel
theorem dX7_plan_89 : decode cX7_plan 89 = .ok (.ifCond .gt 7, 3) := by decide +kernel
theorem dX7_plan_92 : decode cX7_plan 92 = .ok (.iconst 0, 1) := by decide +kernel
theorem dX7_plan_93 : decode cX7_plan 93 = .ok (.goto 12, 3) := by decide +kernel
theorem dX7_plan_96 : decode cX7_plan 96 = .ok (.iload_n 3, 1) := by decide +kernel
theorem dX7_plan_97 : decode cX7_plan 97 = .ok (.iload 4, 2) := by decide +kernel
theorem dX7_plan_99 : decode cX7_plan 99 = .ok (.iadd, 1) := by decide +kernel
theorem dX7_plan_100 : decode cX7_plan 100 = .ok (.iconst 1, 1) := by decide +kernel
theorem dX7_plan_101 : decode cX7_plan 101 = .ok (.isub, 1) := by decide +kernel
theorem dX7_plan_102 : decode cX7_plan 102 = .ok (.iload 4, 2) := by decide +kernel
theorem dX7_plan_104 : decode cX7_plan 104 = .ok (.idiv, 1) := by decide +kernel
theorem dX7_plan_105 : decode cX7_plan 105 = .ok (.ireturn, 1) := by decide +kernel
theorem dX7_drawOf_0 : decode cX7_drawOf 0 = .ok (.aload_n 0, 1) := by decide +kernel
theorem dX7_drawOf_1 : decode cX7_drawOf 1 = .ok (.getfield 69, 3) := by decide +kernel
theorem dX7_drawOf_4 : decode cX7_drawOf 4 = .ok (.bipush 16, 2) := by decide +kernel
theorem dX7_drawOf_6 : decode cX7_drawOf 6 = .ok (.iload_n 1, 1) := by decide +kernel
theorem dX7_drawOf_7 : decode cX7_drawOf 7 = .ok (.imul, 1) := by decide +kernel
theorem dX7_drawOf_8 : decode cX7_drawOf 8 = .ok (.aload_n 0, 1) := by decide +kernel
theorem dX7_drawOf_9 : decode cX7_drawOf 9 = .ok (.getfield 17, 3) := by decide +kernel
theorem dX7_drawOf_12 : decode cX7_drawOf 12 = .ok (.iconst 0, 1) := by decide +kernel
theorem dX7_drawOf_13 : decode cX7_drawOf 13 = .ok (.iaload, 1) := by decide +kernel
theorem dX7_drawOf_14 : decode cX7_drawOf 14 = .ok (.iadd, 1) := by decide +kernel
theorem dX7_drawOf_15 : decode cX7_drawOf 15 = .ok (.iconst 1, 1) := by decide +kernel
theorem dX7_drawOf_16 : decode cX7_drawOf 16 = .ok (.isub, 1) := by decide +kernel
theorem dX7_drawOf_17 : decode cX7_drawOf 17 = .ok (.iaload, 1) := by decide +kernel
theorem dX7_drawOf_18 : decode cX7_drawOf 18 = .ok (.istore_n 3, 1) := by decide +kernel
theorem dX7_drawOf_19 : decode cX7_drawOf 19 = .ok (.aload_n 0, 1) := by decide +kernel
theorem dX7_drawOf_20 : decode cX7_drawOf 20 = .ok (.iload_n 3, 1) := by decide +kernel
theorem dX7_drawOf_21 : decode cX7_drawOf 21 = .ok (.invokevirtual 136, 3) := by decide +kernel
theorem dX7_drawOf_24 : decode cX7_drawOf 24 = .ok (.ifCond .eq 17, 3) := by decide +kernel
theorem dX7_drawOf_27 : decode cX7_drawOf 27 = .ok (.aload_n 0, 1) := by decide +kernel
theorem dX7_drawOf_28 : decode cX7_drawOf 28 = .ok (.getfield 41, 3) := by decide +kernel
theorem dX7_drawOf_31 : decode cX7_drawOf 31 = .ok (.bipush 10, 2) := by decide +kernel
theorem dX7_drawOf_33 : decode cX7_drawOf 33 = .ok (.iload_n 2, 1) := by decide +kernel
theorem dX7_drawOf_34 : decode cX7_drawOf 34 = .ok (.imul, 1) := by decide +kernel
theorem dX7_drawOf_35 : decode cX7_drawOf 35 = .ok (.iload_n 3, 1) := by decide +kernel
theorem dX7_drawOf_36 : decode cX7_drawOf 36 = .ok (.iadd, 1) := by decide +kernel
theorem dX7_drawOf_37 : decode cX7_drawOf 37 = .ok (.iaload, 1) := by decide +kernel
theorem dX7_drawOf_38 : decode cX7_drawOf 38 = .ok (.goto 4, 3) := by decide +kernel
theorem dX7_drawOf_41 : decode cX7_drawOf 41 = .ok (.iconst 0, 1) := by decide +kernel
theorem dX7_drawOf_42 : decode cX7_drawOf 42 = .ok (.istore 4, 2) := by decide +kernel
theorem dX7_drawOf_44 : decode cX7_drawOf 44 = .ok (.aload_n 0, 1) := by decide +kernel
theorem dX7_drawOf_45 : decode cX7_drawOf 45 = .ok (.getfield 38, 3) := by decide +kernel
theorem dX7_drawOf_48 : decode cX7_drawOf 48 = .ok (.iconst 3, 1) := by decide +kernel
theorem dX7_drawOf_49 : decode cX7_drawOf 49 = .ok (.iaload, 1) := by decide +kernel
theorem dX7_drawOf_50 : decode cX7_drawOf 50 = .ok (.aload_n 0, 1) := by decide +kernel
theorem dX7_drawOf_51 : decode cX7_drawOf 51 = .ok (.getfield 17, 3) := by decide +kernel
theorem dX7_drawOf_54 : decode cX7_drawOf 54 = .ok (.iconst 0, 1) := by decide +kernel
theorem dX7_drawOf_55 : decode cX7_drawOf 55 = .ok (.iaload, 1) := by decide +kernel
theorem dX7_drawOf_56 : decode cX7_drawOf 56 = .ok (.iconst 1, 1) := by decide +kernel
theorem dX7_drawOf_57 : decode cX7_drawOf 57 = .ok (.isub, 1) := by decide +kernel
theorem dX7_drawOf_58 : decode cX7_drawOf 58 = .ok (.aload_n 0, 1) := by decide +kernel
theorem dX7_drawOf_59 : decode cX7_drawOf 59 = .ok (.getfield 23, 3) := by decide +kernel
theorem dX7_drawOf_62 : decode cX7_drawOf 62 = .ok (.iload_n 1, 1) := by decide +kernel
theorem dX7_drawOf_63 : decode cX7_drawOf 63 = .ok (.iaload, 1) := by decide +kernel
theorem dX7_drawOf_64 : decode cX7_drawOf 64 = .ok (.isub, 1) := by decide +kernel
theorem dX7_drawOf_65 : decode cX7_drawOf 65 = .ok (.imul, 1) := by decide +kernel
theorem dX7_drawOf_66 : decode cX7_drawOf 66 = .ok (.aload_n 0, 1) := by decide +kernel
theorem dX7_drawOf_67 : decode cX7_drawOf 67 = .ok (.getfield 38, 3) := by decide +kernel
theorem dX7_drawOf_70 : decode cX7_drawOf 70 = .ok (.iconst 1, 1) := by decide +kernel
theorem dX7_drawOf_71 : decode cX7_drawOf 71 = .ok (.iaload, 1) := by decide +kernel
theorem dX7_drawOf_72 : decode cX7_drawOf 72 = .ok (.aload_n 0, 1) := by decide +kernel
theorem dX7_drawOf_73 : decode cX7_drawOf 73 = .ok (.iload_n 1, 1) := by decide +kernel
theorem dX7_drawOf_74 : decode cX7_drawOf 74 = .ok (.invokevirtual 245, 3) := by decide +kernel
theorem dX7_drawOf_77 : decode cX7_drawOf 77 = .ok (.imul, 1) := by decide +kernel
theorem dX7_drawOf_78 : decode cX7_drawOf 78 = .ok (.isub, 1) := by decide +kernel
theorem dX7_drawOf_79 : decode cX7_drawOf 79 = .ok (.aload_n 0, 1) := by decide +kernel
theorem dX7_drawOf_80 : decode cX7_drawOf 80 = .ok (.getfield 38, 3) := by decide +kernel
theorem dX7_drawOf_83 : decode cX7_drawOf 83 = .ok (.iconst 2, 1) := by decide +kernel
theorem dX7_drawOf_84 : decode cX7_drawOf 84 = .ok (.iaload, 1) := by decide +kernel
theorem dX7_drawOf_85 : decode cX7_drawOf 85 = .ok (.aload_n 0, 1) := by decide +kernel
theorem dX7_drawOf_86 : decode cX7_drawOf 86 = .ok (.iload_n 1, 1) := by decide +kernel
theorem dX7_drawOf_87 : decode cX7_drawOf 87 = .ok (.invokevirtual 251, 3) := by decide +kernel
theorem dX7_drawOf_90 : decode cX7_drawOf 90 = .ok (.imul, 1) := by decide +kernel
theorem dX7_drawOf_91 : decode cX7_drawOf 91 = .ok (.isub, 1) := by decide +kernel
theorem dX7_drawOf_92 : decode cX7_drawOf 92 = .ok (.iload 4, 2) := by decide +kernel
theorem dX7_drawOf_94 : decode cX7_drawOf 94 = .ok (.iadd, 1) := by decide +kernel
theorem dX7_drawOf_95 : decode cX7_drawOf 95 = .ok (.ireturn, 1) := by decide +kernel
theorem dX7_draw_0 : decode cX7_draw 0 = .ok (.aload_n 0, 1) := by decide +kernel
theorem dX7_draw_1 : decode cX7_draw 1 = .ok (.iload_n 1, 1) := by decide +kernel
theorem dX7_draw_2 : decode cX7_draw 2 = .ok (.invokevirtual 150, 3) := by decide +kernel
theorem dX7_draw_5 : decode cX7_draw 5 = .ok (.ifCond .eq 21, 3) := by decide +kernel
theorem dX7_draw_8 : decode cX7_draw 8 = .ok (.iload_n 2, 1) := by decide +kernel
theorem dX7_draw_9 : decode cX7_draw 9 = .ok (.iconst 0, 1) := by decide +kernel
theorem dX7_draw_10 : decode cX7_draw 10 = .ok (.iconst 3, 1) := by decide +kernel
theorem dX7_draw_11 : decode cX7_draw 11 = .ok (.invokestatic 85, 3) := by decide +kernel
theorem dX7_draw_14 : decode cX7_draw 14 = .ok (.ifCond .eq 12, 3) := by decide +kernel
theorem dX7_draw_17 : decode cX7_draw 17 = .ok (.aload_n 0, 1) := by decide +kernel
theorem dX7_draw_18 : decode cX7_draw 18 = .ok (.iload_n 1, 1) := by decide +kernel
theorem dX7_draw_19 : decode cX7_draw 19 = .ok (.iload_n 2, 1) := by decide +kernel
theorem dX7_draw_20 : decode cX7_draw 20 = .ok (.invokevirtual 254, 3) := by decide +kernel
theorem dX7_draw_23 : decode cX7_draw 23 = .ok (.goto 5, 3) := by decide +kernel
theorem dX7_draw_26 : decode cX7_draw 26 = .ok (.ldc 153, 2) := by decide +kernel
theorem dX7_draw_28 : decode cX7_draw 28 = .ok (.ireturn, 1) := by decide +kernel
theorem dX7_smokes_0 : decode cX7_smokes 0 = .ok (.aload_n 0, 1) := by decide +kernel
theorem dX7_smokes_1 : decode cX7_smokes 1 = .ok (.iload_n 1, 1) := by decide +kernel
theorem dX7_smokes_2 : decode cX7_smokes 2 = .ok (.invokevirtual 150, 3) := by decide +kernel
theorem dX7_smokes_5 : decode cX7_smokes 5 = .ok (.ifCond .eq 20, 3) := by decide +kernel
theorem dX7_smokes_8 : decode cX7_smokes 8 = .ok (.aload_n 0, 1) := by decide +kernel
theorem dX7_smokes_9 : decode cX7_smokes 9 = .ok (.iload_n 2, 1) := by decide +kernel
theorem dX7_smokes_10 : decode cX7_smokes 10 = .ok (.invokevirtual 150, 3) := by decide +kernel
theorem dX7_smokes_13 : decode cX7_smokes 13 = .ok (.ifCond .eq 12, 3) := by decide +kernel
theorem dX7_smokes_16 : decode cX7_smokes 16 = .ok (.iload_n 3, 1) := by decide +kernel
theorem dX7_smokes_17 : decode cX7_smokes 17 = .ok (.iconst 0, 1) := by decide +kernel
theorem dX7_smokes_18 : decode cX7_smokes 18 = .ok (.iconst 3, 1) := by decide +kernel
theorem dX7_smokes_19 : decode cX7_smokes 19 = .ok (.invokestatic 85, 3) := by decide +kernel
theorem dX7_smokes_22 : decode cX7_smokes 22 = .ok (.ifCond .ne 5, 3) := by decide +kernel
theorem dX7_smokes_25 : decode cX7_smokes 25 = .ok (.iconst (-1), 1) := by decide +kernel
theorem dX7_smokes_26 : decode cX7_smokes 26 = .ok (.ireturn, 1) := by decide +kernel
theorem dX7_smokes_27 : decode cX7_smokes 27 = .ok (.aload_n 0, 1) := by decide +kernel
theorem dX7_smokes_28 : decode cX7_smokes 28 = .ok (.iload_n 1, 1) := by decide +kernel
theorem dX7_smokes_29 : decode cX7_smokes 29 = .ok (.iload_n 3, 1) := by decide +kernel
theorem dX7_smokes_30 : decode cX7_smokes 30 = .ok (.invokevirtual 254, 3) := by decide +kernel
theorem dX7_smokes_33 : decode cX7_smokes 33 = .ok (.istore 4, 2) := by decide +kernel
theorem dX7_smokes_35 : decode cX7_smokes 35 = .ok (.iload 4, 2) := by decide +kernel
theorem dX7_smokes_37 : decode cX7_smokes 37 = .ok (.aload_n 0, 1) := by decide +kernel
theorem dX7_smokes_38 : decode cX7_smokes 38 = .ok (.getfield 29, 3) := by decide +kernel
theorem dX7_smokes_41 : decode cX7_smokes 41 = .ok (.iload_n 1, 1) := by decide +kernel
theorem dX7_smokes_42 : decode cX7_smokes 42 = .ok (.iaload, 1) := by decide +kernel
theorem dX7_smokes_43 : decode cX7_smokes 43 = .ok (.if_icmp .lt 26, 3) := by decide +kernel
theorem dX7_smokes_46 : decode cX7_smokes 46 = .ok (.iload_n 2, 1) := by decide +kernel
theorem dX7_smokes_47 : decode cX7_smokes 47 = .ok (.iload_n 1, 1) := by decide +kernel
theorem dX7_smokes_48 : decode cX7_smokes 48 = .ok (.if_icmp .eq 25, 3) := by decide +kernel
theorem dX7_smokes_51 : decode cX7_smokes 51 = .ok (.iload 4, 2) := by decide +kernel
theorem dX7_smokes_53 : decode cX7_smokes 53 = .ok (.aload_n 0, 1) := by decide +kernel
theorem dX7_smokes_54 : decode cX7_smokes 54 = .ok (.iload_n 2, 1) := by decide +kernel
theorem dX7_smokes_55 : decode cX7_smokes 55 = .ok (.iload_n 3, 1) := by decide +kernel
theorem dX7_smokes_56 : decode cX7_smokes 56 = .ok (.invokevirtual 254, 3) := by decide +kernel
theorem dX7_smokes_59 : decode cX7_smokes 59 = .ok (.aload_n 0, 1) := by decide +kernel
theorem dX7_smokes_60 : decode cX7_smokes 60 = .ok (.getfield 38, 3) := by decide +kernel
theorem dX7_smokes_63 : decode cX7_smokes 63 = .ok (.iconst 5, 1) := by decide +kernel
theorem dX7_smokes_64 : decode cX7_smokes 64 = .ok (.iaload, 1) := by decide +kernel
theorem dX7_smokes_65 : decode cX7_smokes 65 = .ok (.isub, 1) := by decide +kernel
theorem dX7_smokes_66 : decode cX7_smokes 66 = .ok (.if_icmp .ge 7, 3) := by decide +kernel
theorem dX7_smokes_69 : decode cX7_smokes 69 = .ok (.iconst 1, 1) := by decide +kernel
theorem dX7_smokes_70 : decode cX7_smokes 70 = .ok (.goto 4, 3) := by decide +kernel
theorem dX7_smokes_73 : decode cX7_smokes 73 = .ok (.iconst 0, 1) := by decide +kernel
theorem dX7_smokes_74 : decode cX7_smokes 74 = .ok (.ireturn, 1) := by decide +kernel
theorem dX7_mend_0 : decode cX7_mend 0 = .ok (.aload_n 0, 1) := by decide +kernel
theorem dX7_mend_1 : decode cX7_mend 1 = .ok (.iload_n 1, 1) := by decide +kernel
theorem dX7_mend_2 : decode cX7_mend 2 = .ok (.invokevirtual 150, 3) := by decide +kernel
theorem dX7_mend_5 : decode cX7_mend 5 = .ok (.ifCond .ne 5, 3) := by decide +kernel
theorem dX7_mend_8 : decode cX7_mend 8 = .ok (.iconst (-1), 1) := by decide +kernel
theorem dX7_mend_9 : decode cX7_mend 9 = .ok (.ireturn, 1) := by decide +kernel
theorem dX7_mend_10 : decode cX7_mend 10 = .ok (.iconst 0, 1) := by decide +kernel
theorem dX7_mend_11 : decode cX7_mend 11 = .ok (.istore_n 2, 1) := by decide +kernel
theorem dX7_mend_12 : decode cX7_mend 12 = .ok (.iconst 0, 1) := by decide +kernel
theorem dX7_mend_13 : decode cX7_mend 13 = .ok (.istore_n 3, 1) := by decide +kernel
theorem dX7_mend_14 : decode cX7_mend 14 = .ok (.iload_n 3, 1) := by decide +kernel
theorem dX7_mend_15 : decode cX7_mend 15 = .ok (.iconst 4, 1) := by decide +kernel
theorem dX7_mend_16 : decode cX7_mend 16 = .ok (.if_icmp .ge 113, 3) := by decide +kernel
theorem dX7_mend_19 : decode cX7_mend 19 = .ok (.iconst 0, 1) := by decide +kernel
theorem dX7_mend_20 : decode cX7_mend 20 = .ok (.istore 4, 2) := by decide +kernel
theorem dX7_mend_22 : decode cX7_mend 22 = .ok (.iload 4, 2) := by decide +kernel
theorem dX7_mend_24 : decode cX7_mend 24 = .ok (.aload_n 0, 1) := by decide +kernel
theorem dX7_mend_25 : decode cX7_mend 25 = .ok (.getfield 20, 3) := by decide +kernel
theorem dX7_mend_28 : decode cX7_mend 28 = .ok (.iconst 0, 1) := by decide +kernel
theorem dX7_mend_29 : decode cX7_mend 29 = .ok (.iaload, 1) := by decide +kernel
theorem dX7_mend_30 : decode cX7_mend 30 = .ok (.if_icmp .ge 93, 3) := by decide +kernel
theorem dX7_mend_33 : decode cX7_mend 33 = .ok (.iload 4, 2) := by decide +kernel
theorem dX7_mend_35 : decode cX7_mend 35 = .ok (.iload_n 1, 1) := by decide +kernel
theorem dX7_mend_36 : decode cX7_mend 36 = .ok (.if_icmp .ne 12, 3) := by decide +kernel
theorem dX7_mend_39 : decode cX7_mend 39 = .ok (.aload_n 0, 1) := by decide +kernel
theorem dX7_mend_40 : decode cX7_mend 40 = .ok (.getfield 29, 3) := by decide +kernel
theorem dX7_mend_43 : decode cX7_mend 43 = .ok (.iload_n 1, 1) := by decide +kernel
theorem dX7_mend_44 : decode cX7_mend 44 = .ok (.iaload, 1) := by decide +kernel
theorem dX7_mend_45 : decode cX7_mend 45 = .ok (.goto 17, 3) := by decide +kernel
theorem dX7_mend_48 : decode cX7_mend 48 = .ok (.aload_n 0, 1) := by decide +kernel
theorem dX7_mend_49 : decode cX7_mend 49 = .ok (.iload 4, 2) := by decide +kernel
theorem dX7_mend_51 : decode cX7_mend 51 = .ok (.iload_n 3, 1) := by decide +kernel
theorem dX7_mend_52 : decode cX7_mend 52 = .ok (.invokevirtual 254, 3) := by decide +kernel
theorem dX7_mend_55 : decode cX7_mend 55 = .ok (.aload_n 0, 1) := by decide +kernel
theorem dX7_mend_56 : decode cX7_mend 56 = .ok (.getfield 38, 3) := by decide +kernel
theorem dX7_mend_59 : decode cX7_mend 59 = .ok (.iconst 5, 1) := by decide +kernel
theorem dX7_mend_60 : decode cX7_mend 60 = .ok (.iaload, 1) := by decide +kernel
theorem dX7_mend_61 : decode cX7_mend 61 = .ok (.isub, 1) := by decide +kernel
theorem dX7_mend_62 : decode cX7_mend 62 = .ok (.istore 5, 2) := by decide +kernel
theorem dX7_mend_64 : decode cX7_mend 64 = .ok (.iload 5, 2) := by decide +kernel
theorem dX7_mend_66 : decode cX7_mend 66 = .ok (.aload_n 0, 1) := by decide +kernel
theorem dX7_mend_67 : decode cX7_mend 67 = .ok (.iload_n 1, 1) := by decide +kernel
theorem dX7_mend_68 : decode cX7_mend 68 = .ok (.iload_n 3, 1) := by decide +kernel
theorem dX7_mend_69 : decode cX7_mend 69 = .ok (.invokevirtual 254, 3) := by decide +kernel
theorem dX7_mend_72 : decode cX7_mend 72 = .ok (.isub, 1) := by decide +kernel
theorem dX7_mend_73 : decode cX7_mend 73 = .ok (.istore 6, 2) := by decide +kernel
theorem dX7_mend_75 : decode cX7_mend 75 = .ok (.iload 6, 2) := by decide +kernel
theorem dX7_mend_77 : decode cX7_mend 77 = .ok (.ifCond .gt 7, 3) := by decide +kernel
theorem dX7_mend_80 : decode cX7_mend 80 = .ok (.iconst 0, 1) := by decide +kernel
theorem dX7_mend_81 : decode cX7_mend 81 = .ok (.goto 21, 3) := by decide +kernel
theorem dX7_mend_84 : decode cX7_mend 84 = .ok (.iload 6, 2) := by decide +kernel
theorem dX7_mend_86 : decode cX7_mend 86 = .ok (.aload_n 0, 1) := by decide +kernel
theorem dX7_mend_87 : decode cX7_mend 87 = .ok (.getfield 38, 3) := by decide +kernel
theorem dX7_mend_90 : decode cX7_mend 90 = .ok (.iconst 3, 1) := by decide +kernel
theorem dX7_mend_91 : decode cX7_mend 91 = .ok (.iaload, 1) := by decide +kernel
theorem dX7_mend_92 : decode cX7_mend 92 = .ok (.iadd, 1) := by decide +kernel
theorem dX7_mend_93 : decode cX7_mend 93 = .ok (.iconst 1, 1) := by decide +kernel
theorem dX7_mend_94 : decode cX7_mend 94 = .ok (.isub, 1) := by decide +kernel
theorem dX7_mend_95 : decode cX7_mend 95 = .ok (.aload_n 0, 1) := by decide +kernel
theorem dX7_mend_96 : decode cX7_mend 96 = .ok (.getfield 38, 3) := by decide +kernel
theorem dX7_mend_99 : decode cX7_mend 99 = .ok (.iconst 3, 1) := by decide +kernel
theorem dX7_mend_100 : decode cX7_mend 100 = .ok (.iaload, 1) := by decide +kernel
theorem dX7_mend_101 : decode cX7_mend 101 = .ok (.idiv, 1) := by decide +kernel
theorem dX7_mend_102 : decode cX7_mend 102 = .ok (.istore 7, 2) := by decide +kernel
theorem dX7_mend_104 : decode cX7_mend 104 = .ok (.iload 7, 2) := by decide +kernel
theorem dX7_mend_106 : decode cX7_mend 106 = .ok (.iload_n 2, 1) := by decide +kernel
theorem dX7_mend_107 : decode cX7_mend 107 = .ok (.if_icmp .le 8, 3) := by decide +kernel
theorem dX7_mend_110 : decode cX7_mend 110 = .ok (.iload 7, 2) := by decide +kernel
theorem dX7_mend_112 : decode cX7_mend 112 = .ok (.goto 4, 3) := by decide +kernel
theorem dX7_mend_115 : decode cX7_mend 115 = .ok (.iload_n 2, 1) := by decide +kernel
theorem dX7_mend_116 : decode cX7_mend 116 = .ok (.istore_n 2, 1) := by decide +kernel
theorem dX7_mend_117 : decode cX7_mend 117 = .ok (.iinc 4 1, 3) := by decide +kernel
theorem dX7_mend_120 : decode cX7_mend 120 = .ok (.goto (-98), 3) := by decide +kernel
theorem dX7_mend_123 : decode cX7_mend 123 = .ok (.iinc 3 1, 3) := by decide +kernel
theorem dX7_mend_126 : decode cX7_mend 126 = .ok (.goto (-112), 3) := by decide +kernel
theorem dX7_mend_129 : decode cX7_mend 129 = .ok (.iload_n 2, 1) := by decide +kernel
theorem dX7_mend_130 : decode cX7_mend 130 = .ok (.bipush 40, 2) := by decide +kernel
theorem dX7_mend_132 : decode cX7_mend 132 = .ok (.if_icmp .le 8, 3) := by decide +kernel
theorem dX7_mend_135 : decode cX7_mend 135 = .ok (.bipush (-9), 2) := by decide +kernel
theorem dX7_mend_137 : decode cX7_mend 137 = .ok (.goto 4, 3) := by decide +kernel
theorem dX7_mend_140 : decode cX7_mend 140 = .ok (.iload_n 2, 1) := by decide +kernel
theorem dX7_mend_141 : decode cX7_mend 141 = .ok (.ireturn, 1) := by decide +kernel
theorem dX7_moved_0 : decode cX7_moved 0 = .ok (.iload_n 1, 1) := by decide +kernel
theorem dX7_moved_1 : decode cX7_moved 1 = .ok (.iconst 0, 1) := by decide +kernel
theorem dX7_moved_2 : decode cX7_moved 2 = .ok (.sipush 1023, 3) := by decide +kernel
theorem dX7_moved_5 : decode cX7_moved 5 = .ok (.invokestatic 85, 3) := by decide +kernel
theorem dX7_moved_8 : decode cX7_moved 8 = .ok (.ifCond .eq 12, 3) := by decide +kernel
theorem dX7_moved_11 : decode cX7_moved 11 = .ok (.iload_n 2, 1) := by decide +kernel
theorem dX7_moved_12 : decode cX7_moved 12 = .ok (.iconst 0, 1) := by decide +kernel
theorem dX7_moved_13 : decode cX7_moved 13 = .ok (.iconst 1, 1) := by decide +kernel
theorem dX7_moved_14 : decode cX7_moved 14 = .ok (.invokestatic 85, 3) := by decide +kernel
theorem dX7_moved_17 : decode cX7_moved 17 = .ok (.ifCond .ne 5, 3) := by decide +kernel
theorem dX7_moved_20 : decode cX7_moved 20 = .ok (.iconst (-1), 1) := by decide +kernel
theorem dX7_moved_21 : decode cX7_moved 21 = .ok (.ireturn, 1) := by decide +kernel
theorem dX7_moved_22 : decode cX7_moved 22 = .ok (.aload_n 0, 1) := by decide +kernel
theorem dX7_moved_23 : decode cX7_moved 23 = .ok (.iconst 0, 1) := by decide +kernel
theorem dX7_moved_24 : decode cX7_moved 24 = .ok (.invokevirtual 257, 3) := by decide +kernel
theorem dX7_moved_27 : decode cX7_moved 27 = .ok (.bipush (-9), 2) := by decide +kernel
theorem dX7_moved_29 : decode cX7_moved 29 = .ok (.if_icmp .eq 6, 3) := by decide +kernel
theorem dX7_moved_32 : decode cX7_moved 32 = .ok (.bipush (-2), 2) := by decide +kernel
theorem dX7_moved_34 : decode cX7_moved 34 = .ok (.ireturn, 1) := by decide +kernel
theorem dX7_moved_35 : decode cX7_moved 35 = .ok (.iconst 0, 1) := by decide +kernel
theorem dX7_moved_36 : decode cX7_moved 36 = .ok (.istore_n 3, 1) := by decide +kernel
theorem dX7_moved_37 : decode cX7_moved 37 = .ok (.iload_n 3, 1) := by decide +kernel
theorem dX7_moved_38 : decode cX7_moved 38 = .ok (.aload_n 0, 1) := by decide +kernel
theorem dX7_moved_39 : decode cX7_moved 39 = .ok (.getfield 20, 3) := by decide +kernel
theorem dX7_moved_42 : decode cX7_moved 42 = .ok (.iconst 0, 1) := by decide +kernel
theorem dX7_moved_43 : decode cX7_moved 43 = .ok (.iaload, 1) := by decide +kernel
theorem dX7_moved_44 : decode cX7_moved 44 = .ok (.if_icmp .gt 61, 3) := by decide +kernel
theorem dX7_moved_47 : decode cX7_moved 47 = .ok (.iconst 0, 1) := by decide +kernel
theorem dX7_moved_48 : decode cX7_moved 48 = .ok (.istore 4, 2) := by decide +kernel
theorem dX7_moved_50 : decode cX7_moved 50 = .ok (.iload 4, 2) := by decide +kernel
theorem dX7_moved_52 : decode cX7_moved 52 = .ok (.iconst 1, 1) := by decide +kernel
theorem dX7_moved_53 : decode cX7_moved 53 = .ok (.aload_n 0, 1) := by decide +kernel
theorem dX7_moved_54 : decode cX7_moved 54 = .ok (.getfield 20, 3) := by decide +kernel
theorem dX7_moved_57 : decode cX7_moved 57 = .ok (.iconst 0, 1) := by decide +kernel
theorem dX7_moved_58 : decode cX7_moved 58 = .ok (.iaload, 1) := by decide +kernel
theorem dX7_moved_59 : decode cX7_moved 59 = .ok (.ishl, 1) := by decide +kernel
theorem dX7_moved_60 : decode cX7_moved 60 = .ok (.if_icmp .ge 39, 3) := by decide +kernel
theorem dX7_moved_63 : decode cX7_moved 63 = .ok (.iload 4, 2) := by decide +kernel
theorem dX7_moved_65 : decode cX7_moved 65 = .ok (.invokestatic 236, 3) := by decide +kernel
theorem dX7_moved_68 : decode cX7_moved 68 = .ok (.iload_n 3, 1) := by decide +kernel
theorem dX7_moved_69 : decode cX7_moved 69 = .ok (.if_icmp .ne 24, 3) := by decide +kernel
theorem dX7_moved_72 : decode cX7_moved 72 = .ok (.aload_n 0, 1) := by decide +kernel
theorem dX7_moved_73 : decode cX7_moved 73 = .ok (.iload 4, 2) := by decide +kernel
theorem dX7_moved_75 : decode cX7_moved 75 = .ok (.iload_n 1, 1) := by decide +kernel
theorem dX7_moved_76 : decode cX7_moved 76 = .ok (.invokevirtual 260, 3) := by decide +kernel
theorem dX7_moved_79 : decode cX7_moved 79 = .ok (.ifCond .eq 14, 3) := by decide +kernel
theorem dX7_moved_82 : decode cX7_moved 82 = .ok (.iload_n 2, 1) := by decide +kernel
theorem dX7_moved_83 : decode cX7_moved 83 = .ok (.ifCond .ne 7, 3) := by decide +kernel
theorem dX7_moved_86 : decode cX7_moved 86 = .ok (.iload_n 3, 1) := by decide +kernel
theorem dX7_moved_87 : decode cX7_moved 87 = .ok (.goto 5, 3) := by decide +kernel
theorem dX7_moved_90 : decode cX7_moved 90 = .ok (.iload 4, 2) := by decide +kernel
theorem dX7_moved_92 : decode cX7_moved 92 = .ok (.ireturn, 1) := by decide +kernel
theorem dX7_moved_93 : decode cX7_moved 93 = .ok (.iinc 4 1, 3) := by decide +kernel
theorem dX7_moved_96 : decode cX7_moved 96 = .ok (.goto (-46), 3) := by decide +kernel
theorem dX7_moved_99 : decode cX7_moved 99 = .ok (.iinc 3 1, 3) := by decide +kernel
theorem dX7_moved_102 : decode cX7_moved 102 = .ok (.goto (-65), 3) := by decide +kernel
theorem dX7_moved_105 : decode cX7_moved 105 = .ok (.bipush (-9), 2) := by decide +kernel
theorem dX7_moved_107 : decode cX7_moved 107 = .ok (.ireturn, 1) := by decide +kernel
theorem dX7_isWellWith_0 : decode cX7_isWellWith 0 = .ok (.aload_n 0, 1) := by decide +kernel
theorem dX7_isWellWith_1 : decode cX7_isWellWith 1 = .ok (.iconst 0, 1) := by decide +kernel
theorem dX7_isWellWith_2 : decode cX7_isWellWith 2 = .ok (.putfield 177, 3) := by decide +kernel
theorem dX7_isWellWith_5 : decode cX7_isWellWith 5 = .ok (.aload_n 0, 1) := by decide +kernel
theorem dX7_isWellWith_6 : decode cX7_isWellWith 6 = .ok (.bipush 16, 2) := by decide +kernel
theorem dX7_isWellWith_8 : decode cX7_isWellWith 8 = .ok (.putfield 180, 3) := by decide +kernel
theorem dX7_isWellWith_11 : decode cX7_isWellWith 11 = .ok (.iconst 0, 1) := by decide +kernel
theorem dX7_isWellWith_12 : decode cX7_isWellWith 12 = .ok (.istore_n 3, 1) := by decide +kernel
theorem dX7_isWellWith_13 : decode cX7_isWellWith 13 = .ok (.iload_n 3, 1) := by decide +kernel
theorem dX7_isWellWith_14 : decode cX7_isWellWith 14 = .ok (.aload_n 0, 1) := by decide +kernel
theorem dX7_isWellWith_15 : decode cX7_isWellWith 15 = .ok (.getfield 20, 3) := by decide +kernel
theorem dX7_isWellWith_18 : decode cX7_isWellWith 18 = .ok (.iconst 0, 1) := by decide +kernel
theorem dX7_isWellWith_19 : decode cX7_isWellWith 19 = .ok (.iaload, 1) := by decide +kernel
theorem dX7_isWellWith_20 : decode cX7_isWellWith 20 = .ok (.if_icmp .ge 39, 3) := by decide +kernel
theorem dX7_isWellWith_23 : decode cX7_isWellWith 23 = .ok (.aload_n 0, 1) := by decide +kernel
theorem dX7_isWellWith_24 : decode cX7_isWellWith 24 = .ok (.aload_n 0, 1) := by decide +kernel
theorem dX7_isWellWith_25 : decode cX7_isWellWith 25 = .ok (.getfield 23, 3) := by decide +kernel
theorem dX7_isWellWith_28 : decode cX7_isWellWith 28 = .ok (.iload_n 3, 1) := by decide +kernel
theorem dX7_isWellWith_29 : decode cX7_isWellWith 29 = .ok (.iaload, 1) := by decide +kernel
theorem dX7_isWellWith_30 : decode cX7_isWellWith 30 = .ok (.aload_n 0, 1) := by decide +kernel
theorem dX7_isWellWith_31 : decode cX7_isWellWith 31 = .ok (.getfield 26, 3) := by decide +kernel
theorem dX7_isWellWith_34 : decode cX7_isWellWith 34 = .ok (.iload_n 3, 1) := by decide +kernel
theorem dX7_isWellWith_35 : decode cX7_isWellWith 35 = .ok (.iaload, 1) := by decide +kernel
theorem dX7_isWellWith_36 : decode cX7_isWellWith 36 = .ok (.iload_n 1, 1) := by decide +kernel
theorem dX7_isWellWith_37 : decode cX7_isWellWith 37 = .ok (.iload_n 3, 1) := by decide +kernel
theorem dX7_isWellWith_38 : decode cX7_isWellWith 38 = .ok (.ishr, 1) := by decide +kernel
theorem dX7_isWellWith_39 : decode cX7_isWellWith 39 = .ok (.iconst 1, 1) := by decide +kernel
theorem dX7_isWellWith_40 : decode cX7_isWellWith 40 = .ok (.iand, 1) := by decide +kernel
theorem dX7_isWellWith_41 : decode cX7_isWellWith 41 = .ok (.iconst 1, 1) := by decide +kernel
theorem dX7_isWellWith_42 : decode cX7_isWellWith 42 = .ok (.if_icmp .ne 7, 3) := by decide +kernel
theorem dX7_isWellWith_45 : decode cX7_isWellWith 45 = .ok (.iconst (-1), 1) := by decide +kernel
theorem dX7_isWellWith_46 : decode cX7_isWellWith 46 = .ok (.goto 4, 3) := by decide +kernel
theorem dX7_isWellWith_49 : decode cX7_isWellWith 49 = .ok (.iload_n 3, 1) := by decide +kernel
theorem dX7_isWellWith_50 : decode cX7_isWellWith 50 = .ok (.invokevirtual 186, 3) := by decide +kernel
theorem dX7_isWellWith_53 : decode cX7_isWellWith 53 = .ok (.iinc 3 1, 3) := by decide +kernel
theorem dX7_isWellWith_56 : decode cX7_isWellWith 56 = .ok (.goto (-43), 3) := by decide +kernel
theorem dX7_isWellWith_59 : decode cX7_isWellWith 59 = .ok (.aload_n 0, 1) := by decide +kernel
theorem dX7_isWellWith_60 : decode cX7_isWellWith 60 = .ok (.iload_n 2, 1) := by decide +kernel
theorem dX7_isWellWith_61 : decode cX7_isWellWith 61 = .ok (.putfield 183, 3) := by decide +kernel
theorem dX7_isWellWith_64 : decode cX7_isWellWith 64 = .ok (.aload_n 0, 1) := by decide +kernel
theorem dX7_isWellWith_65 : decode cX7_isWellWith 65 = .ok (.getfield 177, 3) := by decide +kernel
theorem dX7_isWellWith_68 : decode cX7_isWellWith 68 = .ok (.ifCond .eq 12, 3) := by decide +kernel
theorem dX7_isWellWith_71 : decode cX7_isWellWith 71 = .ok (.aload_n 0, 1) := by decide +kernel
theorem dX7_isWellWith_72 : decode cX7_isWellWith 72 = .ok (.invokevirtual 233, 3) := by decide +kernel
theorem dX7_isWellWith_75 : decode cX7_isWellWith 75 = .ok (.bipush (-9), 2) := by decide +kernel
theorem dX7_isWellWith_77 : decode cX7_isWellWith 77 = .ok (.if_icmp .eq 7, 3) := by decide +kernel
theorem dX7_isWellWith_80 : decode cX7_isWellWith 80 = .ok (.iconst 1, 1) := by decide +kernel
theorem dX7_isWellWith_81 : decode cX7_isWellWith 81 = .ok (.goto 4, 3) := by decide +kernel
theorem dX7_isWellWith_84 : decode cX7_isWellWith 84 = .ok (.iconst 0, 1) := by decide +kernel
theorem dX7_isWellWith_85 : decode cX7_isWellWith 85 = .ok (.ireturn, 1) := by decide +kernel
theorem dX7_mark_0 : decode cX7_mark 0 = .ok (.aload_n 0, 1) := by decide +kernel
theorem dX7_mark_1 : decode cX7_mark 1 = .ok (.iload_n 1, 1) := by decide +kernel
theorem dX7_mark_2 : decode cX7_mark 2 = .ok (.invokevirtual 140, 3) := by decide +kernel
theorem dX7_mark_5 : decode cX7_mark 5 = .ok (.ifCond .eq 11, 3) := by decide +kernel
theorem dX7_mark_8 : decode cX7_mark 8 = .ok (.aload_n 0, 1) := by decide +kernel
theorem dX7_mark_9 : decode cX7_mark 9 = .ok (.iload_n 2, 1) := by decide +kernel
theorem dX7_mark_10 : decode cX7_mark 10 = .ok (.invokevirtual 136, 3) := by decide +kernel
theorem dX7_mark_13 : decode cX7_mark 13 = .ok (.ifCond .ne 5, 3) := by decide +kernel
theorem dX7_mark_16 : decode cX7_mark 16 = .ok (.iconst (-1), 1) := by decide +kernel
theorem dX7_mark_17 : decode cX7_mark 17 = .ok (.ireturn, 1) := by decide +kernel
theorem dX7_mark_18 : decode cX7_mark 18 = .ok (.aload_n 0, 1) := by decide +kernel
theorem dX7_mark_19 : decode cX7_mark 19 = .ok (.getfield 72, 3) := by decide +kernel
theorem dX7_mark_22 : decode cX7_mark 22 = .ok (.iconst 0, 1) := by decide +kernel
theorem dX7_mark_23 : decode cX7_mark 23 = .ok (.iaload, 1) := by decide +kernel
theorem dX7_mark_24 : decode cX7_mark 24 = .ok (.bipush 6, 2) := by decide +kernel
theorem dX7_mark_26 : decode cX7_mark 26 = .ok (.if_icmp .ne 6, 3) := by decide +kernel
theorem dX7_mark_29 : decode cX7_mark 29 = .ok (.bipush (-3), 2) := by decide +kernel
theorem dX7_mark_31 : decode cX7_mark 31 = .ok (.ireturn, 1) := by decide +kernel
theorem dX7_mark_32 : decode cX7_mark 32 = .ok (.aload_n 0, 1) := by decide +kernel
theorem dX7_mark_33 : decode cX7_mark 33 = .ok (.getfield 75, 3) := by decide +kernel
theorem dX7_mark_36 : decode cX7_mark 36 = .ok (.aload_n 0, 1) := by decide +kernel
theorem dX7_mark_37 : decode cX7_mark 37 = .ok (.getfield 72, 3) := by decide +kernel
theorem dX7_mark_40 : decode cX7_mark 40 = .ok (.iconst 0, 1) := by decide +kernel
theorem dX7_mark_41 : decode cX7_mark 41 = .ok (.iaload, 1) := by decide +kernel
theorem dX7_mark_42 : decode cX7_mark 42 = .ok (.iload_n 1, 1) := by decide +kernel
theorem dX7_mark_43 : decode cX7_mark 43 = .ok (.iastore, 1) := by decide +kernel
theorem dX7_mark_44 : decode cX7_mark 44 = .ok (.aload_n 0, 1) := by decide +kernel
theorem dX7_mark_45 : decode cX7_mark 45 = .ok (.getfield 78, 3) := by decide +kernel
theorem dX7_mark_48 : decode cX7_mark 48 = .ok (.aload_n 0, 1) := by decide +kernel
theorem dX7_mark_49 : decode cX7_mark 49 = .ok (.getfield 72, 3) := by decide +kernel
theorem dX7_mark_52 : decode cX7_mark 52 = .ok (.iconst 0, 1) := by decide +kernel
theorem dX7_mark_53 : decode cX7_mark 53 = .ok (.iaload, 1) := by decide +kernel
theorem dX7_mark_54 : decode cX7_mark 54 = .ok (.iload_n 2, 1) := by decide +kernel
theorem dX7_mark_55 : decode cX7_mark 55 = .ok (.iastore, 1) := by decide +kernel
theorem dX7_mark_56 : decode cX7_mark 56 = .ok (.aload_n 0, 1) := by decide +kernel
theorem dX7_mark_57 : decode cX7_mark 57 = .ok (.getfield 72, 3) := by decide +kernel
theorem dX7_mark_60 : decode cX7_mark 60 = .ok (.iconst 0, 1) := by decide +kernel
theorem dX7_mark_61 : decode cX7_mark 61 = .ok (.dup2, 1) := by decide +kernel
theorem dX7_mark_62 : decode cX7_mark 62 = .ok (.iaload, 1) := by decide +kernel
theorem dX7_mark_63 : decode cX7_mark 63 = .ok (.iconst 1, 1) := by decide +kernel
theorem dX7_mark_64 : decode cX7_mark 64 = .ok (.iadd, 1) := by decide +kernel
theorem dX7_mark_65 : decode cX7_mark 65 = .ok (.iastore, 1) := by decide +kernel
theorem dX7_mark_66 : decode cX7_mark 66 = .ok (.aload_n 0, 1) := by decide +kernel
theorem dX7_mark_67 : decode cX7_mark 67 = .ok (.getfield 72, 3) := by decide +kernel
theorem dX7_mark_70 : decode cX7_mark 70 = .ok (.iconst 0, 1) := by decide +kernel
theorem dX7_mark_71 : decode cX7_mark 71 = .ok (.iaload, 1) := by decide +kernel
theorem dX7_mark_72 : decode cX7_mark 72 = .ok (.ireturn, 1) := by decide +kernel
theorem dX7_rate_0 : decode cX7_rate 0 = .ok (.iload_n 1, 1) := by decide +kernel
theorem dX7_rate_1 : decode cX7_rate 1 = .ok (.iconst 0, 1) := by decide +kernel
theorem dX7_rate_2 : decode cX7_rate 2 = .ok (.iconst 5, 1) := by decide +kernel
theorem dX7_rate_3 : decode cX7_rate 3 = .ok (.invokestatic 85, 3) := by decide +kernel
theorem dX7_rate_6 : decode cX7_rate 6 = .ok (.ifCond .eq 11, 3) := by decide +kernel
theorem dX7_rate_9 : decode cX7_rate 9 = .ok (.aload_n 0, 1) := by decide +kernel
theorem dX7_rate_10 : decode cX7_rate 10 = .ok (.iload_n 2, 1) := by decide +kernel
theorem dX7_rate_11 : decode cX7_rate 11 = .ok (.invokevirtual 150, 3) := by decide +kernel
theorem dX7_rate_14 : decode cX7_rate 14 = .ok (.ifCond .ne 6, 3) := by decide +kernel
theorem dX7_rate_17 : decode cX7_rate 17 = .ok (.ldc 153, 2) := by decide +kernel
theorem dX7_rate_19 : decode cX7_rate 19 = .ok (.ireturn, 1) := by decide +kernel
theorem dX7_rate_20 : decode cX7_rate 20 = .ok (.aload_n 0, 1) := by decide +kernel
theorem dX7_rate_21 : decode cX7_rate 21 = .ok (.getfield 17, 3) := by decide +kernel
theorem dX7_rate_24 : decode cX7_rate 24 = .ok (.iconst 0, 1) := by decide +kernel
theorem dX7_rate_25 : decode cX7_rate 25 = .ok (.iaload, 1) := by decide +kernel
theorem dX7_rate_26 : decode cX7_rate 26 = .ok (.iconst 1, 1) := by decide +kernel
theorem dX7_rate_27 : decode cX7_rate 27 = .ok (.isub, 1) := by decide +kernel
theorem dX7_rate_28 : decode cX7_rate 28 = .ok (.aload_n 0, 1) := by decide +kernel
theorem dX7_rate_29 : decode cX7_rate 29 = .ok (.getfield 23, 3) := by decide +kernel
theorem dX7_rate_32 : decode cX7_rate 32 = .ok (.iload_n 2, 1) := by decide +kernel
theorem dX7_rate_33 : decode cX7_rate 33 = .ok (.iaload, 1) := by decide +kernel
theorem dX7_rate_34 : decode cX7_rate 34 = .ok (.isub, 1) := by decide +kernel
theorem dX7_rate_35 : decode cX7_rate 35 = .ok (.istore_n 3, 1) := by decide +kernel
theorem dX7_rate_36 : decode cX7_rate 36 = .ok (.iload_n 1, 1) := by decide +kernel
theorem dX7_rate_37 : decode cX7_rate 37 = .ok (.tableswitch 136 0 4 #[35, 47, 67, 87, 109], 35) := by decide +kernel
theorem dX7_rate_72 : decode cX7_rate 72 = .ok (.aload_n 0, 1) := by decide +kernel
theorem dX7_rate_73 : decode cX7_rate 73 = .ok (.dup, 1) := by decide +kernel
theorem dX7_rate_74 : decode cX7_rate 74 = .ok (.getfield 263, 3) := by decide +kernel
theorem dX7_rate_77 : decode cX7_rate 77 = .ok (.lconst 1, 1) := by decide +kernel
theorem dX7_rate_78 : decode cX7_rate 78 = .ok (.ladd, 1) := by decide +kernel
theorem dX7_rate_79 : decode cX7_rate 79 = .ok (.putfield 263, 3) := by decide +kernel
theorem dX7_rate_82 : decode cX7_rate 82 = .ok (.iload_n 3, 1) := by decide +kernel
theorem dX7_rate_83 : decode cX7_rate 83 = .ok (.ireturn, 1) := by decide +kernel
theorem dX7_rate_84 : decode cX7_rate 84 = .ok (.aload_n 0, 1) := by decide +kernel
theorem dX7_rate_85 : decode cX7_rate 85 = .ok (.dup, 1) := by decide +kernel
theorem dX7_rate_86 : decode cX7_rate 86 = .ok (.getfield 263, 3) := by decide +kernel
theorem dX7_rate_89 : decode cX7_rate 89 = .ok (.ldc2_w 267, 3) := by decide +kernel
theorem dX7_rate_92 : decode cX7_rate 92 = .ok (.ladd, 1) := by decide +kernel
theorem dX7_rate_93 : decode cX7_rate 93 = .ok (.putfield 263, 3) := by decide +kernel
theorem dX7_rate_96 : decode cX7_rate 96 = .ok (.iload_n 3, 1) := by decide +kernel
theorem dX7_rate_97 : decode cX7_rate 97 = .ok (.aload_n 0, 1) := by decide +kernel
theorem dX7_rate_98 : decode cX7_rate 98 = .ok (.iload_n 2, 1) := by decide +kernel
theorem dX7_rate_99 : decode cX7_rate 99 = .ok (.invokevirtual 248, 3) := by decide +kernel
theorem dX7_rate_102 : decode cX7_rate 102 = .ok (.isub, 1) := by decide +kernel
theorem dX7_rate_103 : decode cX7_rate 103 = .ok (.ireturn, 1) := by decide +kernel
theorem dX7_rate_104 : decode cX7_rate 104 = .ok (.aload_n 0, 1) := by decide +kernel
theorem dX7_rate_105 : decode cX7_rate 105 = .ok (.dup, 1) := by decide +kernel
theorem dX7_rate_106 : decode cX7_rate 106 = .ok (.getfield 263, 3) := by decide +kernel
theorem dX7_rate_109 : decode cX7_rate 109 = .ok (.ldc2_w 269, 3) := by decide +kernel
theorem dX7_rate_112 : decode cX7_rate 112 = .ok (.ladd, 1) := by decide +kernel
theorem dX7_rate_113 : decode cX7_rate 113 = .ok (.putfield 263, 3) := by decide +kernel
theorem dX7_rate_116 : decode cX7_rate 116 = .ok (.iload_n 3, 1) := by decide +kernel
theorem dX7_rate_117 : decode cX7_rate 117 = .ok (.aload_n 0, 1) := by decide +kernel
theorem dX7_rate_118 : decode cX7_rate 118 = .ok (.iload_n 2, 1) := by decide +kernel
theorem dX7_rate_119 : decode cX7_rate 119 = .ok (.invokevirtual 245, 3) := by decide +kernel
theorem dX7_rate_122 : decode cX7_rate 122 = .ok (.iadd, 1) := by decide +kernel
theorem dX7_rate_123 : decode cX7_rate 123 = .ok (.ireturn, 1) := by decide +kernel
theorem dX7_rate_124 : decode cX7_rate 124 = .ok (.aload_n 0, 1) := by decide +kernel
theorem dX7_rate_125 : decode cX7_rate 125 = .ok (.dup, 1) := by decide +kernel
theorem dX7_rate_126 : decode cX7_rate 126 = .ok (.getfield 263, 3) := by decide +kernel
theorem dX7_rate_129 : decode cX7_rate 129 = .ok (.ldc2_w 271, 3) := by decide +kernel
theorem dX7_rate_132 : decode cX7_rate 132 = .ok (.ladd, 1) := by decide +kernel
theorem dX7_rate_133 : decode cX7_rate 133 = .ok (.putfield 263, 3) := by decide +kernel
theorem dX7_rate_136 : decode cX7_rate 136 = .ok (.iconst 2, 1) := by decide +kernel
theorem dX7_rate_137 : decode cX7_rate 137 = .ok (.iload_n 3, 1) := by decide +kernel
theorem dX7_rate_138 : decode cX7_rate 138 = .ok (.aload_n 0, 1) := by decide +kernel
theorem dX7_rate_139 : decode cX7_rate 139 = .ok (.iload_n 2, 1) := by decide +kernel
theorem dX7_rate_140 : decode cX7_rate 140 = .ok (.invokevirtual 245, 3) := by decide +kernel
theorem dX7_rate_143 : decode cX7_rate 143 = .ok (.iadd, 1) := by decide +kernel
theorem dX7_rate_144 : decode cX7_rate 144 = .ok (.imul, 1) := by decide +kernel
theorem dX7_rate_145 : decode cX7_rate 145 = .ok (.ireturn, 1) := by decide +kernel
theorem dX7_rate_146 : decode cX7_rate 146 = .ok (.aload_n 0, 1) := by decide +kernel
theorem dX7_rate_147 : decode cX7_rate 147 = .ok (.dup, 1) := by decide +kernel
theorem dX7_rate_148 : decode cX7_rate 148 = .ok (.getfield 263, 3) := by decide +kernel
theorem dX7_rate_151 : decode cX7_rate 151 = .ok (.ldc2_w 273, 3) := by decide +kernel
theorem dX7_rate_154 : decode cX7_rate 154 = .ok (.ladd, 1) := by decide +kernel
theorem dX7_rate_155 : decode cX7_rate 155 = .ok (.putfield 263, 3) := by decide +kernel
theorem dX7_rate_158 : decode cX7_rate 158 = .ok (.iload_n 3, 1) := by decide +kernel
theorem dX7_rate_159 : decode cX7_rate 159 = .ok (.aload_n 0, 1) := by decide +kernel
theorem dX7_rate_160 : decode cX7_rate 160 = .ok (.iload_n 2, 1) := by decide +kernel
theorem dX7_rate_161 : decode cX7_rate 161 = .ok (.invokevirtual 248, 3) := by decide +kernel
theorem dX7_rate_164 : decode cX7_rate 164 = .ok (.isub, 1) := by decide +kernel
theorem dX7_rate_165 : decode cX7_rate 165 = .ok (.aload_n 0, 1) := by decide +kernel
theorem dX7_rate_166 : decode cX7_rate 166 = .ok (.getfield 20, 3) := by decide +kernel
theorem dX7_rate_169 : decode cX7_rate 169 = .ok (.iconst 0, 1) := by decide +kernel
theorem dX7_rate_170 : decode cX7_rate 170 = .ok (.iaload, 1) := by decide +kernel
theorem dX7_rate_171 : decode cX7_rate 171 = .ok (.iadd, 1) := by decide +kernel
theorem dX7_rate_172 : decode cX7_rate 172 = .ok (.ireturn, 1) := by decide +kernel
theorem dX7_rate_173 : decode cX7_rate 173 = .ok (.aload_n 0, 1) := by decide +kernel
theorem dX7_rate_174 : decode cX7_rate 174 = .ok (.dup, 1) := by decide +kernel
theorem dX7_rate_175 : decode cX7_rate 175 = .ok (.getfield 263, 3) := by decide +kernel
theorem dX7_rate_178 : decode cX7_rate 178 = .ok (.ldc2_w 275, 3) := by decide +kernel
theorem dX7_rate_181 : decode cX7_rate 181 = .ok (.ladd, 1) := by decide +kernel
theorem dX7_rate_182 : decode cX7_rate 182 = .ok (.putfield 263, 3) := by decide +kernel
theorem dX7_rate_185 : decode cX7_rate 185 = .ok (.iload_n 3, 1) := by decide +kernel
theorem dX7_rate_186 : decode cX7_rate 186 = .ok (.aload_n 0, 1) := by decide +kernel
theorem dX7_rate_187 : decode cX7_rate 187 = .ok (.getfield 29, 3) := by decide +kernel
theorem dX7_rate_190 : decode cX7_rate 190 = .ok (.iload_n 2, 1) := by decide +kernel
theorem dX7_rate_191 : decode cX7_rate 191 = .ok (.iaload, 1) := by decide +kernel
theorem dX7_rate_192 : decode cX7_rate 192 = .ok (.isub, 1) := by decide +kernel
theorem dX7_rate_193 : decode cX7_rate 193 = .ok (.ireturn, 1) := by decide +kernel
theorem dX7_copy_0 : decode cX7_copy 0 = .ok (.iconst 0, 1) := by decide +kernel
theorem dX7_copy_1 : decode cX7_copy 1 = .ok (.istore_n 3, 1) := by decide +kernel
theorem dX7_copy_2 : decode cX7_copy 2 = .ok (.iload_n 3, 1) := by decide +kernel
theorem dX7_copy_3 : decode cX7_copy 3 = .ok (.bipush 48, 2) := by decide +kernel
theorem dX7_copy_5 : decode cX7_copy 5 = .ok (.if_icmp .ge 31, 3) := by decide +kernel
theorem dX7_copy_8 : decode cX7_copy 8 = .ok (.aload_n 0, 1) := by decide +kernel
theorem dX7_copy_9 : decode cX7_copy 9 = .ok (.getfield 69, 3) := by decide +kernel
theorem dX7_copy_12 : decode cX7_copy 12 = .ok (.bipush 48, 2) := by decide +kernel
theorem dX7_copy_14 : decode cX7_copy 14 = .ok (.iload_n 2, 1) := by decide +kernel
theorem dX7_copy_15 : decode cX7_copy 15 = .ok (.imul, 1) := by decide +kernel
theorem dX7_copy_16 : decode cX7_copy 16 = .ok (.iload_n 3, 1) := by decide +kernel
theorem dX7_copy_17 : decode cX7_copy 17 = .ok (.iadd, 1) := by decide +kernel
theorem dX7_copy_18 : decode cX7_copy 18 = .ok (.aload_n 0, 1) := by decide +kernel
theorem dX7_copy_19 : decode cX7_copy 19 = .ok (.getfield 69, 3) := by decide +kernel
theorem dX7_copy_22 : decode cX7_copy 22 = .ok (.bipush 48, 2) := by decide +kernel
theorem dX7_copy_24 : decode cX7_copy 24 = .ok (.iload_n 1, 1) := by decide +kernel
theorem dX7_copy_25 : decode cX7_copy 25 = .ok (.imul, 1) := by decide +kernel
theorem dX7_copy_26 : decode cX7_copy 26 = .ok (.iload_n 3, 1) := by decide +kernel
theorem dX7_copy_27 : decode cX7_copy 27 = .ok (.iadd, 1) := by decide +kernel
theorem dX7_copy_28 : decode cX7_copy 28 = .ok (.iaload, 1) := by decide +kernel
theorem dX7_copy_29 : decode cX7_copy 29 = .ok (.iastore, 1) := by decide +kernel
theorem dX7_copy_30 : decode cX7_copy 30 = .ok (.iinc 3 1, 3) := by decide +kernel
theorem dX7_copy_33 : decode cX7_copy 33 = .ok (.goto (-31), 3) := by decide +kernel
theorem dX7_copy_36 : decode cX7_copy 36 = .ok (.aload_n 0, 1) := by decide +kernel
theorem dX7_copy_37 : decode cX7_copy 37 = .ok (.getfield 72, 3) := by decide +kernel
theorem dX7_copy_40 : decode cX7_copy 40 = .ok (.iload_n 2, 1) := by decide +kernel
theorem dX7_copy_41 : decode cX7_copy 41 = .ok (.aload_n 0, 1) := by decide +kernel
theorem dX7_copy_42 : decode cX7_copy 42 = .ok (.getfield 72, 3) := by decide +kernel
theorem dX7_copy_45 : decode cX7_copy 45 = .ok (.iload_n 1, 1) := by decide +kernel
theorem dX7_copy_46 : decode cX7_copy 46 = .ok (.iaload, 1) := by decide +kernel
theorem dX7_copy_47 : decode cX7_copy 47 = .ok (.iastore, 1) := by decide +kernel
theorem dX7_copy_48 : decode cX7_copy 48 = .ok (.iconst 0, 1) := by decide +kernel
theorem dX7_copy_49 : decode cX7_copy 49 = .ok (.istore_n 3, 1) := by decide +kernel
theorem dX7_copy_50 : decode cX7_copy 50 = .ok (.iload_n 3, 1) := by decide +kernel
theorem dX7_copy_51 : decode cX7_copy 51 = .ok (.bipush 6, 2) := by decide +kernel
theorem dX7_copy_53 : decode cX7_copy 53 = .ok (.if_icmp .ge 53, 3) := by decide +kernel
theorem dX7_copy_56 : decode cX7_copy 56 = .ok (.aload_n 0, 1) := by decide +kernel
theorem dX7_copy_57 : decode cX7_copy 57 = .ok (.getfield 75, 3) := by decide +kernel
theorem dX7_copy_60 : decode cX7_copy 60 = .ok (.bipush 6, 2) := by decide +kernel
theorem dX7_copy_62 : decode cX7_copy 62 = .ok (.iload_n 2, 1) := by decide +kernel
theorem dX7_copy_63 : decode cX7_copy 63 = .ok (.imul, 1) := by decide +kernel
theorem dX7_copy_64 : decode cX7_copy 64 = .ok (.iload_n 3, 1) := by decide +kernel
theorem dX7_copy_65 : decode cX7_copy 65 = .ok (.iadd, 1) := by decide +kernel
theorem dX7_copy_66 : decode cX7_copy 66 = .ok (.aload_n 0, 1) := by decide +kernel
theorem dX7_copy_67 : decode cX7_copy 67 = .ok (.getfield 75, 3) := by decide +kernel
theorem dX7_copy_70 : decode cX7_copy 70 = .ok (.bipush 6, 2) := by decide +kernel
theorem dX7_copy_72 : decode cX7_copy 72 = .ok (.iload_n 1, 1) := by decide +kernel
theorem dX7_copy_73 : decode cX7_copy 73 = .ok (.imul, 1) := by decide +kernel
theorem dX7_copy_74 : decode cX7_copy 74 = .ok (.iload_n 3, 1) := by decide +kernel
theorem dX7_copy_75 : decode cX7_copy 75 = .ok (.iadd, 1) := by decide +kernel
theorem dX7_copy_76 : decode cX7_copy 76 = .ok (.iaload, 1) := by decide +kernel
theorem dX7_copy_77 : decode cX7_copy 77 = .ok (.iastore, 1) := by decide +kernel
theorem dX7_copy_78 : decode cX7_copy 78 = .ok (.aload_n 0, 1) := by decide +kernel
theorem dX7_copy_79 : decode cX7_copy 79 = .ok (.getfield 78, 3) := by decide +kernel
theorem dX7_copy_82 : decode cX7_copy 82 = .ok (.bipush 6, 2) := by decide +kernel
theorem dX7_copy_84 : decode cX7_copy 84 = .ok (.iload_n 2, 1) := by decide +kernel
theorem dX7_copy_85 : decode cX7_copy 85 = .ok (.imul, 1) := by decide +kernel
theorem dX7_copy_86 : decode cX7_copy 86 = .ok (.iload_n 3, 1) := by decide +kernel
theorem dX7_copy_87 : decode cX7_copy 87 = .ok (.iadd, 1) := by decide +kernel
theorem dX7_copy_88 : decode cX7_copy 88 = .ok (.aload_n 0, 1) := by decide +kernel
theorem dX7_copy_89 : decode cX7_copy 89 = .ok (.getfield 78, 3) := by decide +kernel
theorem dX7_copy_92 : decode cX7_copy 92 = .ok (.bipush 6, 2) := by decide +kernel
theorem dX7_copy_94 : decode cX7_copy 94 = .ok (.iload_n 1, 1) := by decide +kernel
theorem dX7_copy_95 : decode cX7_copy 95 = .ok (.imul, 1) := by decide +kernel
theorem dX7_copy_96 : decode cX7_copy 96 = .ok (.iload_n 3, 1) := by decide +kernel
theorem dX7_copy_97 : decode cX7_copy 97 = .ok (.iadd, 1) := by decide +kernel
theorem dX7_copy_98 : decode cX7_copy 98 = .ok (.iaload, 1) := by decide +kernel
theorem dX7_copy_99 : decode cX7_copy 99 = .ok (.iastore, 1) := by decide +kernel
theorem dX7_copy_100 : decode cX7_copy 100 = .ok (.iinc 3 1, 3) := by decide +kernel
theorem dX7_copy_103 : decode cX7_copy 103 = .ok (.goto (-53), 3) := by decide +kernel
theorem dX7_copy_106 : decode cX7_copy 106 = .ok (.return_, 1) := by decide +kernel
theorem dX7_keep_0 : decode cX7_keep 0 = .ok (.iload_n 1, 1) := by decide +kernel
theorem dX7_keep_1 : decode cX7_keep 1 = .ok (.iconst 0, 1) := by decide +kernel
theorem dX7_keep_2 : decode cX7_keep 2 = .ok (.iconst 1, 1) := by decide +kernel
theorem dX7_keep_3 : decode cX7_keep 3 = .ok (.invokestatic 85, 3) := by decide +kernel
theorem dX7_keep_6 : decode cX7_keep 6 = .ok (.ifCond .ne 5, 3) := by decide +kernel
theorem dX7_keep_9 : decode cX7_keep 9 = .ok (.iconst (-1), 1) := by decide +kernel
theorem dX7_keep_10 : decode cX7_keep 10 = .ok (.ireturn, 1) := by decide +kernel
theorem dX7_keep_11 : decode cX7_keep 11 = .ok (.aload_n 0, 1) := by decide +kernel
theorem dX7_keep_12 : decode cX7_keep 12 = .ok (.iconst 0, 1) := by decide +kernel
theorem dX7_keep_13 : decode cX7_keep 13 = .ok (.iconst 1, 1) := by decide +kernel
theorem dX7_keep_14 : decode cX7_keep 14 = .ok (.iload_n 1, 1) := by decide +kernel
theorem dX7_keep_15 : decode cX7_keep 15 = .ok (.iadd, 1) := by decide +kernel
theorem dX7_keep_16 : decode cX7_keep 16 = .ok (.invokevirtual 277, 3) := by decide +kernel
theorem dX7_keep_19 : decode cX7_keep 19 = .ok (.aload_n 0, 1) := by decide +kernel
theorem dX7_keep_20 : decode cX7_keep 20 = .ok (.getfield 81, 3) := by decide +kernel
theorem dX7_keep_23 : decode cX7_keep 23 = .ok (.iload_n 1, 1) := by decide +kernel
theorem dX7_keep_24 : decode cX7_keep 24 = .ok (.iconst 1, 1) := by decide +kernel
theorem dX7_keep_25 : decode cX7_keep 25 = .ok (.bastore, 1) := by decide +kernel
theorem dX7_keep_26 : decode cX7_keep 26 = .ok (.aload_n 0, 1) := by decide +kernel
theorem dX7_keep_27 : decode cX7_keep 27 = .ok (.getfield 72, 3) := by decide +kernel
theorem dX7_keep_30 : decode cX7_keep 30 = .ok (.iconst 0, 1) := by decide +kernel
theorem dX7_keep_31 : decode cX7_keep 31 = .ok (.iaload, 1) := by decide +kernel
theorem dX7_keep_32 : decode cX7_keep 32 = .ok (.ireturn, 1) := by decide +kernel
theorem dX7_back_0 : decode cX7_back 0 = .ok (.iload_n 1, 1) := by decide +kernel
theorem dX7_back_1 : decode cX7_back 1 = .ok (.iconst 0, 1) := by decide +kernel
theorem dX7_back_2 : decode cX7_back 2 = .ok (.iconst 1, 1) := by decide +kernel
theorem dX7_back_3 : decode cX7_back 3 = .ok (.invokestatic 85, 3) := by decide +kernel
theorem dX7_back_6 : decode cX7_back 6 = .ok (.ifCond .ne 5, 3) := by decide +kernel
theorem dX7_back_9 : decode cX7_back 9 = .ok (.iconst (-1), 1) := by decide +kernel
theorem dX7_back_10 : decode cX7_back 10 = .ok (.ireturn, 1) := by decide +kernel
theorem dX7_back_11 : decode cX7_back 11 = .ok (.aload_n 0, 1) := by decide +kernel
theorem dX7_back_12 : decode cX7_back 12 = .ok (.getfield 81, 3) := by decide +kernel
theorem dX7_back_15 : decode cX7_back 15 = .ok (.iload_n 1, 1) := by decide +kernel
theorem dX7_back_16 : decode cX7_back 16 = .ok (.baload, 1) := by decide +kernel
theorem dX7_back_17 : decode cX7_back 17 = .ok (.ifCond .ne 6, 3) := by decide +kernel
theorem dX7_back_20 : decode cX7_back 20 = .ok (.bipush (-2), 2) := by decide +kernel
theorem dX7_back_22 : decode cX7_back 22 = .ok (.ireturn, 1) := by decide +kernel
theorem dX7_back_23 : decode cX7_back 23 = .ok (.aload_n 0, 1) := by decide +kernel
theorem dX7_back_24 : decode cX7_back 24 = .ok (.iconst 1, 1) := by decide +kernel
theorem dX7_back_25 : decode cX7_back 25 = .ok (.iload_n 1, 1) := by decide +kernel
theorem dX7_back_26 : decode cX7_back 26 = .ok (.iadd, 1) := by decide +kernel
theorem dX7_back_27 : decode cX7_back 27 = .ok (.iconst 0, 1) := by decide +kernel
theorem dX7_back_28 : decode cX7_back 28 = .ok (.invokevirtual 277, 3) := by decide +kernel
theorem dX7_back_31 : decode cX7_back 31 = .ok (.aload_n 0, 1) := by decide +kernel
theorem dX7_back_32 : decode cX7_back 32 = .ok (.getfield 72, 3) := by decide +kernel
theorem dX7_back_35 : decode cX7_back 35 = .ok (.iconst 0, 1) := by decide +kernel
theorem dX7_back_36 : decode cX7_back 36 = .ok (.iaload, 1) := by decide +kernel
theorem dX7_back_37 : decode cX7_back 37 = .ok (.ireturn, 1) := by decide +kernel
theorem dX7_count_0 : decode cX7_count 0 = .ok (.iconst 0, 1) := by decide +kernel
theorem dX7_count_1 : decode cX7_count 1 = .ok (.istore_n 2, 1) := by decide +kernel
theorem dX7_count_2 : decode cX7_count 2 = .ok (.iconst 0, 1) := by decide +kernel
theorem dX7_count_3 : decode cX7_count 3 = .ok (.istore_n 3, 1) := by decide +kernel
theorem dX7_count_4 : decode cX7_count 4 = .ok (.iload_n 3, 1) := by decide +kernel
theorem dX7_count_5 : decode cX7_count 5 = .ok (.aload_n 0, 1) := by decide +kernel
theorem dX7_count_6 : decode cX7_count 6 = .ok (.getfield 17, 3) := by decide +kernel
theorem dX7_count_9 : decode cX7_count 9 = .ok (.iconst 0, 1) := by decide +kernel
theorem dX7_count_10 : decode cX7_count 10 = .ok (.iaload, 1) := by decide +kernel
theorem dX7_count_11 : decode cX7_count 11 = .ok (.if_icmp .ge 47, 3) := by decide +kernel
theorem dX7_count_14 : decode cX7_count 14 = .ok (.iconst 0, 1) := by decide +kernel
theorem dX7_count_15 : decode cX7_count 15 = .ok (.istore 4, 2) := by decide +kernel
theorem dX7_count_17 : decode cX7_count 17 = .ok (.iload 4, 2) := by decide +kernel
theorem dX7_count_19 : decode cX7_count 19 = .ok (.aload_n 0, 1) := by decide +kernel
theorem dX7_count_20 : decode cX7_count 20 = .ok (.getfield 13, 3) := by decide +kernel
theorem dX7_count_23 : decode cX7_count 23 = .ok (.iconst 0, 1) := by decide +kernel
theorem dX7_count_24 : decode cX7_count 24 = .ok (.iaload, 1) := by decide +kernel
theorem dX7_count_25 : decode cX7_count 25 = .ok (.if_icmp .ge 27, 3) := by decide +kernel
theorem dX7_count_28 : decode cX7_count 28 = .ok (.iload_n 2, 1) := by decide +kernel
theorem dX7_count_29 : decode cX7_count 29 = .ok (.aload_n 0, 1) := by decide +kernel
theorem dX7_count_30 : decode cX7_count 30 = .ok (.iload_n 3, 1) := by decide +kernel
theorem dX7_count_31 : decode cX7_count 31 = .ok (.iload 4, 2) := by decide +kernel
theorem dX7_count_33 : decode cX7_count 33 = .ok (.invokevirtual 143, 3) := by decide +kernel
theorem dX7_count_36 : decode cX7_count 36 = .ok (.ifCond .eq 7, 3) := by decide +kernel
theorem dX7_count_39 : decode cX7_count 39 = .ok (.iconst 1, 1) := by decide +kernel
theorem dX7_count_40 : decode cX7_count 40 = .ok (.goto 4, 3) := by decide +kernel
theorem dX7_count_43 : decode cX7_count 43 = .ok (.iconst 0, 1) := by decide +kernel
theorem dX7_count_44 : decode cX7_count 44 = .ok (.iadd, 1) := by decide +kernel
theorem dX7_count_45 : decode cX7_count 45 = .ok (.istore_n 2, 1) := by decide +kernel
theorem dX7_count_46 : decode cX7_count 46 = .ok (.iinc 4 1, 3) := by decide +kernel
theorem dX7_count_49 : decode cX7_count 49 = .ok (.goto (-32), 3) := by decide +kernel
theorem dX7_count_52 : decode cX7_count 52 = .ok (.iinc 3 1, 3) := by decide +kernel
theorem dX7_count_55 : decode cX7_count 55 = .ok (.goto (-51), 3) := by decide +kernel
theorem dX7_count_58 : decode cX7_count 58 = .ok (.iload_n 1, 1) := by decide +kernel
theorem dX7_count_59 : decode cX7_count 59 = .ok (.tableswitch 72 0 5 #[37, 44, 51, 58, 65, 70], 37) := by decide +kernel
theorem dX7_count_96 : decode cX7_count 96 = .ok (.aload_n 0, 1) := by decide +kernel
theorem dX7_count_97 : decode cX7_count 97 = .ok (.getfield 13, 3) := by decide +kernel
theorem dX7_count_100 : decode cX7_count 100 = .ok (.iconst 0, 1) := by decide +kernel
theorem dX7_count_101 : decode cX7_count 101 = .ok (.iaload, 1) := by decide +kernel
theorem dX7_count_102 : decode cX7_count 102 = .ok (.ireturn, 1) := by decide +kernel
theorem dX7_count_103 : decode cX7_count 103 = .ok (.aload_n 0, 1) := by decide +kernel
theorem dX7_count_104 : decode cX7_count 104 = .ok (.getfield 17, 3) := by decide +kernel
theorem dX7_count_107 : decode cX7_count 107 = .ok (.iconst 0, 1) := by decide +kernel
theorem dX7_count_108 : decode cX7_count 108 = .ok (.iaload, 1) := by decide +kernel
theorem dX7_count_109 : decode cX7_count 109 = .ok (.ireturn, 1) := by decide +kernel
theorem dX7_count_110 : decode cX7_count 110 = .ok (.aload_n 0, 1) := by decide +kernel
theorem dX7_count_111 : decode cX7_count 111 = .ok (.getfield 20, 3) := by decide +kernel
theorem dX7_count_114 : decode cX7_count 114 = .ok (.iconst 0, 1) := by decide +kernel
theorem dX7_count_115 : decode cX7_count 115 = .ok (.iaload, 1) := by decide +kernel
theorem dX7_count_116 : decode cX7_count 116 = .ok (.ireturn, 1) := by decide +kernel
theorem dX7_count_117 : decode cX7_count 117 = .ok (.aload_n 0, 1) := by decide +kernel
theorem dX7_count_118 : decode cX7_count 118 = .ok (.getfield 72, 3) := by decide +kernel
theorem dX7_count_121 : decode cX7_count 121 = .ok (.iconst 0, 1) := by decide +kernel
theorem dX7_count_122 : decode cX7_count 122 = .ok (.iaload, 1) := by decide +kernel
theorem dX7_count_123 : decode cX7_count 123 = .ok (.ireturn, 1) := by decide +kernel
theorem dX7_count_124 : decode cX7_count 124 = .ok (.aload_n 0, 1) := by decide +kernel
theorem dX7_count_125 : decode cX7_count 125 = .ok (.getfield 89, 3) := by decide +kernel
theorem dX7_count_128 : decode cX7_count 128 = .ok (.ireturn, 1) := by decide +kernel
theorem dX7_count_129 : decode cX7_count 129 = .ok (.iload_n 2, 1) := by decide +kernel
theorem dX7_count_130 : decode cX7_count 130 = .ok (.ireturn, 1) := by decide +kernel
theorem dX7_count_131 : decode cX7_count 131 = .ok (.iconst (-1), 1) := by decide +kernel
theorem dX7_count_132 : decode cX7_count 132 = .ok (.ireturn, 1) := by decide +kernel
theorem dX7_trace_0 : decode cX7_trace 0 = .ok (.aload_n 0, 1) := by decide +kernel
theorem dX7_trace_1 : decode cX7_trace 1 = .ok (.getfield 263, 3) := by decide +kernel
theorem dX7_trace_4 : decode cX7_trace 4 = .ok (.lreturn, 1) := by decide +kernel
theorem dL_law_0 : decode cL_law 0 = .ok (.new 7, 3) := by decide +kernel
theorem dL_law_3 : decode cL_law 3 = .ok (.dup, 1) := by decide +kernel
theorem dL_law_4 : decode cL_law 4 = .ok (.invokespecial 9, 3) := by decide +kernel
theorem dL_law_7 : decode cL_law 7 = .ok (.astore_n 1, 1) := by decide +kernel
theorem dL_law_8 : decode cL_law 8 = .ok (.new 10, 3) := by decide +kernel
theorem dL_law_11 : decode cL_law 11 = .ok (.dup, 1) := by decide +kernel
theorem dL_law_12 : decode cL_law 12 = .ok (.invokespecial 12, 3) := by decide +kernel
theorem dL_law_15 : decode cL_law 15 = .ok (.astore_n 2, 1) := by decide +kernel
theorem dL_law_16 : decode cL_law 16 = .ok (.iconst 0, 1) := by decide +kernel
theorem dL_law_17 : decode cL_law 17 = .ok (.istore_n 3, 1) := by decide +kernel
theorem dL_law_18 : decode cL_law 18 = .ok (.iload_n 3, 1) := by decide +kernel
theorem dL_law_19 : decode cL_law 19 = .ok (.aload_n 0, 1) := by decide +kernel
theorem dL_law_20 : decode cL_law 20 = .ok (.arraylength, 1) := by decide +kernel
theorem dL_law_21 : decode cL_law 21 = .ok (.iconst 4, 1) := by decide +kernel
theorem dL_law_22 : decode cL_law 22 = .ok (.isub, 1) := by decide +kernel
theorem dL_law_23 : decode cL_law 23 = .ok (.if_icmp .gt 990, 3) := by decide +kernel
theorem dL_law_26 : decode cL_law 26 = .ok (.aload_n 0, 1) := by decide +kernel
theorem dL_law_27 : decode cL_law 27 = .ok (.iload_n 3, 1) := by decide +kernel
theorem dL_law_28 : decode cL_law 28 = .ok (.iaload, 1) := by decide +kernel
theorem dL_law_29 : decode cL_law 29 = .ok (.bipush 31, 2) := by decide +kernel
theorem dL_law_31 : decode cL_law 31 = .ok (.iand, 1) := by decide +kernel
theorem dL_law_32 : decode cL_law 32 = .ok (.tableswitch 975 0 27 #[128, 191, 204, 217, 250, 283, 316, 359, 383, 416, 449, 472, 515, 538, 571, 614, 637, 670, 703, 746, 769, 802, 835, 859, 892, 915, 938, 961], 128) := by decide +kernel
theorem dL_law_160 : decode cL_law 160 = .ok (.aload_n 1, 1) := by decide +kernel
theorem dL_law_161 : decode cL_law 161 = .ok (.aload_n 0, 1) := by decide +kernel
theorem dL_law_162 : decode cL_law 162 = .ok (.iload_n 3, 1) := by decide +kernel
theorem dL_law_163 : decode cL_law 163 = .ok (.iconst 1, 1) := by decide +kernel
theorem dL_law_164 : decode cL_law 164 = .ok (.iadd, 1) := by decide +kernel
theorem dL_law_165 : decode cL_law 165 = .ok (.iaload, 1) := by decide +kernel
theorem dL_law_166 : decode cL_law 166 = .ok (.i2l, 1) := by decide +kernel
theorem dL_law_167 : decode cL_law 167 = .ok (.bipush 32, 2) := by decide +kernel
theorem dL_law_169 : decode cL_law 169 = .ok (.lshl, 1) := by decide +kernel
theorem dL_law_170 : decode cL_law 170 = .ok (.aload_n 0, 1) := by decide +kernel
theorem dL_law_171 : decode cL_law 171 = .ok (.iload_n 3, 1) := by decide +kernel
theorem dL_law_172 : decode cL_law 172 = .ok (.iconst 2, 1) := by decide +kernel
theorem dL_law_173 : decode cL_law 173 = .ok (.iadd, 1) := by decide +kernel
theorem dL_law_174 : decode cL_law 174 = .ok (.iaload, 1) := by decide +kernel
theorem dL_law_175 : decode cL_law 175 = .ok (.i2l, 1) := by decide +kernel
theorem dL_law_176 : decode cL_law 176 = .ok (.ldc2_w 13, 3) := by decide +kernel
theorem dL_law_179 : decode cL_law 179 = .ok (.land, 1) := by decide +kernel
theorem dL_law_180 : decode cL_law 180 = .ok (.lor, 1) := by decide +kernel
theorem dL_law_181 : decode cL_law 181 = .ok (.aload_n 0, 1) := by decide +kernel
theorem dL_law_182 : decode cL_law 182 = .ok (.iload_n 3, 1) := by decide +kernel
theorem dL_law_183 : decode cL_law 183 = .ok (.iconst 3, 1) := by decide +kernel
theorem dL_law_184 : decode cL_law 184 = .ok (.iadd, 1) := by decide +kernel
theorem dL_law_185 : decode cL_law 185 = .ok (.iaload, 1) := by decide +kernel
theorem dL_law_186 : decode cL_law 186 = .ok (.invokevirtual 15, 3) := by decide +kernel
theorem dL_law_189 : decode cL_law 189 = .ok (.aload_n 2, 1) := by decide +kernel
theorem dL_law_190 : decode cL_law 190 = .ok (.aload_n 0, 1) := by decide +kernel
theorem dL_law_191 : decode cL_law 191 = .ok (.iload_n 3, 1) := by decide +kernel
theorem dL_law_192 : decode cL_law 192 = .ok (.iconst 1, 1) := by decide +kernel
theorem dL_law_193 : decode cL_law 193 = .ok (.iadd, 1) := by decide +kernel
theorem dL_law_194 : decode cL_law 194 = .ok (.iaload, 1) := by decide +kernel
theorem dL_law_195 : decode cL_law 195 = .ok (.i2l, 1) := by decide +kernel
theorem dL_law_196 : decode cL_law 196 = .ok (.bipush 32, 2) := by decide +kernel
theorem dL_law_198 : decode cL_law 198 = .ok (.lshl, 1) := by decide +kernel
theorem dL_law_199 : decode cL_law 199 = .ok (.aload_n 0, 1) := by decide +kernel
theorem dL_law_200 : decode cL_law 200 = .ok (.iload_n 3, 1) := by decide +kernel
theorem dL_law_201 : decode cL_law 201 = .ok (.iconst 2, 1) := by decide +kernel
theorem dL_law_202 : decode cL_law 202 = .ok (.iadd, 1) := by decide +kernel
theorem dL_law_203 : decode cL_law 203 = .ok (.iaload, 1) := by decide +kernel
theorem dL_law_204 : decode cL_law 204 = .ok (.i2l, 1) := by decide +kernel
theorem dL_law_205 : decode cL_law 205 = .ok (.ldc2_w 13, 3) := by decide +kernel
theorem dL_law_208 : decode cL_law 208 = .ok (.land, 1) := by decide +kernel
theorem dL_law_209 : decode cL_law 209 = .ok (.lor, 1) := by decide +kernel
theorem dL_law_210 : decode cL_law 210 = .ok (.aload_n 0, 1) := by decide +kernel
theorem dL_law_211 : decode cL_law 211 = .ok (.iload_n 3, 1) := by decide +kernel
theorem dL_law_212 : decode cL_law 212 = .ok (.iconst 3, 1) := by decide +kernel
theorem dL_law_213 : decode cL_law 213 = .ok (.iadd, 1) := by decide +kernel
theorem dL_law_214 : decode cL_law 214 = .ok (.iaload, 1) := by decide +kernel
theorem dL_law_215 : decode cL_law 215 = .ok (.invokevirtual 19, 3) := by decide +kernel
theorem dL_law_218 : decode cL_law 218 = .ok (.if_icmp .eq 789, 3) := by decide +kernel
theorem dL_law_221 : decode cL_law 221 = .ok (.iconst 0, 1) := by decide +kernel
theorem dL_law_222 : decode cL_law 222 = .ok (.ireturn, 1) := by decide +kernel
theorem dL_law_223 : decode cL_law 223 = .ok (.aload_n 1, 1) := by decide +kernel
theorem dL_law_224 : decode cL_law 224 = .ok (.invokevirtual 20, 3) := by decide +kernel
theorem dL_law_227 : decode cL_law 227 = .ok (.aload_n 2, 1) := by decide +kernel
theorem dL_law_228 : decode cL_law 228 = .ok (.invokevirtual 24, 3) := by decide +kernel
theorem dL_law_231 : decode cL_law 231 = .ok (.if_icmp .eq 776, 3) := by decide +kernel
theorem dL_law_234 : decode cL_law 234 = .ok (.iconst 0, 1) := by decide +kernel
theorem dL_law_235 : decode cL_law 235 = .ok (.ireturn, 1) := by decide +kernel
theorem dL_law_236 : decode cL_law 236 = .ok (.aload_n 1, 1) := by decide +kernel
theorem dL_law_237 : decode cL_law 237 = .ok (.invokevirtual 25, 3) := by decide +kernel
theorem dL_law_240 : decode cL_law 240 = .ok (.aload_n 2, 1) := by decide +kernel
theorem dL_law_241 : decode cL_law 241 = .ok (.invokevirtual 28, 3) := by decide +kernel
theorem dL_law_244 : decode cL_law 244 = .ok (.if_icmp .eq 763, 3) := by decide +kernel
theorem dL_law_247 : decode cL_law 247 = .ok (.iconst 0, 1) := by decide +kernel
theorem dL_law_248 : decode cL_law 248 = .ok (.ireturn, 1) := by decide +kernel
theorem dL_law_249 : decode cL_law 249 = .ok (.aload_n 1, 1) := by decide +kernel
theorem dL_law_250 : decode cL_law 250 = .ok (.aload_n 0, 1) := by decide +kernel
theorem dL_law_251 : decode cL_law 251 = .ok (.iload_n 3, 1) := by decide +kernel
theorem dL_law_252 : decode cL_law 252 = .ok (.iconst 1, 1) := by decide +kernel
theorem dL_law_253 : decode cL_law 253 = .ok (.iadd, 1) := by decide +kernel
theorem dL_law_254 : decode cL_law 254 = .ok (.iaload, 1) := by decide +kernel
theorem dL_law_255 : decode cL_law 255 = .ok (.aload_n 0, 1) := by decide +kernel
theorem dL_law_256 : decode cL_law 256 = .ok (.iload_n 3, 1) := by decide +kernel
theorem dL_law_257 : decode cL_law 257 = .ok (.iconst 2, 1) := by decide +kernel
theorem dL_law_258 : decode cL_law 258 = .ok (.iadd, 1) := by decide +kernel
theorem dL_law_259 : decode cL_law 259 = .ok (.iaload, 1) := by decide +kernel
theorem dL_law_260 : decode cL_law 260 = .ok (.invokevirtual 29, 3) := by decide +kernel
theorem dL_law_263 : decode cL_law 263 = .ok (.aload_n 2, 1) := by decide +kernel
theorem dL_law_264 : decode cL_law 264 = .ok (.aload_n 0, 1) := by decide +kernel
theorem dL_law_265 : decode cL_law 265 = .ok (.iload_n 3, 1) := by decide +kernel
theorem dL_law_266 : decode cL_law 266 = .ok (.iconst 1, 1) := by decide +kernel
theorem dL_law_267 : decode cL_law 267 = .ok (.iadd, 1) := by decide +kernel
theorem dL_law_268 : decode cL_law 268 = .ok (.iaload, 1) := by decide +kernel
theorem dL_law_269 : decode cL_law 269 = .ok (.aload_n 0, 1) := by decide +kernel
theorem dL_law_270 : decode cL_law 270 = .ok (.iload_n 3, 1) := by decide +kernel
theorem dL_law_271 : decode cL_law 271 = .ok (.iconst 2, 1) := by decide +kernel
theorem dL_law_272 : decode cL_law 272 = .ok (.iadd, 1) := by decide +kernel
theorem dL_law_273 : decode cL_law 273 = .ok (.iaload, 1) := by decide +kernel
theorem dL_law_274 : decode cL_law 274 = .ok (.invokevirtual 33, 3) := by decide +kernel
theorem dL_law_277 : decode cL_law 277 = .ok (.if_icmp .eq 730, 3) := by decide +kernel
theorem dL_law_280 : decode cL_law 280 = .ok (.iconst 0, 1) := by decide +kernel
theorem dL_law_281 : decode cL_law 281 = .ok (.ireturn, 1) := by decide +kernel
theorem dL_law_282 : decode cL_law 282 = .ok (.aload_n 1, 1) := by decide +kernel
theorem dL_law_283 : decode cL_law 283 = .ok (.aload_n 0, 1) := by decide +kernel
theorem dL_law_284 : decode cL_law 284 = .ok (.iload_n 3, 1) := by decide +kernel
theorem dL_law_285 : decode cL_law 285 = .ok (.iconst 1, 1) := by decide +kernel
theorem dL_law_286 : decode cL_law 286 = .ok (.iadd, 1) := by decide +kernel
theorem dL_law_287 : decode cL_law 287 = .ok (.iaload, 1) := by decide +kernel
theorem dL_law_288 : decode cL_law 288 = .ok (.aload_n 0, 1) := by decide +kernel
theorem dL_law_289 : decode cL_law 289 = .ok (.iload_n 3, 1) := by decide +kernel
theorem dL_law_290 : decode cL_law 290 = .ok (.iconst 2, 1) := by decide +kernel
theorem dL_law_291 : decode cL_law 291 = .ok (.iadd, 1) := by decide +kernel
theorem dL_law_292 : decode cL_law 292 = .ok (.iaload, 1) := by decide +kernel
theorem dL_law_293 : decode cL_law 293 = .ok (.invokevirtual 34, 3) := by decide +kernel
theorem dL_law_296 : decode cL_law 296 = .ok (.aload_n 2, 1) := by decide +kernel
theorem dL_law_297 : decode cL_law 297 = .ok (.aload_n 0, 1) := by decide +kernel
theorem dL_law_298 : decode cL_law 298 = .ok (.iload_n 3, 1) := by decide +kernel
theorem dL_law_299 : decode cL_law 299 = .ok (.iconst 1, 1) := by decide +kernel
theorem dL_law_300 : decode cL_law 300 = .ok (.iadd, 1) := by decide +kernel
theorem dL_law_301 : decode cL_law 301 = .ok (.iaload, 1) := by decide +kernel
theorem dL_law_302 : decode cL_law 302 = .ok (.aload_n 0, 1) := by decide +kernel
theorem dL_law_303 : decode cL_law 303 = .ok (.iload_n 3, 1) := by decide +kernel
theorem dL_law_304 : decode cL_law 304 = .ok (.iconst 2, 1) := by decide +kernel
theorem dL_law_305 : decode cL_law 305 = .ok (.iadd, 1) := by decide +kernel
theorem dL_law_306 : decode cL_law 306 = .ok (.iaload, 1) := by decide +kernel
theorem dL_law_307 : decode cL_law 307 = .ok (.invokevirtual 37, 3) := by decide +kernel
theorem dL_law_310 : decode cL_law 310 = .ok (.if_icmp .eq 697, 3) := by decide +kernel
theorem dL_law_313 : decode cL_law 313 = .ok (.iconst 0, 1) := by decide +kernel
theorem dL_law_314 : decode cL_law 314 = .ok (.ireturn, 1) := by decide +kernel
theorem dL_law_315 : decode cL_law 315 = .ok (.aload_n 1, 1) := by decide +kernel
theorem dL_law_316 : decode cL_law 316 = .ok (.aload_n 0, 1) := by decide +kernel
theorem dL_law_317 : decode cL_law 317 = .ok (.iload_n 3, 1) := by decide +kernel
theorem dL_law_318 : decode cL_law 318 = .ok (.iconst 1, 1) := by decide +kernel
theorem dL_law_319 : decode cL_law 319 = .ok (.iadd, 1) := by decide +kernel
theorem dL_law_320 : decode cL_law 320 = .ok (.iaload, 1) := by decide +kernel
theorem dL_law_321 : decode cL_law 321 = .ok (.aload_n 0, 1) := by decide +kernel
theorem dL_law_322 : decode cL_law 322 = .ok (.iload_n 3, 1) := by decide +kernel
theorem dL_law_323 : decode cL_law 323 = .ok (.iconst 2, 1) := by decide +kernel
theorem dL_law_324 : decode cL_law 324 = .ok (.iadd, 1) := by decide +kernel
theorem dL_law_325 : decode cL_law 325 = .ok (.iaload, 1) := by decide +kernel
theorem dL_law_326 : decode cL_law 326 = .ok (.invokevirtual 38, 3) := by decide +kernel
theorem dL_law_329 : decode cL_law 329 = .ok (.aload_n 2, 1) := by decide +kernel
theorem dL_law_330 : decode cL_law 330 = .ok (.aload_n 0, 1) := by decide +kernel
theorem dL_law_331 : decode cL_law 331 = .ok (.iload_n 3, 1) := by decide +kernel
theorem dL_law_332 : decode cL_law 332 = .ok (.iconst 1, 1) := by decide +kernel
theorem dL_law_333 : decode cL_law 333 = .ok (.iadd, 1) := by decide +kernel
theorem dL_law_334 : decode cL_law 334 = .ok (.iaload, 1) := by decide +kernel
theorem dL_law_335 : decode cL_law 335 = .ok (.aload_n 0, 1) := by decide +kernel
theorem dL_law_336 : decode cL_law 336 = .ok (.iload_n 3, 1) := by decide +kernel
theorem dL_law_337 : decode cL_law 337 = .ok (.iconst 2, 1) := by decide +kernel
theorem dL_law_338 : decode cL_law 338 = .ok (.iadd, 1) := by decide +kernel
theorem dL_law_339 : decode cL_law 339 = .ok (.iaload, 1) := by decide +kernel
theorem dL_law_340 : decode cL_law 340 = .ok (.invokevirtual 41, 3) := by decide +kernel
theorem dL_law_343 : decode cL_law 343 = .ok (.if_icmp .eq 664, 3) := by decide +kernel
theorem dL_law_346 : decode cL_law 346 = .ok (.iconst 0, 1) := by decide +kernel
theorem dL_law_347 : decode cL_law 347 = .ok (.ireturn, 1) := by decide +kernel
theorem dL_law_348 : decode cL_law 348 = .ok (.aload_n 1, 1) := by decide +kernel
theorem dL_law_349 : decode cL_law 349 = .ok (.aload_n 0, 1) := by decide +kernel
theorem dL_law_350 : decode cL_law 350 = .ok (.iload_n 3, 1) := by decide +kernel
theorem dL_law_351 : decode cL_law 351 = .ok (.iconst 1, 1) := by decide +kernel
theorem dL_law_352 : decode cL_law 352 = .ok (.iadd, 1) := by decide +kernel
theorem dL_law_353 : decode cL_law 353 = .ok (.iaload, 1) := by decide +kernel
theorem dL_law_354 : decode cL_law 354 = .ok (.aload_n 0, 1) := by decide +kernel
theorem dL_law_355 : decode cL_law 355 = .ok (.iload_n 3, 1) := by decide +kernel
theorem dL_law_356 : decode cL_law 356 = .ok (.iconst 2, 1) := by decide +kernel
theorem dL_law_357 : decode cL_law 357 = .ok (.iadd, 1) := by decide +kernel
theorem dL_law_358 : decode cL_law 358 = .ok (.iaload, 1) := by decide +kernel
theorem dL_law_359 : decode cL_law 359 = .ok (.aload_n 0, 1) := by decide +kernel
theorem dL_law_360 : decode cL_law 360 = .ok (.iload_n 3, 1) := by decide +kernel
theorem dL_law_361 : decode cL_law 361 = .ok (.iconst 3, 1) := by decide +kernel
theorem dL_law_362 : decode cL_law 362 = .ok (.iadd, 1) := by decide +kernel
theorem dL_law_363 : decode cL_law 363 = .ok (.iaload, 1) := by decide +kernel
theorem dL_law_364 : decode cL_law 364 = .ok (.invokevirtual 42, 3) := by decide +kernel
theorem dL_law_367 : decode cL_law 367 = .ok (.aload_n 2, 1) := by decide +kernel
theorem dL_law_368 : decode cL_law 368 = .ok (.aload_n 0, 1) := by decide +kernel
theorem dL_law_369 : decode cL_law 369 = .ok (.iload_n 3, 1) := by decide +kernel
theorem dL_law_370 : decode cL_law 370 = .ok (.iconst 1, 1) := by decide +kernel
theorem dL_law_371 : decode cL_law 371 = .ok (.iadd, 1) := by decide +kernel
theorem dL_law_372 : decode cL_law 372 = .ok (.iaload, 1) := by decide +kernel
theorem dL_law_373 : decode cL_law 373 = .ok (.aload_n 0, 1) := by decide +kernel
theorem dL_law_374 : decode cL_law 374 = .ok (.iload_n 3, 1) := by decide +kernel
theorem dL_law_375 : decode cL_law 375 = .ok (.iconst 2, 1) := by decide +kernel
theorem dL_law_376 : decode cL_law 376 = .ok (.iadd, 1) := by decide +kernel
theorem dL_law_377 : decode cL_law 377 = .ok (.iaload, 1) := by decide +kernel
theorem dL_law_378 : decode cL_law 378 = .ok (.aload_n 0, 1) := by decide +kernel
theorem dL_law_379 : decode cL_law 379 = .ok (.iload_n 3, 1) := by decide +kernel
theorem dL_law_380 : decode cL_law 380 = .ok (.iconst 3, 1) := by decide +kernel
theorem dL_law_381 : decode cL_law 381 = .ok (.iadd, 1) := by decide +kernel
theorem dL_law_382 : decode cL_law 382 = .ok (.iaload, 1) := by decide +kernel
theorem dL_law_383 : decode cL_law 383 = .ok (.invokevirtual 46, 3) := by decide +kernel
theorem dL_law_386 : decode cL_law 386 = .ok (.if_icmp .eq 621, 3) := by decide +kernel
theorem dL_law_389 : decode cL_law 389 = .ok (.iconst 0, 1) := by decide +kernel
theorem dL_law_390 : decode cL_law 390 = .ok (.ireturn, 1) := by decide +kernel
theorem dL_law_391 : decode cL_law 391 = .ok (.aload_n 1, 1) := by decide +kernel
theorem dL_law_392 : decode cL_law 392 = .ok (.aload_n 0, 1) := by decide +kernel
theorem dL_law_393 : decode cL_law 393 = .ok (.iload_n 3, 1) := by decide +kernel
theorem dL_law_394 : decode cL_law 394 = .ok (.iconst 1, 1) := by decide +kernel
theorem dL_law_395 : decode cL_law 395 = .ok (.iadd, 1) := by decide +kernel
theorem dL_law_396 : decode cL_law 396 = .ok (.iaload, 1) := by decide +kernel
theorem dL_law_397 : decode cL_law 397 = .ok (.invokevirtual 47, 3) := by decide +kernel
theorem dL_law_400 : decode cL_law 400 = .ok (.aload_n 2, 1) := by decide +kernel
theorem dL_law_401 : decode cL_law 401 = .ok (.aload_n 0, 1) := by decide +kernel
theorem dL_law_402 : decode cL_law 402 = .ok (.iload_n 3, 1) := by decide +kernel
theorem dL_law_403 : decode cL_law 403 = .ok (.iconst 1, 1) := by decide +kernel
theorem dL_law_404 : decode cL_law 404 = .ok (.iadd, 1) := by decide +kernel
theorem dL_law_405 : decode cL_law 405 = .ok (.iaload, 1) := by decide +kernel
theorem dL_law_406 : decode cL_law 406 = .ok (.invokevirtual 51, 3) := by decide +kernel
theorem dL_law_409 : decode cL_law 409 = .ok (.lcmp, 1) := by decide +kernel
theorem dL_law_410 : decode cL_law 410 = .ok (.ifCond .eq 597, 3) := by decide +kernel
theorem dL_law_413 : decode cL_law 413 = .ok (.iconst 0, 1) := by decide +kernel
theorem dL_law_414 : decode cL_law 414 = .ok (.ireturn, 1) := by decide +kernel
theorem dL_law_415 : decode cL_law 415 = .ok (.aload_n 1, 1) := by decide +kernel
theorem dL_law_416 : decode cL_law 416 = .ok (.aload_n 0, 1) := by decide +kernel
theorem dL_law_417 : decode cL_law 417 = .ok (.iload_n 3, 1) := by decide +kernel
theorem dL_law_418 : decode cL_law 418 = .ok (.iconst 1, 1) := by decide +kernel
theorem dL_law_419 : decode cL_law 419 = .ok (.iadd, 1) := by decide +kernel
theorem dL_law_420 : decode cL_law 420 = .ok (.iaload, 1) := by decide +kernel
theorem dL_law_421 : decode cL_law 421 = .ok (.aload_n 0, 1) := by decide +kernel
theorem dL_law_422 : decode cL_law 422 = .ok (.iload_n 3, 1) := by decide +kernel
theorem dL_law_423 : decode cL_law 423 = .ok (.iconst 2, 1) := by decide +kernel
theorem dL_law_424 : decode cL_law 424 = .ok (.iadd, 1) := by decide +kernel
theorem dL_law_425 : decode cL_law 425 = .ok (.iaload, 1) := by decide +kernel
theorem dL_law_426 : decode cL_law 426 = .ok (.invokevirtual 52, 3) := by decide +kernel
theorem dL_law_429 : decode cL_law 429 = .ok (.aload_n 2, 1) := by decide +kernel
theorem dL_law_430 : decode cL_law 430 = .ok (.aload_n 0, 1) := by decide +kernel
theorem dL_law_431 : decode cL_law 431 = .ok (.iload_n 3, 1) := by decide +kernel
theorem dL_law_432 : decode cL_law 432 = .ok (.iconst 1, 1) := by decide +kernel
theorem dL_law_433 : decode cL_law 433 = .ok (.iadd, 1) := by decide +kernel
theorem dL_law_434 : decode cL_law 434 = .ok (.iaload, 1) := by decide +kernel
theorem dL_law_435 : decode cL_law 435 = .ok (.aload_n 0, 1) := by decide +kernel
theorem dL_law_436 : decode cL_law 436 = .ok (.iload_n 3, 1) := by decide +kernel
theorem dL_law_437 : decode cL_law 437 = .ok (.iconst 2, 1) := by decide +kernel
theorem dL_law_438 : decode cL_law 438 = .ok (.iadd, 1) := by decide +kernel
theorem dL_law_439 : decode cL_law 439 = .ok (.iaload, 1) := by decide +kernel
theorem dL_law_440 : decode cL_law 440 = .ok (.invokevirtual 55, 3) := by decide +kernel
theorem dL_law_443 : decode cL_law 443 = .ok (.if_icmp .eq 564, 3) := by decide +kernel
theorem dL_law_446 : decode cL_law 446 = .ok (.iconst 0, 1) := by decide +kernel
theorem dL_law_447 : decode cL_law 447 = .ok (.ireturn, 1) := by decide +kernel
theorem dL_law_448 : decode cL_law 448 = .ok (.aload_n 1, 1) := by decide +kernel
theorem dL_law_449 : decode cL_law 449 = .ok (.aload_n 0, 1) := by decide +kernel
theorem dL_law_450 : decode cL_law 450 = .ok (.iload_n 3, 1) := by decide +kernel
theorem dL_law_451 : decode cL_law 451 = .ok (.iconst 1, 1) := by decide +kernel
theorem dL_law_452 : decode cL_law 452 = .ok (.iadd, 1) := by decide +kernel
theorem dL_law_453 : decode cL_law 453 = .ok (.iaload, 1) := by decide +kernel
theorem dL_law_454 : decode cL_law 454 = .ok (.aload_n 0, 1) := by decide +kernel
theorem dL_law_455 : decode cL_law 455 = .ok (.iload_n 3, 1) := by decide +kernel
theorem dL_law_456 : decode cL_law 456 = .ok (.iconst 2, 1) := by decide +kernel
theorem dL_law_457 : decode cL_law 457 = .ok (.iadd, 1) := by decide +kernel
theorem dL_law_458 : decode cL_law 458 = .ok (.iaload, 1) := by decide +kernel
theorem dL_law_459 : decode cL_law 459 = .ok (.invokevirtual 56, 3) := by decide +kernel
theorem dL_law_462 : decode cL_law 462 = .ok (.aload_n 2, 1) := by decide +kernel
theorem dL_law_463 : decode cL_law 463 = .ok (.aload_n 0, 1) := by decide +kernel
theorem dL_law_464 : decode cL_law 464 = .ok (.iload_n 3, 1) := by decide +kernel
theorem dL_law_465 : decode cL_law 465 = .ok (.iconst 1, 1) := by decide +kernel
theorem dL_law_466 : decode cL_law 466 = .ok (.iadd, 1) := by decide +kernel
theorem dL_law_467 : decode cL_law 467 = .ok (.iaload, 1) := by decide +kernel
theorem dL_law_468 : decode cL_law 468 = .ok (.aload_n 0, 1) := by decide +kernel
theorem dL_law_469 : decode cL_law 469 = .ok (.iload_n 3, 1) := by decide +kernel
theorem dL_law_470 : decode cL_law 470 = .ok (.iconst 2, 1) := by decide +kernel
theorem dL_law_471 : decode cL_law 471 = .ok (.iadd, 1) := by decide +kernel
theorem dL_law_472 : decode cL_law 472 = .ok (.iaload, 1) := by decide +kernel
theorem dL_law_473 : decode cL_law 473 = .ok (.invokevirtual 59, 3) := by decide +kernel
theorem dL_law_476 : decode cL_law 476 = .ok (.if_icmp .eq 531, 3) := by decide +kernel
theorem dL_law_479 : decode cL_law 479 = .ok (.iconst 0, 1) := by decide +kernel
theorem dL_law_480 : decode cL_law 480 = .ok (.ireturn, 1) := by decide +kernel
theorem dL_law_481 : decode cL_law 481 = .ok (.aload_n 1, 1) := by decide +kernel
theorem dL_law_482 : decode cL_law 482 = .ok (.aload_n 0, 1) := by decide +kernel
theorem dL_law_483 : decode cL_law 483 = .ok (.iload_n 3, 1) := by decide +kernel
theorem dL_law_484 : decode cL_law 484 = .ok (.iconst 1, 1) := by decide +kernel
theorem dL_law_485 : decode cL_law 485 = .ok (.iadd, 1) := by decide +kernel
theorem dL_law_486 : decode cL_law 486 = .ok (.iaload, 1) := by decide +kernel
theorem dL_law_487 : decode cL_law 487 = .ok (.invokevirtual 60, 3) := by decide +kernel
theorem dL_law_490 : decode cL_law 490 = .ok (.aload_n 2, 1) := by decide +kernel
theorem dL_law_491 : decode cL_law 491 = .ok (.aload_n 0, 1) := by decide +kernel
theorem dL_law_492 : decode cL_law 492 = .ok (.iload_n 3, 1) := by decide +kernel
theorem dL_law_493 : decode cL_law 493 = .ok (.iconst 1, 1) := by decide +kernel
theorem dL_law_494 : decode cL_law 494 = .ok (.iadd, 1) := by decide +kernel
theorem dL_law_495 : decode cL_law 495 = .ok (.iaload, 1) := by decide +kernel
theorem dL_law_496 : decode cL_law 496 = .ok (.invokevirtual 64, 3) := by decide +kernel
theorem dL_law_499 : decode cL_law 499 = .ok (.if_icmp .eq 508, 3) := by decide +kernel
theorem dL_law_502 : decode cL_law 502 = .ok (.iconst 0, 1) := by decide +kernel
theorem dL_law_503 : decode cL_law 503 = .ok (.ireturn, 1) := by decide +kernel
theorem dL_law_504 : decode cL_law 504 = .ok (.aload_n 1, 1) := by decide +kernel
theorem dL_law_505 : decode cL_law 505 = .ok (.aload_n 0, 1) := by decide +kernel
theorem dL_law_506 : decode cL_law 506 = .ok (.iload_n 3, 1) := by decide +kernel
theorem dL_law_507 : decode cL_law 507 = .ok (.iconst 1, 1) := by decide +kernel
theorem dL_law_508 : decode cL_law 508 = .ok (.iadd, 1) := by decide +kernel
theorem dL_law_509 : decode cL_law 509 = .ok (.iaload, 1) := by decide +kernel
theorem dL_law_510 : decode cL_law 510 = .ok (.aload_n 0, 1) := by decide +kernel
theorem dL_law_511 : decode cL_law 511 = .ok (.iload_n 3, 1) := by decide +kernel
theorem dL_law_512 : decode cL_law 512 = .ok (.iconst 2, 1) := by decide +kernel
theorem dL_law_513 : decode cL_law 513 = .ok (.iadd, 1) := by decide +kernel
theorem dL_law_514 : decode cL_law 514 = .ok (.iaload, 1) := by decide +kernel
theorem dL_law_515 : decode cL_law 515 = .ok (.aload_n 0, 1) := by decide +kernel
theorem dL_law_516 : decode cL_law 516 = .ok (.iload_n 3, 1) := by decide +kernel
theorem dL_law_517 : decode cL_law 517 = .ok (.iconst 3, 1) := by decide +kernel
theorem dL_law_518 : decode cL_law 518 = .ok (.iadd, 1) := by decide +kernel
theorem dL_law_519 : decode cL_law 519 = .ok (.iaload, 1) := by decide +kernel
theorem dL_law_520 : decode cL_law 520 = .ok (.invokevirtual 65, 3) := by decide +kernel
theorem dL_law_523 : decode cL_law 523 = .ok (.aload_n 2, 1) := by decide +kernel
theorem dL_law_524 : decode cL_law 524 = .ok (.aload_n 0, 1) := by decide +kernel
theorem dL_law_525 : decode cL_law 525 = .ok (.iload_n 3, 1) := by decide +kernel
theorem dL_law_526 : decode cL_law 526 = .ok (.iconst 1, 1) := by decide +kernel
theorem dL_law_527 : decode cL_law 527 = .ok (.iadd, 1) := by decide +kernel
theorem dL_law_528 : decode cL_law 528 = .ok (.iaload, 1) := by decide +kernel
theorem dL_law_529 : decode cL_law 529 = .ok (.aload_n 0, 1) := by decide +kernel
theorem dL_law_530 : decode cL_law 530 = .ok (.iload_n 3, 1) := by decide +kernel
theorem dL_law_531 : decode cL_law 531 = .ok (.iconst 2, 1) := by decide +kernel
theorem dL_law_532 : decode cL_law 532 = .ok (.iadd, 1) := by decide +kernel
theorem dL_law_533 : decode cL_law 533 = .ok (.iaload, 1) := by decide +kernel
theorem dL_law_534 : decode cL_law 534 = .ok (.aload_n 0, 1) := by decide +kernel
theorem dL_law_535 : decode cL_law 535 = .ok (.iload_n 3, 1) := by decide +kernel
theorem dL_law_536 : decode cL_law 536 = .ok (.iconst 3, 1) := by decide +kernel
theorem dL_law_537 : decode cL_law 537 = .ok (.iadd, 1) := by decide +kernel
theorem dL_law_538 : decode cL_law 538 = .ok (.iaload, 1) := by decide +kernel
theorem dL_law_539 : decode cL_law 539 = .ok (.invokevirtual 68, 3) := by decide +kernel
theorem dL_law_542 : decode cL_law 542 = .ok (.if_icmp .eq 465, 3) := by decide +kernel
theorem dL_law_545 : decode cL_law 545 = .ok (.iconst 0, 1) := by decide +kernel
theorem dL_law_546 : decode cL_law 546 = .ok (.ireturn, 1) := by decide +kernel
theorem dL_law_547 : decode cL_law 547 = .ok (.aload_n 1, 1) := by decide +kernel
theorem dL_law_548 : decode cL_law 548 = .ok (.aload_n 0, 1) := by decide +kernel
theorem dL_law_549 : decode cL_law 549 = .ok (.iload_n 3, 1) := by decide +kernel
theorem dL_law_550 : decode cL_law 550 = .ok (.iconst 1, 1) := by decide +kernel
theorem dL_law_551 : decode cL_law 551 = .ok (.iadd, 1) := by decide +kernel
theorem dL_law_552 : decode cL_law 552 = .ok (.iaload, 1) := by decide +kernel
theorem dL_law_553 : decode cL_law 553 = .ok (.invokevirtual 69, 3) := by decide +kernel
theorem dL_law_556 : decode cL_law 556 = .ok (.aload_n 2, 1) := by decide +kernel
theorem dL_law_557 : decode cL_law 557 = .ok (.aload_n 0, 1) := by decide +kernel
theorem dL_law_558 : decode cL_law 558 = .ok (.iload_n 3, 1) := by decide +kernel
theorem dL_law_559 : decode cL_law 559 = .ok (.iconst 1, 1) := by decide +kernel
theorem dL_law_560 : decode cL_law 560 = .ok (.iadd, 1) := by decide +kernel
theorem dL_law_561 : decode cL_law 561 = .ok (.iaload, 1) := by decide +kernel
theorem dL_law_562 : decode cL_law 562 = .ok (.invokevirtual 72, 3) := by decide +kernel
theorem dL_law_565 : decode cL_law 565 = .ok (.if_icmp .eq 442, 3) := by decide +kernel
theorem dL_law_568 : decode cL_law 568 = .ok (.iconst 0, 1) := by decide +kernel
theorem dL_law_569 : decode cL_law 569 = .ok (.ireturn, 1) := by decide +kernel
theorem dL_law_570 : decode cL_law 570 = .ok (.aload_n 1, 1) := by decide +kernel
theorem dL_law_571 : decode cL_law 571 = .ok (.aload_n 0, 1) := by decide +kernel
theorem dL_law_572 : decode cL_law 572 = .ok (.iload_n 3, 1) := by decide +kernel
theorem dL_law_573 : decode cL_law 573 = .ok (.iconst 1, 1) := by decide +kernel
theorem dL_law_574 : decode cL_law 574 = .ok (.iadd, 1) := by decide +kernel
theorem dL_law_575 : decode cL_law 575 = .ok (.iaload, 1) := by decide +kernel
theorem dL_law_576 : decode cL_law 576 = .ok (.aload_n 0, 1) := by decide +kernel
theorem dL_law_577 : decode cL_law 577 = .ok (.iload_n 3, 1) := by decide +kernel
theorem dL_law_578 : decode cL_law 578 = .ok (.iconst 2, 1) := by decide +kernel
theorem dL_law_579 : decode cL_law 579 = .ok (.iadd, 1) := by decide +kernel
theorem dL_law_580 : decode cL_law 580 = .ok (.iaload, 1) := by decide +kernel
theorem dL_law_581 : decode cL_law 581 = .ok (.invokevirtual 73, 3) := by decide +kernel
theorem dL_law_584 : decode cL_law 584 = .ok (.aload_n 2, 1) := by decide +kernel
theorem dL_law_585 : decode cL_law 585 = .ok (.aload_n 0, 1) := by decide +kernel
theorem dL_law_586 : decode cL_law 586 = .ok (.iload_n 3, 1) := by decide +kernel
theorem dL_law_587 : decode cL_law 587 = .ok (.iconst 1, 1) := by decide +kernel
theorem dL_law_588 : decode cL_law 588 = .ok (.iadd, 1) := by decide +kernel
theorem dL_law_589 : decode cL_law 589 = .ok (.iaload, 1) := by decide +kernel
theorem dL_law_590 : decode cL_law 590 = .ok (.aload_n 0, 1) := by decide +kernel
theorem dL_law_591 : decode cL_law 591 = .ok (.iload_n 3, 1) := by decide +kernel
theorem dL_law_592 : decode cL_law 592 = .ok (.iconst 2, 1) := by decide +kernel
theorem dL_law_593 : decode cL_law 593 = .ok (.iadd, 1) := by decide +kernel
theorem dL_law_594 : decode cL_law 594 = .ok (.iaload, 1) := by decide +kernel
theorem dL_law_595 : decode cL_law 595 = .ok (.invokevirtual 76, 3) := by decide +kernel
theorem dL_law_598 : decode cL_law 598 = .ok (.if_icmp .eq 409, 3) := by decide +kernel
theorem dL_law_601 : decode cL_law 601 = .ok (.iconst 0, 1) := by decide +kernel
theorem dL_law_602 : decode cL_law 602 = .ok (.ireturn, 1) := by decide +kernel
theorem dL_law_603 : decode cL_law 603 = .ok (.aload_n 1, 1) := by decide +kernel
theorem dL_law_604 : decode cL_law 604 = .ok (.aload_n 0, 1) := by decide +kernel
theorem dL_law_605 : decode cL_law 605 = .ok (.iload_n 3, 1) := by decide +kernel
theorem dL_law_606 : decode cL_law 606 = .ok (.iconst 1, 1) := by decide +kernel
theorem dL_law_607 : decode cL_law 607 = .ok (.iadd, 1) := by decide +kernel
theorem dL_law_608 : decode cL_law 608 = .ok (.iaload, 1) := by decide +kernel
theorem dL_law_609 : decode cL_law 609 = .ok (.aload_n 0, 1) := by decide +kernel
theorem dL_law_610 : decode cL_law 610 = .ok (.iload_n 3, 1) := by decide +kernel
theorem dL_law_611 : decode cL_law 611 = .ok (.iconst 2, 1) := by decide +kernel
theorem dL_law_612 : decode cL_law 612 = .ok (.iadd, 1) := by decide +kernel
theorem dL_law_613 : decode cL_law 613 = .ok (.iaload, 1) := by decide +kernel
theorem dL_law_614 : decode cL_law 614 = .ok (.aload_n 0, 1) := by decide +kernel
theorem dL_law_615 : decode cL_law 615 = .ok (.iload_n 3, 1) := by decide +kernel
theorem dL_law_616 : decode cL_law 616 = .ok (.iconst 3, 1) := by decide +kernel
theorem dL_law_617 : decode cL_law 617 = .ok (.iadd, 1) := by decide +kernel
theorem dL_law_618 : decode cL_law 618 = .ok (.iaload, 1) := by decide +kernel
theorem dL_law_619 : decode cL_law 619 = .ok (.invokevirtual 77, 3) := by decide +kernel
theorem dL_law_622 : decode cL_law 622 = .ok (.aload_n 2, 1) := by decide +kernel
theorem dL_law_623 : decode cL_law 623 = .ok (.aload_n 0, 1) := by decide +kernel
theorem dL_law_624 : decode cL_law 624 = .ok (.iload_n 3, 1) := by decide +kernel
theorem dL_law_625 : decode cL_law 625 = .ok (.iconst 1, 1) := by decide +kernel
theorem dL_law_626 : decode cL_law 626 = .ok (.iadd, 1) := by decide +kernel
theorem dL_law_627 : decode cL_law 627 = .ok (.iaload, 1) := by decide +kernel
theorem dL_law_628 : decode cL_law 628 = .ok (.aload_n 0, 1) := by decide +kernel
theorem dL_law_629 : decode cL_law 629 = .ok (.iload_n 3, 1) := by decide +kernel
theorem dL_law_630 : decode cL_law 630 = .ok (.iconst 2, 1) := by decide +kernel
theorem dL_law_631 : decode cL_law 631 = .ok (.iadd, 1) := by decide +kernel
theorem dL_law_632 : decode cL_law 632 = .ok (.iaload, 1) := by decide +kernel
theorem dL_law_633 : decode cL_law 633 = .ok (.aload_n 0, 1) := by decide +kernel
theorem dL_law_634 : decode cL_law 634 = .ok (.iload_n 3, 1) := by decide +kernel
theorem dL_law_635 : decode cL_law 635 = .ok (.iconst 3, 1) := by decide +kernel
theorem dL_law_636 : decode cL_law 636 = .ok (.iadd, 1) := by decide +kernel
theorem dL_law_637 : decode cL_law 637 = .ok (.iaload, 1) := by decide +kernel
theorem dL_law_638 : decode cL_law 638 = .ok (.invokevirtual 80, 3) := by decide +kernel
theorem dL_law_641 : decode cL_law 641 = .ok (.if_icmp .eq 366, 3) := by decide +kernel
theorem dL_law_644 : decode cL_law 644 = .ok (.iconst 0, 1) := by decide +kernel
theorem dL_law_645 : decode cL_law 645 = .ok (.ireturn, 1) := by decide +kernel
theorem dL_law_646 : decode cL_law 646 = .ok (.aload_n 1, 1) := by decide +kernel
theorem dL_law_647 : decode cL_law 647 = .ok (.aload_n 0, 1) := by decide +kernel
theorem dL_law_648 : decode cL_law 648 = .ok (.iload_n 3, 1) := by decide +kernel
theorem dL_law_649 : decode cL_law 649 = .ok (.iconst 1, 1) := by decide +kernel
theorem dL_law_650 : decode cL_law 650 = .ok (.iadd, 1) := by decide +kernel
theorem dL_law_651 : decode cL_law 651 = .ok (.iaload, 1) := by decide +kernel
theorem dL_law_652 : decode cL_law 652 = .ok (.invokevirtual 81, 3) := by decide +kernel
theorem dL_law_655 : decode cL_law 655 = .ok (.aload_n 2, 1) := by decide +kernel
theorem dL_law_656 : decode cL_law 656 = .ok (.aload_n 0, 1) := by decide +kernel
theorem dL_law_657 : decode cL_law 657 = .ok (.iload_n 3, 1) := by decide +kernel
theorem dL_law_658 : decode cL_law 658 = .ok (.iconst 1, 1) := by decide +kernel
theorem dL_law_659 : decode cL_law 659 = .ok (.iadd, 1) := by decide +kernel
theorem dL_law_660 : decode cL_law 660 = .ok (.iaload, 1) := by decide +kernel
theorem dL_law_661 : decode cL_law 661 = .ok (.invokevirtual 84, 3) := by decide +kernel
theorem dL_law_664 : decode cL_law 664 = .ok (.if_icmp .eq 343, 3) := by decide +kernel
theorem dL_law_667 : decode cL_law 667 = .ok (.iconst 0, 1) := by decide +kernel
theorem dL_law_668 : decode cL_law 668 = .ok (.ireturn, 1) := by decide +kernel
theorem dL_law_669 : decode cL_law 669 = .ok (.aload_n 1, 1) := by decide +kernel
theorem dL_law_670 : decode cL_law 670 = .ok (.aload_n 0, 1) := by decide +kernel
theorem dL_law_671 : decode cL_law 671 = .ok (.iload_n 3, 1) := by decide +kernel
theorem dL_law_672 : decode cL_law 672 = .ok (.iconst 1, 1) := by decide +kernel
theorem dL_law_673 : decode cL_law 673 = .ok (.iadd, 1) := by decide +kernel
theorem dL_law_674 : decode cL_law 674 = .ok (.iaload, 1) := by decide +kernel
theorem dL_law_675 : decode cL_law 675 = .ok (.aload_n 0, 1) := by decide +kernel
theorem dL_law_676 : decode cL_law 676 = .ok (.iload_n 3, 1) := by decide +kernel
theorem dL_law_677 : decode cL_law 677 = .ok (.iconst 2, 1) := by decide +kernel
theorem dL_law_678 : decode cL_law 678 = .ok (.iadd, 1) := by decide +kernel
theorem dL_law_679 : decode cL_law 679 = .ok (.iaload, 1) := by decide +kernel
theorem dL_law_680 : decode cL_law 680 = .ok (.invokevirtual 85, 3) := by decide +kernel
theorem dL_law_683 : decode cL_law 683 = .ok (.aload_n 2, 1) := by decide +kernel
theorem dL_law_684 : decode cL_law 684 = .ok (.aload_n 0, 1) := by decide +kernel
theorem dL_law_685 : decode cL_law 685 = .ok (.iload_n 3, 1) := by decide +kernel
theorem dL_law_686 : decode cL_law 686 = .ok (.iconst 1, 1) := by decide +kernel
theorem dL_law_687 : decode cL_law 687 = .ok (.iadd, 1) := by decide +kernel
theorem dL_law_688 : decode cL_law 688 = .ok (.iaload, 1) := by decide +kernel
theorem dL_law_689 : decode cL_law 689 = .ok (.aload_n 0, 1) := by decide +kernel
theorem dL_law_690 : decode cL_law 690 = .ok (.iload_n 3, 1) := by decide +kernel
theorem dL_law_691 : decode cL_law 691 = .ok (.iconst 2, 1) := by decide +kernel
theorem dL_law_692 : decode cL_law 692 = .ok (.iadd, 1) := by decide +kernel
theorem dL_law_693 : decode cL_law 693 = .ok (.iaload, 1) := by decide +kernel
theorem dL_law_694 : decode cL_law 694 = .ok (.invokevirtual 88, 3) := by decide +kernel
theorem dL_law_697 : decode cL_law 697 = .ok (.if_icmp .eq 310, 3) := by decide +kernel
theorem dL_law_700 : decode cL_law 700 = .ok (.iconst 0, 1) := by decide +kernel
theorem dL_law_701 : decode cL_law 701 = .ok (.ireturn, 1) := by decide +kernel
theorem dL_law_702 : decode cL_law 702 = .ok (.aload_n 1, 1) := by decide +kernel
theorem dL_law_703 : decode cL_law 703 = .ok (.aload_n 0, 1) := by decide +kernel
theorem dL_law_704 : decode cL_law 704 = .ok (.iload_n 3, 1) := by decide +kernel
theorem dL_law_705 : decode cL_law 705 = .ok (.iconst 1, 1) := by decide +kernel
theorem dL_law_706 : decode cL_law 706 = .ok (.iadd, 1) := by decide +kernel
theorem dL_law_707 : decode cL_law 707 = .ok (.iaload, 1) := by decide +kernel
theorem dL_law_708 : decode cL_law 708 = .ok (.aload_n 0, 1) := by decide +kernel
theorem dL_law_709 : decode cL_law 709 = .ok (.iload_n 3, 1) := by decide +kernel
theorem dL_law_710 : decode cL_law 710 = .ok (.iconst 2, 1) := by decide +kernel
theorem dL_law_711 : decode cL_law 711 = .ok (.iadd, 1) := by decide +kernel
theorem dL_law_712 : decode cL_law 712 = .ok (.iaload, 1) := by decide +kernel
theorem dL_law_713 : decode cL_law 713 = .ok (.invokevirtual 89, 3) := by decide +kernel
theorem dL_law_716 : decode cL_law 716 = .ok (.aload_n 2, 1) := by decide +kernel
theorem dL_law_717 : decode cL_law 717 = .ok (.aload_n 0, 1) := by decide +kernel
theorem dL_law_718 : decode cL_law 718 = .ok (.iload_n 3, 1) := by decide +kernel
theorem dL_law_719 : decode cL_law 719 = .ok (.iconst 1, 1) := by decide +kernel
theorem dL_law_720 : decode cL_law 720 = .ok (.iadd, 1) := by decide +kernel
theorem dL_law_721 : decode cL_law 721 = .ok (.iaload, 1) := by decide +kernel
theorem dL_law_722 : decode cL_law 722 = .ok (.aload_n 0, 1) := by decide +kernel
theorem dL_law_723 : decode cL_law 723 = .ok (.iload_n 3, 1) := by decide +kernel
theorem dL_law_724 : decode cL_law 724 = .ok (.iconst 2, 1) := by decide +kernel
theorem dL_law_725 : decode cL_law 725 = .ok (.iadd, 1) := by decide +kernel
theorem dL_law_726 : decode cL_law 726 = .ok (.iaload, 1) := by decide +kernel
theorem dL_law_727 : decode cL_law 727 = .ok (.invokevirtual 92, 3) := by decide +kernel
theorem dL_law_730 : decode cL_law 730 = .ok (.if_icmp .eq 277, 3) := by decide +kernel
theorem dL_law_733 : decode cL_law 733 = .ok (.iconst 0, 1) := by decide +kernel
theorem dL_law_734 : decode cL_law 734 = .ok (.ireturn, 1) := by decide +kernel
theorem dL_law_735 : decode cL_law 735 = .ok (.aload_n 1, 1) := by decide +kernel
theorem dL_law_736 : decode cL_law 736 = .ok (.aload_n 0, 1) := by decide +kernel
theorem dL_law_737 : decode cL_law 737 = .ok (.iload_n 3, 1) := by decide +kernel
theorem dL_law_738 : decode cL_law 738 = .ok (.iconst 1, 1) := by decide +kernel
theorem dL_law_739 : decode cL_law 739 = .ok (.iadd, 1) := by decide +kernel
theorem dL_law_740 : decode cL_law 740 = .ok (.iaload, 1) := by decide +kernel
theorem dL_law_741 : decode cL_law 741 = .ok (.aload_n 0, 1) := by decide +kernel
theorem dL_law_742 : decode cL_law 742 = .ok (.iload_n 3, 1) := by decide +kernel
theorem dL_law_743 : decode cL_law 743 = .ok (.iconst 2, 1) := by decide +kernel
theorem dL_law_744 : decode cL_law 744 = .ok (.iadd, 1) := by decide +kernel
theorem dL_law_745 : decode cL_law 745 = .ok (.iaload, 1) := by decide +kernel
theorem dL_law_746 : decode cL_law 746 = .ok (.aload_n 0, 1) := by decide +kernel
theorem dL_law_747 : decode cL_law 747 = .ok (.iload_n 3, 1) := by decide +kernel
theorem dL_law_748 : decode cL_law 748 = .ok (.iconst 3, 1) := by decide +kernel
theorem dL_law_749 : decode cL_law 749 = .ok (.iadd, 1) := by decide +kernel
theorem dL_law_750 : decode cL_law 750 = .ok (.iaload, 1) := by decide +kernel
theorem dL_law_751 : decode cL_law 751 = .ok (.invokevirtual 93, 3) := by decide +kernel
theorem dL_law_754 : decode cL_law 754 = .ok (.aload_n 2, 1) := by decide +kernel
theorem dL_law_755 : decode cL_law 755 = .ok (.aload_n 0, 1) := by decide +kernel
theorem dL_law_756 : decode cL_law 756 = .ok (.iload_n 3, 1) := by decide +kernel
theorem dL_law_757 : decode cL_law 757 = .ok (.iconst 1, 1) := by decide +kernel
theorem dL_law_758 : decode cL_law 758 = .ok (.iadd, 1) := by decide +kernel
theorem dL_law_759 : decode cL_law 759 = .ok (.iaload, 1) := by decide +kernel
theorem dL_law_760 : decode cL_law 760 = .ok (.aload_n 0, 1) := by decide +kernel
theorem dL_law_761 : decode cL_law 761 = .ok (.iload_n 3, 1) := by decide +kernel
theorem dL_law_762 : decode cL_law 762 = .ok (.iconst 2, 1) := by decide +kernel
theorem dL_law_763 : decode cL_law 763 = .ok (.iadd, 1) := by decide +kernel
theorem dL_law_764 : decode cL_law 764 = .ok (.iaload, 1) := by decide +kernel
theorem dL_law_765 : decode cL_law 765 = .ok (.aload_n 0, 1) := by decide +kernel
theorem dL_law_766 : decode cL_law 766 = .ok (.iload_n 3, 1) := by decide +kernel
theorem dL_law_767 : decode cL_law 767 = .ok (.iconst 3, 1) := by decide +kernel
theorem dL_law_768 : decode cL_law 768 = .ok (.iadd, 1) := by decide +kernel
theorem dL_law_769 : decode cL_law 769 = .ok (.iaload, 1) := by decide +kernel
theorem dL_law_770 : decode cL_law 770 = .ok (.invokevirtual 96, 3) := by decide +kernel
theorem dL_law_773 : decode cL_law 773 = .ok (.if_icmp .eq 234, 3) := by decide +kernel
theorem dL_law_776 : decode cL_law 776 = .ok (.iconst 0, 1) := by decide +kernel
theorem dL_law_777 : decode cL_law 777 = .ok (.ireturn, 1) := by decide +kernel
theorem dL_law_778 : decode cL_law 778 = .ok (.aload_n 1, 1) := by decide +kernel
theorem dL_law_779 : decode cL_law 779 = .ok (.aload_n 0, 1) := by decide +kernel
theorem dL_law_780 : decode cL_law 780 = .ok (.iload_n 3, 1) := by decide +kernel
theorem dL_law_781 : decode cL_law 781 = .ok (.iconst 1, 1) := by decide +kernel
theorem dL_law_782 : decode cL_law 782 = .ok (.iadd, 1) := by decide +kernel
theorem dL_law_783 : decode cL_law 783 = .ok (.iaload, 1) := by decide +kernel
theorem dL_law_784 : decode cL_law 784 = .ok (.invokevirtual 97, 3) := by decide +kernel
theorem dL_law_787 : decode cL_law 787 = .ok (.aload_n 2, 1) := by decide +kernel
theorem dL_law_788 : decode cL_law 788 = .ok (.aload_n 0, 1) := by decide +kernel
theorem dL_law_789 : decode cL_law 789 = .ok (.iload_n 3, 1) := by decide +kernel
theorem dL_law_790 : decode cL_law 790 = .ok (.iconst 1, 1) := by decide +kernel
theorem dL_law_791 : decode cL_law 791 = .ok (.iadd, 1) := by decide +kernel
theorem dL_law_792 : decode cL_law 792 = .ok (.iaload, 1) := by decide +kernel
theorem dL_law_793 : decode cL_law 793 = .ok (.invokevirtual 100, 3) := by decide +kernel
theorem dL_law_796 : decode cL_law 796 = .ok (.if_icmp .eq 211, 3) := by decide +kernel
theorem dL_law_799 : decode cL_law 799 = .ok (.iconst 0, 1) := by decide +kernel
theorem dL_law_800 : decode cL_law 800 = .ok (.ireturn, 1) := by decide +kernel
theorem dL_law_801 : decode cL_law 801 = .ok (.aload_n 1, 1) := by decide +kernel
theorem dL_law_802 : decode cL_law 802 = .ok (.aload_n 0, 1) := by decide +kernel
theorem dL_law_803 : decode cL_law 803 = .ok (.iload_n 3, 1) := by decide +kernel
theorem dL_law_804 : decode cL_law 804 = .ok (.iconst 1, 1) := by decide +kernel
theorem dL_law_805 : decode cL_law 805 = .ok (.iadd, 1) := by decide +kernel
theorem dL_law_806 : decode cL_law 806 = .ok (.iaload, 1) := by decide +kernel
theorem dL_law_807 : decode cL_law 807 = .ok (.aload_n 0, 1) := by decide +kernel
theorem dL_law_808 : decode cL_law 808 = .ok (.iload_n 3, 1) := by decide +kernel
theorem dL_law_809 : decode cL_law 809 = .ok (.iconst 2, 1) := by decide +kernel
theorem dL_law_810 : decode cL_law 810 = .ok (.iadd, 1) := by decide +kernel
theorem dL_law_811 : decode cL_law 811 = .ok (.iaload, 1) := by decide +kernel
theorem dL_law_812 : decode cL_law 812 = .ok (.invokevirtual 101, 3) := by decide +kernel
theorem dL_law_815 : decode cL_law 815 = .ok (.aload_n 2, 1) := by decide +kernel
theorem dL_law_816 : decode cL_law 816 = .ok (.aload_n 0, 1) := by decide +kernel
theorem dL_law_817 : decode cL_law 817 = .ok (.iload_n 3, 1) := by decide +kernel
theorem dL_law_818 : decode cL_law 818 = .ok (.iconst 1, 1) := by decide +kernel
theorem dL_law_819 : decode cL_law 819 = .ok (.iadd, 1) := by decide +kernel
theorem dL_law_820 : decode cL_law 820 = .ok (.iaload, 1) := by decide +kernel
theorem dL_law_821 : decode cL_law 821 = .ok (.aload_n 0, 1) := by decide +kernel
theorem dL_law_822 : decode cL_law 822 = .ok (.iload_n 3, 1) := by decide +kernel
theorem dL_law_823 : decode cL_law 823 = .ok (.iconst 2, 1) := by decide +kernel
theorem dL_law_824 : decode cL_law 824 = .ok (.iadd, 1) := by decide +kernel
theorem dL_law_825 : decode cL_law 825 = .ok (.iaload, 1) := by decide +kernel
theorem dL_law_826 : decode cL_law 826 = .ok (.invokevirtual 104, 3) := by decide +kernel
theorem dL_law_829 : decode cL_law 829 = .ok (.if_icmp .eq 178, 3) := by decide +kernel
theorem dL_law_832 : decode cL_law 832 = .ok (.iconst 0, 1) := by decide +kernel
theorem dL_law_833 : decode cL_law 833 = .ok (.ireturn, 1) := by decide +kernel
theorem dL_law_834 : decode cL_law 834 = .ok (.aload_n 1, 1) := by decide +kernel
theorem dL_law_835 : decode cL_law 835 = .ok (.aload_n 0, 1) := by decide +kernel
theorem dL_law_836 : decode cL_law 836 = .ok (.iload_n 3, 1) := by decide +kernel
theorem dL_law_837 : decode cL_law 837 = .ok (.iconst 1, 1) := by decide +kernel
theorem dL_law_838 : decode cL_law 838 = .ok (.iadd, 1) := by decide +kernel
theorem dL_law_839 : decode cL_law 839 = .ok (.iaload, 1) := by decide +kernel
theorem dL_law_840 : decode cL_law 840 = .ok (.aload_n 0, 1) := by decide +kernel
theorem dL_law_841 : decode cL_law 841 = .ok (.iload_n 3, 1) := by decide +kernel
theorem dL_law_842 : decode cL_law 842 = .ok (.iconst 2, 1) := by decide +kernel
theorem dL_law_843 : decode cL_law 843 = .ok (.iadd, 1) := by decide +kernel
theorem dL_law_844 : decode cL_law 844 = .ok (.iaload, 1) := by decide +kernel
theorem dL_law_845 : decode cL_law 845 = .ok (.invokevirtual 105, 3) := by decide +kernel
theorem dL_law_848 : decode cL_law 848 = .ok (.aload_n 2, 1) := by decide +kernel
theorem dL_law_849 : decode cL_law 849 = .ok (.aload_n 0, 1) := by decide +kernel
theorem dL_law_850 : decode cL_law 850 = .ok (.iload_n 3, 1) := by decide +kernel
theorem dL_law_851 : decode cL_law 851 = .ok (.iconst 1, 1) := by decide +kernel
theorem dL_law_852 : decode cL_law 852 = .ok (.iadd, 1) := by decide +kernel
theorem dL_law_853 : decode cL_law 853 = .ok (.iaload, 1) := by decide +kernel
theorem dL_law_854 : decode cL_law 854 = .ok (.aload_n 0, 1) := by decide +kernel
theorem dL_law_855 : decode cL_law 855 = .ok (.iload_n 3, 1) := by decide +kernel
theorem dL_law_856 : decode cL_law 856 = .ok (.iconst 2, 1) := by decide +kernel
theorem dL_law_857 : decode cL_law 857 = .ok (.iadd, 1) := by decide +kernel
theorem dL_law_858 : decode cL_law 858 = .ok (.iaload, 1) := by decide +kernel
theorem dL_law_859 : decode cL_law 859 = .ok (.invokevirtual 108, 3) := by decide +kernel
theorem dL_law_862 : decode cL_law 862 = .ok (.if_icmp .eq 145, 3) := by decide +kernel
theorem dL_law_865 : decode cL_law 865 = .ok (.iconst 0, 1) := by decide +kernel
theorem dL_law_866 : decode cL_law 866 = .ok (.ireturn, 1) := by decide +kernel
theorem dL_law_867 : decode cL_law 867 = .ok (.aload_n 1, 1) := by decide +kernel
theorem dL_law_868 : decode cL_law 868 = .ok (.aload_n 0, 1) := by decide +kernel
theorem dL_law_869 : decode cL_law 869 = .ok (.iload_n 3, 1) := by decide +kernel
theorem dL_law_870 : decode cL_law 870 = .ok (.iconst 1, 1) := by decide +kernel
theorem dL_law_871 : decode cL_law 871 = .ok (.iadd, 1) := by decide +kernel
theorem dL_law_872 : decode cL_law 872 = .ok (.iaload, 1) := by decide +kernel
theorem dL_law_873 : decode cL_law 873 = .ok (.invokevirtual 109, 3) := by decide +kernel
theorem dL_law_876 : decode cL_law 876 = .ok (.aload_n 2, 1) := by decide +kernel
theorem dL_law_877 : decode cL_law 877 = .ok (.aload_n 0, 1) := by decide +kernel
theorem dL_law_878 : decode cL_law 878 = .ok (.iload_n 3, 1) := by decide +kernel
theorem dL_law_879 : decode cL_law 879 = .ok (.iconst 1, 1) := by decide +kernel
theorem dL_law_880 : decode cL_law 880 = .ok (.iadd, 1) := by decide +kernel
theorem dL_law_881 : decode cL_law 881 = .ok (.iaload, 1) := by decide +kernel
theorem dL_law_882 : decode cL_law 882 = .ok (.invokevirtual 112, 3) := by decide +kernel
theorem dL_law_885 : decode cL_law 885 = .ok (.lcmp, 1) := by decide +kernel
theorem dL_law_886 : decode cL_law 886 = .ok (.ifCond .eq 121, 3) := by decide +kernel
theorem dL_law_889 : decode cL_law 889 = .ok (.iconst 0, 1) := by decide +kernel
theorem dL_law_890 : decode cL_law 890 = .ok (.ireturn, 1) := by decide +kernel
theorem dL_law_891 : decode cL_law 891 = .ok (.aload_n 1, 1) := by decide +kernel
theorem dL_law_892 : decode cL_law 892 = .ok (.aload_n 0, 1) := by decide +kernel
theorem dL_law_893 : decode cL_law 893 = .ok (.iload_n 3, 1) := by decide +kernel
theorem dL_law_894 : decode cL_law 894 = .ok (.iconst 1, 1) := by decide +kernel
theorem dL_law_895 : decode cL_law 895 = .ok (.iadd, 1) := by decide +kernel
theorem dL_law_896 : decode cL_law 896 = .ok (.iaload, 1) := by decide +kernel
theorem dL_law_897 : decode cL_law 897 = .ok (.aload_n 0, 1) := by decide +kernel
theorem dL_law_898 : decode cL_law 898 = .ok (.iload_n 3, 1) := by decide +kernel
theorem dL_law_899 : decode cL_law 899 = .ok (.iconst 2, 1) := by decide +kernel
theorem dL_law_900 : decode cL_law 900 = .ok (.iadd, 1) := by decide +kernel
theorem dL_law_901 : decode cL_law 901 = .ok (.iaload, 1) := by decide +kernel
theorem dL_law_902 : decode cL_law 902 = .ok (.invokevirtual 113, 3) := by decide +kernel
theorem dL_law_905 : decode cL_law 905 = .ok (.aload_n 2, 1) := by decide +kernel
theorem dL_law_906 : decode cL_law 906 = .ok (.aload_n 0, 1) := by decide +kernel
theorem dL_law_907 : decode cL_law 907 = .ok (.iload_n 3, 1) := by decide +kernel
theorem dL_law_908 : decode cL_law 908 = .ok (.iconst 1, 1) := by decide +kernel
theorem dL_law_909 : decode cL_law 909 = .ok (.iadd, 1) := by decide +kernel
theorem dL_law_910 : decode cL_law 910 = .ok (.iaload, 1) := by decide +kernel
theorem dL_law_911 : decode cL_law 911 = .ok (.aload_n 0, 1) := by decide +kernel
theorem dL_law_912 : decode cL_law 912 = .ok (.iload_n 3, 1) := by decide +kernel
theorem dL_law_913 : decode cL_law 913 = .ok (.iconst 2, 1) := by decide +kernel
theorem dL_law_914 : decode cL_law 914 = .ok (.iadd, 1) := by decide +kernel
theorem dL_law_915 : decode cL_law 915 = .ok (.iaload, 1) := by decide +kernel
theorem dL_law_916 : decode cL_law 916 = .ok (.invokevirtual 116, 3) := by decide +kernel
theorem dL_law_919 : decode cL_law 919 = .ok (.if_icmp .eq 88, 3) := by decide +kernel
theorem dL_law_922 : decode cL_law 922 = .ok (.iconst 0, 1) := by decide +kernel
theorem dL_law_923 : decode cL_law 923 = .ok (.ireturn, 1) := by decide +kernel
theorem dL_law_924 : decode cL_law 924 = .ok (.aload_n 1, 1) := by decide +kernel
theorem dL_law_925 : decode cL_law 925 = .ok (.aload_n 0, 1) := by decide +kernel
theorem dL_law_926 : decode cL_law 926 = .ok (.iload_n 3, 1) := by decide +kernel
theorem dL_law_927 : decode cL_law 927 = .ok (.iconst 1, 1) := by decide +kernel
theorem dL_law_928 : decode cL_law 928 = .ok (.iadd, 1) := by decide +kernel
theorem dL_law_929 : decode cL_law 929 = .ok (.iaload, 1) := by decide +kernel
theorem dL_law_930 : decode cL_law 930 = .ok (.invokevirtual 117, 3) := by decide +kernel
theorem dL_law_933 : decode cL_law 933 = .ok (.aload_n 2, 1) := by decide +kernel
theorem dL_law_934 : decode cL_law 934 = .ok (.aload_n 0, 1) := by decide +kernel
theorem dL_law_935 : decode cL_law 935 = .ok (.iload_n 3, 1) := by decide +kernel
theorem dL_law_936 : decode cL_law 936 = .ok (.iconst 1, 1) := by decide +kernel
theorem dL_law_937 : decode cL_law 937 = .ok (.iadd, 1) := by decide +kernel
theorem dL_law_938 : decode cL_law 938 = .ok (.iaload, 1) := by decide +kernel
theorem dL_law_939 : decode cL_law 939 = .ok (.invokevirtual 120, 3) := by decide +kernel
theorem dL_law_942 : decode cL_law 942 = .ok (.if_icmp .eq 65, 3) := by decide +kernel
theorem dL_law_945 : decode cL_law 945 = .ok (.iconst 0, 1) := by decide +kernel
theorem dL_law_946 : decode cL_law 946 = .ok (.ireturn, 1) := by decide +kernel
theorem dL_law_947 : decode cL_law 947 = .ok (.aload_n 1, 1) := by decide +kernel
theorem dL_law_948 : decode cL_law 948 = .ok (.aload_n 0, 1) := by decide +kernel
theorem dL_law_949 : decode cL_law 949 = .ok (.iload_n 3, 1) := by decide +kernel
theorem dL_law_950 : decode cL_law 950 = .ok (.iconst 1, 1) := by decide +kernel
theorem dL_law_951 : decode cL_law 951 = .ok (.iadd, 1) := by decide +kernel
theorem dL_law_952 : decode cL_law 952 = .ok (.iaload, 1) := by decide +kernel
theorem dL_law_953 : decode cL_law 953 = .ok (.invokevirtual 121, 3) := by decide +kernel
theorem dL_law_956 : decode cL_law 956 = .ok (.aload_n 2, 1) := by decide +kernel
theorem dL_law_957 : decode cL_law 957 = .ok (.aload_n 0, 1) := by decide +kernel
theorem dL_law_958 : decode cL_law 958 = .ok (.iload_n 3, 1) := by decide +kernel
theorem dL_law_959 : decode cL_law 959 = .ok (.iconst 1, 1) := by decide +kernel
theorem dL_law_960 : decode cL_law 960 = .ok (.iadd, 1) := by decide +kernel
theorem dL_law_961 : decode cL_law 961 = .ok (.iaload, 1) := by decide +kernel
theorem dL_law_962 : decode cL_law 962 = .ok (.invokevirtual 124, 3) := by decide +kernel
theorem dL_law_965 : decode cL_law 965 = .ok (.if_icmp .eq 42, 3) := by decide +kernel
theorem dL_law_968 : decode cL_law 968 = .ok (.iconst 0, 1) := by decide +kernel
theorem dL_law_969 : decode cL_law 969 = .ok (.ireturn, 1) := by decide +kernel
theorem dL_law_970 : decode cL_law 970 = .ok (.aload_n 1, 1) := by decide +kernel
theorem dL_law_971 : decode cL_law 971 = .ok (.aload_n 0, 1) := by decide +kernel
theorem dL_law_972 : decode cL_law 972 = .ok (.iload_n 3, 1) := by decide +kernel
theorem dL_law_973 : decode cL_law 973 = .ok (.iconst 1, 1) := by decide +kernel
theorem dL_law_974 : decode cL_law 974 = .ok (.iadd, 1) := by decide +kernel
theorem dL_law_975 : decode cL_law 975 = .ok (.iaload, 1) := by decide +kernel
theorem dL_law_976 : decode cL_law 976 = .ok (.invokevirtual 125, 3) := by decide +kernel
theorem dL_law_979 : decode cL_law 979 = .ok (.aload_n 2, 1) := by decide +kernel
theorem dL_law_980 : decode cL_law 980 = .ok (.aload_n 0, 1) := by decide +kernel
theorem dL_law_981 : decode cL_law 981 = .ok (.iload_n 3, 1) := by decide +kernel
theorem dL_law_982 : decode cL_law 982 = .ok (.iconst 1, 1) := by decide +kernel
theorem dL_law_983 : decode cL_law 983 = .ok (.iadd, 1) := by decide +kernel
theorem dL_law_984 : decode cL_law 984 = .ok (.iaload, 1) := by decide +kernel
theorem dL_law_985 : decode cL_law 985 = .ok (.invokevirtual 128, 3) := by decide +kernel
theorem dL_law_988 : decode cL_law 988 = .ok (.if_icmp .eq 19, 3) := by decide +kernel
theorem dL_law_991 : decode cL_law 991 = .ok (.iconst 0, 1) := by decide +kernel
theorem dL_law_992 : decode cL_law 992 = .ok (.ireturn, 1) := by decide +kernel
theorem dL_law_993 : decode cL_law 993 = .ok (.aload_n 1, 1) := by decide +kernel
theorem dL_law_994 : decode cL_law 994 = .ok (.invokevirtual 129, 3) := by decide +kernel
theorem dL_law_997 : decode cL_law 997 = .ok (.aload_n 2, 1) := by decide +kernel
theorem dL_law_998 : decode cL_law 998 = .ok (.invokevirtual 133, 3) := by decide +kernel
theorem dL_law_1001 : decode cL_law 1001 = .ok (.lcmp, 1) := by decide +kernel
theorem dL_law_1002 : decode cL_law 1002 = .ok (.ifCond .eq 5, 3) := by decide +kernel
theorem dL_law_1005 : decode cL_law 1005 = .ok (.iconst 0, 1) := by decide +kernel
theorem dL_law_1006 : decode cL_law 1006 = .ok (.ireturn, 1) := by decide +kernel
theorem dL_law_1007 : decode cL_law 1007 = .ok (.iinc 3 4, 3) := by decide +kernel
theorem dL_law_1010 : decode cL_law 1010 = .ok (.goto (-992), 3) := by decide +kernel
theorem dL_law_1013 : decode cL_law 1013 = .ok (.iconst 1, 1) := by decide +kernel
theorem dL_law_1014 : decode cL_law 1014 = .ok (.ireturn, 1) := by decide +kernel
