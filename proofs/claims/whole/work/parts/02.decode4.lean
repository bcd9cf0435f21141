theorem dX9_readHall_73 : decode cX9_readHall 73 = .ok (.iload_n 1, 1) := by decide +kernel
theorem dX9_readHall_74 : decode cX9_readHall 74 = .ok (.ifCond .ne 30, 3) := by decide +kernel
theorem dX9_readHall_77 : decode cX9_readHall 77 = .ok (.iconst 1, 1) := by decide +kernel
theorem dX9_readHall_78 : decode cX9_readHall 78 = .ok (.istore_n 1, 1) := by decide +kernel
theorem dX9_readHall_79 : decode cX9_readHall 79 = .ok (.aload_n 0, 1) := by decide +kernel
theorem dX9_readHall_80 : decode cX9_readHall 80 = .ok (.dup, 1) := by decide +kernel
theorem dX9_readHall_81 : decode cX9_readHall 81 = .ok (.getfield 80, 3) := by decide +kernel
theorem dX9_readHall_84 : decode cX9_readHall 84 = .ok (.iconst 1, 1) := by decide +kernel
theorem dX9_readHall_85 : decode cX9_readHall 85 = .ok (.iadd, 1) := by decide +kernel
theorem dX9_readHall_86 : decode cX9_readHall 86 = .ok (.putfield 80, 3) := by decide +kernel
theorem dX9_readHall_89 : decode cX9_readHall 89 = .ok (.aload_n 0, 1) := by decide +kernel
theorem dX9_readHall_90 : decode cX9_readHall 90 = .ok (.iload_n 3, 1) := by decide +kernel
theorem dX9_readHall_91 : decode cX9_readHall 91 = .ok (.aload_n 0, 1) := by decide +kernel
theorem dX9_readHall_92 : decode cX9_readHall 92 = .ok (.getfield 13, 3) := by decide +kernel
theorem dX9_readHall_95 : decode cX9_readHall 95 = .ok (.iconst 0, 1) := by decide +kernel
theorem dX9_readHall_96 : decode cX9_readHall 96 = .ok (.bipush 8, 2) := by decide +kernel
theorem dX9_readHall_98 : decode cX9_readHall 98 = .ok (.invokevirtual 130, 3) := by decide +kernel
theorem dX9_readHall_101 : decode cX9_readHall 101 = .ok (.goto 115, 3) := by decide +kernel
theorem dX9_readHall_104 : decode cX9_readHall 104 = .ok (.iload_n 3, 1) := by decide +kernel
theorem dX9_readHall_105 : decode cX9_readHall 105 = .ok (.bipush 116, 2) := by decide +kernel
theorem dX9_readHall_107 : decode cX9_readHall 107 = .ok (.if_icmp .ne 51, 3) := by decide +kernel
theorem dX9_readHall_110 : decode cX9_readHall 110 = .ok (.aload_n 0, 1) := by decide +kernel
theorem dX9_readHall_111 : decode cX9_readHall 111 = .ok (.getfield 124, 3) := by decide +kernel
theorem dX9_readHall_114 : decode cX9_readHall 114 = .ok (.bipush 8, 2) := by decide +kernel
theorem dX9_readHall_116 : decode cX9_readHall 116 = .ok (.if_icmp .ge 42, 3) := by decide +kernel
theorem dX9_readHall_119 : decode cX9_readHall 119 = .ok (.aload_n 0, 1) := by decide +kernel
theorem dX9_readHall_120 : decode cX9_readHall 120 = .ok (.dup, 1) := by decide +kernel
theorem dX9_readHall_121 : decode cX9_readHall 121 = .ok (.getfield 80, 3) := by decide +kernel
theorem dX9_readHall_124 : decode cX9_readHall 124 = .ok (.iconst 1, 1) := by decide +kernel
theorem dX9_readHall_125 : decode cX9_readHall 125 = .ok (.iadd, 1) := by decide +kernel
theorem dX9_readHall_126 : decode cX9_readHall 126 = .ok (.putfield 80, 3) := by decide +kernel
theorem dX9_readHall_129 : decode cX9_readHall 129 = .ok (.aload_n 0, 1) := by decide +kernel
theorem dX9_readHall_130 : decode cX9_readHall 130 = .ok (.iload_n 3, 1) := by decide +kernel
theorem dX9_readHall_131 : decode cX9_readHall 131 = .ok (.aload_n 0, 1) := by decide +kernel
theorem dX9_readHall_132 : decode cX9_readHall 132 = .ok (.getfield 16, 3) := by decide +kernel
theorem dX9_readHall_135 : decode cX9_readHall 135 = .ok (.iconst 2, 1) := by decide +kernel
theorem dX9_readHall_136 : decode cX9_readHall 136 = .ok (.aload_n 0, 1) := by decide +kernel
theorem dX9_readHall_137 : decode cX9_readHall 137 = .ok (.getfield 124, 3) := by decide +kernel
theorem dX9_readHall_140 : decode cX9_readHall 140 = .ok (.imul, 1) := by decide +kernel
theorem dX9_readHall_141 : decode cX9_readHall 141 = .ok (.iconst 2, 1) := by decide +kernel
theorem dX9_readHall_142 : decode cX9_readHall 142 = .ok (.invokevirtual 130, 3) := by decide +kernel
theorem dX9_readHall_145 : decode cX9_readHall 145 = .ok (.aload_n 0, 1) := by decide +kernel
theorem dX9_readHall_146 : decode cX9_readHall 146 = .ok (.dup, 1) := by decide +kernel
theorem dX9_readHall_147 : decode cX9_readHall 147 = .ok (.getfield 124, 3) := by decide +kernel
theorem dX9_readHall_150 : decode cX9_readHall 150 = .ok (.iconst 1, 1) := by decide +kernel
theorem dX9_readHall_151 : decode cX9_readHall 151 = .ok (.iadd, 1) := by decide +kernel
theorem dX9_readHall_152 : decode cX9_readHall 152 = .ok (.putfield 124, 3) := by decide +kernel
theorem dX9_readHall_155 : decode cX9_readHall 155 = .ok (.goto 61, 3) := by decide +kernel
theorem dX9_readHall_158 : decode cX9_readHall 158 = .ok (.iload_n 3, 1) := by decide +kernel
theorem dX9_readHall_159 : decode cX9_readHall 159 = .ok (.bipush 102, 2) := by decide +kernel
theorem dX9_readHall_161 : decode cX9_readHall 161 = .ok (.if_icmp .ne 51, 3) := by decide +kernel
theorem dX9_readHall_164 : decode cX9_readHall 164 = .ok (.aload_n 0, 1) := by decide +kernel
theorem dX9_readHall_165 : decode cX9_readHall 165 = .ok (.getfield 127, 3) := by decide +kernel
theorem dX9_readHall_168 : decode cX9_readHall 168 = .ok (.bipush 24, 2) := by decide +kernel
theorem dX9_readHall_170 : decode cX9_readHall 170 = .ok (.if_icmp .ge 42, 3) := by decide +kernel
theorem dX9_readHall_173 : decode cX9_readHall 173 = .ok (.aload_n 0, 1) := by decide +kernel
theorem dX9_readHall_174 : decode cX9_readHall 174 = .ok (.dup, 1) := by decide +kernel
theorem dX9_readHall_175 : decode cX9_readHall 175 = .ok (.getfield 80, 3) := by decide +kernel
theorem dX9_readHall_178 : decode cX9_readHall 178 = .ok (.iconst 1, 1) := by decide +kernel
theorem dX9_readHall_179 : decode cX9_readHall 179 = .ok (.iadd, 1) := by decide +kernel
theorem dX9_readHall_180 : decode cX9_readHall 180 = .ok (.putfield 80, 3) := by decide +kernel
theorem dX9_readHall_183 : decode cX9_readHall 183 = .ok (.aload_n 0, 1) := by decide +kernel
theorem dX9_readHall_184 : decode cX9_readHall 184 = .ok (.iload_n 3, 1) := by decide +kernel
theorem dX9_readHall_185 : decode cX9_readHall 185 = .ok (.aload_n 0, 1) := by decide +kernel
theorem dX9_readHall_186 : decode cX9_readHall 186 = .ok (.getfield 19, 3) := by decide +kernel
theorem dX9_readHall_189 : decode cX9_readHall 189 = .ok (.iconst 2, 1) := by decide +kernel
theorem dX9_readHall_190 : decode cX9_readHall 190 = .ok (.aload_n 0, 1) := by decide +kernel
theorem dX9_readHall_191 : decode cX9_readHall 191 = .ok (.getfield 127, 3) := by decide +kernel
theorem dX9_readHall_194 : decode cX9_readHall 194 = .ok (.imul, 1) := by decide +kernel
theorem dX9_readHall_195 : decode cX9_readHall 195 = .ok (.iconst 2, 1) := by decide +kernel
theorem dX9_readHall_196 : decode cX9_readHall 196 = .ok (.invokevirtual 130, 3) := by decide +kernel
theorem dX9_readHall_199 : decode cX9_readHall 199 = .ok (.aload_n 0, 1) := by decide +kernel
theorem dX9_readHall_200 : decode cX9_readHall 200 = .ok (.dup, 1) := by decide +kernel
theorem dX9_readHall_201 : decode cX9_readHall 201 = .ok (.getfield 127, 3) := by decide +kernel
theorem dX9_readHall_204 : decode cX9_readHall 204 = .ok (.iconst 1, 1) := by decide +kernel
theorem dX9_readHall_205 : decode cX9_readHall 205 = .ok (.iadd, 1) := by decide +kernel
theorem dX9_readHall_206 : decode cX9_readHall 206 = .ok (.putfield 127, 3) := by decide +kernel
theorem dX9_readHall_209 : decode cX9_readHall 209 = .ok (.goto 7, 3) := by decide +kernel
theorem dX9_readHall_212 : decode cX9_readHall 212 = .ok (.aload_n 0, 1) := by decide +kernel
theorem dX9_readHall_213 : decode cX9_readHall 213 = .ok (.invokevirtual 97, 3) := by decide +kernel
theorem dX9_readHall_216 : decode cX9_readHall 216 = .ok (.aload_n 0, 1) := by decide +kernel
theorem dX9_readHall_217 : decode cX9_readHall 217 = .ok (.getfield 87, 3) := by decide +kernel
theorem dX9_readHall_220 : decode cX9_readHall 220 = .ok (.iconst (-1), 1) := by decide +kernel
theorem dX9_readHall_221 : decode cX9_readHall 221 = .ok (.if_icmp .ne 16, 3) := by decide +kernel
theorem dX9_readHall_224 : decode cX9_readHall 224 = .ok (.aload_n 0, 1) := by decide +kernel
theorem dX9_readHall_225 : decode cX9_readHall 225 = .ok (.invokevirtual 90, 3) := by decide +kernel
theorem dX9_readHall_228 : decode cX9_readHall 228 = .ok (.bipush 59, 2) := by decide +kernel
theorem dX9_readHall_230 : decode cX9_readHall 230 = .ok (.if_icmp .ne 7, 3) := by decide +kernel
theorem dX9_readHall_233 : decode cX9_readHall 233 = .ok (.iconst 1, 1) := by decide +kernel
theorem dX9_readHall_234 : decode cX9_readHall 234 = .ok (.goto 4, 3) := by decide +kernel
theorem dX9_readHall_237 : decode cX9_readHall 237 = .ok (.iconst 0, 1) := by decide +kernel
theorem dX9_readHall_238 : decode cX9_readHall 238 = .ok (.istore_n 2, 1) := by decide +kernel
theorem dX9_readHall_239 : decode cX9_readHall 239 = .ok (.aload_n 0, 1) := by decide +kernel
theorem dX9_readHall_240 : decode cX9_readHall 240 = .ok (.dup, 1) := by decide +kernel
theorem dX9_readHall_241 : decode cX9_readHall 241 = .ok (.getfield 80, 3) := by decide +kernel
theorem dX9_readHall_244 : decode cX9_readHall 244 = .ok (.iload_n 2, 1) := by decide +kernel
theorem dX9_readHall_245 : decode cX9_readHall 245 = .ok (.ifCond .eq 7, 3) := by decide +kernel
theorem dX9_readHall_248 : decode cX9_readHall 248 = .ok (.iconst 1, 1) := by decide +kernel
theorem dX9_readHall_249 : decode cX9_readHall 249 = .ok (.goto 4, 3) := by decide +kernel
theorem dX9_readHall_252 : decode cX9_readHall 252 = .ok (.iconst 0, 1) := by decide +kernel
theorem dX9_readHall_253 : decode cX9_readHall 253 = .ok (.iadd, 1) := by decide +kernel
theorem dX9_readHall_254 : decode cX9_readHall 254 = .ok (.putfield 80, 3) := by decide +kernel
theorem dX9_readHall_257 : decode cX9_readHall 257 = .ok (.goto (-207), 3) := by decide +kernel
theorem dX9_readHall_260 : decode cX9_readHall 260 = .ok (.aload_n 0, 1) := by decide +kernel
theorem dX9_readHall_261 : decode cX9_readHall 261 = .ok (.getfield 87, 3) := by decide +kernel
theorem dX9_readHall_264 : decode cX9_readHall 264 = .ok (.iconst (-1), 1) := by decide +kernel
theorem dX9_readHall_265 : decode cX9_readHall 265 = .ok (.if_icmp .ne 35, 3) := by decide +kernel
theorem dX9_readHall_268 : decode cX9_readHall 268 = .ok (.aload_n 0, 1) := by decide +kernel
theorem dX9_readHall_269 : decode cX9_readHall 269 = .ok (.invokevirtual 90, 3) := by decide +kernel
theorem dX9_readHall_272 : decode cX9_readHall 272 = .ok (.iconst (-1), 1) := by decide +kernel
theorem dX9_readHall_273 : decode cX9_readHall 273 = .ok (.if_icmp .ne 23, 3) := by decide +kernel
theorem dX9_readHall_276 : decode cX9_readHall 276 = .ok (.aload_n 0, 1) := by decide +kernel
theorem dX9_readHall_277 : decode cX9_readHall 277 = .ok (.getfield 124, 3) := by decide +kernel
theorem dX9_readHall_280 : decode cX9_readHall 280 = .ok (.ifCond .eq 16, 3) := by decide +kernel
theorem dX9_readHall_283 : decode cX9_readHall 283 = .ok (.aload_n 0, 1) := by decide +kernel
theorem dX9_readHall_284 : decode cX9_readHall 284 = .ok (.getfield 124, 3) := by decide +kernel
theorem dX9_readHall_287 : decode cX9_readHall 287 = .ok (.aload_n 0, 1) := by decide +kernel
theorem dX9_readHall_288 : decode cX9_readHall 288 = .ok (.getfield 13, 3) := by decide +kernel
theorem dX9_readHall_291 : decode cX9_readHall 291 = .ok (.iconst 0, 1) := by decide +kernel
theorem dX9_readHall_292 : decode cX9_readHall 292 = .ok (.iaload, 1) := by decide +kernel
theorem dX9_readHall_293 : decode cX9_readHall 293 = .ok (.if_icmp .le 7, 3) := by decide +kernel
theorem dX9_readHall_296 : decode cX9_readHall 296 = .ok (.aload_n 0, 1) := by decide +kernel
theorem dX9_readHall_297 : decode cX9_readHall 297 = .ok (.invokevirtual 97, 3) := by decide +kernel
theorem dX9_readHall_300 : decode cX9_readHall 300 = .ok (.aload_n 0, 1) := by decide +kernel
theorem dX9_readHall_301 : decode cX9_readHall 301 = .ok (.getfield 87, 3) := by decide +kernel
theorem dX9_readHall_304 : decode cX9_readHall 304 = .ok (.ireturn, 1) := by decide +kernel
theorem dX9_sortOf_0 : decode cX9_sortOf 0 = .ok (.iload_n 0, 1) := by decide +kernel
theorem dX9_sortOf_1 : decode cX9_sortOf 1 = .ok (.tableswitch 138 97 120 #[111, 138, 123, 117, 138, 138, 138, 138, 138, 138, 138, 126, 119, 138, 138, 132, 138, 129, 113, 138, 121, 138, 115, 135], 111) := by decide +kernel
theorem dX9_sortOf_112 : decode cX9_sortOf 112 = .ok (.iconst 0, 1) := by decide +kernel
theorem dX9_sortOf_113 : decode cX9_sortOf 113 = .ok (.ireturn, 1) := by decide +kernel
theorem dX9_sortOf_114 : decode cX9_sortOf 114 = .ok (.iconst 1, 1) := by decide +kernel
theorem dX9_sortOf_115 : decode cX9_sortOf 115 = .ok (.ireturn, 1) := by decide +kernel
theorem dX9_sortOf_116 : decode cX9_sortOf 116 = .ok (.iconst 2, 1) := by decide +kernel
theorem dX9_sortOf_117 : decode cX9_sortOf 117 = .ok (.ireturn, 1) := by decide +kernel
theorem dX9_sortOf_118 : decode cX9_sortOf 118 = .ok (.iconst 3, 1) := by decide +kernel
theorem dX9_sortOf_119 : decode cX9_sortOf 119 = .ok (.ireturn, 1) := by decide +kernel
theorem dX9_sortOf_120 : decode cX9_sortOf 120 = .ok (.iconst 4, 1) := by decide +kernel
theorem dX9_sortOf_121 : decode cX9_sortOf 121 = .ok (.ireturn, 1) := by decide +kernel
theorem dX9_sortOf_122 : decode cX9_sortOf 122 = .ok (.iconst 5, 1) := by decide +kernel
theorem dX9_sortOf_123 : decode cX9_sortOf 123 = .ok (.ireturn, 1) := by decide +kernel
theorem dX9_sortOf_124 : decode cX9_sortOf 124 = .ok (.bipush 6, 2) := by decide +kernel
theorem dX9_sortOf_126 : decode cX9_sortOf 126 = .ok (.ireturn, 1) := by decide +kernel
theorem dX9_sortOf_127 : decode cX9_sortOf 127 = .ok (.bipush 7, 2) := by decide +kernel
theorem dX9_sortOf_129 : decode cX9_sortOf 129 = .ok (.ireturn, 1) := by decide +kernel
theorem dX9_sortOf_130 : decode cX9_sortOf 130 = .ok (.bipush 8, 2) := by decide +kernel
theorem dX9_sortOf_132 : decode cX9_sortOf 132 = .ok (.ireturn, 1) := by decide +kernel
theorem dX9_sortOf_133 : decode cX9_sortOf 133 = .ok (.bipush 9, 2) := by decide +kernel
theorem dX9_sortOf_135 : decode cX9_sortOf 135 = .ok (.ireturn, 1) := by decide +kernel
theorem dX9_sortOf_136 : decode cX9_sortOf 136 = .ok (.bipush 10, 2) := by decide +kernel
theorem dX9_sortOf_138 : decode cX9_sortOf 138 = .ok (.ireturn, 1) := by decide +kernel
theorem dX9_sortOf_139 : decode cX9_sortOf 139 = .ok (.iconst (-1), 1) := by decide +kernel
theorem dX9_sortOf_140 : decode cX9_sortOf 140 = .ok (.ireturn, 1) := by decide +kernel
theorem dX9_digit_0 : decode cX9_digit 0 = .ok (.aload_n 0, 1) := by decide +kernel
theorem dX9_digit_1 : decode cX9_digit 1 = .ok (.getfield 87, 3) := by decide +kernel
theorem dX9_digit_4 : decode cX9_digit 4 = .ok (.iconst (-1), 1) := by decide +kernel
theorem dX9_digit_5 : decode cX9_digit 5 = .ok (.if_icmp .ne 13, 3) := by decide +kernel
theorem dX9_digit_8 : decode cX9_digit 8 = .ok (.aload_n 0, 1) := by decide +kernel
theorem dX9_digit_9 : decode cX9_digit 9 = .ok (.invokevirtual 90, 3) := by decide +kernel
theorem dX9_digit_12 : decode cX9_digit 12 = .ok (.invokestatic 93, 3) := by decide +kernel
theorem dX9_digit_15 : decode cX9_digit 15 = .ok (.ifCond .ne 9, 3) := by decide +kernel
theorem dX9_digit_18 : decode cX9_digit 18 = .ok (.aload_n 0, 1) := by decide +kernel
theorem dX9_digit_19 : decode cX9_digit 19 = .ok (.invokevirtual 97, 3) := by decide +kernel
theorem dX9_digit_22 : decode cX9_digit 22 = .ok (.iconst 0, 1) := by decide +kernel
theorem dX9_digit_23 : decode cX9_digit 23 = .ok (.ireturn, 1) := by decide +kernel
theorem dX9_digit_24 : decode cX9_digit 24 = .ok (.aload_n 0, 1) := by decide +kernel
theorem dX9_digit_25 : decode cX9_digit 25 = .ok (.invokevirtual 83, 3) := by decide +kernel
theorem dX9_digit_28 : decode cX9_digit 28 = .ok (.bipush 48, 2) := by decide +kernel
theorem dX9_digit_30 : decode cX9_digit 30 = .ok (.isub, 1) := by decide +kernel
theorem dX9_digit_31 : decode cX9_digit 31 = .ok (.istore_n 1, 1) := by decide +kernel
theorem dX9_digit_32 : decode cX9_digit 32 = .ok (.aload_n 0, 1) := by decide +kernel
theorem dX9_digit_33 : decode cX9_digit 33 = .ok (.dup, 1) := by decide +kernel
theorem dX9_digit_34 : decode cX9_digit 34 = .ok (.getfield 80, 3) := by decide +kernel
theorem dX9_digit_37 : decode cX9_digit 37 = .ok (.iconst 1, 1) := by decide +kernel
theorem dX9_digit_38 : decode cX9_digit 38 = .ok (.iadd, 1) := by decide +kernel
theorem dX9_digit_39 : decode cX9_digit 39 = .ok (.putfield 80, 3) := by decide +kernel
theorem dX9_digit_42 : decode cX9_digit 42 = .ok (.iload_n 1, 1) := by decide +kernel
theorem dX9_digit_43 : decode cX9_digit 43 = .ok (.ireturn, 1) := by decide +kernel
theorem dX9_comma_0 : decode cX9_comma 0 = .ok (.aload_n 0, 1) := by decide +kernel
theorem dX9_comma_1 : decode cX9_comma 1 = .ok (.getfield 87, 3) := by decide +kernel
theorem dX9_comma_4 : decode cX9_comma 4 = .ok (.iconst (-1), 1) := by decide +kernel
theorem dX9_comma_5 : decode cX9_comma 5 = .ok (.if_icmp .ne 25, 3) := by decide +kernel
theorem dX9_comma_8 : decode cX9_comma 8 = .ok (.aload_n 0, 1) := by decide +kernel
theorem dX9_comma_9 : decode cX9_comma 9 = .ok (.invokevirtual 90, 3) := by decide +kernel
theorem dX9_comma_12 : decode cX9_comma 12 = .ok (.bipush 44, 2) := by decide +kernel
theorem dX9_comma_14 : decode cX9_comma 14 = .ok (.if_icmp .ne 16, 3) := by decide +kernel
theorem dX9_comma_17 : decode cX9_comma 17 = .ok (.aload_n 0, 1) := by decide +kernel
theorem dX9_comma_18 : decode cX9_comma 18 = .ok (.dup, 1) := by decide +kernel
theorem dX9_comma_19 : decode cX9_comma 19 = .ok (.getfield 80, 3) := by decide +kernel
theorem dX9_comma_22 : decode cX9_comma 22 = .ok (.iconst 1, 1) := by decide +kernel
theorem dX9_comma_23 : decode cX9_comma 23 = .ok (.iadd, 1) := by decide +kernel
theorem dX9_comma_24 : decode cX9_comma 24 = .ok (.putfield 80, 3) := by decide +kernel
theorem dX9_comma_27 : decode cX9_comma 27 = .ok (.goto 7, 3) := by decide +kernel
theorem dX9_comma_30 : decode cX9_comma 30 = .ok (.aload_n 0, 1) := by decide +kernel
theorem dX9_comma_31 : decode cX9_comma 31 = .ok (.invokevirtual 97, 3) := by decide +kernel
theorem dX9_comma_34 : decode cX9_comma 34 = .ok (.return_, 1) := by decide +kernel
theorem dX9_readStep_0 : decode cX9_readStep 0 = .ok (.aload_n 0, 1) := by decide +kernel
theorem dX9_readStep_1 : decode cX9_readStep 1 = .ok (.invokevirtual 90, 3) := by decide +kernel
theorem dX9_readStep_4 : decode cX9_readStep 4 = .ok (.invokestatic 134, 3) := by decide +kernel
theorem dX9_readStep_7 : decode cX9_readStep 7 = .ok (.istore_n 2, 1) := by decide +kernel
theorem dX9_readStep_8 : decode cX9_readStep 8 = .ok (.iload_n 2, 1) := by decide +kernel
theorem dX9_readStep_9 : decode cX9_readStep 9 = .ok (.iconst (-1), 1) := by decide +kernel
theorem dX9_readStep_10 : decode cX9_readStep 10 = .ok (.if_icmp .ne 8, 3) := by decide +kernel
theorem dX9_readStep_13 : decode cX9_readStep 13 = .ok (.aload_n 0, 1) := by decide +kernel
theorem dX9_readStep_14 : decode cX9_readStep 14 = .ok (.invokevirtual 97, 3) := by decide +kernel
theorem dX9_readStep_17 : decode cX9_readStep 17 = .ok (.return_, 1) := by decide +kernel
theorem dX9_readStep_18 : decode cX9_readStep 18 = .ok (.aload_n 0, 1) := by decide +kernel
theorem dX9_readStep_19 : decode cX9_readStep 19 = .ok (.dup, 1) := by decide +kernel
theorem dX9_readStep_20 : decode cX9_readStep 20 = .ok (.getfield 80, 3) := by decide +kernel
theorem dX9_readStep_23 : decode cX9_readStep 23 = .ok (.iconst 1, 1) := by decide +kernel
theorem dX9_readStep_24 : decode cX9_readStep 24 = .ok (.iadd, 1) := by decide +kernel
theorem dX9_readStep_25 : decode cX9_readStep 25 = .ok (.putfield 80, 3) := by decide +kernel
theorem dX9_readStep_28 : decode cX9_readStep 28 = .ok (.aload_n 0, 1) := by decide +kernel
theorem dX9_readStep_29 : decode cX9_readStep 29 = .ok (.getfield 28, 3) := by decide +kernel
theorem dX9_readStep_32 : decode cX9_readStep 32 = .ok (.iload_n 1, 1) := by decide +kernel
theorem dX9_readStep_33 : decode cX9_readStep 33 = .ok (.iload_n 2, 1) := by decide +kernel
theorem dX9_readStep_34 : decode cX9_readStep 34 = .ok (.iastore, 1) := by decide +kernel
theorem dX9_readStep_35 : decode cX9_readStep 35 = .ok (.aload_n 0, 1) := by decide +kernel
theorem dX9_readStep_36 : decode cX9_readStep 36 = .ok (.getfield 28, 3) := by decide +kernel
theorem dX9_readStep_39 : decode cX9_readStep 39 = .ok (.iload_n 1, 1) := by decide +kernel
theorem dX9_readStep_40 : decode cX9_readStep 40 = .ok (.iconst 1, 1) := by decide +kernel
theorem dX9_readStep_41 : decode cX9_readStep 41 = .ok (.iadd, 1) := by decide +kernel
theorem dX9_readStep_42 : decode cX9_readStep 42 = .ok (.iconst (-1), 1) := by decide +kernel
theorem dX9_readStep_43 : decode cX9_readStep 43 = .ok (.iastore, 1) := by decide +kernel
theorem dX9_readStep_44 : decode cX9_readStep 44 = .ok (.aload_n 0, 1) := by decide +kernel
theorem dX9_readStep_45 : decode cX9_readStep 45 = .ok (.getfield 28, 3) := by decide +kernel
theorem dX9_readStep_48 : decode cX9_readStep 48 = .ok (.iload_n 1, 1) := by decide +kernel
theorem dX9_readStep_49 : decode cX9_readStep 49 = .ok (.iconst 2, 1) := by decide +kernel
theorem dX9_readStep_50 : decode cX9_readStep 50 = .ok (.iadd, 1) := by decide +kernel
theorem dX9_readStep_51 : decode cX9_readStep 51 = .ok (.iconst (-1), 1) := by decide +kernel
theorem dX9_readStep_52 : decode cX9_readStep 52 = .ok (.iastore, 1) := by decide +kernel
theorem dX9_readStep_53 : decode cX9_readStep 53 = .ok (.iload_n 2, 1) := by decide +kernel
theorem dX9_readStep_54 : decode cX9_readStep 54 = .ok (.tableswitch 75 0 10 #[59, 58, 75, 59, 75, 75, 75, 58, 75, 59, 58], 58) := by decide +kernel
theorem dX9_readStep_112 : decode cX9_readStep 112 = .ok (.return_, 1) := by decide +kernel
theorem dX9_readStep_113 : decode cX9_readStep 113 = .ok (.aload_n 0, 1) := by decide +kernel
theorem dX9_readStep_114 : decode cX9_readStep 114 = .ok (.getfield 28, 3) := by decide +kernel
theorem dX9_readStep_117 : decode cX9_readStep 117 = .ok (.iload_n 1, 1) := by decide +kernel
theorem dX9_readStep_118 : decode cX9_readStep 118 = .ok (.iconst 1, 1) := by decide +kernel
theorem dX9_readStep_119 : decode cX9_readStep 119 = .ok (.iadd, 1) := by decide +kernel
theorem dX9_readStep_120 : decode cX9_readStep 120 = .ok (.aload_n 0, 1) := by decide +kernel
theorem dX9_readStep_121 : decode cX9_readStep 121 = .ok (.iconst 0, 1) := by decide +kernel
theorem dX9_readStep_122 : decode cX9_readStep 122 = .ok (.bipush 99, 2) := by decide +kernel
theorem dX9_readStep_124 : decode cX9_readStep 124 = .ok (.invokevirtual 121, 3) := by decide +kernel
theorem dX9_readStep_127 : decode cX9_readStep 127 = .ok (.iastore, 1) := by decide +kernel
theorem dX9_readStep_128 : decode cX9_readStep 128 = .ok (.return_, 1) := by decide +kernel
theorem dX9_readStep_129 : decode cX9_readStep 129 = .ok (.aload_n 0, 1) := by decide +kernel
theorem dX9_readStep_130 : decode cX9_readStep 130 = .ok (.getfield 28, 3) := by decide +kernel
theorem dX9_readStep_133 : decode cX9_readStep 133 = .ok (.iload_n 1, 1) := by decide +kernel
theorem dX9_readStep_134 : decode cX9_readStep 134 = .ok (.iconst 1, 1) := by decide +kernel
theorem dX9_readStep_135 : decode cX9_readStep 135 = .ok (.iadd, 1) := by decide +kernel
theorem dX9_readStep_136 : decode cX9_readStep 136 = .ok (.aload_n 0, 1) := by decide +kernel
theorem dX9_readStep_137 : decode cX9_readStep 137 = .ok (.invokevirtual 137, 3) := by decide +kernel
theorem dX9_readStep_140 : decode cX9_readStep 140 = .ok (.iastore, 1) := by decide +kernel
theorem dX9_readStep_141 : decode cX9_readStep 141 = .ok (.iload_n 2, 1) := by decide +kernel
theorem dX9_readStep_142 : decode cX9_readStep 142 = .ok (.iconst 2, 1) := by decide +kernel
theorem dX9_readStep_143 : decode cX9_readStep 143 = .ok (.if_icmp .eq 9, 3) := by decide +kernel
theorem dX9_readStep_146 : decode cX9_readStep 146 = .ok (.iload_n 2, 1) := by decide +kernel
theorem dX9_readStep_147 : decode cX9_readStep 147 = .ok (.bipush 6, 2) := by decide +kernel
theorem dX9_readStep_149 : decode cX9_readStep 149 = .ok (.if_icmp .ne 19, 3) := by decide +kernel
theorem dX9_readStep_152 : decode cX9_readStep 152 = .ok (.aload_n 0, 1) := by decide +kernel
theorem dX9_readStep_153 : decode cX9_readStep 153 = .ok (.invokevirtual 140, 3) := by decide +kernel
theorem dX9_readStep_156 : decode cX9_readStep 156 = .ok (.aload_n 0, 1) := by decide +kernel
theorem dX9_readStep_157 : decode cX9_readStep 157 = .ok (.getfield 28, 3) := by decide +kernel
theorem dX9_readStep_160 : decode cX9_readStep 160 = .ok (.iload_n 1, 1) := by decide +kernel
theorem dX9_readStep_161 : decode cX9_readStep 161 = .ok (.iconst 2, 1) := by decide +kernel
theorem dX9_readStep_162 : decode cX9_readStep 162 = .ok (.iadd, 1) := by decide +kernel
theorem dX9_readStep_163 : decode cX9_readStep 163 = .ok (.aload_n 0, 1) := by decide +kernel
theorem dX9_readStep_164 : decode cX9_readStep 164 = .ok (.invokevirtual 137, 3) := by decide +kernel
theorem dX9_readStep_167 : decode cX9_readStep 167 = .ok (.iastore, 1) := by decide +kernel
theorem dX9_readStep_168 : decode cX9_readStep 168 = .ok (.return_, 1) := by decide +kernel
theorem dX9_readScript_0 : decode cX9_readScript 0 = .ok (.aload_n 0, 1) := by decide +kernel
theorem dX9_readScript_1 : decode cX9_readScript 1 = .ok (.iconst 0, 1) := by decide +kernel
theorem dX9_readScript_2 : decode cX9_readScript 2 = .ok (.putfield 80, 3) := by decide +kernel
theorem dX9_readScript_5 : decode cX9_readScript 5 = .ok (.aload_n 0, 1) := by decide +kernel
theorem dX9_readScript_6 : decode cX9_readScript 6 = .ok (.iconst (-1), 1) := by decide +kernel
theorem dX9_readScript_7 : decode cX9_readScript 7 = .ok (.putfield 87, 3) := by decide +kernel
theorem dX9_readScript_10 : decode cX9_readScript 10 = .ok (.aload_n 0, 1) := by decide +kernel
theorem dX9_readScript_11 : decode cX9_readScript 11 = .ok (.getfield 31, 3) := by decide +kernel
theorem dX9_readScript_14 : decode cX9_readScript 14 = .ok (.iload_n 1, 1) := by decide +kernel
theorem dX9_readScript_15 : decode cX9_readScript 15 = .ok (.iconst 0, 1) := by decide +kernel
theorem dX9_readScript_16 : decode cX9_readScript 16 = .ok (.iastore, 1) := by decide +kernel
theorem dX9_readScript_17 : decode cX9_readScript 17 = .ok (.iconst 1, 1) := by decide +kernel
theorem dX9_readScript_18 : decode cX9_readScript 18 = .ok (.istore_n 2, 1) := by decide +kernel
theorem dX9_readScript_19 : decode cX9_readScript 19 = .ok (.iload_n 2, 1) := by decide +kernel
theorem dX9_readScript_20 : decode cX9_readScript 20 = .ok (.ifCond .eq 85, 3) := by decide +kernel
theorem dX9_readScript_23 : decode cX9_readScript 23 = .ok (.aload_n 0, 1) := by decide +kernel
theorem dX9_readScript_24 : decode cX9_readScript 24 = .ok (.iconst 3, 1) := by decide +kernel
theorem dX9_readScript_25 : decode cX9_readScript 25 = .ok (.bipush 16, 2) := by decide +kernel
theorem dX9_readScript_27 : decode cX9_readScript 27 = .ok (.iload_n 1, 1) := by decide +kernel
theorem dX9_readScript_28 : decode cX9_readScript 28 = .ok (.imul, 1) := by decide +kernel
theorem dX9_readScript_29 : decode cX9_readScript 29 = .ok (.aload_n 0, 1) := by decide +kernel
theorem dX9_readScript_30 : decode cX9_readScript 30 = .ok (.getfield 31, 3) := by decide +kernel
theorem dX9_readScript_33 : decode cX9_readScript 33 = .ok (.iload_n 1, 1) := by decide +kernel
theorem dX9_readScript_34 : decode cX9_readScript 34 = .ok (.iaload, 1) := by decide +kernel
theorem dX9_readScript_35 : decode cX9_readScript 35 = .ok (.iadd, 1) := by decide +kernel
theorem dX9_readScript_36 : decode cX9_readScript 36 = .ok (.imul, 1) := by decide +kernel
theorem dX9_readScript_37 : decode cX9_readScript 37 = .ok (.invokevirtual 143, 3) := by decide +kernel
theorem dX9_readScript_40 : decode cX9_readScript 40 = .ok (.aload_n 0, 1) := by decide +kernel
theorem dX9_readScript_41 : decode cX9_readScript 41 = .ok (.getfield 31, 3) := by decide +kernel
theorem dX9_readScript_44 : decode cX9_readScript 44 = .ok (.iload_n 1, 1) := by decide +kernel
theorem dX9_readScript_45 : decode cX9_readScript 45 = .ok (.dup2, 1) := by decide +kernel
theorem dX9_readScript_46 : decode cX9_readScript 46 = .ok (.iaload, 1) := by decide +kernel
theorem dX9_readScript_47 : decode cX9_readScript 47 = .ok (.iconst 1, 1) := by decide +kernel
theorem dX9_readScript_48 : decode cX9_readScript 48 = .ok (.iadd, 1) := by decide +kernel
theorem dX9_readScript_49 : decode cX9_readScript 49 = .ok (.iastore, 1) := by decide +kernel
theorem dX9_readScript_50 : decode cX9_readScript 50 = .ok (.aload_n 0, 1) := by decide +kernel
theorem dX9_readScript_51 : decode cX9_readScript 51 = .ok (.getfield 87, 3) := by decide +kernel
theorem dX9_readScript_54 : decode cX9_readScript 54 = .ok (.iconst (-1), 1) := by decide +kernel
theorem dX9_readScript_55 : decode cX9_readScript 55 = .ok (.if_icmp .ne 27, 3) := by decide +kernel
theorem dX9_readScript_58 : decode cX9_readScript 58 = .ok (.aload_n 0, 1) := by decide +kernel
theorem dX9_readScript_59 : decode cX9_readScript 59 = .ok (.invokevirtual 90, 3) := by decide +kernel
theorem dX9_readScript_62 : decode cX9_readScript 62 = .ok (.bipush 59, 2) := by decide +kernel
theorem dX9_readScript_64 : decode cX9_readScript 64 = .ok (.if_icmp .ne 18, 3) := by decide +kernel
theorem dX9_readScript_67 : decode cX9_readScript 67 = .ok (.aload_n 0, 1) := by decide +kernel
theorem dX9_readScript_68 : decode cX9_readScript 68 = .ok (.getfield 31, 3) := by decide +kernel
theorem dX9_readScript_71 : decode cX9_readScript 71 = .ok (.iload_n 1, 1) := by decide +kernel
theorem dX9_readScript_72 : decode cX9_readScript 72 = .ok (.iaload, 1) := by decide +kernel
theorem dX9_readScript_73 : decode cX9_readScript 73 = .ok (.bipush 16, 2) := by decide +kernel
theorem dX9_readScript_75 : decode cX9_readScript 75 = .ok (.if_icmp .ge 7, 3) := by decide +kernel
theorem dX9_readScript_78 : decode cX9_readScript 78 = .ok (.iconst 1, 1) := by decide +kernel
theorem dX9_readScript_79 : decode cX9_readScript 79 = .ok (.goto 4, 3) := by decide +kernel
theorem dX9_readScript_82 : decode cX9_readScript 82 = .ok (.iconst 0, 1) := by decide +kernel
theorem dX9_readScript_83 : decode cX9_readScript 83 = .ok (.istore_n 2, 1) := by decide +kernel
theorem dX9_readScript_84 : decode cX9_readScript 84 = .ok (.aload_n 0, 1) := by decide +kernel
theorem dX9_readScript_85 : decode cX9_readScript 85 = .ok (.dup, 1) := by decide +kernel
theorem dX9_readScript_86 : decode cX9_readScript 86 = .ok (.getfield 80, 3) := by decide +kernel
theorem dX9_readScript_89 : decode cX9_readScript 89 = .ok (.iload_n 2, 1) := by decide +kernel
theorem dX9_readScript_90 : decode cX9_readScript 90 = .ok (.ifCond .eq 7, 3) := by decide +kernel
theorem dX9_readScript_93 : decode cX9_readScript 93 = .ok (.iconst 1, 1) := by decide +kernel
theorem dX9_readScript_94 : decode cX9_readScript 94 = .ok (.goto 4, 3) := by decide +kernel
theorem dX9_readScript_97 : decode cX9_readScript 97 = .ok (.iconst 0, 1) := by decide +kernel
theorem dX9_readScript_98 : decode cX9_readScript 98 = .ok (.iadd, 1) := by decide +kernel
theorem dX9_readScript_99 : decode cX9_readScript 99 = .ok (.putfield 80, 3) := by decide +kernel
theorem dX9_readScript_102 : decode cX9_readScript 102 = .ok (.goto (-83), 3) := by decide +kernel
theorem dX9_readScript_105 : decode cX9_readScript 105 = .ok (.aload_n 0, 1) := by decide +kernel
theorem dX9_readScript_106 : decode cX9_readScript 106 = .ok (.getfield 87, 3) := by decide +kernel
theorem dX9_readScript_109 : decode cX9_readScript 109 = .ok (.iconst (-1), 1) := by decide +kernel
theorem dX9_readScript_110 : decode cX9_readScript 110 = .ok (.if_icmp .ne 15, 3) := by decide +kernel
theorem dX9_readScript_113 : decode cX9_readScript 113 = .ok (.aload_n 0, 1) := by decide +kernel
theorem dX9_readScript_114 : decode cX9_readScript 114 = .ok (.invokevirtual 90, 3) := by decide +kernel
theorem dX9_readScript_117 : decode cX9_readScript 117 = .ok (.iconst (-1), 1) := by decide +kernel
theorem dX9_readScript_118 : decode cX9_readScript 118 = .ok (.if_icmp .eq 7, 3) := by decide +kernel
theorem dX9_readScript_121 : decode cX9_readScript 121 = .ok (.aload_n 0, 1) := by decide +kernel
theorem dX9_readScript_122 : decode cX9_readScript 122 = .ok (.invokevirtual 97, 3) := by decide +kernel
theorem dX9_readScript_125 : decode cX9_readScript 125 = .ok (.aload_n 0, 1) := by decide +kernel
theorem dX9_readScript_126 : decode cX9_readScript 126 = .ok (.getfield 87, 3) := by decide +kernel
theorem dX9_readScript_129 : decode cX9_readScript 129 = .ok (.ireturn, 1) := by decide +kernel
theorem dX9_fault_0 : decode cX9_fault 0 = .ok (.iload_n 1, 1) := by decide +kernel
theorem dX9_fault_1 : decode cX9_fault 1 = .ok (.ifCond .ne 10, 3) := by decide +kernel
theorem dX9_fault_4 : decode cX9_fault 4 = .ok (.aload_n 0, 1) := by decide +kernel
theorem dX9_fault_5 : decode cX9_fault 5 = .ok (.invokevirtual 147, 3) := by decide +kernel
theorem dX9_fault_8 : decode cX9_fault 8 = .ok (.goto 18, 3) := by decide +kernel
theorem dX9_fault_11 : decode cX9_fault 11 = .ok (.iload_n 1, 1) := by decide +kernel
theorem dX9_fault_12 : decode cX9_fault 12 = .ok (.iconst 1, 1) := by decide +kernel
theorem dX9_fault_13 : decode cX9_fault 13 = .ok (.if_icmp .ne 11, 3) := by decide +kernel
theorem dX9_fault_16 : decode cX9_fault 16 = .ok (.aload_n 0, 1) := by decide +kernel
theorem dX9_fault_17 : decode cX9_fault 17 = .ok (.iconst 4, 1) := by decide +kernel
theorem dX9_fault_18 : decode cX9_fault 18 = .ok (.invokevirtual 150, 3) := by decide +kernel
theorem dX9_fault_21 : decode cX9_fault 21 = .ok (.goto 5, 3) := by decide +kernel
theorem dX9_fault_24 : decode cX9_fault 24 = .ok (.bipush (-2), 2) := by decide +kernel
theorem dX9_fault_26 : decode cX9_fault 26 = .ok (.ireturn, 1) := by decide +kernel
theorem dX9_isHall_0 : decode cX9_isHall 0 = .ok (.aload_n 0, 1) := by decide +kernel
theorem dX9_isHall_1 : decode cX9_isHall 1 = .ok (.getfield 153, 3) := by decide +kernel
theorem dX9_isHall_4 : decode cX9_isHall 4 = .ok (.ifCond .le 7, 3) := by decide +kernel
theorem dX9_isHall_7 : decode cX9_isHall 7 = .ok (.iconst 1, 1) := by decide +kernel
theorem dX9_isHall_8 : decode cX9_isHall 8 = .ok (.goto 4, 3) := by decide +kernel
theorem dX9_isHall_11 : decode cX9_isHall 11 = .ok (.iconst 0, 1) := by decide +kernel
theorem dX9_isHall_12 : decode cX9_isHall 12 = .ok (.ireturn, 1) := by decide +kernel
theorem dX9_isTape_0 : decode cX9_isTape 0 = .ok (.iload_n 1, 1) := by decide +kernel
theorem dX9_isTape_1 : decode cX9_isTape 1 = .ok (.iconst 0, 1) := by decide +kernel
theorem dX9_isTape_2 : decode cX9_isTape 2 = .ok (.aload_n 0, 1) := by decide +kernel
theorem dX9_isTape_3 : decode cX9_isTape 3 = .ok (.getfield 153, 3) := by decide +kernel
theorem dX9_isTape_6 : decode cX9_isTape 6 = .ok (.iconst 1, 1) := by decide +kernel
theorem dX9_isTape_7 : decode cX9_isTape 7 = .ok (.isub, 1) := by decide +kernel
theorem dX9_isTape_8 : decode cX9_isTape 8 = .ok (.invokestatic 76, 3) := by decide +kernel
theorem dX9_isTape_11 : decode cX9_isTape 11 = .ok (.ireturn, 1) := by decide +kernel
theorem dX9_isFile_0 : decode cX9_isFile 0 = .ok (.aload_n 0, 1) := by decide +kernel
theorem dX9_isFile_1 : decode cX9_isFile 1 = .ok (.invokevirtual 156, 3) := by decide +kernel
theorem dX9_isFile_4 : decode cX9_isFile 4 = .ok (.ifCond .eq 25, 3) := by decide +kernel
theorem dX9_isFile_7 : decode cX9_isFile 7 = .ok (.iload_n 1, 1) := by decide +kernel
theorem dX9_isFile_8 : decode cX9_isFile 8 = .ok (.iconst 0, 1) := by decide +kernel
theorem dX9_isFile_9 : decode cX9_isFile 9 = .ok (.aload_n 0, 1) := by decide +kernel
theorem dX9_isFile_10 : decode cX9_isFile 10 = .ok (.getfield 34, 3) := by decide +kernel
theorem dX9_isFile_13 : decode cX9_isFile 13 = .ok (.sipush 168, 3) := by decide +kernel
theorem dX9_isFile_16 : decode cX9_isFile 16 = .ok (.iaload, 1) := by decide +kernel
theorem dX9_isFile_17 : decode cX9_isFile 17 = .ok (.iconst 1, 1) := by decide +kernel
theorem dX9_isFile_18 : decode cX9_isFile 18 = .ok (.isub, 1) := by decide +kernel
theorem dX9_isFile_19 : decode cX9_isFile 19 = .ok (.invokestatic 76, 3) := by decide +kernel
theorem dX9_isFile_22 : decode cX9_isFile 22 = .ok (.ifCond .eq 7, 3) := by decide +kernel
theorem dX9_isFile_25 : decode cX9_isFile 25 = .ok (.iconst 1, 1) := by decide +kernel
theorem dX9_isFile_26 : decode cX9_isFile 26 = .ok (.goto 4, 3) := by decide +kernel
theorem dX9_isFile_29 : decode cX9_isFile 29 = .ok (.iconst 0, 1) := by decide +kernel
theorem dX9_isFile_30 : decode cX9_isFile 30 = .ok (.ireturn, 1) := by decide +kernel
theorem dX9_isHeld_0 : decode cX9_isHeld 0 = .ok (.aload_n 0, 1) := by decide +kernel
theorem dX9_isHeld_1 : decode cX9_isHeld 1 = .ok (.iload_n 1, 1) := by decide +kernel
theorem dX9_isHeld_2 : decode cX9_isHeld 2 = .ok (.invokevirtual 160, 3) := by decide +kernel
theorem dX9_isHeld_5 : decode cX9_isHeld 5 = .ok (.ifCond .eq 20, 3) := by decide +kernel
theorem dX9_isHeld_8 : decode cX9_isHeld 8 = .ok (.aload_n 0, 1) := by decide +kernel
theorem dX9_isHeld_9 : decode cX9_isHeld 9 = .ok (.getfield 34, 3) := by decide +kernel
theorem dX9_isHeld_12 : decode cX9_isHeld 12 = .ok (.bipush 48, 2) := by decide +kernel
theorem dX9_isHeld_14 : decode cX9_isHeld 14 = .ok (.iload_n 1, 1) := by decide +kernel
theorem dX9_isHeld_15 : decode cX9_isHeld 15 = .ok (.iadd, 1) := by decide +kernel
theorem dX9_isHeld_16 : decode cX9_isHeld 16 = .ok (.iaload, 1) := by decide +kernel
theorem dX9_isHeld_17 : decode cX9_isHeld 17 = .ok (.iconst (-1), 1) := by decide +kernel
theorem dX9_isHeld_18 : decode cX9_isHeld 18 = .ok (.if_icmp .eq 7, 3) := by decide +kernel
theorem dX9_isHeld_21 : decode cX9_isHeld 21 = .ok (.iconst 1, 1) := by decide +kernel
theorem dX9_isHeld_22 : decode cX9_isHeld 22 = .ok (.goto 4, 3) := by decide +kernel
theorem dX9_isHeld_25 : decode cX9_isHeld 25 = .ok (.iconst 0, 1) := by decide +kernel
theorem dX9_isHeld_26 : decode cX9_isHeld 26 = .ok (.ireturn, 1) := by decide +kernel
theorem dX9_isOn_0 : decode cX9_isOn 0 = .ok (.aload_n 0, 1) := by decide +kernel
theorem dX9_isOn_1 : decode cX9_isOn 1 = .ok (.getfield 34, 3) := by decide +kernel
theorem dX9_isOn_4 : decode cX9_isOn 4 = .ok (.bipush 48, 2) := by decide +kernel
theorem dX9_isOn_6 : decode cX9_isOn 6 = .ok (.iload_n 1, 1) := by decide +kernel
theorem dX9_isOn_7 : decode cX9_isOn 7 = .ok (.iadd, 1) := by decide +kernel
theorem dX9_isOn_8 : decode cX9_isOn 8 = .ok (.iaload, 1) := by decide +kernel
theorem dX9_isOn_9 : decode cX9_isOn 9 = .ok (.iload_n 2, 1) := by decide +kernel
theorem dX9_isOn_10 : decode cX9_isOn 10 = .ok (.if_icmp .ne 7, 3) := by decide +kernel
theorem dX9_isOn_13 : decode cX9_isOn 13 = .ok (.iconst 1, 1) := by decide +kernel
theorem dX9_isOn_14 : decode cX9_isOn 14 = .ok (.goto 4, 3) := by decide +kernel
theorem dX9_isOn_17 : decode cX9_isOn 17 = .ok (.iconst 0, 1) := by decide +kernel
theorem dX9_isOn_18 : decode cX9_isOn 18 = .ok (.ireturn, 1) := by decide +kernel
theorem dX9_blocksOfTape_0 : decode cX9_blocksOfTape 0 = .ok (.aload_n 0, 1) := by decide +kernel
theorem dX9_blocksOfTape_1 : decode cX9_blocksOfTape 1 = .ok (.getfield 22, 3) := by decide +kernel
theorem dX9_blocksOfTape_4 : decode cX9_blocksOfTape 4 = .ok (.iconst 2, 1) := by decide +kernel
theorem dX9_blocksOfTape_5 : decode cX9_blocksOfTape 5 = .ok (.iaload, 1) := by decide +kernel
theorem dX9_blocksOfTape_6 : decode cX9_blocksOfTape 6 = .ok (.aload_n 0, 1) := by decide +kernel
theorem dX9_blocksOfTape_7 : decode cX9_blocksOfTape 7 = .ok (.getfield 22, 3) := by decide +kernel
theorem dX9_blocksOfTape_10 : decode cX9_blocksOfTape 10 = .ok (.iconst 3, 1) := by decide +kernel
theorem dX9_blocksOfTape_11 : decode cX9_blocksOfTape 11 = .ok (.iaload, 1) := by decide +kernel
theorem dX9_blocksOfTape_12 : decode cX9_blocksOfTape 12 = .ok (.imul, 1) := by decide +kernel
theorem dX9_blocksOfTape_13 : decode cX9_blocksOfTape 13 = .ok (.ireturn, 1) := by decide +kernel
theorem dX9_isDriven_0 : decode cX9_isDriven 0 = .ok (.aload_n 0, 1) := by decide +kernel
theorem dX9_isDriven_1 : decode cX9_isDriven 1 = .ok (.getfield 34, 3) := by decide +kernel
theorem dX9_isDriven_4 : decode cX9_isDriven 4 = .ok (.iconst 0, 1) := by decide +kernel
theorem dX9_isDriven_5 : decode cX9_isDriven 5 = .ok (.iload_n 1, 1) := by decide +kernel
theorem dX9_isDriven_6 : decode cX9_isDriven 6 = .ok (.iadd, 1) := by decide +kernel
theorem dX9_isDriven_7 : decode cX9_isDriven 7 = .ok (.iaload, 1) := by decide +kernel
theorem dX9_isDriven_8 : decode cX9_isDriven 8 = .ok (.aload_n 0, 1) := by decide +kernel
theorem dX9_isDriven_9 : decode cX9_isDriven 9 = .ok (.getfield 22, 3) := by decide +kernel
theorem dX9_isDriven_12 : decode cX9_isDriven 12 = .ok (.iconst 0, 1) := by decide +kernel
theorem dX9_isDriven_13 : decode cX9_isDriven 13 = .ok (.iaload, 1) := by decide +kernel
theorem dX9_isDriven_14 : decode cX9_isDriven 14 = .ok (.if_icmp .lt 7, 3) := by decide +kernel
theorem dX9_isDriven_17 : decode cX9_isDriven 17 = .ok (.iconst 1, 1) := by decide +kernel
theorem dX9_isDriven_18 : decode cX9_isDriven 18 = .ok (.goto 4, 3) := by decide +kernel
theorem dX9_isDriven_21 : decode cX9_isDriven 21 = .ok (.iconst 0, 1) := by decide +kernel
theorem dX9_isDriven_22 : decode cX9_isDriven 22 = .ok (.ireturn, 1) := by decide +kernel
theorem dX9_filesOn_0 : decode cX9_filesOn 0 = .ok (.iconst 0, 1) := by decide +kernel
theorem dX9_filesOn_1 : decode cX9_filesOn 1 = .ok (.istore_n 2, 1) := by decide +kernel
theorem dX9_filesOn_2 : decode cX9_filesOn 2 = .ok (.iconst 0, 1) := by decide +kernel
theorem dX9_filesOn_3 : decode cX9_filesOn 3 = .ok (.istore_n 3, 1) := by decide +kernel
theorem dX9_filesOn_4 : decode cX9_filesOn 4 = .ok (.iload_n 3, 1) := by decide +kernel
theorem dX9_filesOn_5 : decode cX9_filesOn 5 = .ok (.aload_n 0, 1) := by decide +kernel
theorem dX9_filesOn_6 : decode cX9_filesOn 6 = .ok (.getfield 34, 3) := by decide +kernel
theorem dX9_filesOn_9 : decode cX9_filesOn 9 = .ok (.sipush 168, 3) := by decide +kernel
theorem dX9_filesOn_12 : decode cX9_filesOn 12 = .ok (.iaload, 1) := by decide +kernel
theorem dX9_filesOn_13 : decode cX9_filesOn 13 = .ok (.if_icmp .ge 26, 3) := by decide +kernel
theorem dX9_filesOn_16 : decode cX9_filesOn 16 = .ok (.iload_n 2, 1) := by decide +kernel
theorem dX9_filesOn_17 : decode cX9_filesOn 17 = .ok (.aload_n 0, 1) := by decide +kernel
theorem dX9_filesOn_18 : decode cX9_filesOn 18 = .ok (.iload_n 3, 1) := by decide +kernel
theorem dX9_filesOn_19 : decode cX9_filesOn 19 = .ok (.iload_n 1, 1) := by decide +kernel
theorem dX9_filesOn_20 : decode cX9_filesOn 20 = .ok (.invokevirtual 163, 3) := by decide +kernel
theorem dX9_filesOn_23 : decode cX9_filesOn 23 = .ok (.ifCond .eq 7, 3) := by decide +kernel
theorem dX9_filesOn_26 : decode cX9_filesOn 26 = .ok (.iconst 1, 1) := by decide +kernel
theorem dX9_filesOn_27 : decode cX9_filesOn 27 = .ok (.goto 4, 3) := by decide +kernel
theorem dX9_filesOn_30 : decode cX9_filesOn 30 = .ok (.iconst 0, 1) := by decide +kernel
theorem dX9_filesOn_31 : decode cX9_filesOn 31 = .ok (.iadd, 1) := by decide +kernel
theorem dX9_filesOn_32 : decode cX9_filesOn 32 = .ok (.istore_n 2, 1) := by decide +kernel
theorem dX9_filesOn_33 : decode cX9_filesOn 33 = .ok (.iinc 3 1, 3) := by decide +kernel
theorem dX9_filesOn_36 : decode cX9_filesOn 36 = .ok (.goto (-32), 3) := by decide +kernel
theorem dX9_filesOn_39 : decode cX9_filesOn 39 = .ok (.iload_n 2, 1) := by decide +kernel
theorem dX9_filesOn_40 : decode cX9_filesOn 40 = .ok (.ireturn, 1) := by decide +kernel
theorem dX9_blocksOn_0 : decode cX9_blocksOn 0 = .ok (.iconst 0, 1) := by decide +kernel
theorem dX9_blocksOn_1 : decode cX9_blocksOn 1 = .ok (.istore_n 2, 1) := by decide +kernel
theorem dX9_blocksOn_2 : decode cX9_blocksOn 2 = .ok (.iconst 0, 1) := by decide +kernel
theorem dX9_blocksOn_3 : decode cX9_blocksOn 3 = .ok (.istore_n 3, 1) := by decide +kernel
theorem dX9_blocksOn_4 : decode cX9_blocksOn 4 = .ok (.iload_n 3, 1) := by decide +kernel
theorem dX9_blocksOn_5 : decode cX9_blocksOn 5 = .ok (.aload_n 0, 1) := by decide +kernel
theorem dX9_blocksOn_6 : decode cX9_blocksOn 6 = .ok (.getfield 34, 3) := by decide +kernel
theorem dX9_blocksOn_9 : decode cX9_blocksOn 9 = .ok (.sipush 168, 3) := by decide +kernel
theorem dX9_blocksOn_12 : decode cX9_blocksOn 12 = .ok (.iaload, 1) := by decide +kernel
theorem dX9_blocksOn_13 : decode cX9_blocksOn 13 = .ok (.if_icmp .ge 34, 3) := by decide +kernel
theorem dX9_blocksOn_16 : decode cX9_blocksOn 16 = .ok (.iload_n 2, 1) := by decide +kernel
theorem dX9_blocksOn_17 : decode cX9_blocksOn 17 = .ok (.aload_n 0, 1) := by decide +kernel
theorem dX9_blocksOn_18 : decode cX9_blocksOn 18 = .ok (.iload_n 3, 1) := by decide +kernel
theorem dX9_blocksOn_19 : decode cX9_blocksOn 19 = .ok (.iload_n 1, 1) := by decide +kernel
theorem dX9_blocksOn_20 : decode cX9_blocksOn 20 = .ok (.invokevirtual 163, 3) := by decide +kernel
theorem dX9_blocksOn_23 : decode cX9_blocksOn 23 = .ok (.ifCond .eq 15, 3) := by decide +kernel
theorem dX9_blocksOn_26 : decode cX9_blocksOn 26 = .ok (.aload_n 0, 1) := by decide +kernel
theorem dX9_blocksOn_27 : decode cX9_blocksOn 27 = .ok (.getfield 34, 3) := by decide +kernel
theorem dX9_blocksOn_30 : decode cX9_blocksOn 30 = .ok (.bipush 96, 2) := by decide +kernel
theorem dX9_blocksOn_32 : decode cX9_blocksOn 32 = .ok (.iload_n 3, 1) := by decide +kernel
theorem dX9_blocksOn_33 : decode cX9_blocksOn 33 = .ok (.iadd, 1) := by decide +kernel
theorem dX9_blocksOn_34 : decode cX9_blocksOn 34 = .ok (.iaload, 1) := by decide +kernel
theorem dX9_blocksOn_35 : decode cX9_blocksOn 35 = .ok (.goto 4, 3) := by decide +kernel
theorem dX9_blocksOn_38 : decode cX9_blocksOn 38 = .ok (.iconst 0, 1) := by decide +kernel
theorem dX9_blocksOn_39 : decode cX9_blocksOn 39 = .ok (.iadd, 1) := by decide +kernel
theorem dX9_blocksOn_40 : decode cX9_blocksOn 40 = .ok (.istore_n 2, 1) := by decide +kernel
theorem dX9_blocksOn_41 : decode cX9_blocksOn 41 = .ok (.iinc 3 1, 3) := by decide +kernel
theorem dX9_blocksOn_44 : decode cX9_blocksOn 44 = .ok (.goto (-40), 3) := by decide +kernel
theorem dX9_blocksOn_47 : decode cX9_blocksOn 47 = .ok (.iload_n 2, 1) := by decide +kernel
theorem dX9_blocksOn_48 : decode cX9_blocksOn 48 = .ok (.ireturn, 1) := by decide +kernel
theorem dX9_askedOn_0 : decode cX9_askedOn 0 = .ok (.iconst 0, 1) := by decide +kernel
theorem dX9_askedOn_1 : decode cX9_askedOn 1 = .ok (.istore_n 2, 1) := by decide +kernel
theorem dX9_askedOn_2 : decode cX9_askedOn 2 = .ok (.iconst 0, 1) := by decide +kernel
theorem dX9_askedOn_3 : decode cX9_askedOn 3 = .ok (.istore_n 3, 1) := by decide +kernel
theorem dX9_askedOn_4 : decode cX9_askedOn 4 = .ok (.iload_n 3, 1) := by decide +kernel
theorem dX9_askedOn_5 : decode cX9_askedOn 5 = .ok (.aload_n 0, 1) := by decide +kernel
theorem dX9_askedOn_6 : decode cX9_askedOn 6 = .ok (.getfield 34, 3) := by decide +kernel
theorem dX9_askedOn_9 : decode cX9_askedOn 9 = .ok (.sipush 168, 3) := by decide +kernel
theorem dX9_askedOn_12 : decode cX9_askedOn 12 = .ok (.iaload, 1) := by decide +kernel
theorem dX9_askedOn_13 : decode cX9_askedOn 13 = .ok (.if_icmp .ge 39, 3) := by decide +kernel
theorem dX9_askedOn_16 : decode cX9_askedOn 16 = .ok (.iload_n 2, 1) := by decide +kernel
theorem dX9_askedOn_17 : decode cX9_askedOn 17 = .ok (.aload_n 0, 1) := by decide +kernel
theorem dX9_askedOn_18 : decode cX9_askedOn 18 = .ok (.iload_n 3, 1) := by decide +kernel
theorem dX9_askedOn_19 : decode cX9_askedOn 19 = .ok (.iload_n 1, 1) := by decide +kernel
theorem dX9_askedOn_20 : decode cX9_askedOn 20 = .ok (.invokevirtual 163, 3) := by decide +kernel
theorem dX9_askedOn_23 : decode cX9_askedOn 23 = .ok (.ifCond .eq 20, 3) := by decide +kernel
theorem dX9_askedOn_26 : decode cX9_askedOn 26 = .ok (.aload_n 0, 1) := by decide +kernel
theorem dX9_askedOn_27 : decode cX9_askedOn 27 = .ok (.getfield 34, 3) := by decide +kernel
theorem dX9_askedOn_30 : decode cX9_askedOn 30 = .ok (.sipush 144, 3) := by decide +kernel
theorem dX9_askedOn_33 : decode cX9_askedOn 33 = .ok (.iload_n 3, 1) := by decide +kernel
theorem dX9_askedOn_34 : decode cX9_askedOn 34 = .ok (.iadd, 1) := by decide +kernel
theorem dX9_askedOn_35 : decode cX9_askedOn 35 = .ok (.iaload, 1) := by decide +kernel
theorem dX9_askedOn_36 : decode cX9_askedOn 36 = .ok (.ifCond .le 7, 3) := by decide +kernel
theorem dX9_askedOn_39 : decode cX9_askedOn 39 = .ok (.iconst 1, 1) := by decide +kernel
theorem dX9_askedOn_40 : decode cX9_askedOn 40 = .ok (.goto 4, 3) := by decide +kernel
theorem dX9_askedOn_43 : decode cX9_askedOn 43 = .ok (.iconst 0, 1) := by decide +kernel
theorem dX9_askedOn_44 : decode cX9_askedOn 44 = .ok (.iadd, 1) := by decide +kernel
theorem dX9_askedOn_45 : decode cX9_askedOn 45 = .ok (.istore_n 2, 1) := by decide +kernel
theorem dX9_askedOn_46 : decode cX9_askedOn 46 = .ok (.iinc 3 1, 3) := by decide +kernel
theorem dX9_askedOn_49 : decode cX9_askedOn 49 = .ok (.goto (-45), 3) := by decide +kernel
theorem dX9_askedOn_52 : decode cX9_askedOn 52 = .ok (.iload_n 2, 1) := by decide +kernel
theorem dX9_askedOn_53 : decode cX9_askedOn 53 = .ok (.ireturn, 1) := by decide +kernel
theorem dX9_askedOfAll_0 : decode cX9_askedOfAll 0 = .ok (.iconst 0, 1) := by decide +kernel
theorem dX9_askedOfAll_1 : decode cX9_askedOfAll 1 = .ok (.istore_n 1, 1) := by decide +kernel
theorem dX9_askedOfAll_2 : decode cX9_askedOfAll 2 = .ok (.iconst 0, 1) := by decide +kernel
theorem dX9_askedOfAll_3 : decode cX9_askedOfAll 3 = .ok (.istore_n 2, 1) := by decide +kernel
theorem dX9_askedOfAll_4 : decode cX9_askedOfAll 4 = .ok (.iload_n 2, 1) := by decide +kernel
theorem dX9_askedOfAll_5 : decode cX9_askedOfAll 5 = .ok (.aload_n 0, 1) := by decide +kernel
theorem dX9_askedOfAll_6 : decode cX9_askedOfAll 6 = .ok (.getfield 153, 3) := by decide +kernel
theorem dX9_askedOfAll_9 : decode cX9_askedOfAll 9 = .ok (.if_icmp .ge 17, 3) := by decide +kernel
theorem dX9_askedOfAll_12 : decode cX9_askedOfAll 12 = .ok (.iload_n 1, 1) := by decide +kernel
theorem dX9_askedOfAll_13 : decode cX9_askedOfAll 13 = .ok (.aload_n 0, 1) := by decide +kernel
theorem dX9_askedOfAll_14 : decode cX9_askedOfAll 14 = .ok (.iload_n 2, 1) := by decide +kernel
theorem dX9_askedOfAll_15 : decode cX9_askedOfAll 15 = .ok (.invokevirtual 166, 3) := by decide +kernel
theorem dX9_askedOfAll_18 : decode cX9_askedOfAll 18 = .ok (.iadd, 1) := by decide +kernel
theorem dX9_askedOfAll_19 : decode cX9_askedOfAll 19 = .ok (.istore_n 1, 1) := by decide +kernel
theorem dX9_askedOfAll_20 : decode cX9_askedOfAll 20 = .ok (.iinc 2 1, 3) := by decide +kernel
theorem dX9_askedOfAll_23 : decode cX9_askedOfAll 23 = .ok (.goto (-19), 3) := by decide +kernel
theorem dX9_askedOfAll_26 : decode cX9_askedOfAll 26 = .ok (.iload_n 1, 1) := by decide +kernel
theorem dX9_askedOfAll_27 : decode cX9_askedOfAll 27 = .ok (.ireturn, 1) := by decide +kernel
theorem dX9_newFile_0 : decode cX9_newFile 0 = .ok (.aload_n 0, 1) := by decide +kernel
theorem dX9_newFile_1 : decode cX9_newFile 1 = .ok (.getfield 34, 3) := by decide +kernel
theorem dX9_newFile_4 : decode cX9_newFile 4 = .ok (.sipush 168, 3) := by decide +kernel
theorem dX9_newFile_7 : decode cX9_newFile 7 = .ok (.iaload, 1) := by decide +kernel
theorem dX9_newFile_8 : decode cX9_newFile 8 = .ok (.istore_n 3, 1) := by decide +kernel
theorem dX9_newFile_9 : decode cX9_newFile 9 = .ok (.aload_n 0, 1) := by decide +kernel
theorem dX9_newFile_10 : decode cX9_newFile 10 = .ok (.getfield 34, 3) := by decide +kernel
theorem dX9_newFile_13 : decode cX9_newFile 13 = .ok (.sipush 168, 3) := by decide +kernel
theorem dX9_newFile_16 : decode cX9_newFile 16 = .ok (.dup2, 1) := by decide +kernel
theorem dX9_newFile_17 : decode cX9_newFile 17 = .ok (.iaload, 1) := by decide +kernel
theorem dX9_newFile_18 : decode cX9_newFile 18 = .ok (.iconst 1, 1) := by decide +kernel
theorem dX9_newFile_19 : decode cX9_newFile 19 = .ok (.iadd, 1) := by decide +kernel
theorem dX9_newFile_20 : decode cX9_newFile 20 = .ok (.iastore, 1) := by decide +kernel
theorem dX9_newFile_21 : decode cX9_newFile 21 = .ok (.aload_n 0, 1) := by decide +kernel
theorem dX9_newFile_22 : decode cX9_newFile 22 = .ok (.getfield 34, 3) := by decide +kernel
theorem dX9_newFile_25 : decode cX9_newFile 25 = .ok (.bipush 48, 2) := by decide +kernel
theorem dX9_newFile_27 : decode cX9_newFile 27 = .ok (.iload_n 3, 1) := by decide +kernel
theorem dX9_newFile_28 : decode cX9_newFile 28 = .ok (.iadd, 1) := by decide +kernel
theorem dX9_newFile_29 : decode cX9_newFile 29 = .ok (.iload_n 1, 1) := by decide +kernel
theorem dX9_newFile_30 : decode cX9_newFile 30 = .ok (.iastore, 1) := by decide +kernel
theorem dX9_newFile_31 : decode cX9_newFile 31 = .ok (.aload_n 0, 1) := by decide +kernel
theorem dX9_newFile_32 : decode cX9_newFile 32 = .ok (.getfield 34, 3) := by decide +kernel
theorem dX9_newFile_35 : decode cX9_newFile 35 = .ok (.bipush 72, 2) := by decide +kernel
theorem dX9_newFile_37 : decode cX9_newFile 37 = .ok (.iload_n 3, 1) := by decide +kernel
theorem dX9_newFile_38 : decode cX9_newFile 38 = .ok (.iadd, 1) := by decide +kernel
theorem dX9_newFile_39 : decode cX9_newFile 39 = .ok (.aload_n 0, 1) := by decide +kernel
theorem dX9_newFile_40 : decode cX9_newFile 40 = .ok (.getfield 34, 3) := by decide +kernel
theorem dX9_newFile_43 : decode cX9_newFile 43 = .ok (.bipush 16, 2) := by decide +kernel
theorem dX9_newFile_45 : decode cX9_newFile 45 = .ok (.iload_n 1, 1) := by decide +kernel
theorem dX9_newFile_46 : decode cX9_newFile 46 = .ok (.iadd, 1) := by decide +kernel
theorem dX9_newFile_47 : decode cX9_newFile 47 = .ok (.iaload, 1) := by decide +kernel
theorem dX9_newFile_48 : decode cX9_newFile 48 = .ok (.iastore, 1) := by decide +kernel
theorem dX9_newFile_49 : decode cX9_newFile 49 = .ok (.aload_n 0, 1) := by decide +kernel
theorem dX9_newFile_50 : decode cX9_newFile 50 = .ok (.getfield 34, 3) := by decide +kernel
theorem dX9_newFile_53 : decode cX9_newFile 53 = .ok (.bipush 96, 2) := by decide +kernel
theorem dX9_newFile_55 : decode cX9_newFile 55 = .ok (.iload_n 3, 1) := by decide +kernel
theorem dX9_newFile_56 : decode cX9_newFile 56 = .ok (.iadd, 1) := by decide +kernel
theorem dX9_newFile_57 : decode cX9_newFile 57 = .ok (.iload_n 2, 1) := by decide +kernel
theorem dX9_newFile_58 : decode cX9_newFile 58 = .ok (.iastore, 1) := by decide +kernel
theorem dX9_newFile_59 : decode cX9_newFile 59 = .ok (.aload_n 0, 1) := by decide +kernel
theorem dX9_newFile_60 : decode cX9_newFile 60 = .ok (.getfield 34, 3) := by decide +kernel
theorem dX9_newFile_63 : decode cX9_newFile 63 = .ok (.bipush 120, 2) := by decide +kernel
theorem dX9_newFile_65 : decode cX9_newFile 65 = .ok (.iload_n 3, 1) := by decide +kernel
theorem dX9_newFile_66 : decode cX9_newFile 66 = .ok (.iadd, 1) := by decide +kernel
theorem dX9_newFile_67 : decode cX9_newFile 67 = .ok (.iconst 1, 1) := by decide +kernel
theorem dX9_newFile_68 : decode cX9_newFile 68 = .ok (.iastore, 1) := by decide +kernel
theorem dX9_newFile_69 : decode cX9_newFile 69 = .ok (.aload_n 0, 1) := by decide +kernel
theorem dX9_newFile_70 : decode cX9_newFile 70 = .ok (.getfield 34, 3) := by decide +kernel
theorem dX9_newFile_73 : decode cX9_newFile 73 = .ok (.sipush 144, 3) := by decide +kernel
theorem dX9_newFile_76 : decode cX9_newFile 76 = .ok (.iload_n 3, 1) := by decide +kernel
theorem dX9_newFile_77 : decode cX9_newFile 77 = .ok (.iadd, 1) := by decide +kernel
theorem dX9_newFile_78 : decode cX9_newFile 78 = .ok (.iconst 0, 1) := by decide +kernel
theorem dX9_newFile_79 : decode cX9_newFile 79 = .ok (.iastore, 1) := by decide +kernel
theorem dX9_newFile_80 : decode cX9_newFile 80 = .ok (.aload_n 0, 1) := by decide +kernel
theorem dX9_newFile_81 : decode cX9_newFile 81 = .ok (.getfield 34, 3) := by decide +kernel
theorem dX9_newFile_84 : decode cX9_newFile 84 = .ok (.bipush 16, 2) := by decide +kernel
theorem dX9_newFile_86 : decode cX9_newFile 86 = .ok (.iload_n 1, 1) := by decide +kernel
theorem dX9_newFile_87 : decode cX9_newFile 87 = .ok (.iadd, 1) := by decide +kernel
theorem dX9_newFile_88 : decode cX9_newFile 88 = .ok (.dup2, 1) := by decide +kernel
theorem dX9_newFile_89 : decode cX9_newFile 89 = .ok (.iaload, 1) := by decide +kernel
theorem dX9_newFile_90 : decode cX9_newFile 90 = .ok (.iload_n 2, 1) := by decide +kernel
theorem dX9_newFile_91 : decode cX9_newFile 91 = .ok (.iadd, 1) := by decide +kernel
theorem dX9_newFile_92 : decode cX9_newFile 92 = .ok (.iastore, 1) := by decide +kernel
theorem dX9_newFile_93 : decode cX9_newFile 93 = .ok (.iload_n 3, 1) := by decide +kernel
theorem dX9_newFile_94 : decode cX9_newFile 94 = .ok (.ireturn, 1) := by decide +kernel
theorem dX9_takeHall_0 : decode cX9_takeHall 0 = .ok (.aload_n 0, 1) := by decide +kernel
theorem dX9_takeHall_1 : decode cX9_takeHall 1 = .ok (.aload_n 0, 1) := by decide +kernel
theorem dX9_takeHall_2 : decode cX9_takeHall 2 = .ok (.getfield 124, 3) := by decide +kernel
theorem dX9_takeHall_5 : decode cX9_takeHall 5 = .ok (.putfield 153, 3) := by decide +kernel
theorem dX9_takeHall_8 : decode cX9_takeHall 8 = .ok (.iconst 0, 1) := by decide +kernel
theorem dX9_takeHall_9 : decode cX9_takeHall 9 = .ok (.istore_n 1, 1) := by decide +kernel
theorem dX9_takeHall_10 : decode cX9_takeHall 10 = .ok (.iload_n 1, 1) := by decide +kernel
theorem dX9_takeHall_11 : decode cX9_takeHall 11 = .ok (.bipush 8, 2) := by decide +kernel
theorem dX9_takeHall_13 : decode cX9_takeHall 13 = .ok (.if_icmp .ge 21, 3) := by decide +kernel
theorem dX9_takeHall_16 : decode cX9_takeHall 16 = .ok (.aload_n 0, 1) := by decide +kernel
theorem dX9_takeHall_17 : decode cX9_takeHall 17 = .ok (.getfield 22, 3) := by decide +kernel
theorem dX9_takeHall_20 : decode cX9_takeHall 20 = .ok (.iload_n 1, 1) := by decide +kernel
theorem dX9_takeHall_21 : decode cX9_takeHall 21 = .ok (.aload_n 0, 1) := by decide +kernel
theorem dX9_takeHall_22 : decode cX9_takeHall 22 = .ok (.getfield 13, 3) := by decide +kernel
theorem dX9_takeHall_25 : decode cX9_takeHall 25 = .ok (.iload_n 1, 1) := by decide +kernel
theorem dX9_takeHall_26 : decode cX9_takeHall 26 = .ok (.iaload, 1) := by decide +kernel
theorem dX9_takeHall_27 : decode cX9_takeHall 27 = .ok (.iastore, 1) := by decide +kernel
theorem dX9_takeHall_28 : decode cX9_takeHall 28 = .ok (.iinc 1 1, 3) := by decide +kernel
theorem dX9_takeHall_31 : decode cX9_takeHall 31 = .ok (.goto (-21), 3) := by decide +kernel
theorem dX9_takeHall_34 : decode cX9_takeHall 34 = .ok (.iconst 0, 1) := by decide +kernel
theorem dX9_takeHall_35 : decode cX9_takeHall 35 = .ok (.istore_n 1, 1) := by decide +kernel
theorem dX9_takeHall_36 : decode cX9_takeHall 36 = .ok (.iload_n 1, 1) := by decide +kernel
theorem dX9_takeHall_37 : decode cX9_takeHall 37 = .ok (.sipush 353, 3) := by decide +kernel
theorem dX9_takeHall_40 : decode cX9_takeHall 40 = .ok (.if_icmp .ge 16, 3) := by decide +kernel
theorem dX9_takeHall_43 : decode cX9_takeHall 43 = .ok (.aload_n 0, 1) := by decide +kernel
theorem dX9_takeHall_44 : decode cX9_takeHall 44 = .ok (.getfield 34, 3) := by decide +kernel
theorem dX9_takeHall_47 : decode cX9_takeHall 47 = .ok (.iload_n 1, 1) := by decide +kernel
theorem dX9_takeHall_48 : decode cX9_takeHall 48 = .ok (.iconst 0, 1) := by decide +kernel
theorem dX9_takeHall_49 : decode cX9_takeHall 49 = .ok (.iastore, 1) := by decide +kernel
theorem dX9_takeHall_50 : decode cX9_takeHall 50 = .ok (.iinc 1 1, 3) := by decide +kernel
theorem dX9_takeHall_53 : decode cX9_takeHall 53 = .ok (.goto (-17), 3) := by decide +kernel
theorem dX9_takeHall_56 : decode cX9_takeHall 56 = .ok (.iconst 0, 1) := by decide +kernel
theorem dX9_takeHall_57 : decode cX9_takeHall 57 = .ok (.istore_n 1, 1) := by decide +kernel
theorem dX9_takeHall_58 : decode cX9_takeHall 58 = .ok (.iload_n 1, 1) := by decide +kernel
theorem dX9_takeHall_59 : decode cX9_takeHall 59 = .ok (.aload_n 0, 1) := by decide +kernel
theorem dX9_takeHall_60 : decode cX9_takeHall 60 = .ok (.getfield 153, 3) := by decide +kernel
theorem dX9_takeHall_63 : decode cX9_takeHall 63 = .ok (.if_icmp .ge 61, 3) := by decide +kernel
theorem dX9_takeHall_66 : decode cX9_takeHall 66 = .ok (.aload_n 0, 1) := by decide +kernel
theorem dX9_takeHall_67 : decode cX9_takeHall 67 = .ok (.getfield 25, 3) := by decide +kernel
theorem dX9_takeHall_70 : decode cX9_takeHall 70 = .ok (.iload_n 1, 1) := by decide +kernel
theorem dX9_takeHall_71 : decode cX9_takeHall 71 = .ok (.aload_n 0, 1) := by decide +kernel
theorem dX9_takeHall_72 : decode cX9_takeHall 72 = .ok (.getfield 16, 3) := by decide +kernel
theorem dX9_takeHall_75 : decode cX9_takeHall 75 = .ok (.iconst 2, 1) := by decide +kernel
theorem dX9_takeHall_76 : decode cX9_takeHall 76 = .ok (.iload_n 1, 1) := by decide +kernel
theorem dX9_takeHall_77 : decode cX9_takeHall 77 = .ok (.imul, 1) := by decide +kernel
theorem dX9_takeHall_78 : decode cX9_takeHall 78 = .ok (.iaload, 1) := by decide +kernel
theorem dX9_takeHall_79 : decode cX9_takeHall 79 = .ok (.iastore, 1) := by decide +kernel
theorem dX9_takeHall_80 : decode cX9_takeHall 80 = .ok (.aload_n 0, 1) := by decide +kernel
theorem dX9_takeHall_81 : decode cX9_takeHall 81 = .ok (.getfield 34, 3) := by decide +kernel
theorem dX9_takeHall_84 : decode cX9_takeHall 84 = .ok (.iconst 0, 1) := by decide +kernel
theorem dX9_takeHall_85 : decode cX9_takeHall 85 = .ok (.iload_n 1, 1) := by decide +kernel
theorem dX9_takeHall_86 : decode cX9_takeHall 86 = .ok (.iadd, 1) := by decide +kernel
theorem dX9_takeHall_87 : decode cX9_takeHall 87 = .ok (.iload_n 1, 1) := by decide +kernel
theorem dX9_takeHall_88 : decode cX9_takeHall 88 = .ok (.iastore, 1) := by decide +kernel
theorem dX9_takeHall_89 : decode cX9_takeHall 89 = .ok (.aload_n 0, 1) := by decide +kernel
theorem dX9_takeHall_90 : decode cX9_takeHall 90 = .ok (.getfield 34, 3) := by decide +kernel
theorem dX9_takeHall_93 : decode cX9_takeHall 93 = .ok (.bipush 8, 2) := by decide +kernel
theorem dX9_takeHall_95 : decode cX9_takeHall 95 = .ok (.iload_n 1, 1) := by decide +kernel
theorem dX9_takeHall_96 : decode cX9_takeHall 96 = .ok (.iadd, 1) := by decide +kernel
theorem dX9_takeHall_97 : decode cX9_takeHall 97 = .ok (.iconst (-1), 1) := by decide +kernel
theorem dX9_takeHall_98 : decode cX9_takeHall 98 = .ok (.iastore, 1) := by decide +kernel
theorem dX9_takeHall_99 : decode cX9_takeHall 99 = .ok (.aload_n 0, 1) := by decide +kernel
theorem dX9_takeHall_100 : decode cX9_takeHall 100 = .ok (.getfield 34, 3) := by decide +kernel
theorem dX9_takeHall_103 : decode cX9_takeHall 103 = .ok (.bipush 24, 2) := by decide +kernel
theorem dX9_takeHall_105 : decode cX9_takeHall 105 = .ok (.iload_n 1, 1) := by decide +kernel
theorem dX9_takeHall_106 : decode cX9_takeHall 106 = .ok (.iadd, 1) := by decide +kernel
theorem dX9_takeHall_107 : decode cX9_takeHall 107 = .ok (.aload_n 0, 1) := by decide +kernel
theorem dX9_takeHall_108 : decode cX9_takeHall 108 = .ok (.getfield 16, 3) := by decide +kernel
theorem dX9_takeHall_111 : decode cX9_takeHall 111 = .ok (.iconst 2, 1) := by decide +kernel
theorem dX9_takeHall_112 : decode cX9_takeHall 112 = .ok (.iload_n 1, 1) := by decide +kernel
theorem dX9_takeHall_113 : decode cX9_takeHall 113 = .ok (.imul, 1) := by decide +kernel
theorem dX9_takeHall_114 : decode cX9_takeHall 114 = .ok (.iconst 1, 1) := by decide +kernel
theorem dX9_takeHall_115 : decode cX9_takeHall 115 = .ok (.iadd, 1) := by decide +kernel
theorem dX9_takeHall_116 : decode cX9_takeHall 116 = .ok (.iaload, 1) := by decide +kernel
theorem dX9_takeHall_117 : decode cX9_takeHall 117 = .ok (.iastore, 1) := by decide +kernel
theorem dX9_takeHall_118 : decode cX9_takeHall 118 = .ok (.iinc 1 1, 3) := by decide +kernel
theorem dX9_takeHall_121 : decode cX9_takeHall 121 = .ok (.goto (-63), 3) := by decide +kernel
theorem dX9_takeHall_124 : decode cX9_takeHall 124 = .ok (.iconst 0, 1) := by decide +kernel
theorem dX9_takeHall_125 : decode cX9_takeHall 125 = .ok (.istore_n 1, 1) := by decide +kernel
theorem dX9_takeHall_126 : decode cX9_takeHall 126 = .ok (.iload_n 1, 1) := by decide +kernel
theorem dX9_takeHall_127 : decode cX9_takeHall 127 = .ok (.aload_n 0, 1) := by decide +kernel
theorem dX9_takeHall_128 : decode cX9_takeHall 128 = .ok (.getfield 127, 3) := by decide +kernel
theorem dX9_takeHall_131 : decode cX9_takeHall 131 = .ok (.if_icmp .ge 69, 3) := by decide +kernel
theorem dX9_takeHall_134 : decode cX9_takeHall 134 = .ok (.aload_n 0, 1) := by decide +kernel
theorem dX9_takeHall_135 : decode cX9_takeHall 135 = .ok (.getfield 19, 3) := by decide +kernel
theorem dX9_takeHall_138 : decode cX9_takeHall 138 = .ok (.iconst 2, 1) := by decide +kernel
theorem dX9_takeHall_139 : decode cX9_takeHall 139 = .ok (.iload_n 1, 1) := by decide +kernel
theorem dX9_takeHall_140 : decode cX9_takeHall 140 = .ok (.imul, 1) := by decide +kernel
theorem dX9_takeHall_141 : decode cX9_takeHall 141 = .ok (.iaload, 1) := by decide +kernel
theorem dX9_takeHall_142 : decode cX9_takeHall 142 = .ok (.istore_n 2, 1) := by decide +kernel
theorem dX9_takeHall_143 : decode cX9_takeHall 143 = .ok (.aload_n 0, 1) := by decide +kernel
theorem dX9_takeHall_144 : decode cX9_takeHall 144 = .ok (.iload_n 2, 1) := by decide +kernel
theorem dX9_takeHall_145 : decode cX9_takeHall 145 = .ok (.invokevirtual 169, 3) := by decide +kernel
theorem dX9_takeHall_148 : decode cX9_takeHall 148 = .ok (.ifCond .eq 46, 3) := by decide +kernel
theorem dX9_takeHall_151 : decode cX9_takeHall 151 = .ok (.aload_n 0, 1) := by decide +kernel
theorem dX9_takeHall_152 : decode cX9_takeHall 152 = .ok (.getfield 34, 3) := by decide +kernel
theorem dX9_takeHall_155 : decode cX9_takeHall 155 = .ok (.bipush 16, 2) := by decide +kernel
theorem dX9_takeHall_157 : decode cX9_takeHall 157 = .ok (.iload_n 2, 1) := by decide +kernel
theorem dX9_takeHall_158 : decode cX9_takeHall 158 = .ok (.iadd, 1) := by decide +kernel
theorem dX9_takeHall_159 : decode cX9_takeHall 159 = .ok (.iaload, 1) := by decide +kernel
theorem dX9_takeHall_160 : decode cX9_takeHall 160 = .ok (.aload_n 0, 1) := by decide +kernel
theorem dX9_takeHall_161 : decode cX9_takeHall 161 = .ok (.getfield 19, 3) := by decide +kernel
theorem dX9_takeHall_164 : decode cX9_takeHall 164 = .ok (.iconst 2, 1) := by decide +kernel
theorem dX9_takeHall_165 : decode cX9_takeHall 165 = .ok (.iload_n 1, 1) := by decide +kernel
theorem dX9_takeHall_166 : decode cX9_takeHall 166 = .ok (.imul, 1) := by decide +kernel
theorem dX9_takeHall_167 : decode cX9_takeHall 167 = .ok (.iconst 1, 1) := by decide +kernel
theorem dX9_takeHall_168 : decode cX9_takeHall 168 = .ok (.iadd, 1) := by decide +kernel
theorem dX9_takeHall_169 : decode cX9_takeHall 169 = .ok (.iaload, 1) := by decide +kernel
theorem dX9_takeHall_170 : decode cX9_takeHall 170 = .ok (.iadd, 1) := by decide +kernel
theorem dX9_takeHall_171 : decode cX9_takeHall 171 = .ok (.aload_n 0, 1) := by decide +kernel
theorem dX9_takeHall_172 : decode cX9_takeHall 172 = .ok (.invokevirtual 172, 3) := by decide +kernel
theorem dX9_takeHall_175 : decode cX9_takeHall 175 = .ok (.if_icmp .gt 19, 3) := by decide +kernel
theorem dX9_takeHall_178 : decode cX9_takeHall 178 = .ok (.aload_n 0, 1) := by decide +kernel
theorem dX9_takeHall_179 : decode cX9_takeHall 179 = .ok (.iload_n 2, 1) := by decide +kernel
theorem dX9_takeHall_180 : decode cX9_takeHall 180 = .ok (.aload_n 0, 1) := by decide +kernel
theorem dX9_takeHall_181 : decode cX9_takeHall 181 = .ok (.getfield 19, 3) := by decide +kernel
theorem dX9_takeHall_184 : decode cX9_takeHall 184 = .ok (.iconst 2, 1) := by decide +kernel
theorem dX9_takeHall_185 : decode cX9_takeHall 185 = .ok (.iload_n 1, 1) := by decide +kernel
theorem dX9_takeHall_186 : decode cX9_takeHall 186 = .ok (.imul, 1) := by decide +kernel
theorem dX9_takeHall_187 : decode cX9_takeHall 187 = .ok (.iconst 1, 1) := by decide +kernel
theorem dX9_takeHall_188 : decode cX9_takeHall 188 = .ok (.iadd, 1) := by decide +kernel
theorem dX9_takeHall_189 : decode cX9_takeHall 189 = .ok (.iaload, 1) := by decide +kernel
theorem dX9_takeHall_190 : decode cX9_takeHall 190 = .ok (.invokevirtual 175, 3) := by decide +kernel
theorem dX9_takeHall_193 : decode cX9_takeHall 193 = .ok (.pop, 1) := by decide +kernel
theorem dX9_takeHall_194 : decode cX9_takeHall 194 = .ok (.iinc 1 1, 3) := by decide +kernel
theorem dX9_takeHall_197 : decode cX9_takeHall 197 = .ok (.goto (-71), 3) := by decide +kernel
theorem dX9_takeHall_200 : decode cX9_takeHall 200 = .ok (.aload_n 0, 1) := by decide +kernel
theorem dX9_takeHall_201 : decode cX9_takeHall 201 = .ok (.iconst 0, 1) := by decide +kernel
theorem dX9_takeHall_202 : decode cX9_takeHall 202 = .ok (.putfield 178, 3) := by decide +kernel
theorem dX9_takeHall_205 : decode cX9_takeHall 205 = .ok (.aload_n 0, 1) := by decide +kernel
theorem dX9_takeHall_206 : decode cX9_takeHall 206 = .ok (.iconst 0, 1) := by decide +kernel
theorem dX9_takeHall_207 : decode cX9_takeHall 207 = .ok (.putfield 181, 3) := by decide +kernel
theorem dX9_takeHall_210 : decode cX9_takeHall 210 = .ok (.aload_n 0, 1) := by decide +kernel
theorem dX9_takeHall_211 : decode cX9_takeHall 211 = .ok (.getfield 153, 3) := by decide +kernel
theorem dX9_takeHall_214 : decode cX9_takeHall 214 = .ok (.ireturn, 1) := by decide +kernel
theorem dX9_text_0 : decode cX9_text 0 = .ok (.iload_n 1, 1) := by decide +kernel
theorem dX9_text_1 : decode cX9_text 1 = .ok (.ifCond .ne 21, 3) := by decide +kernel
theorem dX9_text_4 : decode cX9_text 4 = .ok (.aload_n 0, 1) := by decide +kernel
theorem dX9_text_5 : decode cX9_text 5 = .ok (.invokevirtual 147, 3) := by decide +kernel
theorem dX9_text_8 : decode cX9_text 8 = .ok (.iconst (-1), 1) := by decide +kernel
theorem dX9_text_9 : decode cX9_text 9 = .ok (.if_icmp .ne 13, 3) := by decide +kernel
theorem dX9_text_12 : decode cX9_text 12 = .ok (.aload_n 0, 1) := by decide +kernel
theorem dX9_text_13 : decode cX9_text 13 = .ok (.iconst 0, 1) := by decide +kernel
theorem dX9_text_14 : decode cX9_text 14 = .ok (.putfield 73, 3) := by decide +kernel
theorem dX9_text_17 : decode cX9_text 17 = .ok (.aload_n 0, 1) := by decide +kernel
theorem dX9_text_18 : decode cX9_text 18 = .ok (.invokevirtual 185, 3) := by decide +kernel
theorem dX9_text_21 : decode cX9_text 21 = .ok (.ireturn, 1) := by decide +kernel
theorem dX9_text_22 : decode cX9_text 22 = .ok (.iload_n 1, 1) := by decide +kernel
theorem dX9_text_23 : decode cX9_text 23 = .ok (.iconst 1, 1) := by decide +kernel
theorem dX9_text_24 : decode cX9_text 24 = .ok (.if_icmp .ne 45, 3) := by decide +kernel
theorem dX9_text_27 : decode cX9_text 27 = .ok (.aload_n 0, 1) := by decide +kernel
theorem dX9_text_28 : decode cX9_text 28 = .ok (.getfield 188, 3) := by decide +kernel
theorem dX9_text_31 : decode cX9_text 31 = .ok (.iconst 4, 1) := by decide +kernel
theorem dX9_text_32 : decode cX9_text 32 = .ok (.if_icmp .ge 37, 3) := by decide +kernel
theorem dX9_text_35 : decode cX9_text 35 = .ok (.aload_n 0, 1) := by decide +kernel
theorem dX9_text_36 : decode cX9_text 36 = .ok (.aload_n 0, 1) := by decide +kernel
theorem dX9_text_37 : decode cX9_text 37 = .ok (.getfield 188, 3) := by decide +kernel
theorem dX9_text_40 : decode cX9_text 40 = .ok (.invokevirtual 150, 3) := by decide +kernel
theorem dX9_text_43 : decode cX9_text 43 = .ok (.iconst (-1), 1) := by decide +kernel
theorem dX9_text_44 : decode cX9_text 44 = .ok (.if_icmp .ne 25, 3) := by decide +kernel
theorem dX9_text_47 : decode cX9_text 47 = .ok (.aload_n 0, 1) := by decide +kernel
theorem dX9_text_48 : decode cX9_text 48 = .ok (.iconst 0, 1) := by decide +kernel
theorem dX9_text_49 : decode cX9_text 49 = .ok (.putfield 73, 3) := by decide +kernel
theorem dX9_text_52 : decode cX9_text 52 = .ok (.aload_n 0, 1) := by decide +kernel
theorem dX9_text_53 : decode cX9_text 53 = .ok (.dup, 1) := by decide +kernel
theorem dX9_text_54 : decode cX9_text 54 = .ok (.getfield 188, 3) := by decide +kernel
theorem dX9_text_57 : decode cX9_text 57 = .ok (.iconst 1, 1) := by decide +kernel
theorem dX9_text_58 : decode cX9_text 58 = .ok (.iadd, 1) := by decide +kernel
theorem dX9_text_59 : decode cX9_text 59 = .ok (.putfield 188, 3) := by decide +kernel
theorem dX9_text_62 : decode cX9_text 62 = .ok (.aload_n 0, 1) := by decide +kernel
theorem dX9_text_63 : decode cX9_text 63 = .ok (.getfield 188, 3) := by decide +kernel
theorem dX9_text_66 : decode cX9_text 66 = .ok (.iconst 1, 1) := by decide +kernel
theorem dX9_text_67 : decode cX9_text 67 = .ok (.isub, 1) := by decide +kernel
theorem dX9_text_68 : decode cX9_text 68 = .ok (.ireturn, 1) := by decide +kernel
theorem dX9_text_69 : decode cX9_text 69 = .ok (.iconst (-1), 1) := by decide +kernel
theorem dX9_text_70 : decode cX9_text 70 = .ok (.ireturn, 1) := by decide +kernel
theorem dX9_wrapOf_0 : decode cX9_wrapOf 0 = .ok (.iload_n 1, 1) := by decide +kernel
theorem dX9_wrapOf_1 : decode cX9_wrapOf 1 = .ok (.aload_n 0, 1) := by decide +kernel
theorem dX9_wrapOf_2 : decode cX9_wrapOf 2 = .ok (.getfield 22, 3) := by decide +kernel
theorem dX9_wrapOf_5 : decode cX9_wrapOf 5 = .ok (.iconst 2, 1) := by decide +kernel
theorem dX9_wrapOf_6 : decode cX9_wrapOf 6 = .ok (.iaload, 1) := by decide +kernel
theorem dX9_wrapOf_7 : decode cX9_wrapOf 7 = .ok (.idiv, 1) := by decide +kernel
theorem dX9_wrapOf_8 : decode cX9_wrapOf 8 = .ok (.ireturn, 1) := by decide +kernel
theorem dX9_spotOf_0 : decode cX9_spotOf 0 = .ok (.iload_n 1, 1) := by decide +kernel
theorem dX9_spotOf_1 : decode cX9_spotOf 1 = .ok (.aload_n 0, 1) := by decide +kernel
theorem dX9_spotOf_2 : decode cX9_spotOf 2 = .ok (.getfield 22, 3) := by decide +kernel
theorem dX9_spotOf_5 : decode cX9_spotOf 5 = .ok (.iconst 2, 1) := by decide +kernel
theorem dX9_spotOf_6 : decode cX9_spotOf 6 = .ok (.iaload, 1) := by decide +kernel
theorem dX9_spotOf_7 : decode cX9_spotOf 7 = .ok (.irem, 1) := by decide +kernel
theorem dX9_spotOf_8 : decode cX9_spotOf 8 = .ok (.istore_n 2, 1) := by decide +kernel
theorem dX9_spotOf_9 : decode cX9_spotOf 9 = .ok (.aload_n 0, 1) := by decide +kernel
theorem dX9_spotOf_10 : decode cX9_spotOf 10 = .ok (.iload_n 1, 1) := by decide +kernel
theorem dX9_spotOf_11 : decode cX9_spotOf 11 = .ok (.invokevirtual 191, 3) := by decide +kernel
theorem dX9_spotOf_14 : decode cX9_spotOf 14 = .ok (.iconst 2, 1) := by decide +kernel
theorem dX9_spotOf_15 : decode cX9_spotOf 15 = .ok (.irem, 1) := by decide +kernel
theorem dX9_spotOf_16 : decode cX9_spotOf 16 = .ok (.iconst 1, 1) := by decide +kernel
theorem dX9_spotOf_17 : decode cX9_spotOf 17 = .ok (.if_icmp .ne 16, 3) := by decide +kernel
theorem dX9_spotOf_20 : decode cX9_spotOf 20 = .ok (.aload_n 0, 1) := by decide +kernel
theorem dX9_spotOf_21 : decode cX9_spotOf 21 = .ok (.getfield 22, 3) := by decide +kernel
theorem dX9_spotOf_24 : decode cX9_spotOf 24 = .ok (.iconst 2, 1) := by decide +kernel
theorem dX9_spotOf_25 : decode cX9_spotOf 25 = .ok (.iaload, 1) := by decide +kernel
theorem dX9_spotOf_26 : decode cX9_spotOf 26 = .ok (.iconst 1, 1) := by decide +kernel
theorem dX9_spotOf_27 : decode cX9_spotOf 27 = .ok (.isub, 1) := by decide +kernel
theorem dX9_spotOf_28 : decode cX9_spotOf 28 = .ok (.iload_n 2, 1) := by decide +kernel
theorem dX9_spotOf_29 : decode cX9_spotOf 29 = .ok (.isub, 1) := by decide +kernel
theorem dX9_spotOf_30 : decode cX9_spotOf 30 = .ok (.goto 4, 3) := by decide +kernel
theorem dX9_spotOf_33 : decode cX9_spotOf 33 = .ok (.iload_n 2, 1) := by decide +kernel
theorem dX9_spotOf_34 : decode cX9_spotOf 34 = .ok (.ireturn, 1) := by decide +kernel
theorem dX9_seekOf_0 : decode cX9_seekOf 0 = .ok (.aload_n 0, 1) := by decide +kernel
theorem dX9_seekOf_1 : decode cX9_seekOf 1 = .ok (.iload_n 1, 1) := by decide +kernel
theorem dX9_seekOf_2 : decode cX9_seekOf 2 = .ok (.invokevirtual 194, 3) := by decide +kernel
theorem dX9_seekOf_5 : decode cX9_seekOf 5 = .ok (.aload_n 0, 1) := by decide +kernel
theorem dX9_seekOf_6 : decode cX9_seekOf 6 = .ok (.iload_n 2, 1) := by decide +kernel
theorem dX9_seekOf_7 : decode cX9_seekOf 7 = .ok (.invokevirtual 194, 3) := by decide +kernel
theorem dX9_seekOf_10 : decode cX9_seekOf 10 = .ok (.invokestatic 197, 3) := by decide +kernel
theorem dX9_seekOf_13 : decode cX9_seekOf 13 = .ok (.aload_n 0, 1) := by decide +kernel
theorem dX9_seekOf_14 : decode cX9_seekOf 14 = .ok (.iload_n 1, 1) := by decide +kernel
theorem dX9_seekOf_15 : decode cX9_seekOf 15 = .ok (.invokevirtual 191, 3) := by decide +kernel
theorem dX9_seekOf_18 : decode cX9_seekOf 18 = .ok (.aload_n 0, 1) := by decide +kernel
theorem dX9_seekOf_19 : decode cX9_seekOf 19 = .ok (.iload_n 2, 1) := by decide +kernel
theorem dX9_seekOf_20 : decode cX9_seekOf 20 = .ok (.invokevirtual 191, 3) := by decide +kernel
theorem dX9_seekOf_23 : decode cX9_seekOf 23 = .ok (.if_icmp .eq 7, 3) := by decide +kernel
theorem dX9_seekOf_26 : decode cX9_seekOf 26 = .ok (.iconst 2, 1) := by decide +kernel
theorem dX9_seekOf_27 : decode cX9_seekOf 27 = .ok (.goto 4, 3) := by decide +kernel
theorem dX9_seekOf_30 : decode cX9_seekOf 30 = .ok (.iconst 0, 1) := by decide +kernel
theorem dX9_seekOf_31 : decode cX9_seekOf 31 = .ok (.iadd, 1) := by decide +kernel
theorem dX9_seekOf_32 : decode cX9_seekOf 32 = .ok (.ireturn, 1) := by decide +kernel
theorem dX9_armTo_0 : decode cX9_armTo 0 = .ok (.aload_n 0, 1) := by decide +kernel
theorem dX9_armTo_1 : decode cX9_armTo 1 = .ok (.getfield 34, 3) := by decide +kernel
theorem dX9_armTo_4 : decode cX9_armTo 4 = .ok (.sipush 170, 3) := by decide +kernel
theorem dX9_armTo_7 : decode cX9_armTo 7 = .ok (.dup2, 1) := by decide +kernel
theorem dX9_armTo_8 : decode cX9_armTo 8 = .ok (.iaload, 1) := by decide +kernel
theorem dX9_armTo_9 : decode cX9_armTo 9 = .ok (.aload_n 0, 1) := by decide +kernel
theorem dX9_armTo_10 : decode cX9_armTo 10 = .ok (.getfield 22, 3) := by decide +kernel
theorem dX9_armTo_13 : decode cX9_armTo 13 = .ok (.iconst 5, 1) := by decide +kernel
theorem dX9_armTo_14 : decode cX9_armTo 14 = .ok (.iaload, 1) := by decide +kernel
theorem dX9_armTo_15 : decode cX9_armTo 15 = .ok (.iload_n 1, 1) := by decide +kernel
theorem dX9_armTo_16 : decode cX9_armTo 16 = .ok (.aload_n 0, 1) := by decide +kernel
theorem dX9_armTo_17 : decode cX9_armTo 17 = .ok (.getfield 34, 3) := by decide +kernel
theorem dX9_armTo_20 : decode cX9_armTo 20 = .ok (.sipush 169, 3) := by decide +kernel
theorem dX9_armTo_23 : decode cX9_armTo 23 = .ok (.iaload, 1) := by decide +kernel
theorem dX9_armTo_24 : decode cX9_armTo 24 = .ok (.invokestatic 197, 3) := by decide +kernel
theorem dX9_armTo_27 : decode cX9_armTo 27 = .ok (.imul, 1) := by decide +kernel
theorem dX9_armTo_28 : decode cX9_armTo 28 = .ok (.iadd, 1) := by decide +kernel
theorem dX9_armTo_29 : decode cX9_armTo 29 = .ok (.iastore, 1) := by decide +kernel
theorem dX9_armTo_30 : decode cX9_armTo 30 = .ok (.aload_n 0, 1) := by decide +kernel
theorem dX9_armTo_31 : decode cX9_armTo 31 = .ok (.getfield 34, 3) := by decide +kernel
theorem dX9_armTo_34 : decode cX9_armTo 34 = .ok (.sipush 169, 3) := by decide +kernel
theorem dX9_armTo_37 : decode cX9_armTo 37 = .ok (.iload_n 1, 1) := by decide +kernel
theorem dX9_armTo_38 : decode cX9_armTo 38 = .ok (.iastore, 1) := by decide +kernel
theorem dX9_armTo_39 : decode cX9_armTo 39 = .ok (.return_, 1) := by decide +kernel
theorem dX9_unmounts_0 : decode cX9_unmounts 0 = .ok (.aload_n 0, 1) := by decide +kernel
theorem dX9_unmounts_1 : decode cX9_unmounts 1 = .ok (.getfield 34, 3) := by decide +kernel
theorem dX9_unmounts_4 : decode cX9_unmounts 4 = .ok (.sipush 170, 3) := by decide +kernel
theorem dX9_unmounts_7 : decode cX9_unmounts 7 = .ok (.dup2, 1) := by decide +kernel
theorem dX9_unmounts_8 : decode cX9_unmounts 8 = .ok (.iaload, 1) := by decide +kernel
theorem dX9_unmounts_9 : decode cX9_unmounts 9 = .ok (.aload_n 0, 1) := by decide +kernel
theorem dX9_unmounts_10 : decode cX9_unmounts 10 = .ok (.aload_n 0, 1) := by decide +kernel
theorem dX9_unmounts_11 : decode cX9_unmounts 11 = .ok (.getfield 34, 3) := by decide +kernel
theorem dX9_unmounts_14 : decode cX9_unmounts 14 = .ok (.bipush 8, 2) := by decide +kernel
theorem dX9_unmounts_16 : decode cX9_unmounts 16 = .ok (.iload_n 1, 1) := by decide +kernel
theorem dX9_unmounts_17 : decode cX9_unmounts 17 = .ok (.iadd, 1) := by decide +kernel
theorem dX9_unmounts_18 : decode cX9_unmounts 18 = .ok (.iaload, 1) := by decide +kernel
theorem dX9_unmounts_19 : decode cX9_unmounts 19 = .ok (.iconst 0, 1) := by decide +kernel
theorem dX9_unmounts_20 : decode cX9_unmounts 20 = .ok (.invokevirtual 200, 3) := by decide +kernel
theorem dX9_unmounts_23 : decode cX9_unmounts 23 = .ok (.aload_n 0, 1) := by decide +kernel
theorem dX9_unmounts_24 : decode cX9_unmounts 24 = .ok (.getfield 22, 3) := by decide +kernel
theorem dX9_unmounts_27 : decode cX9_unmounts 27 = .ok (.iconst 4, 1) := by decide +kernel
theorem dX9_unmounts_28 : decode cX9_unmounts 28 = .ok (.iaload, 1) := by decide +kernel
theorem dX9_unmounts_29 : decode cX9_unmounts 29 = .ok (.iadd, 1) := by decide +kernel
theorem dX9_unmounts_30 : decode cX9_unmounts 30 = .ok (.iadd, 1) := by decide +kernel
theorem dX9_unmounts_31 : decode cX9_unmounts 31 = .ok (.iastore, 1) := by decide +kernel
theorem dX9_unmounts_32 : decode cX9_unmounts 32 = .ok (.aload_n 0, 1) := by decide +kernel
theorem dX9_unmounts_33 : decode cX9_unmounts 33 = .ok (.aload_n 0, 1) := by decide +kernel
theorem dX9_unmounts_34 : decode cX9_unmounts 34 = .ok (.getfield 34, 3) := by decide +kernel
theorem dX9_unmounts_37 : decode cX9_unmounts 37 = .ok (.iconst 0, 1) := by decide +kernel
theorem dX9_unmounts_38 : decode cX9_unmounts 38 = .ok (.iload_n 1, 1) := by decide +kernel
theorem dX9_unmounts_39 : decode cX9_unmounts 39 = .ok (.iadd, 1) := by decide +kernel
theorem dX9_unmounts_40 : decode cX9_unmounts 40 = .ok (.iaload, 1) := by decide +kernel
theorem dX9_unmounts_41 : decode cX9_unmounts 41 = .ok (.invokevirtual 203, 3) := by decide +kernel
theorem dX9_unmounts_44 : decode cX9_unmounts 44 = .ok (.aload_n 0, 1) := by decide +kernel
theorem dX9_unmounts_45 : decode cX9_unmounts 45 = .ok (.iload_n 1, 1) := by decide +kernel
theorem dX9_unmounts_46 : decode cX9_unmounts 46 = .ok (.invokevirtual 203, 3) := by decide +kernel
theorem dX9_unmounts_49 : decode cX9_unmounts 49 = .ok (.aload_n 0, 1) := by decide +kernel
theorem dX9_unmounts_50 : decode cX9_unmounts 50 = .ok (.getfield 34, 3) := by decide +kernel
theorem dX9_unmounts_53 : decode cX9_unmounts 53 = .ok (.iconst 0, 1) := by decide +kernel
theorem dX9_unmounts_54 : decode cX9_unmounts 54 = .ok (.iload_n 1, 1) := by decide +kernel
theorem dX9_unmounts_55 : decode cX9_unmounts 55 = .ok (.iadd, 1) := by decide +kernel
theorem dX9_unmounts_56 : decode cX9_unmounts 56 = .ok (.iload_n 1, 1) := by decide +kernel
theorem dX9_unmounts_57 : decode cX9_unmounts 57 = .ok (.iastore, 1) := by decide +kernel
theorem dX9_unmounts_58 : decode cX9_unmounts 58 = .ok (.aload_n 0, 1) := by decide +kernel
theorem dX9_unmounts_59 : decode cX9_unmounts 59 = .ok (.getfield 34, 3) := by decide +kernel
theorem dX9_unmounts_62 : decode cX9_unmounts 62 = .ok (.bipush 8, 2) := by decide +kernel
theorem dX9_unmounts_64 : decode cX9_unmounts 64 = .ok (.iload_n 1, 1) := by decide +kernel
theorem dX9_unmounts_65 : decode cX9_unmounts 65 = .ok (.iadd, 1) := by decide +kernel
theorem dX9_unmounts_66 : decode cX9_unmounts 66 = .ok (.iconst (-1), 1) := by decide +kernel
theorem dX9_unmounts_67 : decode cX9_unmounts 67 = .ok (.iastore, 1) := by decide +kernel
theorem dX9_unmounts_68 : decode cX9_unmounts 68 = .ok (.return_, 1) := by decide +kernel
theorem dX9_inDrive_0 : decode cX9_inDrive 0 = .ok (.iconst 0, 1) := by decide +kernel
theorem dX9_inDrive_1 : decode cX9_inDrive 1 = .ok (.istore_n 2, 1) := by decide +kernel
theorem dX9_inDrive_2 : decode cX9_inDrive 2 = .ok (.iload_n 2, 1) := by decide +kernel
theorem dX9_inDrive_3 : decode cX9_inDrive 3 = .ok (.aload_n 0, 1) := by decide +kernel
theorem dX9_inDrive_4 : decode cX9_inDrive 4 = .ok (.getfield 153, 3) := by decide +kernel
theorem dX9_inDrive_7 : decode cX9_inDrive 7 = .ok (.if_icmp .ge 30, 3) := by decide +kernel
theorem dX9_inDrive_10 : decode cX9_inDrive 10 = .ok (.aload_n 0, 1) := by decide +kernel
theorem dX9_inDrive_11 : decode cX9_inDrive 11 = .ok (.getfield 34, 3) := by decide +kernel
theorem dX9_inDrive_14 : decode cX9_inDrive 14 = .ok (.iconst 0, 1) := by decide +kernel
theorem dX9_inDrive_15 : decode cX9_inDrive 15 = .ok (.iload_n 2, 1) := by decide +kernel
theorem dX9_inDrive_16 : decode cX9_inDrive 16 = .ok (.iadd, 1) := by decide +kernel
theorem dX9_inDrive_17 : decode cX9_inDrive 17 = .ok (.iaload, 1) := by decide +kernel
theorem dX9_inDrive_18 : decode cX9_inDrive 18 = .ok (.aload_n 0, 1) := by decide +kernel
theorem dX9_inDrive_19 : decode cX9_inDrive 19 = .ok (.getfield 22, 3) := by decide +kernel
theorem dX9_inDrive_22 : decode cX9_inDrive 22 = .ok (.iconst 0, 1) := by decide +kernel
theorem dX9_inDrive_23 : decode cX9_inDrive 23 = .ok (.iaload, 1) := by decide +kernel
theorem dX9_inDrive_24 : decode cX9_inDrive 24 = .ok (.iload_n 1, 1) := by decide +kernel
theorem dX9_inDrive_25 : decode cX9_inDrive 25 = .ok (.iadd, 1) := by decide +kernel
theorem dX9_inDrive_26 : decode cX9_inDrive 26 = .ok (.if_icmp .ne 5, 3) := by decide +kernel
theorem dX9_inDrive_29 : decode cX9_inDrive 29 = .ok (.iload_n 2, 1) := by decide +kernel
theorem dX9_inDrive_30 : decode cX9_inDrive 30 = .ok (.ireturn, 1) := by decide +kernel
theorem dX9_inDrive_31 : decode cX9_inDrive 31 = .ok (.iinc 2 1, 3) := by decide +kernel
theorem dX9_inDrive_34 : decode cX9_inDrive 34 = .ok (.goto (-32), 3) := by decide +kernel
theorem dX9_inDrive_37 : decode cX9_inDrive 37 = .ok (.iconst (-1), 1) := by decide +kernel
theorem dX9_inDrive_38 : decode cX9_inDrive 38 = .ok (.ireturn, 1) := by decide +kernel
theorem dX9_emptyDrive_0 : decode cX9_emptyDrive 0 = .ok (.iconst 0, 1) := by decide +kernel
theorem dX9_emptyDrive_1 : decode cX9_emptyDrive 1 = .ok (.istore_n 1, 1) := by decide +kernel
theorem dX9_emptyDrive_2 : decode cX9_emptyDrive 2 = .ok (.iload_n 1, 1) := by decide +kernel
theorem dX9_emptyDrive_3 : decode cX9_emptyDrive 3 = .ok (.aload_n 0, 1) := by decide +kernel
theorem dX9_emptyDrive_4 : decode cX9_emptyDrive 4 = .ok (.getfield 22, 3) := by decide +kernel
theorem dX9_emptyDrive_7 : decode cX9_emptyDrive 7 = .ok (.iconst 1, 1) := by decide +kernel
theorem dX9_emptyDrive_8 : decode cX9_emptyDrive 8 = .ok (.iaload, 1) := by decide +kernel
theorem dX9_emptyDrive_9 : decode cX9_emptyDrive 9 = .ok (.if_icmp .ge 20, 3) := by decide +kernel
theorem dX9_emptyDrive_12 : decode cX9_emptyDrive 12 = .ok (.aload_n 0, 1) := by decide +kernel
theorem dX9_emptyDrive_13 : decode cX9_emptyDrive 13 = .ok (.iload_n 1, 1) := by decide +kernel
theorem dX9_emptyDrive_14 : decode cX9_emptyDrive 14 = .ok (.invokevirtual 206, 3) := by decide +kernel
theorem dX9_emptyDrive_17 : decode cX9_emptyDrive 17 = .ok (.iconst (-1), 1) := by decide +kernel
theorem dX9_emptyDrive_18 : decode cX9_emptyDrive 18 = .ok (.if_icmp .ne 5, 3) := by decide +kernel
theorem dX9_emptyDrive_21 : decode cX9_emptyDrive 21 = .ok (.iload_n 1, 1) := by decide +kernel
theorem dX9_emptyDrive_22 : decode cX9_emptyDrive 22 = .ok (.ireturn, 1) := by decide +kernel
theorem dX9_emptyDrive_23 : decode cX9_emptyDrive 23 = .ok (.iinc 1 1, 3) := by decide +kernel
theorem dX9_emptyDrive_26 : decode cX9_emptyDrive 26 = .ok (.goto (-24), 3) := by decide +kernel
theorem dX9_emptyDrive_29 : decode cX9_emptyDrive 29 = .ok (.iconst (-1), 1) := by decide +kernel
theorem dX9_emptyDrive_30 : decode cX9_emptyDrive 30 = .ok (.ireturn, 1) := by decide +kernel
theorem dX9_oldest_0 : decode cX9_oldest 0 = .ok (.iconst (-1), 1) := by decide +kernel
theorem dX9_oldest_1 : decode cX9_oldest 1 = .ok (.istore_n 1, 1) := by decide +kernel
theorem dX9_oldest_2 : decode cX9_oldest 2 = .ok (.iconst 0, 1) := by decide +kernel
theorem dX9_oldest_3 : decode cX9_oldest 3 = .ok (.istore_n 2, 1) := by decide +kernel
theorem dX9_oldest_4 : decode cX9_oldest 4 = .ok (.iload_n 2, 1) := by decide +kernel
theorem dX9_oldest_5 : decode cX9_oldest 5 = .ok (.aload_n 0, 1) := by decide +kernel
theorem dX9_oldest_6 : decode cX9_oldest 6 = .ok (.getfield 153, 3) := by decide +kernel
theorem dX9_oldest_9 : decode cX9_oldest 9 = .ok (.if_icmp .ge 49, 3) := by decide +kernel
theorem dX9_oldest_12 : decode cX9_oldest 12 = .ok (.aload_n 0, 1) := by decide +kernel
theorem dX9_oldest_13 : decode cX9_oldest 13 = .ok (.iload_n 2, 1) := by decide +kernel
theorem dX9_oldest_14 : decode cX9_oldest 14 = .ok (.invokevirtual 209, 3) := by decide +kernel
theorem dX9_oldest_17 : decode cX9_oldest 17 = .ok (.ifCond .eq 35, 3) := by decide +kernel
theorem dX9_oldest_20 : decode cX9_oldest 20 = .ok (.iload_n 1, 1) := by decide +kernel
theorem dX9_oldest_21 : decode cX9_oldest 21 = .ok (.iconst (-1), 1) := by decide +kernel
theorem dX9_oldest_22 : decode cX9_oldest 22 = .ok (.if_icmp .eq 24, 3) := by decide +kernel
theorem dX9_oldest_25 : decode cX9_oldest 25 = .ok (.aload_n 0, 1) := by decide +kernel
theorem dX9_oldest_26 : decode cX9_oldest 26 = .ok (.getfield 34, 3) := by decide +kernel
theorem dX9_oldest_29 : decode cX9_oldest 29 = .ok (.bipush 40, 2) := by decide +kernel
theorem dX9_oldest_31 : decode cX9_oldest 31 = .ok (.iload_n 2, 1) := by decide +kernel
theorem dX9_oldest_32 : decode cX9_oldest 32 = .ok (.iadd, 1) := by decide +kernel
theorem dX9_oldest_33 : decode cX9_oldest 33 = .ok (.iaload, 1) := by decide +kernel
theorem dX9_oldest_34 : decode cX9_oldest 34 = .ok (.aload_n 0, 1) := by decide +kernel
theorem dX9_oldest_35 : decode cX9_oldest 35 = .ok (.getfield 34, 3) := by decide +kernel
theorem dX9_oldest_38 : decode cX9_oldest 38 = .ok (.bipush 40, 2) := by decide +kernel
theorem dX9_oldest_40 : decode cX9_oldest 40 = .ok (.iload_n 1, 1) := by decide +kernel
theorem dX9_oldest_41 : decode cX9_oldest 41 = .ok (.iadd, 1) := by decide +kernel
theorem dX9_oldest_42 : decode cX9_oldest 42 = .ok (.iaload, 1) := by decide +kernel
theorem dX9_oldest_43 : decode cX9_oldest 43 = .ok (.if_icmp .ge 7, 3) := by decide +kernel
theorem dX9_oldest_46 : decode cX9_oldest 46 = .ok (.iload_n 2, 1) := by decide +kernel
theorem dX9_oldest_47 : decode cX9_oldest 47 = .ok (.goto 4, 3) := by decide +kernel
theorem dX9_oldest_50 : decode cX9_oldest 50 = .ok (.iload_n 1, 1) := by decide +kernel
theorem dX9_oldest_51 : decode cX9_oldest 51 = .ok (.istore_n 1, 1) := by decide +kernel
theorem dX9_oldest_52 : decode cX9_oldest 52 = .ok (.iinc 2 1, 3) := by decide +kernel
theorem dX9_oldest_55 : decode cX9_oldest 55 = .ok (.goto (-51), 3) := by decide +kernel
theorem dX9_oldest_58 : decode cX9_oldest 58 = .ok (.iload_n 1, 1) := by decide +kernel
theorem dX9_oldest_59 : decode cX9_oldest 59 = .ok (.ireturn, 1) := by decide +kernel
theorem dX9_mounts_0 : decode cX9_mounts 0 = .ok (.aload_n 0, 1) := by decide +kernel
theorem dX9_mounts_1 : decode cX9_mounts 1 = .ok (.invokevirtual 212, 3) := by decide +kernel
theorem dX9_mounts_4 : decode cX9_mounts 4 = .ok (.iconst (-1), 1) := by decide +kernel
theorem dX9_mounts_5 : decode cX9_mounts 5 = .ok (.if_icmp .ne 11, 3) := by decide +kernel
theorem dX9_mounts_8 : decode cX9_mounts 8 = .ok (.aload_n 0, 1) := by decide +kernel
theorem dX9_mounts_9 : decode cX9_mounts 9 = .ok (.aload_n 0, 1) := by decide +kernel
theorem dX9_mounts_10 : decode cX9_mounts 10 = .ok (.invokevirtual 215, 3) := by decide +kernel
theorem dX9_mounts_13 : decode cX9_mounts 13 = .ok (.invokevirtual 218, 3) := by decide +kernel
theorem dX9_mounts_16 : decode cX9_mounts 16 = .ok (.aload_n 0, 1) := by decide +kernel
theorem dX9_mounts_17 : decode cX9_mounts 17 = .ok (.invokevirtual 212, 3) := by decide +kernel
theorem dX9_mounts_20 : decode cX9_mounts 20 = .ok (.istore_n 2, 1) := by decide +kernel
theorem dX9_mounts_21 : decode cX9_mounts 21 = .ok (.aload_n 0, 1) := by decide +kernel
theorem dX9_mounts_22 : decode cX9_mounts 22 = .ok (.iload_n 1, 1) := by decide +kernel
theorem dX9_mounts_23 : decode cX9_mounts 23 = .ok (.invokevirtual 203, 3) := by decide +kernel
theorem dX9_mounts_26 : decode cX9_mounts 26 = .ok (.aload_n 0, 1) := by decide +kernel
theorem dX9_mounts_27 : decode cX9_mounts 27 = .ok (.aload_n 0, 1) := by decide +kernel
theorem dX9_mounts_28 : decode cX9_mounts 28 = .ok (.getfield 22, 3) := by decide +kernel
theorem dX9_mounts_31 : decode cX9_mounts 31 = .ok (.iconst 0, 1) := by decide +kernel
theorem dX9_mounts_32 : decode cX9_mounts 32 = .ok (.iaload, 1) := by decide +kernel
theorem dX9_mounts_33 : decode cX9_mounts 33 = .ok (.iload_n 2, 1) := by decide +kernel
theorem dX9_mounts_34 : decode cX9_mounts 34 = .ok (.iadd, 1) := by decide +kernel
theorem dX9_mounts_35 : decode cX9_mounts 35 = .ok (.invokevirtual 203, 3) := by decide +kernel
theorem dX9_mounts_38 : decode cX9_mounts 38 = .ok (.aload_n 0, 1) := by decide +kernel
theorem dX9_mounts_39 : decode cX9_mounts 39 = .ok (.getfield 34, 3) := by decide +kernel
theorem dX9_mounts_42 : decode cX9_mounts 42 = .ok (.sipush 170, 3) := by decide +kernel
theorem dX9_mounts_45 : decode cX9_mounts 45 = .ok (.dup2, 1) := by decide +kernel
theorem dX9_mounts_46 : decode cX9_mounts 46 = .ok (.iaload, 1) := by decide +kernel
theorem dX9_mounts_47 : decode cX9_mounts 47 = .ok (.aload_n 0, 1) := by decide +kernel
theorem dX9_mounts_48 : decode cX9_mounts 48 = .ok (.getfield 22, 3) := by decide +kernel
theorem dX9_mounts_51 : decode cX9_mounts 51 = .ok (.iconst 4, 1) := by decide +kernel
theorem dX9_mounts_52 : decode cX9_mounts 52 = .ok (.iaload, 1) := by decide +kernel
theorem dX9_mounts_53 : decode cX9_mounts 53 = .ok (.iadd, 1) := by decide +kernel
theorem dX9_mounts_54 : decode cX9_mounts 54 = .ok (.iastore, 1) := by decide +kernel
theorem dX9_mounts_55 : decode cX9_mounts 55 = .ok (.aload_n 0, 1) := by decide +kernel
theorem dX9_mounts_56 : decode cX9_mounts 56 = .ok (.getfield 34, 3) := by decide +kernel
theorem dX9_mounts_59 : decode cX9_mounts 59 = .ok (.iconst 0, 1) := by decide +kernel
theorem dX9_mounts_60 : decode cX9_mounts 60 = .ok (.iload_n 1, 1) := by decide +kernel
theorem dX9_mounts_61 : decode cX9_mounts 61 = .ok (.iadd, 1) := by decide +kernel
theorem dX9_mounts_62 : decode cX9_mounts 62 = .ok (.aload_n 0, 1) := by decide +kernel
theorem dX9_mounts_63 : decode cX9_mounts 63 = .ok (.getfield 22, 3) := by decide +kernel
theorem dX9_mounts_66 : decode cX9_mounts 66 = .ok (.iconst 0, 1) := by decide +kernel
theorem dX9_mounts_67 : decode cX9_mounts 67 = .ok (.iaload, 1) := by decide +kernel
theorem dX9_mounts_68 : decode cX9_mounts 68 = .ok (.iload_n 2, 1) := by decide +kernel
theorem dX9_mounts_69 : decode cX9_mounts 69 = .ok (.iadd, 1) := by decide +kernel
theorem dX9_mounts_70 : decode cX9_mounts 70 = .ok (.iastore, 1) := by decide +kernel
theorem dX9_mounts_71 : decode cX9_mounts 71 = .ok (.aload_n 0, 1) := by decide +kernel
theorem dX9_mounts_72 : decode cX9_mounts 72 = .ok (.getfield 34, 3) := by decide +kernel
theorem dX9_mounts_75 : decode cX9_mounts 75 = .ok (.bipush 8, 2) := by decide +kernel
theorem dX9_mounts_77 : decode cX9_mounts 77 = .ok (.iload_n 1, 1) := by decide +kernel
theorem dX9_mounts_78 : decode cX9_mounts 78 = .ok (.iadd, 1) := by decide +kernel
theorem dX9_mounts_79 : decode cX9_mounts 79 = .ok (.iconst 0, 1) := by decide +kernel
theorem dX9_mounts_80 : decode cX9_mounts 80 = .ok (.iastore, 1) := by decide +kernel
theorem dX9_mounts_81 : decode cX9_mounts 81 = .ok (.aload_n 0, 1) := by decide +kernel
theorem dX9_mounts_82 : decode cX9_mounts 82 = .ok (.getfield 34, 3) := by decide +kernel
theorem dX9_mounts_85 : decode cX9_mounts 85 = .ok (.bipush 24, 2) := by decide +kernel
theorem dX9_mounts_87 : decode cX9_mounts 87 = .ok (.iload_n 1, 1) := by decide +kernel
theorem dX9_mounts_88 : decode cX9_mounts 88 = .ok (.iadd, 1) := by decide +kernel
theorem dX9_mounts_89 : decode cX9_mounts 89 = .ok (.bipush 99, 2) := by decide +kernel
theorem dX9_mounts_91 : decode cX9_mounts 91 = .ok (.aload_n 0, 1) := by decide +kernel
theorem dX9_mounts_92 : decode cX9_mounts 92 = .ok (.getfield 34, 3) := by decide +kernel
theorem dX9_mounts_95 : decode cX9_mounts 95 = .ok (.bipush 24, 2) := by decide +kernel
theorem dX9_mounts_97 : decode cX9_mounts 97 = .ok (.iload_n 1, 1) := by decide +kernel
theorem dX9_mounts_98 : decode cX9_mounts 98 = .ok (.iadd, 1) := by decide +kernel
theorem dX9_mounts_99 : decode cX9_mounts 99 = .ok (.iaload, 1) := by decide +kernel
theorem dX9_mounts_100 : decode cX9_mounts 100 = .ok (.iconst 1, 1) := by decide +kernel
theorem dX9_mounts_101 : decode cX9_mounts 101 = .ok (.iadd, 1) := by decide +kernel
theorem dX9_mounts_102 : decode cX9_mounts 102 = .ok (.invokestatic 221, 3) := by decide +kernel
theorem dX9_mounts_105 : decode cX9_mounts 105 = .ok (.iastore, 1) := by decide +kernel
theorem dX9_mounts_106 : decode cX9_mounts 106 = .ok (.aload_n 0, 1) := by decide +kernel
theorem dX9_mounts_107 : decode cX9_mounts 107 = .ok (.getfield 34, 3) := by decide +kernel
theorem dX9_mounts_110 : decode cX9_mounts 110 = .ok (.bipush 40, 2) := by decide +kernel
theorem dX9_mounts_112 : decode cX9_mounts 112 = .ok (.iload_n 1, 1) := by decide +kernel
theorem dX9_mounts_113 : decode cX9_mounts 113 = .ok (.iadd, 1) := by decide +kernel
theorem dX9_mounts_114 : decode cX9_mounts 114 = .ok (.aload_n 0, 1) := by decide +kernel
theorem dX9_mounts_115 : decode cX9_mounts 115 = .ok (.getfield 34, 3) := by decide +kernel
theorem dX9_mounts_118 : decode cX9_mounts 118 = .ok (.sipush 170, 3) := by decide +kernel
theorem dX9_mounts_121 : decode cX9_mounts 121 = .ok (.iaload, 1) := by decide +kernel
theorem dX9_mounts_122 : decode cX9_mounts 122 = .ok (.iastore, 1) := by decide +kernel
theorem dX9_mounts_123 : decode cX9_mounts 123 = .ok (.aload_n 0, 1) := by decide +kernel
theorem dX9_mounts_124 : decode cX9_mounts 124 = .ok (.dup, 1) := by decide +kernel
theorem dX9_mounts_125 : decode cX9_mounts 125 = .ok (.getfield 226, 3) := by decide +kernel
theorem dX9_mounts_128 : decode cX9_mounts 128 = .ok (.iconst 1, 1) := by decide +kernel
theorem dX9_mounts_129 : decode cX9_mounts 129 = .ok (.iadd, 1) := by decide +kernel
theorem dX9_mounts_130 : decode cX9_mounts 130 = .ok (.putfield 226, 3) := by decide +kernel
theorem dX9_mounts_133 : decode cX9_mounts 133 = .ok (.return_, 1) := by decide +kernel
theorem dX9_brings_0 : decode cX9_brings 0 = .ok (.aload_n 0, 1) := by decide +kernel
theorem dX9_brings_1 : decode cX9_brings 1 = .ok (.iload_n 1, 1) := by decide +kernel
theorem dX9_brings_2 : decode cX9_brings 2 = .ok (.invokevirtual 209, 3) := by decide +kernel
theorem dX9_brings_5 : decode cX9_brings 5 = .ok (.ifCond .ne 8, 3) := by decide +kernel
theorem dX9_brings_8 : decode cX9_brings 8 = .ok (.aload_n 0, 1) := by decide +kernel
theorem dX9_brings_9 : decode cX9_brings 9 = .ok (.iload_n 1, 1) := by decide +kernel
theorem dX9_brings_10 : decode cX9_brings 10 = .ok (.invokevirtual 229, 3) := by decide +kernel
theorem dX9_brings_13 : decode cX9_brings 13 = .ok (.return_, 1) := by decide +kernel
theorem dX9_runs_0 : decode cX9_runs 0 = .ok (.aload_n 0, 1) := by decide +kernel
theorem dX9_runs_1 : decode cX9_runs 1 = .ok (.getfield 34, 3) := by decide +kernel
theorem dX9_runs_4 : decode cX9_runs 4 = .ok (.sipush 170, 3) := by decide +kernel
theorem dX9_runs_7 : decode cX9_runs 7 = .ok (.dup2, 1) := by decide +kernel
theorem dX9_runs_8 : decode cX9_runs 8 = .ok (.iaload, 1) := by decide +kernel
theorem dX9_runs_9 : decode cX9_runs 9 = .ok (.aload_n 0, 1) := by decide +kernel
theorem dX9_runs_10 : decode cX9_runs 10 = .ok (.aload_n 0, 1) := by decide +kernel
theorem dX9_runs_11 : decode cX9_runs 11 = .ok (.getfield 34, 3) := by decide +kernel
theorem dX9_runs_14 : decode cX9_runs 14 = .ok (.bipush 8, 2) := by decide +kernel
theorem dX9_runs_16 : decode cX9_runs 16 = .ok (.iload_n 1, 1) := by decide +kernel
theorem dX9_runs_17 : decode cX9_runs 17 = .ok (.iadd, 1) := by decide +kernel
theorem dX9_runs_18 : decode cX9_runs 18 = .ok (.iaload, 1) := by decide +kernel
theorem dX9_runs_19 : decode cX9_runs 19 = .ok (.iload_n 2, 1) := by decide +kernel
theorem dX9_runs_20 : decode cX9_runs 20 = .ok (.invokevirtual 200, 3) := by decide +kernel
theorem dX9_runs_23 : decode cX9_runs 23 = .ok (.iload_n 3, 1) := by decide +kernel
theorem dX9_runs_24 : decode cX9_runs 24 = .ok (.iadd, 1) := by decide +kernel
theorem dX9_runs_25 : decode cX9_runs 25 = .ok (.iadd, 1) := by decide +kernel
theorem dX9_runs_26 : decode cX9_runs 26 = .ok (.iastore, 1) := by decide +kernel
theorem dX9_runs_27 : decode cX9_runs 27 = .ok (.aload_n 0, 1) := by decide +kernel
theorem dX9_runs_28 : decode cX9_runs 28 = .ok (.getfield 34, 3) := by decide +kernel
theorem dX9_runs_31 : decode cX9_runs 31 = .ok (.bipush 8, 2) := by decide +kernel
theorem dX9_runs_33 : decode cX9_runs 33 = .ok (.iload_n 1, 1) := by decide +kernel
theorem dX9_runs_34 : decode cX9_runs 34 = .ok (.iadd, 1) := by decide +kernel
theorem dX9_runs_35 : decode cX9_runs 35 = .ok (.iload_n 2, 1) := by decide +kernel
theorem dX9_runs_36 : decode cX9_runs 36 = .ok (.iload_n 3, 1) := by decide +kernel
theorem dX9_runs_37 : decode cX9_runs 37 = .ok (.iadd, 1) := by decide +kernel
theorem dX9_runs_38 : decode cX9_runs 38 = .ok (.iconst 1, 1) := by decide +kernel
theorem dX9_runs_39 : decode cX9_runs 39 = .ok (.isub, 1) := by decide +kernel
theorem dX9_runs_40 : decode cX9_runs 40 = .ok (.iastore, 1) := by decide +kernel
theorem dX9_runs_41 : decode cX9_runs 41 = .ok (.aload_n 0, 1) := by decide +kernel
theorem dX9_runs_42 : decode cX9_runs 42 = .ok (.getfield 34, 3) := by decide +kernel
theorem dX9_runs_45 : decode cX9_runs 45 = .ok (.bipush 40, 2) := by decide +kernel
theorem dX9_runs_47 : decode cX9_runs 47 = .ok (.iload_n 1, 1) := by decide +kernel
theorem dX9_runs_48 : decode cX9_runs 48 = .ok (.iadd, 1) := by decide +kernel
theorem dX9_runs_49 : decode cX9_runs 49 = .ok (.aload_n 0, 1) := by decide +kernel
theorem dX9_runs_50 : decode cX9_runs 50 = .ok (.getfield 34, 3) := by decide +kernel
theorem dX9_runs_53 : decode cX9_runs 53 = .ok (.sipush 170, 3) := by decide +kernel
theorem dX9_runs_56 : decode cX9_runs 56 = .ok (.iaload, 1) := by decide +kernel
theorem dX9_runs_57 : decode cX9_runs 57 = .ok (.iastore, 1) := by decide +kernel
theorem dX9_runs_58 : decode cX9_runs 58 = .ok (.return_, 1) := by decide +kernel
theorem dX9_reads_0 : decode cX9_reads 0 = .ok (.aload_n 0, 1) := by decide +kernel
theorem dX9_reads_1 : decode cX9_reads 1 = .ok (.iload_n 1, 1) := by decide +kernel
theorem dX9_reads_2 : decode cX9_reads 2 = .ok (.iload_n 2, 1) := by decide +kernel
theorem dX9_reads_3 : decode cX9_reads 3 = .ok (.iload_n 3, 1) := by decide +kernel
theorem dX9_reads_4 : decode cX9_reads 4 = .ok (.invokevirtual 232, 3) := by decide +kernel
theorem dX9_reads_7 : decode cX9_reads 7 = .ok (.aload_n 0, 1) := by decide +kernel
theorem dX9_reads_8 : decode cX9_reads 8 = .ok (.getfield 34, 3) := by decide +kernel
theorem dX9_reads_11 : decode cX9_reads 11 = .ok (.bipush 32, 2) := by decide +kernel
theorem dX9_reads_13 : decode cX9_reads 13 = .ok (.iload_n 1, 1) := by decide +kernel
theorem dX9_reads_14 : decode cX9_reads 14 = .ok (.iadd, 1) := by decide +kernel
theorem dX9_reads_15 : decode cX9_reads 15 = .ok (.dup2, 1) := by decide +kernel
theorem dX9_reads_16 : decode cX9_reads 16 = .ok (.iaload, 1) := by decide +kernel
theorem dX9_reads_17 : decode cX9_reads 17 = .ok (.aload_n 0, 1) := by decide +kernel
theorem dX9_reads_18 : decode cX9_reads 18 = .ok (.getfield 34, 3) := by decide +kernel
theorem dX9_reads_21 : decode cX9_reads 21 = .ok (.bipush 24, 2) := by decide +kernel
theorem dX9_reads_23 : decode cX9_reads 23 = .ok (.iload_n 1, 1) := by decide +kernel
theorem dX9_reads_24 : decode cX9_reads 24 = .ok (.iadd, 1) := by decide +kernel
theorem dX9_reads_25 : decode cX9_reads 25 = .ok (.iaload, 1) := by decide +kernel
theorem dX9_reads_26 : decode cX9_reads 26 = .ok (.aload_n 0, 1) := by decide +kernel
theorem dX9_reads_27 : decode cX9_reads 27 = .ok (.getfield 22, 3) := by decide +kernel
theorem dX9_reads_30 : decode cX9_reads 30 = .ok (.bipush 6, 2) := by decide +kernel
theorem dX9_reads_32 : decode cX9_reads 32 = .ok (.iaload, 1) := by decide +kernel
theorem dX9_reads_33 : decode cX9_reads 33 = .ok (.if_icmp .le 7, 3) := by decide +kernel
theorem dX9_reads_36 : decode cX9_reads 36 = .ok (.iload_n 3, 1) := by decide +kernel
theorem dX9_reads_37 : decode cX9_reads 37 = .ok (.goto 4, 3) := by decide +kernel
theorem dX9_reads_40 : decode cX9_reads 40 = .ok (.iconst 0, 1) := by decide +kernel
theorem dX9_reads_41 : decode cX9_reads 41 = .ok (.iadd, 1) := by decide +kernel
theorem dX9_reads_42 : decode cX9_reads 42 = .ok (.iastore, 1) := by decide +kernel
theorem dX9_reads_43 : decode cX9_reads 43 = .ok (.return_, 1) := by decide +kernel
theorem dX9_isAhead_0 : decode cX9_isAhead 0 = .ok (.iload_n 1, 1) := by decide +kernel
theorem dX9_isAhead_1 : decode cX9_isAhead 1 = .ok (.iconst 2, 1) := by decide +kernel
theorem dX9_isAhead_2 : decode cX9_isAhead 2 = .ok (.if_icmp .ne 32, 3) := by decide +kernel
theorem dX9_isAhead_5 : decode cX9_isAhead 5 = .ok (.aload_n 0, 1) := by decide +kernel
theorem dX9_isAhead_6 : decode cX9_isAhead 6 = .ok (.getfield 34, 3) := by decide +kernel
theorem dX9_isAhead_9 : decode cX9_isAhead 9 = .ok (.sipush 144, 3) := by decide +kernel
theorem dX9_isAhead_12 : decode cX9_isAhead 12 = .ok (.iload_n 2, 1) := by decide +kernel
theorem dX9_isAhead_13 : decode cX9_isAhead 13 = .ok (.iadd, 1) := by decide +kernel
theorem dX9_isAhead_14 : decode cX9_isAhead 14 = .ok (.iaload, 1) := by decide +kernel
theorem dX9_isAhead_15 : decode cX9_isAhead 15 = .ok (.aload_n 0, 1) := by decide +kernel
theorem dX9_isAhead_16 : decode cX9_isAhead 16 = .ok (.getfield 34, 3) := by decide +kernel
theorem dX9_isAhead_19 : decode cX9_isAhead 19 = .ok (.sipush 144, 3) := by decide +kernel
theorem dX9_isAhead_22 : decode cX9_isAhead 22 = .ok (.iload_n 3, 1) := by decide +kernel
theorem dX9_isAhead_23 : decode cX9_isAhead 23 = .ok (.iadd, 1) := by decide +kernel
theorem dX9_isAhead_24 : decode cX9_isAhead 24 = .ok (.iaload, 1) := by decide +kernel
theorem dX9_isAhead_25 : decode cX9_isAhead 25 = .ok (.if_icmp .ge 7, 3) := by decide +kernel
theorem dX9_isAhead_28 : decode cX9_isAhead 28 = .ok (.iconst 1, 1) := by decide +kernel
theorem dX9_isAhead_29 : decode cX9_isAhead 29 = .ok (.goto 4, 3) := by decide +kernel
theorem dX9_isAhead_32 : decode cX9_isAhead 32 = .ok (.iconst 0, 1) := by decide +kernel
theorem dX9_isAhead_33 : decode cX9_isAhead 33 = .ok (.ireturn, 1) := by decide +kernel
theorem dX9_isAhead_34 : decode cX9_isAhead 34 = .ok (.iload_n 1, 1) := by decide +kernel
theorem dX9_isAhead_35 : decode cX9_isAhead 35 = .ok (.iconst 1, 1) := by decide +kernel
theorem dX9_isAhead_36 : decode cX9_isAhead 36 = .ok (.if_icmp .ne 21, 3) := by decide +kernel
theorem dX9_isAhead_39 : decode cX9_isAhead 39 = .ok (.aload_n 0, 1) := by decide +kernel
theorem dX9_isAhead_40 : decode cX9_isAhead 40 = .ok (.iload 4, 2) := by decide +kernel
theorem dX9_isAhead_42 : decode cX9_isAhead 42 = .ok (.aload_n 0, 1) := by decide +kernel
theorem dX9_isAhead_43 : decode cX9_isAhead 43 = .ok (.getfield 34, 3) := by decide +kernel
theorem dX9_isAhead_46 : decode cX9_isAhead 46 = .ok (.bipush 72, 2) := by decide +kernel
theorem dX9_isAhead_48 : decode cX9_isAhead 48 = .ok (.iload_n 2, 1) := by decide +kernel
theorem dX9_isAhead_49 : decode cX9_isAhead 49 = .ok (.iadd, 1) := by decide +kernel
theorem dX9_isAhead_50 : decode cX9_isAhead 50 = .ok (.iaload, 1) := by decide +kernel
theorem dX9_isAhead_51 : decode cX9_isAhead 51 = .ok (.invokevirtual 200, 3) := by decide +kernel
theorem dX9_isAhead_54 : decode cX9_isAhead 54 = .ok (.goto 4, 3) := by decide +kernel
theorem dX9_isAhead_57 : decode cX9_isAhead 57 = .ok (.iconst 0, 1) := by decide +kernel
theorem dX9_isAhead_58 : decode cX9_isAhead 58 = .ok (.istore 5, 2) := by decide +kernel
theorem dX9_isAhead_60 : decode cX9_isAhead 60 = .ok (.iload_n 1, 1) := by decide +kernel
theorem dX9_isAhead_61 : decode cX9_isAhead 61 = .ok (.iconst 1, 1) := by decide +kernel
theorem dX9_isAhead_62 : decode cX9_isAhead 62 = .ok (.if_icmp .ne 21, 3) := by decide +kernel
theorem dX9_isAhead_65 : decode cX9_isAhead 65 = .ok (.aload_n 0, 1) := by decide +kernel
theorem dX9_isAhead_66 : decode cX9_isAhead 66 = .ok (.iload 4, 2) := by decide +kernel
theorem dX9_isAhead_68 : decode cX9_isAhead 68 = .ok (.aload_n 0, 1) := by decide +kernel
theorem dX9_isAhead_69 : decode cX9_isAhead 69 = .ok (.getfield 34, 3) := by decide +kernel
theorem dX9_isAhead_72 : decode cX9_isAhead 72 = .ok (.bipush 72, 2) := by decide +kernel
theorem dX9_isAhead_74 : decode cX9_isAhead 74 = .ok (.iload_n 3, 1) := by decide +kernel
theorem dX9_isAhead_75 : decode cX9_isAhead 75 = .ok (.iadd, 1) := by decide +kernel
theorem dX9_isAhead_76 : decode cX9_isAhead 76 = .ok (.iaload, 1) := by decide +kernel
theorem dX9_isAhead_77 : decode cX9_isAhead 77 = .ok (.invokevirtual 200, 3) := by decide +kernel
theorem dX9_isAhead_80 : decode cX9_isAhead 80 = .ok (.goto 4, 3) := by decide +kernel
theorem dX9_isAhead_83 : decode cX9_isAhead 83 = .ok (.iconst 0, 1) := by decide +kernel
theorem dX9_isAhead_84 : decode cX9_isAhead 84 = .ok (.istore 6, 2) := by decide +kernel
theorem dX9_isAhead_86 : decode cX9_isAhead 86 = .ok (.iload 5, 2) := by decide +kernel
theorem dX9_isAhead_88 : decode cX9_isAhead 88 = .ok (.iload 6, 2) := by decide +kernel
theorem dX9_isAhead_90 : decode cX9_isAhead 90 = .ok (.if_icmp .lt 31, 3) := by decide +kernel
theorem dX9_isAhead_93 : decode cX9_isAhead 93 = .ok (.iload 5, 2) := by decide +kernel
theorem dX9_isAhead_95 : decode cX9_isAhead 95 = .ok (.iload 6, 2) := by decide +kernel
theorem dX9_isAhead_97 : decode cX9_isAhead 97 = .ok (.if_icmp .ne 28, 3) := by decide +kernel
theorem dX9_isAhead_100 : decode cX9_isAhead 100 = .ok (.aload_n 0, 1) := by decide +kernel
theorem dX9_isAhead_101 : decode cX9_isAhead 101 = .ok (.getfield 34, 3) := by decide +kernel
theorem dX9_isAhead_104 : decode cX9_isAhead 104 = .ok (.bipush 72, 2) := by decide +kernel
theorem dX9_isAhead_106 : decode cX9_isAhead 106 = .ok (.iload_n 2, 1) := by decide +kernel
theorem dX9_isAhead_107 : decode cX9_isAhead 107 = .ok (.iadd, 1) := by decide +kernel
theorem dX9_isAhead_108 : decode cX9_isAhead 108 = .ok (.iaload, 1) := by decide +kernel
theorem dX9_isAhead_109 : decode cX9_isAhead 109 = .ok (.aload_n 0, 1) := by decide +kernel
theorem dX9_isAhead_110 : decode cX9_isAhead 110 = .ok (.getfield 34, 3) := by decide +kernel
theorem dX9_isAhead_113 : decode cX9_isAhead 113 = .ok (.bipush 72, 2) := by decide +kernel
theorem dX9_isAhead_115 : decode cX9_isAhead 115 = .ok (.iload_n 3, 1) := by decide +kernel
theorem dX9_isAhead_116 : decode cX9_isAhead 116 = .ok (.iadd, 1) := by decide +kernel
theorem dX9_isAhead_117 : decode cX9_isAhead 117 = .ok (.iaload, 1) := by decide +kernel
theorem dX9_isAhead_118 : decode cX9_isAhead 118 = .ok (.if_icmp .ge 7, 3) := by decide +kernel
theorem dX9_isAhead_121 : decode cX9_isAhead 121 = .ok (.iconst 1, 1) := by decide +kernel
theorem dX9_isAhead_122 : decode cX9_isAhead 122 = .ok (.goto 4, 3) := by decide +kernel
theorem dX9_isAhead_125 : decode cX9_isAhead 125 = .ok (.iconst 0, 1) := by decide +kernel
theorem dX9_isAhead_126 : decode cX9_isAhead 126 = .ok (.ireturn, 1) := by decide +kernel
theorem dX9_laysOrder_0 : decode cX9_laysOrder 0 = .ok (.iload_n 3, 1) := by decide +kernel
theorem dX9_laysOrder_1 : decode cX9_laysOrder 1 = .ok (.istore 4, 2) := by decide +kernel
theorem dX9_laysOrder_3 : decode cX9_laysOrder 3 = .ok (.iconst 0, 1) := by decide +kernel
theorem dX9_laysOrder_4 : decode cX9_laysOrder 4 = .ok (.istore 5, 2) := by decide +kernel
theorem dX9_laysOrder_6 : decode cX9_laysOrder 6 = .ok (.iconst 0, 1) := by decide +kernel
theorem dX9_laysOrder_7 : decode cX9_laysOrder 7 = .ok (.istore 6, 2) := by decide +kernel
theorem dX9_laysOrder_9 : decode cX9_laysOrder 9 = .ok (.aload_n 0, 1) := by decide +kernel
theorem dX9_laysOrder_10 : decode cX9_laysOrder 10 = .ok (.iload_n 1, 1) := by decide +kernel
theorem dX9_laysOrder_11 : decode cX9_laysOrder 11 = .ok (.invokevirtual 166, 3) := by decide +kernel
theorem dX9_laysOrder_14 : decode cX9_laysOrder 14 = .ok (.istore 7, 2) := by decide +kernel
theorem dX9_laysOrder_16 : decode cX9_laysOrder 16 = .ok (.aload_n 0, 1) := by decide +kernel
theorem dX9_laysOrder_17 : decode cX9_laysOrder 17 = .ok (.iconst 0, 1) := by decide +kernel
theorem dX9_laysOrder_18 : decode cX9_laysOrder 18 = .ok (.putfield 236, 3) := by decide +kernel
theorem dX9_laysOrder_21 : decode cX9_laysOrder 21 = .ok (.aload_n 0, 1) := by decide +kernel
theorem dX9_laysOrder_22 : decode cX9_laysOrder 22 = .ok (.getfield 236, 3) := by decide +kernel
theorem dX9_laysOrder_25 : decode cX9_laysOrder 25 = .ok (.iload 7, 2) := by decide +kernel
theorem dX9_laysOrder_27 : decode cX9_laysOrder 27 = .ok (.if_icmp .ge 188, 3) := by decide +kernel
theorem dX9_laysOrder_30 : decode cX9_laysOrder 30 = .ok (.iconst (-1), 1) := by decide +kernel
theorem dX9_laysOrder_31 : decode cX9_laysOrder 31 = .ok (.istore 8, 2) := by decide +kernel
theorem dX9_laysOrder_33 : decode cX9_laysOrder 33 = .ok (.iconst 0, 1) := by decide +kernel
theorem dX9_laysOrder_34 : decode cX9_laysOrder 34 = .ok (.istore 9, 2) := by decide +kernel
theorem dX9_laysOrder_36 : decode cX9_laysOrder 36 = .ok (.iload 9, 2) := by decide +kernel
theorem dX9_laysOrder_38 : decode cX9_laysOrder 38 = .ok (.aload_n 0, 1) := by decide +kernel
theorem dX9_laysOrder_39 : decode cX9_laysOrder 39 = .ok (.getfield 34, 3) := by decide +kernel
theorem dX9_laysOrder_42 : decode cX9_laysOrder 42 = .ok (.sipush 168, 3) := by decide +kernel
theorem dX9_laysOrder_45 : decode cX9_laysOrder 45 = .ok (.iaload, 1) := by decide +kernel
theorem dX9_laysOrder_46 : decode cX9_laysOrder 46 = .ok (.if_icmp .ge 79, 3) := by decide +kernel
theorem dX9_laysOrder_49 : decode cX9_laysOrder 49 = .ok (.aload_n 0, 1) := by decide +kernel
theorem dX9_laysOrder_50 : decode cX9_laysOrder 50 = .ok (.iload 9, 2) := by decide +kernel
theorem dX9_laysOrder_52 : decode cX9_laysOrder 52 = .ok (.iload_n 1, 1) := by decide +kernel
theorem dX9_laysOrder_53 : decode cX9_laysOrder 53 = .ok (.invokevirtual 163, 3) := by decide +kernel
theorem dX9_laysOrder_56 : decode cX9_laysOrder 56 = .ok (.ifCond .eq 31, 3) := by decide +kernel
theorem dX9_laysOrder_59 : decode cX9_laysOrder 59 = .ok (.aload_n 0, 1) := by decide +kernel
theorem dX9_laysOrder_60 : decode cX9_laysOrder 60 = .ok (.getfield 34, 3) := by decide +kernel
theorem dX9_laysOrder_63 : decode cX9_laysOrder 63 = .ok (.sipush 144, 3) := by decide +kernel
theorem dX9_laysOrder_66 : decode cX9_laysOrder 66 = .ok (.iload 9, 2) := by decide +kernel
theorem dX9_laysOrder_68 : decode cX9_laysOrder 68 = .ok (.iadd, 1) := by decide +kernel
theorem dX9_laysOrder_69 : decode cX9_laysOrder 69 = .ok (.iaload, 1) := by decide +kernel
theorem dX9_laysOrder_70 : decode cX9_laysOrder 70 = .ok (.ifCond .le 17, 3) := by decide +kernel
theorem dX9_laysOrder_73 : decode cX9_laysOrder 73 = .ok (.iload 6, 2) := by decide +kernel
theorem dX9_laysOrder_75 : decode cX9_laysOrder 75 = .ok (.iload 9, 2) := by decide +kernel
theorem dX9_laysOrder_77 : decode cX9_laysOrder 77 = .ok (.invokestatic 111, 3) := by decide +kernel
theorem dX9_laysOrder_80 : decode cX9_laysOrder 80 = .ok (.ifCond .ne 7, 3) := by decide +kernel
theorem dX9_laysOrder_83 : decode cX9_laysOrder 83 = .ok (.iconst 1, 1) := by decide +kernel
theorem dX9_laysOrder_84 : decode cX9_laysOrder 84 = .ok (.goto 4, 3) := by decide +kernel
theorem dX9_laysOrder_87 : decode cX9_laysOrder 87 = .ok (.iconst 0, 1) := by decide +kernel
theorem dX9_laysOrder_88 : decode cX9_laysOrder 88 = .ok (.istore 10, 2) := by decide +kernel
theorem dX9_laysOrder_90 : decode cX9_laysOrder 90 = .ok (.iload 10, 2) := by decide +kernel
theorem dX9_laysOrder_92 : decode cX9_laysOrder 92 = .ok (.ifCond .eq 27, 3) := by decide +kernel
theorem dX9_laysOrder_95 : decode cX9_laysOrder 95 = .ok (.iload 8, 2) := by decide +kernel
theorem dX9_laysOrder_97 : decode cX9_laysOrder 97 = .ok (.iconst (-1), 1) := by decide +kernel
theorem dX9_laysOrder_98 : decode cX9_laysOrder 98 = .ok (.if_icmp .eq 17, 3) := by decide +kernel
theorem dX9_laysOrder_101 : decode cX9_laysOrder 101 = .ok (.aload_n 0, 1) := by decide +kernel
theorem dX9_laysOrder_102 : decode cX9_laysOrder 102 = .ok (.iload_n 2, 1) := by decide +kernel
theorem dX9_laysOrder_103 : decode cX9_laysOrder 103 = .ok (.iload 9, 2) := by decide +kernel
theorem dX9_laysOrder_105 : decode cX9_laysOrder 105 = .ok (.iload 8, 2) := by decide +kernel
theorem dX9_laysOrder_107 : decode cX9_laysOrder 107 = .ok (.iload 4, 2) := by decide +kernel
theorem dX9_laysOrder_109 : decode cX9_laysOrder 109 = .ok (.invokevirtual 239, 3) := by decide +kernel
theorem dX9_laysOrder_112 : decode cX9_laysOrder 112 = .ok (.ifCond .eq 7, 3) := by decide +kernel
theorem dX9_laysOrder_115 : decode cX9_laysOrder 115 = .ok (.iload 9, 2) := by decide +kernel
theorem dX9_laysOrder_117 : decode cX9_laysOrder 117 = .ok (.istore 8, 2) := by decide +kernel
theorem dX9_laysOrder_119 : decode cX9_laysOrder 119 = .ok (.iinc 9 1, 3) := by decide +kernel
theorem dX9_laysOrder_122 : decode cX9_laysOrder 122 = .ok (.goto (-86), 3) := by decide +kernel
theorem dX9_laysOrder_125 : decode cX9_laysOrder 125 = .ok (.iload 6, 2) := by decide +kernel
theorem dX9_laysOrder_127 : decode cX9_laysOrder 127 = .ok (.iconst 1, 1) := by decide +kernel
theorem dX9_laysOrder_128 : decode cX9_laysOrder 128 = .ok (.iload 8, 2) := by decide +kernel
theorem dX9_laysOrder_130 : decode cX9_laysOrder 130 = .ok (.ishl, 1) := by decide +kernel
theorem dX9_laysOrder_131 : decode cX9_laysOrder 131 = .ok (.ior, 1) := by decide +kernel
theorem dX9_laysOrder_132 : decode cX9_laysOrder 132 = .ok (.istore 6, 2) := by decide +kernel
theorem dX9_laysOrder_134 : decode cX9_laysOrder 134 = .ok (.aload_n 0, 1) := by decide +kernel
theorem dX9_laysOrder_135 : decode cX9_laysOrder 135 = .ok (.getfield 40, 3) := by decide +kernel
theorem dX9_laysOrder_138 : decode cX9_laysOrder 138 = .ok (.aload_n 0, 1) := by decide +kernel
theorem dX9_laysOrder_139 : decode cX9_laysOrder 139 = .ok (.getfield 236, 3) := by decide +kernel
theorem dX9_laysOrder_142 : decode cX9_laysOrder 142 = .ok (.iload 8, 2) := by decide +kernel
theorem dX9_laysOrder_144 : decode cX9_laysOrder 144 = .ok (.iastore, 1) := by decide +kernel
theorem dX9_laysOrder_145 : decode cX9_laysOrder 145 = .ok (.iload 5, 2) := by decide +kernel
theorem dX9_laysOrder_147 : decode cX9_laysOrder 147 = .ok (.aload_n 0, 1) := by decide +kernel
theorem dX9_laysOrder_148 : decode cX9_laysOrder 148 = .ok (.iload 4, 2) := by decide +kernel
theorem dX9_laysOrder_150 : decode cX9_laysOrder 150 = .ok (.aload_n 0, 1) := by decide +kernel
theorem dX9_laysOrder_151 : decode cX9_laysOrder 151 = .ok (.getfield 34, 3) := by decide +kernel
theorem dX9_laysOrder_154 : decode cX9_laysOrder 154 = .ok (.bipush 72, 2) := by decide +kernel
theorem dX9_laysOrder_156 : decode cX9_laysOrder 156 = .ok (.iload 8, 2) := by decide +kernel
theorem dX9_laysOrder_158 : decode cX9_laysOrder 158 = .ok (.iadd, 1) := by decide +kernel
theorem dX9_laysOrder_159 : decode cX9_laysOrder 159 = .ok (.iaload, 1) := by decide +kernel
theorem dX9_laysOrder_160 : decode cX9_laysOrder 160 = .ok (.invokevirtual 200, 3) := by decide +kernel
theorem dX9_laysOrder_163 : decode cX9_laysOrder 163 = .ok (.aload_n 0, 1) := by decide +kernel
theorem dX9_laysOrder_164 : decode cX9_laysOrder 164 = .ok (.getfield 34, 3) := by decide +kernel
theorem dX9_laysOrder_167 : decode cX9_laysOrder 167 = .ok (.bipush 96, 2) := by decide +kernel
theorem dX9_laysOrder_169 : decode cX9_laysOrder 169 = .ok (.iload 8, 2) := by decide +kernel
theorem dX9_laysOrder_171 : decode cX9_laysOrder 171 = .ok (.iadd, 1) := by decide +kernel
theorem dX9_laysOrder_172 : decode cX9_laysOrder 172 = .ok (.iaload, 1) := by decide +kernel
theorem dX9_laysOrder_173 : decode cX9_laysOrder 173 = .ok (.iadd, 1) := by decide +kernel
theorem dX9_laysOrder_174 : decode cX9_laysOrder 174 = .ok (.iadd, 1) := by decide +kernel
theorem dX9_laysOrder_175 : decode cX9_laysOrder 175 = .ok (.istore 5, 2) := by decide +kernel
theorem dX9_laysOrder_177 : decode cX9_laysOrder 177 = .ok (.aload_n 0, 1) := by decide +kernel
theorem dX9_laysOrder_178 : decode cX9_laysOrder 178 = .ok (.getfield 34, 3) := by decide +kernel
theorem dX9_laysOrder_181 : decode cX9_laysOrder 181 = .ok (.bipush 72, 2) := by decide +kernel
theorem dX9_laysOrder_183 : decode cX9_laysOrder 183 = .ok (.iload 8, 2) := by decide +kernel
theorem dX9_laysOrder_185 : decode cX9_laysOrder 185 = .ok (.iadd, 1) := by decide +kernel
theorem dX9_laysOrder_186 : decode cX9_laysOrder 186 = .ok (.iaload, 1) := by decide +kernel
theorem dX9_laysOrder_187 : decode cX9_laysOrder 187 = .ok (.aload_n 0, 1) := by decide +kernel
theorem dX9_laysOrder_188 : decode cX9_laysOrder 188 = .ok (.getfield 34, 3) := by decide +kernel
theorem dX9_laysOrder_191 : decode cX9_laysOrder 191 = .ok (.bipush 96, 2) := by decide +kernel
theorem dX9_laysOrder_193 : decode cX9_laysOrder 193 = .ok (.iload 8, 2) := by decide +kernel
theorem dX9_laysOrder_195 : decode cX9_laysOrder 195 = .ok (.iadd, 1) := by decide +kernel
theorem dX9_laysOrder_196 : decode cX9_laysOrder 196 = .ok (.iaload, 1) := by decide +kernel
theorem dX9_laysOrder_197 : decode cX9_laysOrder 197 = .ok (.iadd, 1) := by decide +kernel
theorem dX9_laysOrder_198 : decode cX9_laysOrder 198 = .ok (.iconst 1, 1) := by decide +kernel
theorem dX9_laysOrder_199 : decode cX9_laysOrder 199 = .ok (.isub, 1) := by decide +kernel
theorem dX9_laysOrder_200 : decode cX9_laysOrder 200 = .ok (.istore 4, 2) := by decide +kernel
theorem dX9_laysOrder_202 : decode cX9_laysOrder 202 = .ok (.aload_n 0, 1) := by decide +kernel
theorem dX9_laysOrder_203 : decode cX9_laysOrder 203 = .ok (.dup, 1) := by decide +kernel
theorem dX9_laysOrder_204 : decode cX9_laysOrder 204 = .ok (.getfield 236, 3) := by decide +kernel
theorem dX9_laysOrder_207 : decode cX9_laysOrder 207 = .ok (.iconst 1, 1) := by decide +kernel
theorem dX9_laysOrder_208 : decode cX9_laysOrder 208 = .ok (.iadd, 1) := by decide +kernel
theorem dX9_laysOrder_209 : decode cX9_laysOrder 209 = .ok (.putfield 236, 3) := by decide +kernel
theorem dX9_laysOrder_212 : decode cX9_laysOrder 212 = .ok (.goto (-191), 3) := by decide +kernel
theorem dX9_laysOrder_215 : decode cX9_laysOrder 215 = .ok (.iload 5, 2) := by decide +kernel
theorem dX9_laysOrder_217 : decode cX9_laysOrder 217 = .ok (.ireturn, 1) := by decide +kernel
theorem dX9_headOf_0 : decode cX9_headOf 0 = .ok (.aload_n 0, 1) := by decide +kernel
theorem dX9_headOf_1 : decode cX9_headOf 1 = .ok (.iload_n 1, 1) := by decide +kernel
theorem dX9_headOf_2 : decode cX9_headOf 2 = .ok (.invokevirtual 209, 3) := by decide +kernel
theorem dX9_headOf_5 : decode cX9_headOf 5 = .ok (.ifCond .eq 15, 3) := by decide +kernel
theorem dX9_headOf_8 : decode cX9_headOf 8 = .ok (.aload_n 0, 1) := by decide +kernel
theorem dX9_headOf_9 : decode cX9_headOf 9 = .ok (.getfield 34, 3) := by decide +kernel
theorem dX9_headOf_12 : decode cX9_headOf 12 = .ok (.bipush 8, 2) := by decide +kernel
theorem dX9_headOf_14 : decode cX9_headOf 14 = .ok (.iload_n 1, 1) := by decide +kernel
theorem dX9_headOf_15 : decode cX9_headOf 15 = .ok (.iadd, 1) := by decide +kernel
theorem dX9_headOf_16 : decode cX9_headOf 16 = .ok (.iaload, 1) := by decide +kernel
theorem dX9_headOf_17 : decode cX9_headOf 17 = .ok (.goto 4, 3) := by decide +kernel
theorem dX9_headOf_20 : decode cX9_headOf 20 = .ok (.iconst 0, 1) := by decide +kernel
theorem dX9_headOf_21 : decode cX9_headOf 21 = .ok (.ireturn, 1) := by decide +kernel
theorem dX9_bestOrder_0 : decode cX9_bestOrder 0 = .ok (.iconst 0, 1) := by decide +kernel
theorem dX9_bestOrder_1 : decode cX9_bestOrder 1 = .ok (.istore_n 2, 1) := by decide +kernel
theorem dX9_bestOrder_2 : decode cX9_bestOrder 2 = .ok (.iconst 1, 1) := by decide +kernel
theorem dX9_bestOrder_3 : decode cX9_bestOrder 3 = .ok (.istore_n 3, 1) := by decide +kernel
theorem dX9_bestOrder_4 : decode cX9_bestOrder 4 = .ok (.iload_n 3, 1) := by decide +kernel
theorem dX9_bestOrder_5 : decode cX9_bestOrder 5 = .ok (.iconst 3, 1) := by decide +kernel
theorem dX9_bestOrder_6 : decode cX9_bestOrder 6 = .ok (.if_icmp .ge 40, 3) := by decide +kernel
theorem dX9_bestOrder_9 : decode cX9_bestOrder 9 = .ok (.aload_n 0, 1) := by decide +kernel
theorem dX9_bestOrder_10 : decode cX9_bestOrder 10 = .ok (.iload_n 1, 1) := by decide +kernel
theorem dX9_bestOrder_11 : decode cX9_bestOrder 11 = .ok (.iload_n 3, 1) := by decide +kernel
theorem dX9_bestOrder_12 : decode cX9_bestOrder 12 = .ok (.aload_n 0, 1) := by decide +kernel
theorem dX9_bestOrder_13 : decode cX9_bestOrder 13 = .ok (.iload_n 1, 1) := by decide +kernel
theorem dX9_bestOrder_14 : decode cX9_bestOrder 14 = .ok (.invokevirtual 243, 3) := by decide +kernel
theorem dX9_bestOrder_17 : decode cX9_bestOrder 17 = .ok (.invokevirtual 246, 3) := by decide +kernel
theorem dX9_bestOrder_20 : decode cX9_bestOrder 20 = .ok (.aload_n 0, 1) := by decide +kernel
theorem dX9_bestOrder_21 : decode cX9_bestOrder 21 = .ok (.iload_n 1, 1) := by decide +kernel
theorem dX9_bestOrder_22 : decode cX9_bestOrder 22 = .ok (.iload_n 2, 1) := by decide +kernel
theorem dX9_bestOrder_23 : decode cX9_bestOrder 23 = .ok (.aload_n 0, 1) := by decide +kernel
theorem dX9_bestOrder_24 : decode cX9_bestOrder 24 = .ok (.iload_n 1, 1) := by decide +kernel
theorem dX9_bestOrder_25 : decode cX9_bestOrder 25 = .ok (.invokevirtual 243, 3) := by decide +kernel
theorem dX9_bestOrder_28 : decode cX9_bestOrder 28 = .ok (.invokevirtual 246, 3) := by decide +kernel
theorem dX9_bestOrder_31 : decode cX9_bestOrder 31 = .ok (.if_icmp .ge 7, 3) := by decide +kernel
theorem dX9_bestOrder_34 : decode cX9_bestOrder 34 = .ok (.iload_n 3, 1) := by decide +kernel
theorem dX9_bestOrder_35 : decode cX9_bestOrder 35 = .ok (.goto 4, 3) := by decide +kernel
theorem dX9_bestOrder_38 : decode cX9_bestOrder 38 = .ok (.iload_n 2, 1) := by decide +kernel
theorem dX9_bestOrder_39 : decode cX9_bestOrder 39 = .ok (.istore_n 2, 1) := by decide +kernel
theorem dX9_bestOrder_40 : decode cX9_bestOrder 40 = .ok (.iinc 3 1, 3) := by decide +kernel
theorem dX9_bestOrder_43 : decode cX9_bestOrder 43 = .ok (.goto (-39), 3) := by decide +kernel
theorem dX9_bestOrder_46 : decode cX9_bestOrder 46 = .ok (.iload_n 2, 1) := by decide +kernel
theorem dX9_bestOrder_47 : decode cX9_bestOrder 47 = .ok (.ireturn, 1) := by decide +kernel
theorem dX9_nextTape_0 : decode cX9_nextTape 0 = .ok (.iconst (-1), 1) := by decide +kernel
theorem dX9_nextTape_1 : decode cX9_nextTape 1 = .ok (.istore_n 1, 1) := by decide +kernel
theorem dX9_nextTape_2 : decode cX9_nextTape 2 = .ok (.iconst 0, 1) := by decide +kernel
theorem dX9_nextTape_3 : decode cX9_nextTape 3 = .ok (.istore_n 2, 1) := by decide +kernel
theorem dX9_nextTape_4 : decode cX9_nextTape 4 = .ok (.iload_n 2, 1) := by decide +kernel
theorem dX9_nextTape_5 : decode cX9_nextTape 5 = .ok (.iconst 2, 1) := by decide +kernel
theorem dX9_nextTape_6 : decode cX9_nextTape 6 = .ok (.if_icmp .ge 75, 3) := by decide +kernel
theorem dX9_nextTape_9 : decode cX9_nextTape 9 = .ok (.iload_n 1, 1) := by decide +kernel
theorem dX9_nextTape_10 : decode cX9_nextTape 10 = .ok (.iconst (-1), 1) := by decide +kernel
theorem dX9_nextTape_11 : decode cX9_nextTape 11 = .ok (.if_icmp .ne 70, 3) := by decide +kernel
