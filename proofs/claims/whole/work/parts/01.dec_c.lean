theorem dX0_init_0 : decode cX0_init 0 = .ok (.aload_n 0, 1) := by decide +kernel
theorem dX0_init_1 : decode cX0_init 1 = .ok (.invokespecial 3, 3) := by decide +kernel
theorem dX0_init_4 : decode cX0_init 4 = .ok (.aload_n 0, 1) := by decide +kernel
theorem dX0_init_5 : decode cX0_init 5 = .ok (.bipush 20, 2) := by decide +kernel
theorem dX0_init_7 : decode cX0_init 7 = .ok (.newarray .int, 2) := by decide +kernel
theorem dX0_init_9 : decode cX0_init 9 = .ok (.putfield 11, 3) := by decide +kernel
theorem dX0_init_12 : decode cX0_init 12 = .ok (.return_, 1) := by decide +kernel
theorem dX0_forget_0 : decode cX0_forget 0 = .ok (.aload_n 0, 1) := by decide +kernel
theorem dX0_forget_1 : decode cX0_forget 1 = .ok (.iconst 0, 1) := by decide +kernel
theorem dX0_forget_2 : decode cX0_forget 2 = .ok (.putfield 15, 3) := by decide +kernel
theorem dX0_forget_5 : decode cX0_forget 5 = .ok (.return_, 1) := by decide +kernel
theorem dX0_kept_0 : decode cX0_kept 0 = .ok (.aload_n 0, 1) := by decide +kernel
theorem dX0_kept_1 : decode cX0_kept 1 = .ok (.getfield 15, 3) := by decide +kernel
theorem dX0_kept_4 : decode cX0_kept 4 = .ok (.bipush 20, 2) := by decide +kernel
theorem dX0_kept_6 : decode cX0_kept 6 = .ok (.invokestatic 19, 3) := by decide +kernel
theorem dX0_kept_9 : decode cX0_kept 9 = .ok (.ireturn, 1) := by decide +kernel
theorem dX0_begin_0 : decode cX0_begin 0 = .ok (.aload_n 0, 1) := by decide +kernel
theorem dX0_begin_1 : decode cX0_begin 1 = .ok (.invokevirtual 25, 3) := by decide +kernel
theorem dX0_begin_4 : decode cX0_begin 4 = .ok (.aload_n 0, 1) := by decide +kernel
theorem dX0_begin_5 : decode cX0_begin 5 = .ok (.iload_n 1, 1) := by decide +kernel
theorem dX0_begin_6 : decode cX0_begin 6 = .ok (.putfield 28, 3) := by decide +kernel
theorem dX0_begin_9 : decode cX0_begin 9 = .ok (.aload_n 0, 1) := by decide +kernel
theorem dX0_begin_10 : decode cX0_begin 10 = .ok (.iload_n 2, 1) := by decide +kernel
theorem dX0_begin_11 : decode cX0_begin 11 = .ok (.putfield 31, 3) := by decide +kernel
theorem dX0_begin_14 : decode cX0_begin 14 = .ok (.aload_n 0, 1) := by decide +kernel
theorem dX0_begin_15 : decode cX0_begin 15 = .ok (.iload_n 3, 1) := by decide +kernel
theorem dX0_begin_16 : decode cX0_begin 16 = .ok (.putfield 34, 3) := by decide +kernel
theorem dX0_begin_19 : decode cX0_begin 19 = .ok (.aload_n 0, 1) := by decide +kernel
theorem dX0_begin_20 : decode cX0_begin 20 = .ok (.iload 4, 2) := by decide +kernel
theorem dX0_begin_22 : decode cX0_begin 22 = .ok (.iload 5, 2) := by decide +kernel
theorem dX0_begin_24 : decode cX0_begin 24 = .ok (.iconst 0, 1) := by decide +kernel
theorem dX0_begin_25 : decode cX0_begin 25 = .ok (.invokevirtual 37, 3) := by decide +kernel
theorem dX0_begin_28 : decode cX0_begin 28 = .ok (.ireturn, 1) := by decide +kernel
theorem dX0_own_0 : decode cX0_own 0 = .ok (.aload_n 0, 1) := by decide +kernel
theorem dX0_own_1 : decode cX0_own 1 = .ok (.aload_n 0, 1) := by decide +kernel
theorem dX0_own_2 : decode cX0_own 2 = .ok (.getfield 28, 3) := by decide +kernel
theorem dX0_own_5 : decode cX0_own 5 = .ok (.iload_n 1, 1) := by decide +kernel
theorem dX0_own_6 : decode cX0_own 6 = .ok (.iload_n 2, 1) := by decide +kernel
theorem dX0_own_7 : decode cX0_own 7 = .ok (.iload_n 3, 1) := by decide +kernel
theorem dX0_own_8 : decode cX0_own 8 = .ok (.invokevirtual 41, 3) := by decide +kernel
theorem dX0_own_11 : decode cX0_own 11 = .ok (.ireturn, 1) := by decide +kernel
theorem dX0_from_0 : decode cX0_from 0 = .ok (.iload_n 1, 1) := by decide +kernel
theorem dX0_from_1 : decode cX0_from 1 = .ok (.istore 5, 2) := by decide +kernel
theorem dX0_from_3 : decode cX0_from 3 = .ok (.iconst 0, 1) := by decide +kernel
theorem dX0_from_4 : decode cX0_from 4 = .ok (.istore 6, 2) := by decide +kernel
theorem dX0_from_6 : decode cX0_from 6 = .ok (.iload 6, 2) := by decide +kernel
theorem dX0_from_8 : decode cX0_from 8 = .ok (.bipush 7, 2) := by decide +kernel
theorem dX0_from_10 : decode cX0_from 10 = .ok (.if_icmp .ge 35, 3) := by decide +kernel
theorem dX0_from_13 : decode cX0_from 13 = .ok (.iload 5, 2) := by decide +kernel
theorem dX0_from_15 : decode cX0_from 15 = .ok (.ifCond .le 30, 3) := by decide +kernel
theorem dX0_from_18 : decode cX0_from 18 = .ok (.getstatic 45, 3) := by decide +kernel
theorem dX0_from_21 : decode cX0_from 21 = .ok (.iload 5, 2) := by decide +kernel
theorem dX0_from_23 : decode cX0_from 23 = .ok (.iconst 3, 1) := by decide +kernel
theorem dX0_from_24 : decode cX0_from 24 = .ok (.imul, 1) := by decide +kernel
theorem dX0_from_25 : decode cX0_from 25 = .ok (.iload_n 2, 1) := by decide +kernel
theorem dX0_from_26 : decode cX0_from 26 = .ok (.iadd, 1) := by decide +kernel
theorem dX0_from_27 : decode cX0_from 27 = .ok (.iaload, 1) := by decide +kernel
theorem dX0_from_28 : decode cX0_from 28 = .ok (.ifCond .ne 17, 3) := by decide +kernel
theorem dX0_from_31 : decode cX0_from 31 = .ok (.getstatic 48, 3) := by decide +kernel
theorem dX0_from_34 : decode cX0_from 34 = .ok (.iload 5, 2) := by decide +kernel
theorem dX0_from_36 : decode cX0_from 36 = .ok (.iaload, 1) := by decide +kernel
theorem dX0_from_37 : decode cX0_from 37 = .ok (.istore 5, 2) := by decide +kernel
theorem dX0_from_39 : decode cX0_from 39 = .ok (.iinc 6 1, 3) := by decide +kernel
theorem dX0_from_42 : decode cX0_from 42 = .ok (.goto (-36), 3) := by decide +kernel
theorem dX0_from_45 : decode cX0_from 45 = .ok (.iload 5, 2) := by decide +kernel
theorem dX0_from_47 : decode cX0_from 47 = .ok (.ifCond .lt 10, 3) := by decide +kernel
theorem dX0_from_50 : decode cX0_from 50 = .ok (.iload 4, 2) := by decide +kernel
theorem dX0_from_52 : decode cX0_from 52 = .ok (.bipush 40, 2) := by decide +kernel
theorem dX0_from_54 : decode cX0_from 54 = .ok (.if_icmp .le 5, 3) := by decide +kernel
theorem dX0_from_57 : decode cX0_from 57 = .ok (.iconst 0, 1) := by decide +kernel
theorem dX0_from_58 : decode cX0_from 58 = .ok (.ireturn, 1) := by decide +kernel
theorem dX0_from_59 : decode cX0_from 59 = .ok (.aload_n 0, 1) := by decide +kernel
theorem dX0_from_60 : decode cX0_from 60 = .ok (.getstatic 45, 3) := by decide +kernel
theorem dX0_from_63 : decode cX0_from 63 = .ok (.iload 5, 2) := by decide +kernel
theorem dX0_from_65 : decode cX0_from 65 = .ok (.iconst 3, 1) := by decide +kernel
theorem dX0_from_66 : decode cX0_from 66 = .ok (.imul, 1) := by decide +kernel
theorem dX0_from_67 : decode cX0_from 67 = .ok (.iload_n 2, 1) := by decide +kernel
theorem dX0_from_68 : decode cX0_from 68 = .ok (.iadd, 1) := by decide +kernel
theorem dX0_from_69 : decode cX0_from 69 = .ok (.iaload, 1) := by decide +kernel
theorem dX0_from_70 : decode cX0_from 70 = .ok (.iload_n 3, 1) := by decide +kernel
theorem dX0_from_71 : decode cX0_from 71 = .ok (.iload 4, 2) := by decide +kernel
theorem dX0_from_73 : decode cX0_from 73 = .ok (.iconst 1, 1) := by decide +kernel
theorem dX0_from_74 : decode cX0_from 74 = .ok (.iadd, 1) := by decide +kernel
theorem dX0_from_75 : decode cX0_from 75 = .ok (.invokevirtual 51, 3) := by decide +kernel
theorem dX0_from_78 : decode cX0_from 78 = .ok (.ireturn, 1) := by decide +kernel
theorem dX0_runBody_0 : decode cX0_runBody 0 = .ok (.aload_n 0, 1) := by decide +kernel
theorem dX0_runBody_1 : decode cX0_runBody 1 = .ok (.getfield 15, 3) := by decide +kernel
theorem dX0_runBody_4 : decode cX0_runBody 4 = .ok (.bipush 20, 2) := by decide +kernel
theorem dX0_runBody_6 : decode cX0_runBody 6 = .ok (.if_icmp .ge 13, 3) := by decide +kernel
theorem dX0_runBody_9 : decode cX0_runBody 9 = .ok (.aload_n 0, 1) := by decide +kernel
theorem dX0_runBody_10 : decode cX0_runBody 10 = .ok (.getfield 11, 3) := by decide +kernel
theorem dX0_runBody_13 : decode cX0_runBody 13 = .ok (.aload_n 0, 1) := by decide +kernel
theorem dX0_runBody_14 : decode cX0_runBody 14 = .ok (.getfield 15, 3) := by decide +kernel
theorem dX0_runBody_17 : decode cX0_runBody 17 = .ok (.iload_n 1, 1) := by decide +kernel
theorem dX0_runBody_18 : decode cX0_runBody 18 = .ok (.iastore, 1) := by decide +kernel
theorem dX0_runBody_19 : decode cX0_runBody 19 = .ok (.aload_n 0, 1) := by decide +kernel
theorem dX0_runBody_20 : decode cX0_runBody 20 = .ok (.dup, 1) := by decide +kernel
theorem dX0_runBody_21 : decode cX0_runBody 21 = .ok (.getfield 15, 3) := by decide +kernel
theorem dX0_runBody_24 : decode cX0_runBody 24 = .ok (.iconst 1, 1) := by decide +kernel
theorem dX0_runBody_25 : decode cX0_runBody 25 = .ok (.iadd, 1) := by decide +kernel
theorem dX0_runBody_26 : decode cX0_runBody 26 = .ok (.putfield 15, 3) := by decide +kernel
theorem dX0_runBody_29 : decode cX0_runBody 29 = .ok (.iload_n 1, 1) := by decide +kernel
theorem dX0_runBody_30 : decode cX0_runBody 30 = .ok (.lookupswitch 235 #[(10, 98), (11, 105), (12, 118), (20, 128), (30, 140), (40, 151), (50, 168), (51, 178), (60, 189), (70, 203), (71, 221)], 98) := by decide +kernel
theorem dX0_runBody_128 : decode cX0_runBody 128 = .ok (.iload_n 2, 1) := by decide +kernel
theorem dX0_runBody_129 : decode cX0_runBody 129 = .ok (.aload_n 0, 1) := by decide +kernel
theorem dX0_runBody_130 : decode cX0_runBody 130 = .ok (.getfield 34, 3) := by decide +kernel
theorem dX0_runBody_133 : decode cX0_runBody 133 = .ok (.iadd, 1) := by decide +kernel
theorem dX0_runBody_134 : decode cX0_runBody 134 = .ok (.ireturn, 1) := by decide +kernel
theorem dX0_runBody_135 : decode cX0_runBody 135 = .ok (.aload_n 0, 1) := by decide +kernel
theorem dX0_runBody_136 : decode cX0_runBody 136 = .ok (.iconst 0, 1) := by decide +kernel
theorem dX0_runBody_137 : decode cX0_runBody 137 = .ok (.iload_n 2, 1) := by decide +kernel
theorem dX0_runBody_138 : decode cX0_runBody 138 = .ok (.iload_n 3, 1) := by decide +kernel
theorem dX0_runBody_139 : decode cX0_runBody 139 = .ok (.invokevirtual 37, 3) := by decide +kernel
theorem dX0_runBody_142 : decode cX0_runBody 142 = .ok (.aload_n 0, 1) := by decide +kernel
theorem dX0_runBody_143 : decode cX0_runBody 143 = .ok (.getfield 31, 3) := by decide +kernel
theorem dX0_runBody_146 : decode cX0_runBody 146 = .ok (.isub, 1) := by decide +kernel
theorem dX0_runBody_147 : decode cX0_runBody 147 = .ok (.ireturn, 1) := by decide +kernel
theorem dX0_runBody_148 : decode cX0_runBody 148 = .ok (.aload_n 0, 1) := by decide +kernel
theorem dX0_runBody_149 : decode cX0_runBody 149 = .ok (.iconst 1, 1) := by decide +kernel
theorem dX0_runBody_150 : decode cX0_runBody 150 = .ok (.iload_n 2, 1) := by decide +kernel
theorem dX0_runBody_151 : decode cX0_runBody 151 = .ok (.iload_n 3, 1) := by decide +kernel
theorem dX0_runBody_152 : decode cX0_runBody 152 = .ok (.invokevirtual 37, 3) := by decide +kernel
theorem dX0_runBody_155 : decode cX0_runBody 155 = .ok (.iconst 2, 1) := by decide +kernel
theorem dX0_runBody_156 : decode cX0_runBody 156 = .ok (.imul, 1) := by decide +kernel
theorem dX0_runBody_157 : decode cX0_runBody 157 = .ok (.ireturn, 1) := by decide +kernel
theorem dX0_runBody_158 : decode cX0_runBody 158 = .ok (.aload_n 0, 1) := by decide +kernel
theorem dX0_runBody_159 : decode cX0_runBody 159 = .ok (.iconst 0, 1) := by decide +kernel
theorem dX0_runBody_160 : decode cX0_runBody 160 = .ok (.iconst 1, 1) := by decide +kernel
theorem dX0_runBody_161 : decode cX0_runBody 161 = .ok (.iload_n 2, 1) := by decide +kernel
theorem dX0_runBody_162 : decode cX0_runBody 162 = .ok (.iload_n 3, 1) := by decide +kernel
theorem dX0_runBody_163 : decode cX0_runBody 163 = .ok (.invokevirtual 41, 3) := by decide +kernel
theorem dX0_runBody_166 : decode cX0_runBody 166 = .ok (.bipush 6, 2) := by decide +kernel
theorem dX0_runBody_168 : decode cX0_runBody 168 = .ok (.ixor, 1) := by decide +kernel
theorem dX0_runBody_169 : decode cX0_runBody 169 = .ok (.ireturn, 1) := by decide +kernel
theorem dX0_runBody_170 : decode cX0_runBody 170 = .ok (.aload_n 0, 1) := by decide +kernel
theorem dX0_runBody_171 : decode cX0_runBody 171 = .ok (.iconst 0, 1) := by decide +kernel
theorem dX0_runBody_172 : decode cX0_runBody 172 = .ok (.iconst 0, 1) := by decide +kernel
theorem dX0_runBody_173 : decode cX0_runBody 173 = .ok (.iload_n 2, 1) := by decide +kernel
theorem dX0_runBody_174 : decode cX0_runBody 174 = .ok (.iconst 3, 1) := by decide +kernel
theorem dX0_runBody_175 : decode cX0_runBody 175 = .ok (.imul, 1) := by decide +kernel
theorem dX0_runBody_176 : decode cX0_runBody 176 = .ok (.iload_n 3, 1) := by decide +kernel
theorem dX0_runBody_177 : decode cX0_runBody 177 = .ok (.invokevirtual 41, 3) := by decide +kernel
theorem dX0_runBody_180 : decode cX0_runBody 180 = .ok (.ireturn, 1) := by decide +kernel
theorem dX0_runBody_181 : decode cX0_runBody 181 = .ok (.aload_n 0, 1) := by decide +kernel
theorem dX0_runBody_182 : decode cX0_runBody 182 = .ok (.iconst 0, 1) := by decide +kernel
theorem dX0_runBody_183 : decode cX0_runBody 183 = .ok (.iconst 2, 1) := by decide +kernel
theorem dX0_runBody_184 : decode cX0_runBody 184 = .ok (.iload_n 2, 1) := by decide +kernel
theorem dX0_runBody_185 : decode cX0_runBody 185 = .ok (.iload_n 3, 1) := by decide +kernel
theorem dX0_runBody_186 : decode cX0_runBody 186 = .ok (.invokevirtual 41, 3) := by decide +kernel
theorem dX0_runBody_189 : decode cX0_runBody 189 = .ok (.aload_n 0, 1) := by decide +kernel
theorem dX0_runBody_190 : decode cX0_runBody 190 = .ok (.iconst 1, 1) := by decide +kernel
theorem dX0_runBody_191 : decode cX0_runBody 191 = .ok (.iconst 1, 1) := by decide +kernel
theorem dX0_runBody_192 : decode cX0_runBody 192 = .ok (.iload_n 3, 1) := by decide +kernel
theorem dX0_runBody_193 : decode cX0_runBody 193 = .ok (.invokevirtual 37, 3) := by decide +kernel
theorem dX0_runBody_196 : decode cX0_runBody 196 = .ok (.iadd, 1) := by decide +kernel
theorem dX0_runBody_197 : decode cX0_runBody 197 = .ok (.ireturn, 1) := by decide +kernel
theorem dX0_runBody_198 : decode cX0_runBody 198 = .ok (.aload_n 0, 1) := by decide +kernel
theorem dX0_runBody_199 : decode cX0_runBody 199 = .ok (.iconst 1, 1) := by decide +kernel
theorem dX0_runBody_200 : decode cX0_runBody 200 = .ok (.iconst 0, 1) := by decide +kernel
theorem dX0_runBody_201 : decode cX0_runBody 201 = .ok (.iload_n 2, 1) := by decide +kernel
theorem dX0_runBody_202 : decode cX0_runBody 202 = .ok (.iload_n 3, 1) := by decide +kernel
theorem dX0_runBody_203 : decode cX0_runBody 203 = .ok (.invokevirtual 41, 3) := by decide +kernel
theorem dX0_runBody_206 : decode cX0_runBody 206 = .ok (.ineg, 1) := by decide +kernel
theorem dX0_runBody_207 : decode cX0_runBody 207 = .ok (.ireturn, 1) := by decide +kernel
theorem dX0_runBody_208 : decode cX0_runBody 208 = .ok (.aload_n 0, 1) := by decide +kernel
theorem dX0_runBody_209 : decode cX0_runBody 209 = .ok (.iconst 1, 1) := by decide +kernel
theorem dX0_runBody_210 : decode cX0_runBody 210 = .ok (.iconst 1, 1) := by decide +kernel
theorem dX0_runBody_211 : decode cX0_runBody 211 = .ok (.iload_n 2, 1) := by decide +kernel
theorem dX0_runBody_212 : decode cX0_runBody 212 = .ok (.iconst 1, 1) := by decide +kernel
theorem dX0_runBody_213 : decode cX0_runBody 213 = .ok (.iadd, 1) := by decide +kernel
theorem dX0_runBody_214 : decode cX0_runBody 214 = .ok (.iload_n 3, 1) := by decide +kernel
theorem dX0_runBody_215 : decode cX0_runBody 215 = .ok (.invokevirtual 41, 3) := by decide +kernel
theorem dX0_runBody_218 : decode cX0_runBody 218 = .ok (.ireturn, 1) := by decide +kernel
theorem dX0_runBody_219 : decode cX0_runBody 219 = .ok (.aload_n 0, 1) := by decide +kernel
theorem dX0_runBody_220 : decode cX0_runBody 220 = .ok (.iconst 2, 1) := by decide +kernel
theorem dX0_runBody_221 : decode cX0_runBody 221 = .ok (.iconst 2, 1) := by decide +kernel
theorem dX0_runBody_222 : decode cX0_runBody 222 = .ok (.iload_n 2, 1) := by decide +kernel
theorem dX0_runBody_223 : decode cX0_runBody 223 = .ok (.aload_n 0, 1) := by decide +kernel
theorem dX0_runBody_224 : decode cX0_runBody 224 = .ok (.getfield 34, 3) := by decide +kernel
theorem dX0_runBody_227 : decode cX0_runBody 227 = .ok (.isub, 1) := by decide +kernel
theorem dX0_runBody_228 : decode cX0_runBody 228 = .ok (.iload_n 3, 1) := by decide +kernel
theorem dX0_runBody_229 : decode cX0_runBody 229 = .ok (.invokevirtual 41, 3) := by decide +kernel
theorem dX0_runBody_232 : decode cX0_runBody 232 = .ok (.ireturn, 1) := by decide +kernel
theorem dX0_runBody_233 : decode cX0_runBody 233 = .ok (.aload_n 0, 1) := by decide +kernel
theorem dX0_runBody_234 : decode cX0_runBody 234 = .ok (.iconst 3, 1) := by decide +kernel
theorem dX0_runBody_235 : decode cX0_runBody 235 = .ok (.iconst 1, 1) := by decide +kernel
theorem dX0_runBody_236 : decode cX0_runBody 236 = .ok (.iload_n 2, 1) := by decide +kernel
theorem dX0_runBody_237 : decode cX0_runBody 237 = .ok (.iload_n 3, 1) := by decide +kernel
theorem dX0_runBody_238 : decode cX0_runBody 238 = .ok (.invokevirtual 41, 3) := by decide +kernel
theorem dX0_runBody_241 : decode cX0_runBody 241 = .ok (.aload_n 0, 1) := by decide +kernel
theorem dX0_runBody_242 : decode cX0_runBody 242 = .ok (.iconst 3, 1) := by decide +kernel
theorem dX0_runBody_243 : decode cX0_runBody 243 = .ok (.iconst 0, 1) := by decide +kernel
theorem dX0_runBody_244 : decode cX0_runBody 244 = .ok (.iconst 2, 1) := by decide +kernel
theorem dX0_runBody_245 : decode cX0_runBody 245 = .ok (.iload_n 3, 1) := by decide +kernel
theorem dX0_runBody_246 : decode cX0_runBody 246 = .ok (.invokevirtual 41, 3) := by decide +kernel
theorem dX0_runBody_249 : decode cX0_runBody 249 = .ok (.iadd, 1) := by decide +kernel
theorem dX0_runBody_250 : decode cX0_runBody 250 = .ok (.ireturn, 1) := by decide +kernel
theorem dX0_runBody_251 : decode cX0_runBody 251 = .ok (.aload_n 0, 1) := by decide +kernel
theorem dX0_runBody_252 : decode cX0_runBody 252 = .ok (.iconst 3, 1) := by decide +kernel
theorem dX0_runBody_253 : decode cX0_runBody 253 = .ok (.iconst 0, 1) := by decide +kernel
theorem dX0_runBody_254 : decode cX0_runBody 254 = .ok (.iload_n 2, 1) := by decide +kernel
theorem dX0_runBody_255 : decode cX0_runBody 255 = .ok (.iload_n 3, 1) := by decide +kernel
theorem dX0_runBody_256 : decode cX0_runBody 256 = .ok (.invokevirtual 41, 3) := by decide +kernel
theorem dX0_runBody_259 : decode cX0_runBody 259 = .ok (.aload_n 0, 1) := by decide +kernel
theorem dX0_runBody_260 : decode cX0_runBody 260 = .ok (.getfield 31, 3) := by decide +kernel
theorem dX0_runBody_263 : decode cX0_runBody 263 = .ok (.ixor, 1) := by decide +kernel
theorem dX0_runBody_264 : decode cX0_runBody 264 = .ok (.ireturn, 1) := by decide +kernel
theorem dX0_runBody_265 : decode cX0_runBody 265 = .ok (.iconst 0, 1) := by decide +kernel
theorem dX0_runBody_266 : decode cX0_runBody 266 = .ok (.ireturn, 1) := by decide +kernel
theorem dX1_init_0 : decode cX1_init 0 = .ok (.aload_n 0, 1) := by decide +kernel
theorem dX1_init_1 : decode cX1_init 1 = .ok (.invokespecial 3, 3) := by decide +kernel
theorem dX1_init_4 : decode cX1_init 4 = .ok (.aload_n 0, 1) := by decide +kernel
theorem dX1_init_5 : decode cX1_init 5 = .ok (.new 9, 3) := by decide +kernel
theorem dX1_init_8 : decode cX1_init 8 = .ok (.dup, 1) := by decide +kernel
theorem dX1_init_9 : decode cX1_init 9 = .ok (.iconst 5, 1) := by decide +kernel
theorem dX1_init_10 : decode cX1_init 10 = .ok (.invokespecial 11, 3) := by decide +kernel
theorem dX1_init_13 : decode cX1_init 13 = .ok (.putfield 14, 3) := by decide +kernel
theorem dX1_init_16 : decode cX1_init 16 = .ok (.aload_n 0, 1) := by decide +kernel
theorem dX1_init_17 : decode cX1_init 17 = .ok (.new 9, 3) := by decide +kernel
theorem dX1_init_20 : decode cX1_init 20 = .ok (.dup, 1) := by decide +kernel
theorem dX1_init_21 : decode cX1_init 21 = .ok (.bipush 10, 2) := by decide +kernel
theorem dX1_init_23 : decode cX1_init 23 = .ok (.invokespecial 11, 3) := by decide +kernel
theorem dX1_init_26 : decode cX1_init 26 = .ok (.putfield 20, 3) := by decide +kernel
theorem dX1_init_29 : decode cX1_init 29 = .ok (.aload_n 0, 1) := by decide +kernel
theorem dX1_init_30 : decode cX1_init 30 = .ok (.new 9, 3) := by decide +kernel
theorem dX1_init_33 : decode cX1_init 33 = .ok (.dup, 1) := by decide +kernel
theorem dX1_init_34 : decode cX1_init 34 = .ok (.bipush 8, 2) := by decide +kernel
theorem dX1_init_36 : decode cX1_init 36 = .ok (.invokespecial 11, 3) := by decide +kernel
theorem dX1_init_39 : decode cX1_init 39 = .ok (.putfield 23, 3) := by decide +kernel
theorem dX1_init_42 : decode cX1_init 42 = .ok (.aload_n 0, 1) := by decide +kernel
theorem dX1_init_43 : decode cX1_init 43 = .ok (.new 26, 3) := by decide +kernel
theorem dX1_init_46 : decode cX1_init 46 = .ok (.dup, 1) := by decide +kernel
theorem dX1_init_47 : decode cX1_init 47 = .ok (.aload_n 1, 1) := by decide +kernel
theorem dX1_init_48 : decode cX1_init 48 = .ok (.invokespecial 28, 3) := by decide +kernel
theorem dX1_init_51 : decode cX1_init 51 = .ok (.putfield 31, 3) := by decide +kernel
theorem dX1_init_54 : decode cX1_init 54 = .ok (.return_, 1) := by decide +kernel
theorem dX1_copyFrom_0 : decode cX1_copyFrom 0 = .ok (.aload_n 0, 1) := by decide +kernel
theorem dX1_copyFrom_1 : decode cX1_copyFrom 1 = .ok (.getfield 31, 3) := by decide +kernel
theorem dX1_copyFrom_4 : decode cX1_copyFrom 4 = .ok (.aload_n 1, 1) := by decide +kernel
theorem dX1_copyFrom_5 : decode cX1_copyFrom 5 = .ok (.getfield 31, 3) := by decide +kernel
theorem dX1_copyFrom_8 : decode cX1_copyFrom 8 = .ok (.invokevirtual 35, 3) := by decide +kernel
theorem dX1_copyFrom_11 : decode cX1_copyFrom 11 = .ok (.aload_n 0, 1) := by decide +kernel
theorem dX1_copyFrom_12 : decode cX1_copyFrom 12 = .ok (.getfield 14, 3) := by decide +kernel
theorem dX1_copyFrom_15 : decode cX1_copyFrom 15 = .ok (.aload_n 1, 1) := by decide +kernel
theorem dX1_copyFrom_16 : decode cX1_copyFrom 16 = .ok (.getfield 14, 3) := by decide +kernel
theorem dX1_copyFrom_19 : decode cX1_copyFrom 19 = .ok (.invokevirtual 39, 3) := by decide +kernel
theorem dX1_copyFrom_22 : decode cX1_copyFrom 22 = .ok (.aload_n 0, 1) := by decide +kernel
theorem dX1_copyFrom_23 : decode cX1_copyFrom 23 = .ok (.getfield 20, 3) := by decide +kernel
theorem dX1_copyFrom_26 : decode cX1_copyFrom 26 = .ok (.aload_n 1, 1) := by decide +kernel
theorem dX1_copyFrom_27 : decode cX1_copyFrom 27 = .ok (.getfield 20, 3) := by decide +kernel
theorem dX1_copyFrom_30 : decode cX1_copyFrom 30 = .ok (.invokevirtual 39, 3) := by decide +kernel
theorem dX1_copyFrom_33 : decode cX1_copyFrom 33 = .ok (.aload_n 0, 1) := by decide +kernel
theorem dX1_copyFrom_34 : decode cX1_copyFrom 34 = .ok (.getfield 23, 3) := by decide +kernel
theorem dX1_copyFrom_37 : decode cX1_copyFrom 37 = .ok (.aload_n 1, 1) := by decide +kernel
theorem dX1_copyFrom_38 : decode cX1_copyFrom 38 = .ok (.getfield 23, 3) := by decide +kernel
theorem dX1_copyFrom_41 : decode cX1_copyFrom 41 = .ok (.invokevirtual 39, 3) := by decide +kernel
theorem dX1_copyFrom_44 : decode cX1_copyFrom 44 = .ok (.return_, 1) := by decide +kernel
theorem dX2_init_0 : decode cX2_init 0 = .ok (.aload_n 0, 1) := by decide +kernel
theorem dX2_init_1 : decode cX2_init 1 = .ok (.invokespecial 3, 3) := by decide +kernel
theorem dX2_init_4 : decode cX2_init 4 = .ok (.aload_n 0, 1) := by decide +kernel
theorem dX2_init_5 : decode cX2_init 5 = .ok (.bipush 100, 2) := by decide +kernel
theorem dX2_init_7 : decode cX2_init 7 = .ok (.newarray .int, 2) := by decide +kernel
theorem dX2_init_9 : decode cX2_init 9 = .ok (.putfield 9, 3) := by decide +kernel
theorem dX2_init_12 : decode cX2_init 12 = .ok (.aload_n 0, 1) := by decide +kernel
theorem dX2_init_13 : decode cX2_init 13 = .ok (.bipush 10, 2) := by decide +kernel
theorem dX2_init_15 : decode cX2_init 15 = .ok (.newarray .int, 2) := by decide +kernel
theorem dX2_init_17 : decode cX2_init 17 = .ok (.putfield 15, 3) := by decide +kernel
theorem dX2_init_20 : decode cX2_init 20 = .ok (.aload_n 0, 1) := by decide +kernel
theorem dX2_init_21 : decode cX2_init 21 = .ok (.bipush 10, 2) := by decide +kernel
theorem dX2_init_23 : decode cX2_init 23 = .ok (.newarray .int, 2) := by decide +kernel
theorem dX2_init_25 : decode cX2_init 25 = .ok (.putfield 18, 3) := by decide +kernel
theorem dX2_init_28 : decode cX2_init 28 = .ok (.aload_n 0, 1) := by decide +kernel
theorem dX2_init_29 : decode cX2_init 29 = .ok (.iconst 5, 1) := by decide +kernel
theorem dX2_init_30 : decode cX2_init 30 = .ok (.putfield 21, 3) := by decide +kernel
theorem dX2_init_33 : decode cX2_init 33 = .ok (.aload_n 0, 1) := by decide +kernel
theorem dX2_init_34 : decode cX2_init 34 = .ok (.bipush 6, 2) := by decide +kernel
theorem dX2_init_36 : decode cX2_init 36 = .ok (.putfield 25, 3) := by decide +kernel
theorem dX2_init_39 : decode cX2_init 39 = .ok (.return_, 1) := by decide +kernel
theorem dX2_clear_0 : decode cX2_clear 0 = .ok (.aload_n 0, 1) := by decide +kernel
theorem dX2_clear_1 : decode cX2_clear 1 = .ok (.iconst 0, 1) := by decide +kernel
theorem dX2_clear_2 : decode cX2_clear 2 = .ok (.putfield 28, 3) := by decide +kernel
theorem dX2_clear_5 : decode cX2_clear 5 = .ok (.aload_n 0, 1) := by decide +kernel
theorem dX2_clear_6 : decode cX2_clear 6 = .ok (.iconst 0, 1) := by decide +kernel
theorem dX2_clear_7 : decode cX2_clear 7 = .ok (.putfield 31, 3) := by decide +kernel
theorem dX2_clear_10 : decode cX2_clear 10 = .ok (.aload_n 0, 1) := by decide +kernel
theorem dX2_clear_11 : decode cX2_clear 11 = .ok (.iconst 5, 1) := by decide +kernel
theorem dX2_clear_12 : decode cX2_clear 12 = .ok (.putfield 21, 3) := by decide +kernel
theorem dX2_clear_15 : decode cX2_clear 15 = .ok (.aload_n 0, 1) := by decide +kernel
theorem dX2_clear_16 : decode cX2_clear 16 = .ok (.bipush 6, 2) := by decide +kernel
theorem dX2_clear_18 : decode cX2_clear 18 = .ok (.putfield 25, 3) := by decide +kernel
theorem dX2_clear_21 : decode cX2_clear 21 = .ok (.aload_n 0, 1) := by decide +kernel
theorem dX2_clear_22 : decode cX2_clear 22 = .ok (.iconst 0, 1) := by decide +kernel
theorem dX2_clear_23 : decode cX2_clear 23 = .ok (.putfield 34, 3) := by decide +kernel
theorem dX2_clear_26 : decode cX2_clear 26 = .ok (.return_, 1) := by decide +kernel
theorem dX2_addStep_0 : decode cX2_addStep 0 = .ok (.aload_n 0, 1) := by decide +kernel
theorem dX2_addStep_1 : decode cX2_addStep 1 = .ok (.getfield 28, 3) := by decide +kernel
theorem dX2_addStep_4 : decode cX2_addStep 4 = .ok (.aload_n 0, 1) := by decide +kernel
theorem dX2_addStep_5 : decode cX2_addStep 5 = .ok (.getfield 9, 3) := by decide +kernel
theorem dX2_addStep_8 : decode cX2_addStep 8 = .ok (.arraylength, 1) := by decide +kernel
theorem dX2_addStep_9 : decode cX2_addStep 9 = .ok (.if_icmp .ge 23, 3) := by decide +kernel
theorem dX2_addStep_12 : decode cX2_addStep 12 = .ok (.aload_n 0, 1) := by decide +kernel
theorem dX2_addStep_13 : decode cX2_addStep 13 = .ok (.getfield 9, 3) := by decide +kernel
theorem dX2_addStep_16 : decode cX2_addStep 16 = .ok (.aload_n 0, 1) := by decide +kernel
theorem dX2_addStep_17 : decode cX2_addStep 17 = .ok (.getfield 28, 3) := by decide +kernel
theorem dX2_addStep_20 : decode cX2_addStep 20 = .ok (.iload_n 1, 1) := by decide +kernel
theorem dX2_addStep_21 : decode cX2_addStep 21 = .ok (.iastore, 1) := by decide +kernel
theorem dX2_addStep_22 : decode cX2_addStep 22 = .ok (.aload_n 0, 1) := by decide +kernel
theorem dX2_addStep_23 : decode cX2_addStep 23 = .ok (.dup, 1) := by decide +kernel
theorem dX2_addStep_24 : decode cX2_addStep 24 = .ok (.getfield 28, 3) := by decide +kernel
theorem dX2_addStep_27 : decode cX2_addStep 27 = .ok (.iconst 1, 1) := by decide +kernel
theorem dX2_addStep_28 : decode cX2_addStep 28 = .ok (.iadd, 1) := by decide +kernel
theorem dX2_addStep_29 : decode cX2_addStep 29 = .ok (.putfield 28, 3) := by decide +kernel
theorem dX2_addStep_32 : decode cX2_addStep 32 = .ok (.return_, 1) := by decide +kernel
theorem dX2_addTest_0 : decode cX2_addTest 0 = .ok (.aload_n 0, 1) := by decide +kernel
theorem dX2_addTest_1 : decode cX2_addTest 1 = .ok (.aload_n 0, 1) := by decide +kernel
theorem dX2_addTest_2 : decode cX2_addTest 2 = .ok (.getfield 34, 3) := by decide +kernel
theorem dX2_addTest_5 : decode cX2_addTest 5 = .ok (.ifCond .ne 8, 3) := by decide +kernel
theorem dX2_addTest_8 : decode cX2_addTest 8 = .ok (.iload_n 1, 1) := by decide +kernel
theorem dX2_addTest_9 : decode cX2_addTest 9 = .ok (.iconst 5, 1) := by decide +kernel
theorem dX2_addTest_10 : decode cX2_addTest 10 = .ok (.if_icmp .ne 7, 3) := by decide +kernel
theorem dX2_addTest_13 : decode cX2_addTest 13 = .ok (.iconst 1, 1) := by decide +kernel
theorem dX2_addTest_14 : decode cX2_addTest 14 = .ok (.goto 4, 3) := by decide +kernel
theorem dX2_addTest_17 : decode cX2_addTest 17 = .ok (.iconst 0, 1) := by decide +kernel
theorem dX2_addTest_18 : decode cX2_addTest 18 = .ok (.putfield 34, 3) := by decide +kernel
theorem dX2_addTest_21 : decode cX2_addTest 21 = .ok (.aload_n 0, 1) := by decide +kernel
theorem dX2_addTest_22 : decode cX2_addTest 22 = .ok (.iload_n 1, 1) := by decide +kernel
theorem dX2_addTest_23 : decode cX2_addTest 23 = .ok (.bipush 16, 2) := by decide +kernel
theorem dX2_addTest_25 : decode cX2_addTest 25 = .ok (.ishl, 1) := by decide +kernel
theorem dX2_addTest_26 : decode cX2_addTest 26 = .ok (.iload_n 2, 1) := by decide +kernel
theorem dX2_addTest_27 : decode cX2_addTest 27 = .ok (.bipush 8, 2) := by decide +kernel
theorem dX2_addTest_29 : decode cX2_addTest 29 = .ok (.ishl, 1) := by decide +kernel
theorem dX2_addTest_30 : decode cX2_addTest 30 = .ok (.ior, 1) := by decide +kernel
theorem dX2_addTest_31 : decode cX2_addTest 31 = .ok (.iload_n 3, 1) := by decide +kernel
theorem dX2_addTest_32 : decode cX2_addTest 32 = .ok (.ior, 1) := by decide +kernel
theorem dX2_addTest_33 : decode cX2_addTest 33 = .ok (.invokevirtual 38, 3) := by decide +kernel
theorem dX2_addTest_36 : decode cX2_addTest 36 = .ok (.return_, 1) := by decide +kernel
theorem dX2_addWeight_0 : decode cX2_addWeight 0 = .ok (.aload_n 0, 1) := by decide +kernel
theorem dX2_addWeight_1 : decode cX2_addWeight 1 = .ok (.getfield 31, 3) := by decide +kernel
theorem dX2_addWeight_4 : decode cX2_addWeight 4 = .ok (.aload_n 0, 1) := by decide +kernel
theorem dX2_addWeight_5 : decode cX2_addWeight 5 = .ok (.getfield 15, 3) := by decide +kernel
theorem dX2_addWeight_8 : decode cX2_addWeight 8 = .ok (.arraylength, 1) := by decide +kernel
theorem dX2_addWeight_9 : decode cX2_addWeight 9 = .ok (.if_icmp .ge 36, 3) := by decide +kernel
theorem dX2_addWeight_12 : decode cX2_addWeight 12 = .ok (.aload_n 0, 1) := by decide +kernel
theorem dX2_addWeight_13 : decode cX2_addWeight 13 = .ok (.getfield 15, 3) := by decide +kernel
theorem dX2_addWeight_16 : decode cX2_addWeight 16 = .ok (.aload_n 0, 1) := by decide +kernel
theorem dX2_addWeight_17 : decode cX2_addWeight 17 = .ok (.getfield 31, 3) := by decide +kernel
theorem dX2_addWeight_20 : decode cX2_addWeight 20 = .ok (.iload_n 1, 1) := by decide +kernel
theorem dX2_addWeight_21 : decode cX2_addWeight 21 = .ok (.iastore, 1) := by decide +kernel
theorem dX2_addWeight_22 : decode cX2_addWeight 22 = .ok (.aload_n 0, 1) := by decide +kernel
theorem dX2_addWeight_23 : decode cX2_addWeight 23 = .ok (.getfield 18, 3) := by decide +kernel
theorem dX2_addWeight_26 : decode cX2_addWeight 26 = .ok (.aload_n 0, 1) := by decide +kernel
theorem dX2_addWeight_27 : decode cX2_addWeight 27 = .ok (.getfield 31, 3) := by decide +kernel
theorem dX2_addWeight_30 : decode cX2_addWeight 30 = .ok (.aload_n 0, 1) := by decide +kernel
theorem dX2_addWeight_31 : decode cX2_addWeight 31 = .ok (.getfield 28, 3) := by decide +kernel
theorem dX2_addWeight_34 : decode cX2_addWeight 34 = .ok (.iastore, 1) := by decide +kernel
theorem dX2_addWeight_35 : decode cX2_addWeight 35 = .ok (.aload_n 0, 1) := by decide +kernel
theorem dX2_addWeight_36 : decode cX2_addWeight 36 = .ok (.dup, 1) := by decide +kernel
theorem dX2_addWeight_37 : decode cX2_addWeight 37 = .ok (.getfield 31, 3) := by decide +kernel
theorem dX2_addWeight_40 : decode cX2_addWeight 40 = .ok (.iconst 1, 1) := by decide +kernel
theorem dX2_addWeight_41 : decode cX2_addWeight 41 = .ok (.iadd, 1) := by decide +kernel
theorem dX2_addWeight_42 : decode cX2_addWeight 42 = .ok (.putfield 31, 3) := by decide +kernel
theorem dX2_addWeight_45 : decode cX2_addWeight 45 = .ok (.return_, 1) := by decide +kernel
theorem dX2_liking_0 : decode cX2_liking 0 = .ok (.iconst 2, 1) := by decide +kernel
theorem dX2_liking_1 : decode cX2_liking 1 = .ok (.istore_n 2, 1) := by decide +kernel
theorem dX2_liking_2 : decode cX2_liking 2 = .ok (.iconst 0, 1) := by decide +kernel
theorem dX2_liking_3 : decode cX2_liking 3 = .ok (.istore_n 3, 1) := by decide +kernel
theorem dX2_liking_4 : decode cX2_liking 4 = .ok (.iconst 0, 1) := by decide +kernel
theorem dX2_liking_5 : decode cX2_liking 5 = .ok (.istore 4, 2) := by decide +kernel
theorem dX2_liking_7 : decode cX2_liking 7 = .ok (.iload 4, 2) := by decide +kernel
theorem dX2_liking_9 : decode cX2_liking 9 = .ok (.aload_n 0, 1) := by decide +kernel
theorem dX2_liking_10 : decode cX2_liking 10 = .ok (.getfield 31, 3) := by decide +kernel
theorem dX2_liking_13 : decode cX2_liking 13 = .ok (.if_icmp .ge 43, 3) := by decide +kernel
theorem dX2_liking_16 : decode cX2_liking 16 = .ok (.aload_n 0, 1) := by decide +kernel
theorem dX2_liking_17 : decode cX2_liking 17 = .ok (.iload_n 3, 1) := by decide +kernel
theorem dX2_liking_18 : decode cX2_liking 18 = .ok (.aload_n 0, 1) := by decide +kernel
theorem dX2_liking_19 : decode cX2_liking 19 = .ok (.getfield 18, 3) := by decide +kernel
theorem dX2_liking_22 : decode cX2_liking 22 = .ok (.iload 4, 2) := by decide +kernel
theorem dX2_liking_24 : decode cX2_liking 24 = .ok (.iaload, 1) := by decide +kernel
theorem dX2_liking_25 : decode cX2_liking 25 = .ok (.aload_n 1, 1) := by decide +kernel
theorem dX2_liking_26 : decode cX2_liking 26 = .ok (.invokevirtual 42, 3) := by decide +kernel
theorem dX2_liking_29 : decode cX2_liking 29 = .ok (.ifCond .eq 13, 3) := by decide +kernel
theorem dX2_liking_32 : decode cX2_liking 32 = .ok (.iload_n 2, 1) := by decide +kernel
theorem dX2_liking_33 : decode cX2_liking 33 = .ok (.aload_n 0, 1) := by decide +kernel
theorem dX2_liking_34 : decode cX2_liking 34 = .ok (.getfield 15, 3) := by decide +kernel
theorem dX2_liking_37 : decode cX2_liking 37 = .ok (.iload 4, 2) := by decide +kernel
theorem dX2_liking_39 : decode cX2_liking 39 = .ok (.iaload, 1) := by decide +kernel
theorem dX2_liking_40 : decode cX2_liking 40 = .ok (.iadd, 1) := by decide +kernel
theorem dX2_liking_41 : decode cX2_liking 41 = .ok (.istore_n 2, 1) := by decide +kernel
theorem dX2_liking_42 : decode cX2_liking 42 = .ok (.aload_n 0, 1) := by decide +kernel
theorem dX2_liking_43 : decode cX2_liking 43 = .ok (.getfield 18, 3) := by decide +kernel
theorem dX2_liking_46 : decode cX2_liking 46 = .ok (.iload 4, 2) := by decide +kernel
theorem dX2_liking_48 : decode cX2_liking 48 = .ok (.iaload, 1) := by decide +kernel
theorem dX2_liking_49 : decode cX2_liking 49 = .ok (.istore_n 3, 1) := by decide +kernel
theorem dX2_liking_50 : decode cX2_liking 50 = .ok (.iinc 4 1, 3) := by decide +kernel
theorem dX2_liking_53 : decode cX2_liking 53 = .ok (.goto (-46), 3) := by decide +kernel
theorem dX2_liking_56 : decode cX2_liking 56 = .ok (.iload_n 2, 1) := by decide +kernel
theorem dX2_liking_57 : decode cX2_liking 57 = .ok (.ireturn, 1) := by decide +kernel
theorem dX2_holds_0 : decode cX2_holds 0 = .ok (.iconst 0, 1) := by decide +kernel
theorem dX2_holds_1 : decode cX2_holds 1 = .ok (.istore 4, 2) := by decide +kernel
theorem dX2_holds_3 : decode cX2_holds 3 = .ok (.iload_n 1, 1) := by decide +kernel
theorem dX2_holds_4 : decode cX2_holds 4 = .ok (.istore 5, 2) := by decide +kernel
theorem dX2_holds_6 : decode cX2_holds 6 = .ok (.iload 5, 2) := by decide +kernel
theorem dX2_holds_8 : decode cX2_holds 8 = .ok (.iload_n 2, 1) := by decide +kernel
theorem dX2_holds_9 : decode cX2_holds 9 = .ok (.if_icmp .ge 106, 3) := by decide +kernel
theorem dX2_holds_12 : decode cX2_holds 12 = .ok (.iload 4, 2) := by decide +kernel
theorem dX2_holds_14 : decode cX2_holds 14 = .ok (.iconst 1, 1) := by decide +kernel
theorem dX2_holds_15 : decode cX2_holds 15 = .ok (.iand, 1) := by decide +kernel
theorem dX2_holds_16 : decode cX2_holds 16 = .ok (.istore 6, 2) := by decide +kernel
theorem dX2_holds_18 : decode cX2_holds 18 = .ok (.aload_n 0, 1) := by decide +kernel
theorem dX2_holds_19 : decode cX2_holds 19 = .ok (.getfield 9, 3) := by decide +kernel
theorem dX2_holds_22 : decode cX2_holds 22 = .ok (.iload 5, 2) := by decide +kernel
theorem dX2_holds_24 : decode cX2_holds 24 = .ok (.iaload, 1) := by decide +kernel
theorem dX2_holds_25 : decode cX2_holds 25 = .ok (.tableswitch 63 (-3) (-1) #[51, 36, 27], 27) := by decide +kernel
theorem dX2_holds_52 : decode cX2_holds 52 = .ok (.iload 4, 2) := by decide +kernel
theorem dX2_holds_54 : decode cX2_holds 54 = .ok (.iconst 1, 1) := by decide +kernel
theorem dX2_holds_55 : decode cX2_holds 55 = .ok (.ixor, 1) := by decide +kernel
theorem dX2_holds_56 : decode cX2_holds 56 = .ok (.istore 4, 2) := by decide +kernel
theorem dX2_holds_58 : decode cX2_holds 58 = .ok (.goto 51, 3) := by decide +kernel
theorem dX2_holds_61 : decode cX2_holds 61 = .ok (.iload 4, 2) := by decide +kernel
theorem dX2_holds_63 : decode cX2_holds 63 = .ok (.iconst 1, 1) := by decide +kernel
theorem dX2_holds_64 : decode cX2_holds 64 = .ok (.ishr, 1) := by decide +kernel
theorem dX2_holds_65 : decode cX2_holds 65 = .ok (.iload 6, 2) := by decide +kernel
theorem dX2_holds_67 : decode cX2_holds 67 = .ok (.bipush (-2), 2) := by decide +kernel
theorem dX2_holds_69 : decode cX2_holds 69 = .ok (.ior, 1) := by decide +kernel
theorem dX2_holds_70 : decode cX2_holds 70 = .ok (.iand, 1) := by decide +kernel
theorem dX2_holds_71 : decode cX2_holds 71 = .ok (.istore 4, 2) := by decide +kernel
theorem dX2_holds_73 : decode cX2_holds 73 = .ok (.goto 36, 3) := by decide +kernel
theorem dX2_holds_76 : decode cX2_holds 76 = .ok (.iload 4, 2) := by decide +kernel
theorem dX2_holds_78 : decode cX2_holds 78 = .ok (.iconst 1, 1) := by decide +kernel
theorem dX2_holds_79 : decode cX2_holds 79 = .ok (.ishr, 1) := by decide +kernel
theorem dX2_holds_80 : decode cX2_holds 80 = .ok (.iload 6, 2) := by decide +kernel
theorem dX2_holds_82 : decode cX2_holds 82 = .ok (.ior, 1) := by decide +kernel
theorem dX2_holds_83 : decode cX2_holds 83 = .ok (.istore 4, 2) := by decide +kernel
theorem dX2_holds_85 : decode cX2_holds 85 = .ok (.goto 24, 3) := by decide +kernel
theorem dX2_holds_88 : decode cX2_holds 88 = .ok (.iload 4, 2) := by decide +kernel
theorem dX2_holds_90 : decode cX2_holds 90 = .ok (.iconst 1, 1) := by decide +kernel
theorem dX2_holds_91 : decode cX2_holds 91 = .ok (.ishl, 1) := by decide +kernel
theorem dX2_holds_92 : decode cX2_holds 92 = .ok (.aload_n 0, 1) := by decide +kernel
theorem dX2_holds_93 : decode cX2_holds 93 = .ok (.getfield 9, 3) := by decide +kernel
theorem dX2_holds_96 : decode cX2_holds 96 = .ok (.iload 5, 2) := by decide +kernel
theorem dX2_holds_98 : decode cX2_holds 98 = .ok (.iaload, 1) := by decide +kernel
theorem dX2_holds_99 : decode cX2_holds 99 = .ok (.aload_n 3, 1) := by decide +kernel
theorem dX2_holds_100 : decode cX2_holds 100 = .ok (.invokestatic 46, 3) := by decide +kernel
theorem dX2_holds_103 : decode cX2_holds 103 = .ok (.invokestatic 50, 3) := by decide +kernel
theorem dX2_holds_106 : decode cX2_holds 106 = .ok (.ior, 1) := by decide +kernel
theorem dX2_holds_107 : decode cX2_holds 107 = .ok (.istore 4, 2) := by decide +kernel
theorem dX2_holds_109 : decode cX2_holds 109 = .ok (.iinc 5 1, 3) := by decide +kernel
theorem dX2_holds_112 : decode cX2_holds 112 = .ok (.goto (-106), 3) := by decide +kernel
theorem dX2_holds_115 : decode cX2_holds 115 = .ok (.iload 4, 2) := by decide +kernel
theorem dX2_holds_117 : decode cX2_holds 117 = .ok (.iconst 1, 1) := by decide +kernel
theorem dX2_holds_118 : decode cX2_holds 118 = .ok (.iand, 1) := by decide +kernel
theorem dX2_holds_119 : decode cX2_holds 119 = .ok (.ifCond .eq 7, 3) := by decide +kernel
theorem dX2_holds_122 : decode cX2_holds 122 = .ok (.iconst 1, 1) := by decide +kernel
theorem dX2_holds_123 : decode cX2_holds 123 = .ok (.goto 4, 3) := by decide +kernel
theorem dX2_holds_126 : decode cX2_holds 126 = .ok (.iconst 0, 1) := by decide +kernel
theorem dX2_holds_127 : decode cX2_holds 127 = .ok (.ireturn, 1) := by decide +kernel
theorem dX2_isSo_0 : decode cX2_isSo 0 = .ok (.iload_n 0, 1) := by decide +kernel
theorem dX2_isSo_1 : decode cX2_isSo 1 = .ok (.bipush 16, 2) := by decide +kernel
theorem dX2_isSo_3 : decode cX2_isSo 3 = .ok (.ishr, 1) := by decide +kernel
theorem dX2_isSo_4 : decode cX2_isSo 4 = .ok (.istore_n 2, 1) := by decide +kernel
theorem dX2_isSo_5 : decode cX2_isSo 5 = .ok (.iload_n 2, 1) := by decide +kernel
theorem dX2_isSo_6 : decode cX2_isSo 6 = .ok (.ifCond .lt 15, 3) := by decide +kernel
theorem dX2_isSo_9 : decode cX2_isSo 9 = .ok (.iload_n 2, 1) := by decide +kernel
theorem dX2_isSo_10 : decode cX2_isSo 10 = .ok (.aload_n 1, 1) := by decide +kernel
theorem dX2_isSo_11 : decode cX2_isSo 11 = .ok (.arraylength, 1) := by decide +kernel
theorem dX2_isSo_12 : decode cX2_isSo 12 = .ok (.if_icmp .ge 9, 3) := by decide +kernel
theorem dX2_isSo_15 : decode cX2_isSo 15 = .ok (.aload_n 1, 1) := by decide +kernel
theorem dX2_isSo_16 : decode cX2_isSo 16 = .ok (.iload_n 2, 1) := by decide +kernel
theorem dX2_isSo_17 : decode cX2_isSo 17 = .ok (.iaload, 1) := by decide +kernel
theorem dX2_isSo_18 : decode cX2_isSo 18 = .ok (.goto 4, 3) := by decide +kernel
theorem dX2_isSo_21 : decode cX2_isSo 21 = .ok (.iconst 0, 1) := by decide +kernel
theorem dX2_isSo_22 : decode cX2_isSo 22 = .ok (.istore_n 3, 1) := by decide +kernel
theorem dX2_isSo_23 : decode cX2_isSo 23 = .ok (.iload_n 0, 1) := by decide +kernel
theorem dX2_isSo_24 : decode cX2_isSo 24 = .ok (.sipush 255, 3) := by decide +kernel
theorem dX2_isSo_27 : decode cX2_isSo 27 = .ok (.iand, 1) := by decide +kernel
theorem dX2_isSo_28 : decode cX2_isSo 28 = .ok (.istore 4, 2) := by decide +kernel
theorem dX2_isSo_30 : decode cX2_isSo 30 = .ok (.iload_n 0, 1) := by decide +kernel
theorem dX2_isSo_31 : decode cX2_isSo 31 = .ok (.bipush 8, 2) := by decide +kernel
theorem dX2_isSo_33 : decode cX2_isSo 33 = .ok (.ishr, 1) := by decide +kernel
theorem dX2_isSo_34 : decode cX2_isSo 34 = .ok (.sipush 255, 3) := by decide +kernel
theorem dX2_isSo_37 : decode cX2_isSo 37 = .ok (.iand, 1) := by decide +kernel
theorem dX2_isSo_38 : decode cX2_isSo 38 = .ok (.lookupswitch 50 #[(0, 26), (1, 38)], 26) := by decide +kernel
theorem dX2_isSo_64 : decode cX2_isSo 64 = .ok (.iload_n 3, 1) := by decide +kernel
theorem dX2_isSo_65 : decode cX2_isSo 65 = .ok (.iload 4, 2) := by decide +kernel
theorem dX2_isSo_67 : decode cX2_isSo 67 = .ok (.if_icmp .ge 7, 3) := by decide +kernel
theorem dX2_isSo_70 : decode cX2_isSo 70 = .ok (.iconst 1, 1) := by decide +kernel
theorem dX2_isSo_71 : decode cX2_isSo 71 = .ok (.goto 4, 3) := by decide +kernel
theorem dX2_isSo_74 : decode cX2_isSo 74 = .ok (.iconst 0, 1) := by decide +kernel
theorem dX2_isSo_75 : decode cX2_isSo 75 = .ok (.ireturn, 1) := by decide +kernel
theorem dX2_isSo_76 : decode cX2_isSo 76 = .ok (.iload_n 3, 1) := by decide +kernel
theorem dX2_isSo_77 : decode cX2_isSo 77 = .ok (.iload 4, 2) := by decide +kernel
theorem dX2_isSo_79 : decode cX2_isSo 79 = .ok (.if_icmp .ne 7, 3) := by decide +kernel
theorem dX2_isSo_82 : decode cX2_isSo 82 = .ok (.iconst 1, 1) := by decide +kernel
theorem dX2_isSo_83 : decode cX2_isSo 83 = .ok (.goto 4, 3) := by decide +kernel
theorem dX2_isSo_86 : decode cX2_isSo 86 = .ok (.iconst 0, 1) := by decide +kernel
theorem dX2_isSo_87 : decode cX2_isSo 87 = .ok (.ireturn, 1) := by decide +kernel
theorem dX2_isSo_88 : decode cX2_isSo 88 = .ok (.iload_n 3, 1) := by decide +kernel
theorem dX2_isSo_89 : decode cX2_isSo 89 = .ok (.iload 4, 2) := by decide +kernel
theorem dX2_isSo_91 : decode cX2_isSo 91 = .ok (.if_icmp .le 7, 3) := by decide +kernel
theorem dX2_isSo_94 : decode cX2_isSo 94 = .ok (.iconst 1, 1) := by decide +kernel
theorem dX2_isSo_95 : decode cX2_isSo 95 = .ok (.goto 4, 3) := by decide +kernel
theorem dX2_isSo_98 : decode cX2_isSo 98 = .ok (.iconst 0, 1) := by decide +kernel
theorem dX2_isSo_99 : decode cX2_isSo 99 = .ok (.ireturn, 1) := by decide +kernel
theorem dX3_init_0 : decode cX3_init 0 = .ok (.aload_n 0, 1) := by decide +kernel
theorem dX3_init_1 : decode cX3_init 1 = .ok (.invokespecial 3, 3) := by decide +kernel
theorem dX3_init_4 : decode cX3_init 4 = .ok (.aload_n 0, 1) := by decide +kernel
theorem dX3_init_5 : decode cX3_init 5 = .ok (.bipush 6, 2) := by decide +kernel
theorem dX3_init_7 : decode cX3_init 7 = .ok (.newarray .int, 2) := by decide +kernel
theorem dX3_init_9 : decode cX3_init 9 = .ok (.putfield 9, 3) := by decide +kernel
theorem dX3_init_12 : decode cX3_init 12 = .ok (.aload_n 0, 1) := by decide +kernel
theorem dX3_init_13 : decode cX3_init 13 = .ok (.aload_n 1, 1) := by decide +kernel
theorem dX3_init_14 : decode cX3_init 14 = .ok (.putfield 15, 3) := by decide +kernel
theorem dX3_init_17 : decode cX3_init 17 = .ok (.return_, 1) := by decide +kernel
theorem dX3_find_0 : decode cX3_find 0 = .ok (.aload_n 0, 1) := by decide +kernel
theorem dX3_find_1 : decode cX3_find 1 = .ok (.getfield 15, 3) := by decide +kernel
theorem dX3_find_4 : decode cX3_find 4 = .ok (.aload_n 1, 1) := by decide +kernel
theorem dX3_find_5 : decode cX3_find 5 = .ok (.invokevirtual 19, 3) := by decide +kernel
theorem dX3_find_8 : decode cX3_find 8 = .ok (.iconst 0, 1) := by decide +kernel
theorem dX3_find_9 : decode cX3_find 9 = .ok (.istore_n 3, 1) := by decide +kernel
theorem dX3_find_10 : decode cX3_find 10 = .ok (.iload_n 3, 1) := by decide +kernel
theorem dX3_find_11 : decode cX3_find 11 = .ok (.bipush 6, 2) := by decide +kernel
theorem dX3_find_13 : decode cX3_find 13 = .ok (.if_icmp .ge 19, 3) := by decide +kernel
theorem dX3_find_16 : decode cX3_find 16 = .ok (.aload_n 0, 1) := by decide +kernel
theorem dX3_find_17 : decode cX3_find 17 = .ok (.getfield 15, 3) := by decide +kernel
theorem dX3_find_20 : decode cX3_find 20 = .ok (.getfield 25, 3) := by decide +kernel
theorem dX3_find_23 : decode cX3_find 23 = .ok (.iload_n 3, 1) := by decide +kernel
theorem dX3_find_24 : decode cX3_find 24 = .ok (.iconst (-1), 1) := by decide +kernel
theorem dX3_find_25 : decode cX3_find 25 = .ok (.iastore, 1) := by decide +kernel
theorem dX3_find_26 : decode cX3_find 26 = .ok (.iinc 3 1, 3) := by decide +kernel
theorem dX3_find_29 : decode cX3_find 29 = .ok (.goto (-19), 3) := by decide +kernel
theorem dX3_find_32 : decode cX3_find 32 = .ok (.aload_n 0, 1) := by decide +kernel
theorem dX3_find_33 : decode cX3_find 33 = .ok (.iload_n 2, 1) := by decide +kernel
theorem dX3_find_34 : decode cX3_find 34 = .ok (.putfield 28, 3) := by decide +kernel
theorem dX3_find_37 : decode cX3_find 37 = .ok (.aload_n 0, 1) := by decide +kernel
theorem dX3_find_38 : decode cX3_find 38 = .ok (.iconst 1, 1) := by decide +kernel
theorem dX3_find_39 : decode cX3_find 39 = .ok (.putfield 32, 3) := by decide +kernel
theorem dX3_find_42 : decode cX3_find 42 = .ok (.aload_n 0, 1) := by decide +kernel
theorem dX3_find_43 : decode cX3_find 43 = .ok (.iconst 0, 1) := by decide +kernel
theorem dX3_find_44 : decode cX3_find 44 = .ok (.invokevirtual 35, 3) := by decide +kernel
theorem dX3_find_47 : decode cX3_find 47 = .ok (.return_, 1) := by decide +kernel
theorem dX3_placeFrom_0 : decode cX3_placeFrom 0 = .ok (.iload_n 1, 1) := by decide +kernel
theorem dX3_placeFrom_1 : decode cX3_placeFrom 1 = .ok (.aload_n 0, 1) := by decide +kernel
theorem dX3_placeFrom_2 : decode cX3_placeFrom 2 = .ok (.getfield 15, 3) := by decide +kernel
theorem dX3_placeFrom_5 : decode cX3_placeFrom 5 = .ok (.getfield 39, 3) := by decide +kernel
theorem dX3_placeFrom_8 : decode cX3_placeFrom 8 = .ok (.if_icmp .lt 33, 3) := by decide +kernel
theorem dX3_placeFrom_11 : decode cX3_placeFrom 11 = .ok (.aload_n 0, 1) := by decide +kernel
theorem dX3_placeFrom_12 : decode cX3_placeFrom 12 = .ok (.aload_n 0, 1) := by decide +kernel
theorem dX3_placeFrom_13 : decode cX3_placeFrom 13 = .ok (.getfield 15, 3) := by decide +kernel
theorem dX3_placeFrom_16 : decode cX3_placeFrom 16 = .ok (.invokevirtual 43, 3) := by decide +kernel
theorem dX3_placeFrom_19 : decode cX3_placeFrom 19 = .ok (.aload_n 0, 1) := by decide +kernel
theorem dX3_placeFrom_20 : decode cX3_placeFrom 20 = .ok (.getfield 28, 3) := by decide +kernel
theorem dX3_placeFrom_23 : decode cX3_placeFrom 23 = .ok (.ifCond .eq 13, 3) := by decide +kernel
theorem dX3_placeFrom_26 : decode cX3_placeFrom 26 = .ok (.aload_n 0, 1) := by decide +kernel
theorem dX3_placeFrom_27 : decode cX3_placeFrom 27 = .ok (.getfield 15, 3) := by decide +kernel
theorem dX3_placeFrom_30 : decode cX3_placeFrom 30 = .ok (.invokevirtual 47, 3) := by decide +kernel
theorem dX3_placeFrom_33 : decode cX3_placeFrom 33 = .ok (.goto 4, 3) := by decide +kernel
theorem dX3_placeFrom_36 : decode cX3_placeFrom 36 = .ok (.iconst 0, 1) := by decide +kernel
theorem dX3_placeFrom_37 : decode cX3_placeFrom 37 = .ok (.invokevirtual 50, 3) := by decide +kernel
theorem dX3_placeFrom_40 : decode cX3_placeFrom 40 = .ok (.return_, 1) := by decide +kernel
theorem dX3_placeFrom_41 : decode cX3_placeFrom 41 = .ok (.iconst 0, 1) := by decide +kernel
theorem dX3_placeFrom_42 : decode cX3_placeFrom 42 = .ok (.istore_n 2, 1) := by decide +kernel
theorem dX3_placeFrom_43 : decode cX3_placeFrom 43 = .ok (.iload_n 2, 1) := by decide +kernel
theorem dX3_placeFrom_44 : decode cX3_placeFrom 44 = .ok (.bipush 6, 2) := by decide +kernel
theorem dX3_placeFrom_46 : decode cX3_placeFrom 46 = .ok (.if_icmp .ge 15, 3) := by decide +kernel
theorem dX3_placeFrom_49 : decode cX3_placeFrom 49 = .ok (.aload_n 0, 1) := by decide +kernel
theorem dX3_placeFrom_50 : decode cX3_placeFrom 50 = .ok (.iload_n 1, 1) := by decide +kernel
theorem dX3_placeFrom_51 : decode cX3_placeFrom 51 = .ok (.iload_n 2, 1) := by decide +kernel
theorem dX3_placeFrom_52 : decode cX3_placeFrom 52 = .ok (.invokevirtual 54, 3) := by decide +kernel
theorem dX3_placeFrom_55 : decode cX3_placeFrom 55 = .ok (.iinc 2 1, 3) := by decide +kernel
theorem dX3_placeFrom_58 : decode cX3_placeFrom 58 = .ok (.goto (-15), 3) := by decide +kernel
theorem dX3_placeFrom_61 : decode cX3_placeFrom 61 = .ok (.return_, 1) := by decide +kernel
theorem dX3_placeOn_0 : decode cX3_placeOn 0 = .ok (.aload_n 0, 1) := by decide +kernel
theorem dX3_placeOn_1 : decode cX3_placeOn 1 = .ok (.getfield 15, 3) := by decide +kernel
theorem dX3_placeOn_4 : decode cX3_placeOn 4 = .ok (.getfield 25, 3) := by decide +kernel
theorem dX3_placeOn_7 : decode cX3_placeOn 7 = .ok (.iload_n 2, 1) := by decide +kernel
theorem dX3_placeOn_8 : decode cX3_placeOn 8 = .ok (.iaload, 1) := by decide +kernel
theorem dX3_placeOn_9 : decode cX3_placeOn 9 = .ok (.ifCond .ge 29, 3) := by decide +kernel
theorem dX3_placeOn_12 : decode cX3_placeOn 12 = .ok (.aload_n 0, 1) := by decide +kernel
theorem dX3_placeOn_13 : decode cX3_placeOn 13 = .ok (.getfield 15, 3) := by decide +kernel
theorem dX3_placeOn_16 : decode cX3_placeOn 16 = .ok (.iload_n 1, 1) := by decide +kernel
theorem dX3_placeOn_17 : decode cX3_placeOn 17 = .ok (.iload_n 2, 1) := by decide +kernel
theorem dX3_placeOn_18 : decode cX3_placeOn 18 = .ok (.invokevirtual 57, 3) := by decide +kernel
theorem dX3_placeOn_21 : decode cX3_placeOn 21 = .ok (.aload_n 0, 1) := by decide +kernel
theorem dX3_placeOn_22 : decode cX3_placeOn 22 = .ok (.iload_n 1, 1) := by decide +kernel
theorem dX3_placeOn_23 : decode cX3_placeOn 23 = .ok (.iconst 1, 1) := by decide +kernel
theorem dX3_placeOn_24 : decode cX3_placeOn 24 = .ok (.iadd, 1) := by decide +kernel
theorem dX3_placeOn_25 : decode cX3_placeOn 25 = .ok (.invokevirtual 35, 3) := by decide +kernel
theorem dX3_placeOn_28 : decode cX3_placeOn 28 = .ok (.aload_n 0, 1) := by decide +kernel
theorem dX3_placeOn_29 : decode cX3_placeOn 29 = .ok (.getfield 15, 3) := by decide +kernel
theorem dX3_placeOn_32 : decode cX3_placeOn 32 = .ok (.getfield 25, 3) := by decide +kernel
theorem dX3_placeOn_35 : decode cX3_placeOn 35 = .ok (.iload_n 2, 1) := by decide +kernel
theorem dX3_placeOn_36 : decode cX3_placeOn 36 = .ok (.iconst (-1), 1) := by decide +kernel
theorem dX3_placeOn_37 : decode cX3_placeOn 37 = .ok (.iastore, 1) := by decide +kernel
theorem dX3_placeOn_38 : decode cX3_placeOn 38 = .ok (.return_, 1) := by decide +kernel
theorem dX3_weigh_0 : decode cX3_weigh 0 = .ok (.iload_n 2, 1) := by decide +kernel
theorem dX3_weigh_1 : decode cX3_weigh 1 = .ok (.aload_n 0, 1) := by decide +kernel
theorem dX3_weigh_2 : decode cX3_weigh 2 = .ok (.getfield 60, 3) := by decide +kernel
theorem dX3_weigh_5 : decode cX3_weigh 5 = .ok (.if_icmp .lt 19, 3) := by decide +kernel
theorem dX3_weigh_8 : decode cX3_weigh 8 = .ok (.iload_n 2, 1) := by decide +kernel
theorem dX3_weigh_9 : decode cX3_weigh 9 = .ok (.aload_n 0, 1) := by decide +kernel
theorem dX3_weigh_10 : decode cX3_weigh 10 = .ok (.getfield 60, 3) := by decide +kernel
theorem dX3_weigh_13 : decode cX3_weigh 13 = .ok (.if_icmp .ne 15, 3) := by decide +kernel
theorem dX3_weigh_16 : decode cX3_weigh 16 = .ok (.iload_n 1, 1) := by decide +kernel
theorem dX3_weigh_17 : decode cX3_weigh 17 = .ok (.aload_n 0, 1) := by decide +kernel
theorem dX3_weigh_18 : decode cX3_weigh 18 = .ok (.getfield 62, 3) := by decide +kernel
theorem dX3_weigh_21 : decode cX3_weigh 21 = .ok (.if_icmp .le 7, 3) := by decide +kernel
theorem dX3_weigh_24 : decode cX3_weigh 24 = .ok (.iconst 1, 1) := by decide +kernel
theorem dX3_weigh_25 : decode cX3_weigh 25 = .ok (.goto 4, 3) := by decide +kernel
theorem dX3_weigh_28 : decode cX3_weigh 28 = .ok (.iconst 0, 1) := by decide +kernel
theorem dX3_weigh_29 : decode cX3_weigh 29 = .ok (.istore_n 3, 1) := by decide +kernel
theorem dX3_weigh_30 : decode cX3_weigh 30 = .ok (.aload_n 0, 1) := by decide +kernel
theorem dX3_weigh_31 : decode cX3_weigh 31 = .ok (.getfield 32, 3) := by decide +kernel
theorem dX3_weigh_34 : decode cX3_weigh 34 = .ok (.ifCond .ne 7, 3) := by decide +kernel
theorem dX3_weigh_37 : decode cX3_weigh 37 = .ok (.iload_n 3, 1) := by decide +kernel
theorem dX3_weigh_38 : decode cX3_weigh 38 = .ok (.ifCond .eq 36, 3) := by decide +kernel
theorem dX3_weigh_41 : decode cX3_weigh 41 = .ok (.aload_n 0, 1) := by decide +kernel
theorem dX3_weigh_42 : decode cX3_weigh 42 = .ok (.iconst 0, 1) := by decide +kernel
theorem dX3_weigh_43 : decode cX3_weigh 43 = .ok (.putfield 32, 3) := by decide +kernel
theorem dX3_weigh_46 : decode cX3_weigh 46 = .ok (.aload_n 0, 1) := by decide +kernel
theorem dX3_weigh_47 : decode cX3_weigh 47 = .ok (.iload_n 1, 1) := by decide +kernel
theorem dX3_weigh_48 : decode cX3_weigh 48 = .ok (.putfield 62, 3) := by decide +kernel
theorem dX3_weigh_51 : decode cX3_weigh 51 = .ok (.aload_n 0, 1) := by decide +kernel
theorem dX3_weigh_52 : decode cX3_weigh 52 = .ok (.iload_n 2, 1) := by decide +kernel
theorem dX3_weigh_53 : decode cX3_weigh 53 = .ok (.putfield 60, 3) := by decide +kernel
theorem dX3_weigh_56 : decode cX3_weigh 56 = .ok (.aload_n 0, 1) := by decide +kernel
theorem dX3_weigh_57 : decode cX3_weigh 57 = .ok (.getfield 15, 3) := by decide +kernel
theorem dX3_weigh_60 : decode cX3_weigh 60 = .ok (.getfield 65, 3) := by decide +kernel
theorem dX3_weigh_63 : decode cX3_weigh 63 = .ok (.iconst 0, 1) := by decide +kernel
theorem dX3_weigh_64 : decode cX3_weigh 64 = .ok (.aload_n 0, 1) := by decide +kernel
theorem dX3_weigh_65 : decode cX3_weigh 65 = .ok (.getfield 9, 3) := by decide +kernel
theorem dX3_weigh_68 : decode cX3_weigh 68 = .ok (.iconst 0, 1) := by decide +kernel
theorem dX3_weigh_69 : decode cX3_weigh 69 = .ok (.bipush 6, 2) := by decide +kernel
theorem dX3_weigh_71 : decode cX3_weigh 71 = .ok (.invokestatic 66, 3) := by decide +kernel
theorem dX3_weigh_74 : decode cX3_weigh 74 = .ok (.return_, 1) := by decide +kernel
theorem dX4_init_0 : decode cX4_init 0 = .ok (.aload_n 0, 1) := by decide +kernel
theorem dX4_init_1 : decode cX4_init 1 = .ok (.invokespecial 3, 3) := by decide +kernel
theorem dX4_init_4 : decode cX4_init 4 = .ok (.return_, 1) := by decide +kernel
theorem dX4_readInto_0 : decode cX4_readInto 0 = .ok (.aload_n 0, 1) := by decide +kernel
theorem dX4_readInto_1 : decode cX4_readInto 1 = .ok (.aload_n 1, 1) := by decide +kernel
theorem dX4_readInto_2 : decode cX4_readInto 2 = .ok (.putfield 9, 3) := by decide +kernel
theorem dX4_readInto_5 : decode cX4_readInto 5 = .ok (.aload_n 0, 1) := by decide +kernel
theorem dX4_readInto_6 : decode cX4_readInto 6 = .ok (.aload_n 2, 1) := by decide +kernel
theorem dX4_readInto_7 : decode cX4_readInto 7 = .ok (.putfield 15, 3) := by decide +kernel
theorem dX4_readInto_10 : decode cX4_readInto 10 = .ok (.aload_n 0, 1) := by decide +kernel
theorem dX4_readInto_11 : decode cX4_readInto 11 = .ok (.iload_n 3, 1) := by decide +kernel
theorem dX4_readInto_12 : decode cX4_readInto 12 = .ok (.aload_n 2, 1) := by decide +kernel
theorem dX4_readInto_13 : decode cX4_readInto 13 = .ok (.arraylength, 1) := by decide +kernel
theorem dX4_readInto_14 : decode cX4_readInto 14 = .ok (.invokestatic 19, 3) := by decide +kernel
theorem dX4_readInto_17 : decode cX4_readInto 17 = .ok (.putfield 25, 3) := by decide +kernel
theorem dX4_readInto_20 : decode cX4_readInto 20 = .ok (.aload_n 0, 1) := by decide +kernel
theorem dX4_readInto_21 : decode cX4_readInto 21 = .ok (.iconst 0, 1) := by decide +kernel
theorem dX4_readInto_22 : decode cX4_readInto 22 = .ok (.putfield 29, 3) := by decide +kernel
theorem dX4_readInto_25 : decode cX4_readInto 25 = .ok (.aload_n 0, 1) := by decide +kernel
theorem dX4_readInto_26 : decode cX4_readInto 26 = .ok (.getfield 9, 3) := by decide +kernel
theorem dX4_readInto_29 : decode cX4_readInto 29 = .ok (.invokevirtual 32, 3) := by decide +kernel
theorem dX4_readInto_32 : decode cX4_readInto 32 = .ok (.iconst 1, 1) := by decide +kernel
theorem dX4_readInto_33 : decode cX4_readInto 33 = .ok (.istore 4, 2) := by decide +kernel
theorem dX4_readInto_35 : decode cX4_readInto 35 = .ok (.iload 4, 2) := by decide +kernel
theorem dX4_readInto_37 : decode cX4_readInto 37 = .ok (.bipush 10, 2) := by decide +kernel
theorem dX4_readInto_39 : decode cX4_readInto 39 = .ok (.if_icmp .gt 55, 3) := by decide +kernel
theorem dX4_readInto_42 : decode cX4_readInto 42 = .ok (.aload_n 0, 1) := by decide +kernel
theorem dX4_readInto_43 : decode cX4_readInto 43 = .ok (.invokevirtual 37, 3) := by decide +kernel
theorem dX4_readInto_46 : decode cX4_readInto 46 = .ok (.ifCond .ne 8, 3) := by decide +kernel
theorem dX4_readInto_49 : decode cX4_readInto 49 = .ok (.aload_n 0, 1) := by decide +kernel
theorem dX4_readInto_50 : decode cX4_readInto 50 = .ok (.getfield 29, 3) := by decide +kernel
theorem dX4_readInto_53 : decode cX4_readInto 53 = .ok (.ireturn, 1) := by decide +kernel
theorem dX4_readInto_54 : decode cX4_readInto 54 = .ok (.aload_n 0, 1) := by decide +kernel
theorem dX4_readInto_55 : decode cX4_readInto 55 = .ok (.getfield 29, 3) := by decide +kernel
theorem dX4_readInto_58 : decode cX4_readInto 58 = .ok (.aload_n 0, 1) := by decide +kernel
theorem dX4_readInto_59 : decode cX4_readInto 59 = .ok (.getfield 25, 3) := by decide +kernel
theorem dX4_readInto_62 : decode cX4_readInto 62 = .ok (.if_icmp .lt 5, 3) := by decide +kernel
theorem dX4_readInto_65 : decode cX4_readInto 65 = .ok (.iconst (-1), 1) := by decide +kernel
theorem dX4_readInto_66 : decode cX4_readInto 66 = .ok (.ireturn, 1) := by decide +kernel
theorem dX4_readInto_67 : decode cX4_readInto 67 = .ok (.iload 4, 2) := by decide +kernel
theorem dX4_readInto_69 : decode cX4_readInto 69 = .ok (.bipush 10, 2) := by decide +kernel
theorem dX4_readInto_71 : decode cX4_readInto 71 = .ok (.if_icmp .eq 12, 3) := by decide +kernel
theorem dX4_readInto_74 : decode cX4_readInto 74 = .ok (.aload_n 0, 1) := by decide +kernel
theorem dX4_readInto_75 : decode cX4_readInto 75 = .ok (.bipush 59, 2) := by decide +kernel
theorem dX4_readInto_77 : decode cX4_readInto 77 = .ok (.invokevirtual 41, 3) := by decide +kernel
theorem dX4_readInto_80 : decode cX4_readInto 80 = .ok (.ifCond .ne 8, 3) := by decide +kernel
theorem dX4_readInto_83 : decode cX4_readInto 83 = .ok (.aload_n 0, 1) := by decide +kernel
theorem dX4_readInto_84 : decode cX4_readInto 84 = .ok (.getfield 29, 3) := by decide +kernel
theorem dX4_readInto_87 : decode cX4_readInto 87 = .ok (.ireturn, 1) := by decide +kernel
theorem dX4_readInto_88 : decode cX4_readInto 88 = .ok (.iinc 4 1, 3) := by decide +kernel
theorem dX4_readInto_91 : decode cX4_readInto 91 = .ok (.goto (-56), 3) := by decide +kernel
theorem dX4_readInto_94 : decode cX4_readInto 94 = .ok (.aload_n 0, 1) := by decide +kernel
theorem dX4_readInto_95 : decode cX4_readInto 95 = .ok (.getfield 29, 3) := by decide +kernel
theorem dX4_readInto_98 : decode cX4_readInto 98 = .ok (.ireturn, 1) := by decide +kernel
theorem dX4_isClause_0 : decode cX4_isClause 0 = .ok (.aload_n 0, 1) := by decide +kernel
theorem dX4_isClause_1 : decode cX4_isClause 1 = .ok (.invokevirtual 45, 3) := by decide +kernel
theorem dX4_isClause_4 : decode cX4_isClause 4 = .ok (.istore_n 1, 1) := by decide +kernel
theorem dX4_isClause_5 : decode cX4_isClause 5 = .ok (.aload_n 0, 1) := by decide +kernel
theorem dX4_isClause_6 : decode cX4_isClause 6 = .ok (.iload_n 1, 1) := by decide +kernel
theorem dX4_isClause_7 : decode cX4_isClause 7 = .ok (.invokestatic 49, 3) := by decide +kernel
theorem dX4_isClause_10 : decode cX4_isClause 10 = .ok (.invokevirtual 53, 3) := by decide +kernel
theorem dX4_isClause_13 : decode cX4_isClause 13 = .ok (.ifCond .eq 10, 3) := by decide +kernel
theorem dX4_isClause_16 : decode cX4_isClause 16 = .ok (.aload_n 0, 1) := by decide +kernel
theorem dX4_isClause_17 : decode cX4_isClause 17 = .ok (.invokevirtual 57, 3) := by decide +kernel
theorem dX4_isClause_20 : decode cX4_isClause 20 = .ok (.ifCond .ne 5, 3) := by decide +kernel
theorem dX4_isClause_23 : decode cX4_isClause 23 = .ok (.iconst 0, 1) := by decide +kernel
theorem dX4_isClause_24 : decode cX4_isClause 24 = .ok (.ireturn, 1) := by decide +kernel
theorem dX4_isClause_25 : decode cX4_isClause 25 = .ok (.aload_n 0, 1) := by decide +kernel
theorem dX4_isClause_26 : decode cX4_isClause 26 = .ok (.getfield 60, 3) := by decide +kernel
theorem dX4_isClause_29 : decode cX4_isClause 29 = .ok (.istore_n 2, 1) := by decide +kernel
theorem dX4_isClause_30 : decode cX4_isClause 30 = .ok (.iload_n 1, 1) := by decide +kernel
theorem dX4_isClause_31 : decode cX4_isClause 31 = .ok (.bipush 116, 2) := by decide +kernel
theorem dX4_isClause_33 : decode cX4_isClause 33 = .ok (.if_icmp .ne 14, 3) := by decide +kernel
theorem dX4_isClause_36 : decode cX4_isClause 36 = .ok (.aload_n 0, 1) := by decide +kernel
theorem dX4_isClause_37 : decode cX4_isClause 37 = .ok (.getfield 9, 3) := by decide +kernel
theorem dX4_isClause_40 : decode cX4_isClause 40 = .ok (.iload_n 2, 1) := by decide +kernel
theorem dX4_isClause_41 : decode cX4_isClause 41 = .ok (.putfield 63, 3) := by decide +kernel
theorem dX4_isClause_44 : decode cX4_isClause 44 = .ok (.goto 61, 3) := by decide +kernel
theorem dX4_isClause_47 : decode cX4_isClause 47 = .ok (.iload_n 1, 1) := by decide +kernel
theorem dX4_isClause_48 : decode cX4_isClause 48 = .ok (.bipush 119, 2) := by decide +kernel
theorem dX4_isClause_50 : decode cX4_isClause 50 = .ok (.if_icmp .ne 14, 3) := by decide +kernel
theorem dX4_isClause_53 : decode cX4_isClause 53 = .ok (.aload_n 0, 1) := by decide +kernel
theorem dX4_isClause_54 : decode cX4_isClause 54 = .ok (.getfield 9, 3) := by decide +kernel
theorem dX4_isClause_57 : decode cX4_isClause 57 = .ok (.iload_n 2, 1) := by decide +kernel
theorem dX4_isClause_58 : decode cX4_isClause 58 = .ok (.putfield 66, 3) := by decide +kernel
theorem dX4_isClause_61 : decode cX4_isClause 61 = .ok (.goto 44, 3) := by decide +kernel
theorem dX4_isClause_64 : decode cX4_isClause 64 = .ok (.aload_n 0, 1) := by decide +kernel
theorem dX4_isClause_65 : decode cX4_isClause 65 = .ok (.bipush 32, 2) := by decide +kernel
theorem dX4_isClause_67 : decode cX4_isClause 67 = .ok (.invokevirtual 41, 3) := by decide +kernel
theorem dX4_isClause_70 : decode cX4_isClause 70 = .ok (.ifCond .eq 33, 3) := by decide +kernel
theorem dX4_isClause_73 : decode cX4_isClause 73 = .ok (.aload_n 0, 1) := by decide +kernel
theorem dX4_isClause_74 : decode cX4_isClause 74 = .ok (.iconst 0, 1) := by decide +kernel
theorem dX4_isClause_75 : decode cX4_isClause 75 = .ok (.invokevirtual 69, 3) := by decide +kernel
theorem dX4_isClause_78 : decode cX4_isClause 78 = .ok (.ifCond .eq 25, 3) := by decide +kernel
theorem dX4_isClause_81 : decode cX4_isClause 81 = .ok (.aload_n 0, 1) := by decide +kernel
theorem dX4_isClause_82 : decode cX4_isClause 82 = .ok (.getfield 9, 3) := by decide +kernel
theorem dX4_isClause_85 : decode cX4_isClause 85 = .ok (.iload_n 1, 1) := by decide +kernel
theorem dX4_isClause_86 : decode cX4_isClause 86 = .ok (.bipush 98, 2) := by decide +kernel
theorem dX4_isClause_88 : decode cX4_isClause 88 = .ok (.if_icmp .ne 7, 3) := by decide +kernel
theorem dX4_isClause_91 : decode cX4_isClause 91 = .ok (.iload_n 2, 1) := by decide +kernel
theorem dX4_isClause_92 : decode cX4_isClause 92 = .ok (.goto 5, 3) := by decide +kernel
theorem dX4_isClause_95 : decode cX4_isClause 95 = .ok (.iload_n 2, 1) := by decide +kernel
theorem dX4_isClause_96 : decode cX4_isClause 96 = .ok (.ineg, 1) := by decide +kernel
theorem dX4_isClause_97 : decode cX4_isClause 97 = .ok (.invokevirtual 72, 3) := by decide +kernel
theorem dX4_isClause_100 : decode cX4_isClause 100 = .ok (.goto 5, 3) := by decide +kernel
theorem dX4_isClause_103 : decode cX4_isClause 103 = .ok (.iconst 0, 1) := by decide +kernel
theorem dX4_isClause_104 : decode cX4_isClause 104 = .ok (.ireturn, 1) := by decide +kernel
theorem dX4_isClause_105 : decode cX4_isClause 105 = .ok (.iconst 1, 1) := by decide +kernel
theorem dX4_isClause_106 : decode cX4_isClause 106 = .ok (.ireturn, 1) := by decide +kernel
theorem dX4_wordFrom_0 : decode cX4_wordFrom 0 = .ok (.iload_n 0, 1) := by decide +kernel
theorem dX4_wordFrom_1 : decode cX4_wordFrom 1 = .ok (.lookupswitch 44 #[(98, 35), (115, 38), (116, 41)], 35) := by decide +kernel
theorem dX4_wordFrom_36 : decode cX4_wordFrom 36 = .ok (.ldc 76, 2) := by decide +kernel
theorem dX4_wordFrom_38 : decode cX4_wordFrom 38 = .ok (.areturn, 1) := by decide +kernel
theorem dX4_wordFrom_39 : decode cX4_wordFrom 39 = .ok (.ldc 78, 2) := by decide +kernel
theorem dX4_wordFrom_41 : decode cX4_wordFrom 41 = .ok (.areturn, 1) := by decide +kernel
theorem dX4_wordFrom_42 : decode cX4_wordFrom 42 = .ok (.ldc 80, 2) := by decide +kernel
theorem dX4_wordFrom_44 : decode cX4_wordFrom 44 = .ok (.areturn, 1) := by decide +kernel
theorem dX4_wordFrom_45 : decode cX4_wordFrom 45 = .ok (.ldc 82, 2) := by decide +kernel
theorem dX4_wordFrom_47 : decode cX4_wordFrom 47 = .ok (.areturn, 1) := by decide +kernel
theorem dX4_isEither_0 : decode cX4_isEither 0 = .ok (.iconst 0, 1) := by decide +kernel
theorem dX4_isEither_1 : decode cX4_isEither 1 = .ok (.istore_n 2, 1) := by decide +kernel
theorem dX4_isEither_2 : decode cX4_isEither 2 = .ok (.iconst 0, 1) := by decide +kernel
theorem dX4_isEither_3 : decode cX4_isEither 3 = .ok (.istore_n 3, 1) := by decide +kernel
theorem dX4_isEither_4 : decode cX4_isEither 4 = .ok (.iconst 0, 1) := by decide +kernel
theorem dX4_isEither_5 : decode cX4_isEither 5 = .ok (.istore 4, 2) := by decide +kernel
theorem dX4_isEither_7 : decode cX4_isEither 7 = .ok (.iload 4, 2) := by decide +kernel
theorem dX4_isEither_9 : decode cX4_isEither 9 = .ok (.bipush 100, 2) := by decide +kernel
theorem dX4_isEither_11 : decode cX4_isEither 11 = .ok (.if_icmp .ge 72, 3) := by decide +kernel
theorem dX4_isEither_14 : decode cX4_isEither 14 = .ok (.aload_n 0, 1) := by decide +kernel
theorem dX4_isEither_15 : decode cX4_isEither 15 = .ok (.iload_n 1, 1) := by decide +kernel
theorem dX4_isEither_16 : decode cX4_isEither 16 = .ok (.invokevirtual 84, 3) := by decide +kernel
theorem dX4_isEither_19 : decode cX4_isEither 19 = .ok (.ifCond .ne 5, 3) := by decide +kernel
theorem dX4_isEither_22 : decode cX4_isEither 22 = .ok (.iconst 0, 1) := by decide +kernel
theorem dX4_isEither_23 : decode cX4_isEither 23 = .ok (.ireturn, 1) := by decide +kernel
theorem dX4_isEither_24 : decode cX4_isEither 24 = .ok (.iload_n 2, 1) := by decide +kernel
theorem dX4_isEither_25 : decode cX4_isEither 25 = .ok (.ifCond .eq 12, 3) := by decide +kernel
theorem dX4_isEither_28 : decode cX4_isEither 28 = .ok (.aload_n 0, 1) := by decide +kernel
theorem dX4_isEither_29 : decode cX4_isEither 29 = .ok (.getfield 9, 3) := by decide +kernel
theorem dX4_isEither_32 : decode cX4_isEither 32 = .ok (.bipush (-2), 2) := by decide +kernel
theorem dX4_isEither_34 : decode cX4_isEither 34 = .ok (.invokevirtual 87, 3) := by decide +kernel
theorem dX4_isEither_37 : decode cX4_isEither 37 = .ok (.aload_n 0, 1) := by decide +kernel
theorem dX4_isEither_38 : decode cX4_isEither 38 = .ok (.bipush 38, 2) := by decide +kernel
theorem dX4_isEither_40 : decode cX4_isEither 40 = .ok (.invokevirtual 41, 3) := by decide +kernel
theorem dX4_isEither_43 : decode cX4_isEither 43 = .ok (.istore_n 2, 1) := by decide +kernel
theorem dX4_isEither_44 : decode cX4_isEither 44 = .ok (.iload_n 2, 1) := by decide +kernel
theorem dX4_isEither_45 : decode cX4_isEither 45 = .ok (.ifCond .eq 6, 3) := by decide +kernel
theorem dX4_isEither_48 : decode cX4_isEither 48 = .ok (.goto 29, 3) := by decide +kernel
theorem dX4_isEither_51 : decode cX4_isEither 51 = .ok (.iload_n 3, 1) := by decide +kernel
theorem dX4_isEither_52 : decode cX4_isEither 52 = .ok (.ifCond .eq 12, 3) := by decide +kernel
theorem dX4_isEither_55 : decode cX4_isEither 55 = .ok (.aload_n 0, 1) := by decide +kernel
theorem dX4_isEither_56 : decode cX4_isEither 56 = .ok (.getfield 9, 3) := by decide +kernel
theorem dX4_isEither_59 : decode cX4_isEither 59 = .ok (.bipush (-3), 2) := by decide +kernel
theorem dX4_isEither_61 : decode cX4_isEither 61 = .ok (.invokevirtual 87, 3) := by decide +kernel
theorem dX4_isEither_64 : decode cX4_isEither 64 = .ok (.aload_n 0, 1) := by decide +kernel
theorem dX4_isEither_65 : decode cX4_isEither 65 = .ok (.bipush 124, 2) := by decide +kernel
theorem dX4_isEither_67 : decode cX4_isEither 67 = .ok (.invokevirtual 41, 3) := by decide +kernel
theorem dX4_isEither_70 : decode cX4_isEither 70 = .ok (.istore_n 3, 1) := by decide +kernel
theorem dX4_isEither_71 : decode cX4_isEither 71 = .ok (.iload_n 3, 1) := by decide +kernel
theorem dX4_isEither_72 : decode cX4_isEither 72 = .ok (.ifCond .ne 5, 3) := by decide +kernel
theorem dX4_isEither_75 : decode cX4_isEither 75 = .ok (.iconst 1, 1) := by decide +kernel
theorem dX4_isEither_76 : decode cX4_isEither 76 = .ok (.ireturn, 1) := by decide +kernel
theorem dX4_isEither_77 : decode cX4_isEither 77 = .ok (.iinc 4 1, 3) := by decide +kernel
theorem dX4_isEither_80 : decode cX4_isEither 80 = .ok (.goto (-73), 3) := by decide +kernel
theorem dX4_isEither_83 : decode cX4_isEither 83 = .ok (.iconst 0, 1) := by decide +kernel
theorem dX4_isEither_84 : decode cX4_isEither 84 = .ok (.ireturn, 1) := by decide +kernel
theorem dX4_isFactor_0 : decode cX4_isFactor 0 = .ok (.aload_n 0, 1) := by decide +kernel
theorem dX4_isFactor_1 : decode cX4_isFactor 1 = .ok (.invokevirtual 45, 3) := by decide +kernel
theorem dX4_isFactor_4 : decode cX4_isFactor 4 = .ok (.istore_n 2, 1) := by decide +kernel
theorem dX4_isFactor_5 : decode cX4_isFactor 5 = .ok (.iload_n 2, 1) := by decide +kernel
theorem dX4_isFactor_6 : decode cX4_isFactor 6 = .ok (.bipush 40, 2) := by decide +kernel
theorem dX4_isFactor_8 : decode cX4_isFactor 8 = .ok (.if_icmp .eq 9, 3) := by decide +kernel
theorem dX4_isFactor_11 : decode cX4_isFactor 11 = .ok (.iload_n 2, 1) := by decide +kernel
theorem dX4_isFactor_12 : decode cX4_isFactor 12 = .ok (.bipush 33, 2) := by decide +kernel
theorem dX4_isFactor_14 : decode cX4_isFactor 14 = .ok (.if_icmp .ne 25, 3) := by decide +kernel
theorem dX4_isFactor_17 : decode cX4_isFactor 17 = .ok (.iload_n 1, 1) := by decide +kernel
theorem dX4_isFactor_18 : decode cX4_isFactor 18 = .ok (.iconst 4, 1) := by decide +kernel
theorem dX4_isFactor_19 : decode cX4_isFactor 19 = .ok (.if_icmp .ge 18, 3) := by decide +kernel
theorem dX4_isFactor_22 : decode cX4_isFactor 22 = .ok (.aload_n 0, 1) := by decide +kernel
theorem dX4_isFactor_23 : decode cX4_isFactor 23 = .ok (.iload_n 2, 1) := by decide +kernel
theorem dX4_isFactor_24 : decode cX4_isFactor 24 = .ok (.iload_n 1, 1) := by decide +kernel
theorem dX4_isFactor_25 : decode cX4_isFactor 25 = .ok (.iconst 1, 1) := by decide +kernel
theorem dX4_isFactor_26 : decode cX4_isFactor 26 = .ok (.iadd, 1) := by decide +kernel
theorem dX4_isFactor_27 : decode cX4_isFactor 27 = .ok (.invokevirtual 90, 3) := by decide +kernel
theorem dX4_isFactor_30 : decode cX4_isFactor 30 = .ok (.ifCond .eq 7, 3) := by decide +kernel
theorem dX4_isFactor_33 : decode cX4_isFactor 33 = .ok (.iconst 1, 1) := by decide +kernel
theorem dX4_isFactor_34 : decode cX4_isFactor 34 = .ok (.goto 4, 3) := by decide +kernel
theorem dX4_isFactor_37 : decode cX4_isFactor 37 = .ok (.iconst 0, 1) := by decide +kernel
theorem dX4_isFactor_38 : decode cX4_isFactor 38 = .ok (.ireturn, 1) := by decide +kernel
theorem dX4_isFactor_39 : decode cX4_isFactor 39 = .ok (.iload_n 2, 1) := by decide +kernel
theorem dX4_isFactor_40 : decode cX4_isFactor 40 = .ok (.invokestatic 94, 3) := by decide +kernel
theorem dX4_isFactor_43 : decode cX4_isFactor 43 = .ok (.istore_n 3, 1) := by decide +kernel
theorem dX4_isFactor_44 : decode cX4_isFactor 44 = .ok (.iload_n 3, 1) := by decide +kernel
theorem dX4_isFactor_45 : decode cX4_isFactor 45 = .ok (.ifCond .ge 5, 3) := by decide +kernel
theorem dX4_isFactor_48 : decode cX4_isFactor 48 = .ok (.iconst 0, 1) := by decide +kernel
theorem dX4_isFactor_49 : decode cX4_isFactor 49 = .ok (.ireturn, 1) := by decide +kernel
theorem dX4_isFactor_50 : decode cX4_isFactor 50 = .ok (.aload_n 0, 1) := by decide +kernel
theorem dX4_isFactor_51 : decode cX4_isFactor 51 = .ok (.dup, 1) := by decide +kernel
theorem dX4_isFactor_52 : decode cX4_isFactor 52 = .ok (.getfield 29, 3) := by decide +kernel
theorem dX4_isFactor_55 : decode cX4_isFactor 55 = .ok (.iconst 1, 1) := by decide +kernel
theorem dX4_isFactor_56 : decode cX4_isFactor 56 = .ok (.iadd, 1) := by decide +kernel
theorem dX4_isFactor_57 : decode cX4_isFactor 57 = .ok (.putfield 29, 3) := by decide +kernel
theorem dX4_isFactor_60 : decode cX4_isFactor 60 = .ok (.aload_n 0, 1) := by decide +kernel
theorem dX4_isFactor_61 : decode cX4_isFactor 61 = .ok (.invokevirtual 45, 3) := by decide +kernel
theorem dX4_isFactor_64 : decode cX4_isFactor 64 = .ok (.invokestatic 98, 3) := by decide +kernel
theorem dX4_isFactor_67 : decode cX4_isFactor 67 = .ok (.istore 4, 2) := by decide +kernel
theorem dX4_isFactor_69 : decode cX4_isFactor 69 = .ok (.iload 4, 2) := by decide +kernel
theorem dX4_isFactor_71 : decode cX4_isFactor 71 = .ok (.ifCond .ge 5, 3) := by decide +kernel
theorem dX4_isFactor_74 : decode cX4_isFactor 74 = .ok (.iconst 0, 1) := by decide +kernel
theorem dX4_isFactor_75 : decode cX4_isFactor 75 = .ok (.ireturn, 1) := by decide +kernel
theorem dX4_isFactor_76 : decode cX4_isFactor 76 = .ok (.aload_n 0, 1) := by decide +kernel
theorem dX4_isFactor_77 : decode cX4_isFactor 77 = .ok (.dup, 1) := by decide +kernel
theorem dX4_isFactor_78 : decode cX4_isFactor 78 = .ok (.getfield 29, 3) := by decide +kernel
theorem dX4_isFactor_81 : decode cX4_isFactor 81 = .ok (.iconst 1, 1) := by decide +kernel
theorem dX4_isFactor_82 : decode cX4_isFactor 82 = .ok (.iadd, 1) := by decide +kernel
theorem dX4_isFactor_83 : decode cX4_isFactor 83 = .ok (.putfield 29, 3) := by decide +kernel
theorem dX4_isFactor_86 : decode cX4_isFactor 86 = .ok (.aload_n 0, 1) := by decide +kernel
theorem dX4_isFactor_87 : decode cX4_isFactor 87 = .ok (.invokevirtual 57, 3) := by decide +kernel
theorem dX4_isFactor_90 : decode cX4_isFactor 90 = .ok (.ifCond .ne 5, 3) := by decide +kernel
theorem dX4_isFactor_93 : decode cX4_isFactor 93 = .ok (.iconst 0, 1) := by decide +kernel
theorem dX4_isFactor_94 : decode cX4_isFactor 94 = .ok (.ireturn, 1) := by decide +kernel
theorem dX4_isFactor_95 : decode cX4_isFactor 95 = .ok (.aload_n 0, 1) := by decide +kernel
theorem dX4_isFactor_96 : decode cX4_isFactor 96 = .ok (.getfield 9, 3) := by decide +kernel
theorem dX4_isFactor_99 : decode cX4_isFactor 99 = .ok (.iload_n 3, 1) := by decide +kernel
theorem dX4_isFactor_100 : decode cX4_isFactor 100 = .ok (.iload 4, 2) := by decide +kernel
theorem dX4_isFactor_102 : decode cX4_isFactor 102 = .ok (.aload_n 0, 1) := by decide +kernel
theorem dX4_isFactor_103 : decode cX4_isFactor 103 = .ok (.getfield 60, 3) := by decide +kernel
theorem dX4_isFactor_106 : decode cX4_isFactor 106 = .ok (.invokevirtual 101, 3) := by decide +kernel
theorem dX4_isFactor_109 : decode cX4_isFactor 109 = .ok (.iconst 1, 1) := by decide +kernel
theorem dX4_isFactor_110 : decode cX4_isFactor 110 = .ok (.ireturn, 1) := by decide +kernel
theorem dX4_isNest_0 : decode cX4_isNest 0 = .ok (.aload_n 0, 1) := by decide +kernel
theorem dX4_isNest_1 : decode cX4_isNest 1 = .ok (.dup, 1) := by decide +kernel
theorem dX4_isNest_2 : decode cX4_isNest 2 = .ok (.getfield 29, 3) := by decide +kernel
theorem dX4_isNest_5 : decode cX4_isNest 5 = .ok (.iconst 1, 1) := by decide +kernel
theorem dX4_isNest_6 : decode cX4_isNest 6 = .ok (.iadd, 1) := by decide +kernel
theorem dX4_isNest_7 : decode cX4_isNest 7 = .ok (.putfield 29, 3) := by decide +kernel
theorem dX4_isNest_10 : decode cX4_isNest 10 = .ok (.iload_n 1, 1) := by decide +kernel
theorem dX4_isNest_11 : decode cX4_isNest 11 = .ok (.bipush 40, 2) := by decide +kernel
theorem dX4_isNest_13 : decode cX4_isNest 13 = .ok (.if_icmp .ne 26, 3) := by decide +kernel
theorem dX4_isNest_16 : decode cX4_isNest 16 = .ok (.aload_n 0, 1) := by decide +kernel
theorem dX4_isNest_17 : decode cX4_isNest 17 = .ok (.iload_n 2, 1) := by decide +kernel
theorem dX4_isNest_18 : decode cX4_isNest 18 = .ok (.invokevirtual 69, 3) := by decide +kernel
theorem dX4_isNest_21 : decode cX4_isNest 21 = .ok (.ifCond .eq 16, 3) := by decide +kernel
theorem dX4_isNest_24 : decode cX4_isNest 24 = .ok (.aload_n 0, 1) := by decide +kernel
theorem dX4_isNest_25 : decode cX4_isNest 25 = .ok (.bipush 41, 2) := by decide +kernel
theorem dX4_isNest_27 : decode cX4_isNest 27 = .ok (.invokevirtual 41, 3) := by decide +kernel
theorem dX4_isNest_30 : decode cX4_isNest 30 = .ok (.ifCond .eq 7, 3) := by decide +kernel
theorem dX4_isNest_33 : decode cX4_isNest 33 = .ok (.iconst 1, 1) := by decide +kernel
theorem dX4_isNest_34 : decode cX4_isNest 34 = .ok (.goto 4, 3) := by decide +kernel
theorem dX4_isNest_37 : decode cX4_isNest 37 = .ok (.iconst 0, 1) := by decide +kernel
theorem dX4_isNest_38 : decode cX4_isNest 38 = .ok (.ireturn, 1) := by decide +kernel
theorem dX4_isNest_39 : decode cX4_isNest 39 = .ok (.aload_n 0, 1) := by decide +kernel
theorem dX4_isNest_40 : decode cX4_isNest 40 = .ok (.iload_n 2, 1) := by decide +kernel
theorem dX4_isNest_41 : decode cX4_isNest 41 = .ok (.invokevirtual 84, 3) := by decide +kernel
theorem dX4_isNest_44 : decode cX4_isNest 44 = .ok (.ifCond .ne 5, 3) := by decide +kernel
theorem dX4_isNest_47 : decode cX4_isNest 47 = .ok (.iconst 0, 1) := by decide +kernel
theorem dX4_isNest_48 : decode cX4_isNest 48 = .ok (.ireturn, 1) := by decide +kernel
theorem dX4_isNest_49 : decode cX4_isNest 49 = .ok (.aload_n 0, 1) := by decide +kernel
theorem dX4_isNest_50 : decode cX4_isNest 50 = .ok (.getfield 9, 3) := by decide +kernel
theorem dX4_isNest_53 : decode cX4_isNest 53 = .ok (.iconst (-1), 1) := by decide +kernel
theorem dX4_isNest_54 : decode cX4_isNest 54 = .ok (.invokevirtual 87, 3) := by decide +kernel
theorem dX4_isNest_57 : decode cX4_isNest 57 = .ok (.iconst 1, 1) := by decide +kernel
theorem dX4_isNest_58 : decode cX4_isNest 58 = .ok (.ireturn, 1) := by decide +kernel
theorem dX4_factOf_0 : decode cX4_factOf 0 = .ok (.iload_n 0, 1) := by decide +kernel
theorem dX4_factOf_1 : decode cX4_factOf 1 = .ok (.tableswitch 91 106 121 #[85, 83, 91, 91, 91, 91, 79, 81, 91, 91, 91, 91, 87, 91, 91, 89], 79) := by decide +kernel
theorem dX4_factOf_80 : decode cX4_factOf 80 = .ok (.iconst 0, 1) := by decide +kernel
theorem dX4_factOf_81 : decode cX4_factOf 81 = .ok (.ireturn, 1) := by decide +kernel
theorem dX4_factOf_82 : decode cX4_factOf 82 = .ok (.iconst 1, 1) := by decide +kernel
theorem dX4_factOf_83 : decode cX4_factOf 83 = .ok (.ireturn, 1) := by decide +kernel
theorem dX4_factOf_84 : decode cX4_factOf 84 = .ok (.iconst 2, 1) := by decide +kernel
theorem dX4_factOf_85 : decode cX4_factOf 85 = .ok (.ireturn, 1) := by decide +kernel
theorem dX4_factOf_86 : decode cX4_factOf 86 = .ok (.iconst 3, 1) := by decide +kernel
theorem dX4_factOf_87 : decode cX4_factOf 87 = .ok (.ireturn, 1) := by decide +kernel
theorem dX4_factOf_88 : decode cX4_factOf 88 = .ok (.iconst 4, 1) := by decide +kernel
theorem dX4_factOf_89 : decode cX4_factOf 89 = .ok (.ireturn, 1) := by decide +kernel
theorem dX4_factOf_90 : decode cX4_factOf 90 = .ok (.iconst 5, 1) := by decide +kernel
theorem dX4_factOf_91 : decode cX4_factOf 91 = .ok (.ireturn, 1) := by decide +kernel
theorem dX4_factOf_92 : decode cX4_factOf 92 = .ok (.iconst (-1), 1) := by decide +kernel
theorem dX4_factOf_93 : decode cX4_factOf 93 = .ok (.ireturn, 1) := by decide +kernel
theorem dX4_compareOf_0 : decode cX4_compareOf 0 = .ok (.iload_n 0, 1) := by decide +kernel
theorem dX4_compareOf_1 : decode cX4_compareOf 1 = .ok (.tableswitch 33 60 62 #[27, 29, 31], 27) := by decide +kernel
theorem dX4_compareOf_28 : decode cX4_compareOf 28 = .ok (.iconst 0, 1) := by decide +kernel
theorem dX4_compareOf_29 : decode cX4_compareOf 29 = .ok (.ireturn, 1) := by decide +kernel
theorem dX4_compareOf_30 : decode cX4_compareOf 30 = .ok (.iconst 1, 1) := by decide +kernel
theorem dX4_compareOf_31 : decode cX4_compareOf 31 = .ok (.ireturn, 1) := by decide +kernel
theorem dX4_compareOf_32 : decode cX4_compareOf 32 = .ok (.iconst 2, 1) := by decide +kernel
theorem dX4_compareOf_33 : decode cX4_compareOf 33 = .ok (.ireturn, 1) := by decide +kernel
theorem dX4_compareOf_34 : decode cX4_compareOf 34 = .ok (.iconst (-1), 1) := by decide +kernel
theorem dX4_compareOf_35 : decode cX4_compareOf 35 = .ok (.ireturn, 1) := by decide +kernel
theorem dX4_isNumber_0 : decode cX4_isNumber 0 = .ok (.aload_n 0, 1) := by decide +kernel
theorem dX4_isNumber_1 : decode cX4_isNumber 1 = .ok (.invokevirtual 45, 3) := by decide +kernel
theorem dX4_isNumber_4 : decode cX4_isNumber 4 = .ok (.bipush 48, 2) := by decide +kernel
theorem dX4_isNumber_6 : decode cX4_isNumber 6 = .ok (.isub, 1) := by decide +kernel
theorem dX4_isNumber_7 : decode cX4_isNumber 7 = .ok (.istore_n 1, 1) := by decide +kernel
theorem dX4_isNumber_8 : decode cX4_isNumber 8 = .ok (.iload_n 1, 1) := by decide +kernel
theorem dX4_isNumber_9 : decode cX4_isNumber 9 = .ok (.invokestatic 105, 3) := by decide +kernel
theorem dX4_isNumber_12 : decode cX4_isNumber 12 = .ok (.ifCond .ne 5, 3) := by decide +kernel
theorem dX4_isNumber_15 : decode cX4_isNumber 15 = .ok (.iconst 0, 1) := by decide +kernel
theorem dX4_isNumber_16 : decode cX4_isNumber 16 = .ok (.ireturn, 1) := by decide +kernel
theorem dX4_isNumber_17 : decode cX4_isNumber 17 = .ok (.aload_n 0, 1) := by decide +kernel
theorem dX4_isNumber_18 : decode cX4_isNumber 18 = .ok (.dup, 1) := by decide +kernel
theorem dX4_isNumber_19 : decode cX4_isNumber 19 = .ok (.getfield 29, 3) := by decide +kernel
theorem dX4_isNumber_22 : decode cX4_isNumber 22 = .ok (.iconst 1, 1) := by decide +kernel
theorem dX4_isNumber_23 : decode cX4_isNumber 23 = .ok (.iadd, 1) := by decide +kernel
theorem dX4_isNumber_24 : decode cX4_isNumber 24 = .ok (.putfield 29, 3) := by decide +kernel
theorem dX4_isNumber_27 : decode cX4_isNumber 27 = .ok (.aload_n 0, 1) := by decide +kernel
theorem dX4_isNumber_28 : decode cX4_isNumber 28 = .ok (.invokevirtual 45, 3) := by decide +kernel
theorem dX4_isNumber_31 : decode cX4_isNumber 31 = .ok (.bipush 48, 2) := by decide +kernel
theorem dX4_isNumber_33 : decode cX4_isNumber 33 = .ok (.isub, 1) := by decide +kernel
theorem dX4_isNumber_34 : decode cX4_isNumber 34 = .ok (.istore_n 2, 1) := by decide +kernel
theorem dX4_isNumber_35 : decode cX4_isNumber 35 = .ok (.iload_n 2, 1) := by decide +kernel
theorem dX4_isNumber_36 : decode cX4_isNumber 36 = .ok (.invokestatic 105, 3) := by decide +kernel
theorem dX4_isNumber_39 : decode cX4_isNumber 39 = .ok (.ifCond .ne 10, 3) := by decide +kernel
theorem dX4_isNumber_42 : decode cX4_isNumber 42 = .ok (.aload_n 0, 1) := by decide +kernel
theorem dX4_isNumber_43 : decode cX4_isNumber 43 = .ok (.iload_n 1, 1) := by decide +kernel
theorem dX4_isNumber_44 : decode cX4_isNumber 44 = .ok (.putfield 60, 3) := by decide +kernel
theorem dX4_isNumber_47 : decode cX4_isNumber 47 = .ok (.iconst 1, 1) := by decide +kernel
theorem dX4_isNumber_48 : decode cX4_isNumber 48 = .ok (.ireturn, 1) := by decide +kernel
theorem dX4_isNumber_49 : decode cX4_isNumber 49 = .ok (.aload_n 0, 1) := by decide +kernel
theorem dX4_isNumber_50 : decode cX4_isNumber 50 = .ok (.dup, 1) := by decide +kernel
theorem dX4_isNumber_51 : decode cX4_isNumber 51 = .ok (.getfield 29, 3) := by decide +kernel
theorem dX4_isNumber_54 : decode cX4_isNumber 54 = .ok (.iconst 1, 1) := by decide +kernel
theorem dX4_isNumber_55 : decode cX4_isNumber 55 = .ok (.iadd, 1) := by decide +kernel
theorem dX4_isNumber_56 : decode cX4_isNumber 56 = .ok (.putfield 29, 3) := by decide +kernel
theorem dX4_isNumber_59 : decode cX4_isNumber 59 = .ok (.aload_n 0, 1) := by decide +kernel
theorem dX4_isNumber_60 : decode cX4_isNumber 60 = .ok (.bipush 10, 2) := by decide +kernel
theorem dX4_isNumber_62 : decode cX4_isNumber 62 = .ok (.iload_n 1, 1) := by decide +kernel
theorem dX4_isNumber_63 : decode cX4_isNumber 63 = .ok (.imul, 1) := by decide +kernel
theorem dX4_isNumber_64 : decode cX4_isNumber 64 = .ok (.iload_n 2, 1) := by decide +kernel
theorem dX4_isNumber_65 : decode cX4_isNumber 65 = .ok (.iadd, 1) := by decide +kernel
theorem dX4_isNumber_66 : decode cX4_isNumber 66 = .ok (.putfield 60, 3) := by decide +kernel
theorem dX4_isNumber_69 : decode cX4_isNumber 69 = .ok (.iconst 1, 1) := by decide +kernel
theorem dX4_isNumber_70 : decode cX4_isNumber 70 = .ok (.ireturn, 1) := by decide +kernel
theorem dX4_isWord_0 : decode cX4_isWord 0 = .ok (.iconst 0, 1) := by decide +kernel
theorem dX4_isWord_1 : decode cX4_isWord 1 = .ok (.istore_n 2, 1) := by decide +kernel
theorem dX4_isWord_2 : decode cX4_isWord 2 = .ok (.iload_n 2, 1) := by decide +kernel
theorem dX4_isWord_3 : decode cX4_isWord 3 = .ok (.aload_n 1, 1) := by decide +kernel
theorem dX4_isWord_4 : decode cX4_isWord 4 = .ok (.invokevirtual 108, 3) := by decide +kernel
theorem dX4_isWord_7 : decode cX4_isWord 7 = .ok (.if_icmp .ge 23, 3) := by decide +kernel
theorem dX4_isWord_10 : decode cX4_isWord 10 = .ok (.aload_n 0, 1) := by decide +kernel
theorem dX4_isWord_11 : decode cX4_isWord 11 = .ok (.aload_n 1, 1) := by decide +kernel
theorem dX4_isWord_12 : decode cX4_isWord 12 = .ok (.iload_n 2, 1) := by decide +kernel
theorem dX4_isWord_13 : decode cX4_isWord 13 = .ok (.invokevirtual 112, 3) := by decide +kernel
theorem dX4_isWord_16 : decode cX4_isWord 16 = .ok (.invokevirtual 41, 3) := by decide +kernel
theorem dX4_isWord_19 : decode cX4_isWord 19 = .ok (.ifCond .ne 5, 3) := by decide +kernel
theorem dX4_isWord_22 : decode cX4_isWord 22 = .ok (.iconst 0, 1) := by decide +kernel
theorem dX4_isWord_23 : decode cX4_isWord 23 = .ok (.ireturn, 1) := by decide +kernel
theorem dX4_isWord_24 : decode cX4_isWord 24 = .ok (.iinc 2 1, 3) := by decide +kernel
theorem dX4_isWord_27 : decode cX4_isWord 27 = .ok (.goto (-25), 3) := by decide +kernel
theorem dX4_isWord_30 : decode cX4_isWord 30 = .ok (.iconst 1, 1) := by decide +kernel
theorem dX4_isWord_31 : decode cX4_isWord 31 = .ok (.ireturn, 1) := by decide +kernel
theorem dX4_isSign_0 : decode cX4_isSign 0 = .ok (.aload_n 0, 1) := by decide +kernel
theorem dX4_isSign_1 : decode cX4_isSign 1 = .ok (.invokevirtual 45, 3) := by decide +kernel
theorem dX4_isSign_4 : decode cX4_isSign 4 = .ok (.iload_n 1, 1) := by decide +kernel
theorem dX4_isSign_5 : decode cX4_isSign 5 = .ok (.if_icmp .eq 5, 3) := by decide +kernel
theorem dX4_isSign_8 : decode cX4_isSign 8 = .ok (.iconst 0, 1) := by decide +kernel
theorem dX4_isSign_9 : decode cX4_isSign 9 = .ok (.ireturn, 1) := by decide +kernel
theorem dX4_isSign_10 : decode cX4_isSign 10 = .ok (.aload_n 0, 1) := by decide +kernel
theorem dX4_isSign_11 : decode cX4_isSign 11 = .ok (.dup, 1) := by decide +kernel
theorem dX4_isSign_12 : decode cX4_isSign 12 = .ok (.getfield 29, 3) := by decide +kernel
theorem dX4_isSign_15 : decode cX4_isSign 15 = .ok (.iconst 1, 1) := by decide +kernel
theorem dX4_isSign_16 : decode cX4_isSign 16 = .ok (.iadd, 1) := by decide +kernel
theorem dX4_isSign_17 : decode cX4_isSign 17 = .ok (.putfield 29, 3) := by decide +kernel
theorem dX4_isSign_20 : decode cX4_isSign 20 = .ok (.iconst 1, 1) := by decide +kernel
theorem dX4_isSign_21 : decode cX4_isSign 21 = .ok (.ireturn, 1) := by decide +kernel
theorem dX4_next_0 : decode cX4_next 0 = .ok (.aload_n 0, 1) := by decide +kernel
theorem dX4_next_1 : decode cX4_next 1 = .ok (.getfield 29, 3) := by decide +kernel
theorem dX4_next_4 : decode cX4_next 4 = .ok (.ifCond .lt 26, 3) := by decide +kernel
theorem dX4_next_7 : decode cX4_next 7 = .ok (.aload_n 0, 1) := by decide +kernel
theorem dX4_next_8 : decode cX4_next 8 = .ok (.getfield 29, 3) := by decide +kernel
theorem dX4_next_11 : decode cX4_next 11 = .ok (.aload_n 0, 1) := by decide +kernel
theorem dX4_next_12 : decode cX4_next 12 = .ok (.getfield 25, 3) := by decide +kernel
theorem dX4_next_15 : decode cX4_next 15 = .ok (.if_icmp .ge 15, 3) := by decide +kernel
theorem dX4_next_18 : decode cX4_next 18 = .ok (.aload_n 0, 1) := by decide +kernel
theorem dX4_next_19 : decode cX4_next 19 = .ok (.getfield 15, 3) := by decide +kernel
theorem dX4_next_22 : decode cX4_next 22 = .ok (.aload_n 0, 1) := by decide +kernel
theorem dX4_next_23 : decode cX4_next 23 = .ok (.getfield 29, 3) := by decide +kernel
theorem dX4_next_26 : decode cX4_next 26 = .ok (.baload, 1) := by decide +kernel
theorem dX4_next_27 : decode cX4_next 27 = .ok (.goto 4, 3) := by decide +kernel
theorem dX4_next_30 : decode cX4_next 30 = .ok (.iconst (-1), 1) := by decide +kernel
theorem dX4_next_31 : decode cX4_next 31 = .ok (.ireturn, 1) := by decide +kernel
theorem dX5_init_0 : decode cX5_init 0 = .ok (.aload_n 0, 1) := by decide +kernel
theorem dX5_init_1 : decode cX5_init 1 = .ok (.invokespecial 3, 3) := by decide +kernel
theorem dX5_init_4 : decode cX5_init 4 = .ok (.aload_n 0, 1) := by decide +kernel
theorem dX5_init_5 : decode cX5_init 5 = .ok (.iload_n 1, 1) := by decide +kernel
theorem dX5_init_6 : decode cX5_init 6 = .ok (.putfield 9, 3) := by decide +kernel
theorem dX5_init_9 : decode cX5_init 9 = .ok (.aload_n 0, 1) := by decide +kernel
theorem dX5_init_10 : decode cX5_init 10 = .ok (.iload_n 1, 1) := by decide +kernel
theorem dX5_init_11 : decode cX5_init 11 = .ok (.newarray .int, 2) := by decide +kernel
theorem dX5_init_13 : decode cX5_init 13 = .ok (.putfield 15, 3) := by decide +kernel
theorem dX5_init_16 : decode cX5_init 16 = .ok (.aload_n 0, 1) := by decide +kernel
theorem dX5_init_17 : decode cX5_init 17 = .ok (.iload_n 1, 1) := by decide +kernel
theorem dX5_init_18 : decode cX5_init 18 = .ok (.newarray .int, 2) := by decide +kernel
theorem dX5_init_20 : decode cX5_init 20 = .ok (.putfield 19, 3) := by decide +kernel
theorem dX5_init_23 : decode cX5_init 23 = .ok (.aload_n 0, 1) := by decide +kernel
theorem dX5_init_24 : decode cX5_init 24 = .ok (.iload_n 1, 1) := by decide +kernel
theorem dX5_init_25 : decode cX5_init 25 = .ok (.newarray .int, 2) := by decide +kernel
theorem dX5_init_27 : decode cX5_init 27 = .ok (.putfield 22, 3) := by decide +kernel
theorem dX5_init_30 : decode cX5_init 30 = .ok (.return_, 1) := by decide +kernel
theorem dX5_empty_0 : decode cX5_empty 0 = .ok (.aload_n 0, 1) := by decide +kernel
theorem dX5_empty_1 : decode cX5_empty 1 = .ok (.iconst 0, 1) := by decide +kernel
theorem dX5_empty_2 : decode cX5_empty 2 = .ok (.putfield 25, 3) := by decide +kernel
theorem dX5_empty_5 : decode cX5_empty 5 = .ok (.aload_n 0, 1) := by decide +kernel
theorem dX5_empty_6 : decode cX5_empty 6 = .ok (.getfield 25, 3) := by decide +kernel
theorem dX5_empty_9 : decode cX5_empty 9 = .ok (.ireturn, 1) := by decide +kernel
theorem dX5_add_0 : decode cX5_add 0 = .ok (.aload_n 0, 1) := by decide +kernel
theorem dX5_add_1 : decode cX5_add 1 = .ok (.getfield 25, 3) := by decide +kernel
theorem dX5_add_4 : decode cX5_add 4 = .ok (.aload_n 0, 1) := by decide +kernel
theorem dX5_add_5 : decode cX5_add 5 = .ok (.getfield 9, 3) := by decide +kernel
theorem dX5_add_8 : decode cX5_add 8 = .ok (.if_icmp .lt 6, 3) := by decide +kernel
theorem dX5_add_11 : decode cX5_add 11 = .ok (.bipush (-4), 2) := by decide +kernel
theorem dX5_add_13 : decode cX5_add 13 = .ok (.ireturn, 1) := by decide +kernel
theorem dX5_add_14 : decode cX5_add 14 = .ok (.aload_n 0, 1) := by decide +kernel
theorem dX5_add_15 : decode cX5_add 15 = .ok (.getfield 15, 3) := by decide +kernel
theorem dX5_add_18 : decode cX5_add 18 = .ok (.aload_n 0, 1) := by decide +kernel
theorem dX5_add_19 : decode cX5_add 19 = .ok (.getfield 25, 3) := by decide +kernel
theorem dX5_add_22 : decode cX5_add 22 = .ok (.iload_n 1, 1) := by decide +kernel
theorem dX5_add_23 : decode cX5_add 23 = .ok (.iastore, 1) := by decide +kernel
theorem dX5_add_24 : decode cX5_add 24 = .ok (.aload_n 0, 1) := by decide +kernel
theorem dX5_add_25 : decode cX5_add 25 = .ok (.getfield 19, 3) := by decide +kernel
theorem dX5_add_28 : decode cX5_add 28 = .ok (.aload_n 0, 1) := by decide +kernel
theorem dX5_add_29 : decode cX5_add 29 = .ok (.getfield 25, 3) := by decide +kernel
theorem dX5_add_32 : decode cX5_add 32 = .ok (.iload_n 2, 1) := by decide +kernel
theorem dX5_add_33 : decode cX5_add 33 = .ok (.iastore, 1) := by decide +kernel
theorem dX5_add_34 : decode cX5_add 34 = .ok (.aload_n 0, 1) := by decide +kernel
theorem dX5_add_35 : decode cX5_add 35 = .ok (.getfield 22, 3) := by decide +kernel
theorem dX5_add_38 : decode cX5_add 38 = .ok (.aload_n 0, 1) := by decide +kernel
theorem dX5_add_39 : decode cX5_add 39 = .ok (.getfield 25, 3) := by decide +kernel
theorem dX5_add_42 : decode cX5_add 42 = .ok (.iload_n 3, 1) := by decide +kernel
theorem dX5_add_43 : decode cX5_add 43 = .ok (.iastore, 1) := by decide +kernel
theorem dX5_add_44 : decode cX5_add 44 = .ok (.aload_n 0, 1) := by decide +kernel
theorem dX5_add_45 : decode cX5_add 45 = .ok (.dup, 1) := by decide +kernel
theorem dX5_add_46 : decode cX5_add 46 = .ok (.getfield 25, 3) := by decide +kernel
theorem dX5_add_49 : decode cX5_add 49 = .ok (.iconst 1, 1) := by decide +kernel
theorem dX5_add_50 : decode cX5_add 50 = .ok (.iadd, 1) := by decide +kernel
theorem dX5_add_51 : decode cX5_add 51 = .ok (.putfield 25, 3) := by decide +kernel
theorem dX5_add_54 : decode cX5_add 54 = .ok (.aload_n 0, 1) := by decide +kernel
theorem dX5_add_55 : decode cX5_add 55 = .ok (.getfield 25, 3) := by decide +kernel
theorem dX5_add_58 : decode cX5_add 58 = .ok (.ireturn, 1) := by decide +kernel
theorem dX5_greatestThird_0 : decode cX5_greatestThird 0 = .ok (.iconst (-1), 1) := by decide +kernel
theorem dX5_greatestThird_1 : decode cX5_greatestThird 1 = .ok (.istore_n 1, 1) := by decide +kernel
theorem dX5_greatestThird_2 : decode cX5_greatestThird 2 = .ok (.iconst 0, 1) := by decide +kernel
theorem dX5_greatestThird_3 : decode cX5_greatestThird 3 = .ok (.istore_n 2, 1) := by decide +kernel
theorem dX5_greatestThird_4 : decode cX5_greatestThird 4 = .ok (.iload_n 2, 1) := by decide +kernel
theorem dX5_greatestThird_5 : decode cX5_greatestThird 5 = .ok (.aload_n 0, 1) := by decide +kernel
theorem dX5_greatestThird_6 : decode cX5_greatestThird 6 = .ok (.getfield 25, 3) := by decide +kernel
theorem dX5_greatestThird_9 : decode cX5_greatestThird 9 = .ok (.if_icmp .ge 20, 3) := by decide +kernel
theorem dX5_greatestThird_12 : decode cX5_greatestThird 12 = .ok (.iload_n 1, 1) := by decide +kernel
theorem dX5_greatestThird_13 : decode cX5_greatestThird 13 = .ok (.aload_n 0, 1) := by decide +kernel
theorem dX5_greatestThird_14 : decode cX5_greatestThird 14 = .ok (.getfield 22, 3) := by decide +kernel
theorem dX5_greatestThird_17 : decode cX5_greatestThird 17 = .ok (.iload_n 2, 1) := by decide +kernel
theorem dX5_greatestThird_18 : decode cX5_greatestThird 18 = .ok (.iaload, 1) := by decide +kernel
theorem dX5_greatestThird_19 : decode cX5_greatestThird 19 = .ok (.invokestatic 28, 3) := by decide +kernel
theorem dX5_greatestThird_22 : decode cX5_greatestThird 22 = .ok (.istore_n 1, 1) := by decide +kernel
theorem dX5_greatestThird_23 : decode cX5_greatestThird 23 = .ok (.iinc 2 1, 3) := by decide +kernel
theorem dX5_greatestThird_26 : decode cX5_greatestThird 26 = .ok (.goto (-22), 3) := by decide +kernel
theorem dX5_greatestThird_29 : decode cX5_greatestThird 29 = .ok (.iload_n 1, 1) := by decide +kernel
theorem dX5_greatestThird_30 : decode cX5_greatestThird 30 = .ok (.ireturn, 1) := by decide +kernel
theorem dX5_copyFrom_0 : decode cX5_copyFrom 0 = .ok (.aload_n 0, 1) := by decide +kernel
theorem dX5_copyFrom_1 : decode cX5_copyFrom 1 = .ok (.aload_n 1, 1) := by decide +kernel
theorem dX5_copyFrom_2 : decode cX5_copyFrom 2 = .ok (.getfield 25, 3) := by decide +kernel
theorem dX5_copyFrom_5 : decode cX5_copyFrom 5 = .ok (.putfield 25, 3) := by decide +kernel
theorem dX5_copyFrom_8 : decode cX5_copyFrom 8 = .ok (.aload_n 1, 1) := by decide +kernel
theorem dX5_copyFrom_9 : decode cX5_copyFrom 9 = .ok (.getfield 15, 3) := by decide +kernel
theorem dX5_copyFrom_12 : decode cX5_copyFrom 12 = .ok (.iconst 0, 1) := by decide +kernel
theorem dX5_copyFrom_13 : decode cX5_copyFrom 13 = .ok (.aload_n 0, 1) := by decide +kernel
theorem dX5_copyFrom_14 : decode cX5_copyFrom 14 = .ok (.getfield 15, 3) := by decide +kernel
theorem dX5_copyFrom_17 : decode cX5_copyFrom 17 = .ok (.iconst 0, 1) := by decide +kernel
theorem dX5_copyFrom_18 : decode cX5_copyFrom 18 = .ok (.aload_n 0, 1) := by decide +kernel
theorem dX5_copyFrom_19 : decode cX5_copyFrom 19 = .ok (.getfield 9, 3) := by decide +kernel
theorem dX5_copyFrom_22 : decode cX5_copyFrom 22 = .ok (.invokestatic 34, 3) := by decide +kernel
theorem dX5_copyFrom_25 : decode cX5_copyFrom 25 = .ok (.aload_n 1, 1) := by decide +kernel
theorem dX5_copyFrom_26 : decode cX5_copyFrom 26 = .ok (.getfield 19, 3) := by decide +kernel
theorem dX5_copyFrom_29 : decode cX5_copyFrom 29 = .ok (.iconst 0, 1) := by decide +kernel
theorem dX5_copyFrom_30 : decode cX5_copyFrom 30 = .ok (.aload_n 0, 1) := by decide +kernel
theorem dX5_copyFrom_31 : decode cX5_copyFrom 31 = .ok (.getfield 19, 3) := by decide +kernel
theorem dX5_copyFrom_34 : decode cX5_copyFrom 34 = .ok (.iconst 0, 1) := by decide +kernel
theorem dX5_copyFrom_35 : decode cX5_copyFrom 35 = .ok (.aload_n 0, 1) := by decide +kernel
theorem dX5_copyFrom_36 : decode cX5_copyFrom 36 = .ok (.getfield 9, 3) := by decide +kernel
theorem dX5_copyFrom_39 : decode cX5_copyFrom 39 = .ok (.invokestatic 34, 3) := by decide +kernel
theorem dX5_copyFrom_42 : decode cX5_copyFrom 42 = .ok (.aload_n 1, 1) := by decide +kernel
theorem dX5_copyFrom_43 : decode cX5_copyFrom 43 = .ok (.getfield 22, 3) := by decide +kernel
theorem dX5_copyFrom_46 : decode cX5_copyFrom 46 = .ok (.iconst 0, 1) := by decide +kernel
theorem dX5_copyFrom_47 : decode cX5_copyFrom 47 = .ok (.aload_n 0, 1) := by decide +kernel
theorem dX5_copyFrom_48 : decode cX5_copyFrom 48 = .ok (.getfield 22, 3) := by decide +kernel
theorem dX5_copyFrom_51 : decode cX5_copyFrom 51 = .ok (.iconst 0, 1) := by decide +kernel
theorem dX5_copyFrom_52 : decode cX5_copyFrom 52 = .ok (.aload_n 0, 1) := by decide +kernel
theorem dX5_copyFrom_53 : decode cX5_copyFrom 53 = .ok (.getfield 9, 3) := by decide +kernel
theorem dX5_copyFrom_56 : decode cX5_copyFrom 56 = .ok (.invokestatic 34, 3) := by decide +kernel
theorem dX5_copyFrom_59 : decode cX5_copyFrom 59 = .ok (.return_, 1) := by decide +kernel
theorem dX6_init_0 : decode cX6_init 0 = .ok (.aload_n 0, 1) := by decide +kernel
theorem dX6_init_1 : decode cX6_init 1 = .ok (.invokespecial 3, 3) := by decide +kernel
theorem dX6_init_4 : decode cX6_init 4 = .ok (.aload_n 0, 1) := by decide +kernel
theorem dX6_init_5 : decode cX6_init 5 = .ok (.bipush 6, 2) := by decide +kernel
theorem dX6_init_7 : decode cX6_init 7 = .ok (.newarray .int, 2) := by decide +kernel
theorem dX6_init_9 : decode cX6_init 9 = .ok (.putfield 9, 3) := by decide +kernel
theorem dX6_init_12 : decode cX6_init 12 = .ok (.aload_n 0, 1) := by decide +kernel
theorem dX6_init_13 : decode cX6_init 13 = .ok (.bipush 6, 2) := by decide +kernel
theorem dX6_init_15 : decode cX6_init 15 = .ok (.newarray .int, 2) := by decide +kernel
theorem dX6_init_17 : decode cX6_init 17 = .ok (.putfield 15, 3) := by decide +kernel
theorem dX6_init_20 : decode cX6_init 20 = .ok (.aload_n 0, 1) := by decide +kernel
theorem dX6_init_21 : decode cX6_init 21 = .ok (.bipush 6, 2) := by decide +kernel
theorem dX6_init_23 : decode cX6_init 23 = .ok (.newarray .int, 2) := by decide +kernel
theorem dX6_init_25 : decode cX6_init 25 = .ok (.putfield 18, 3) := by decide +kernel
theorem dX6_init_28 : decode cX6_init 28 = .ok (.aload_n 0, 1) := by decide +kernel
theorem dX6_init_29 : decode cX6_init 29 = .ok (.bipush 6, 2) := by decide +kernel
theorem dX6_init_31 : decode cX6_init 31 = .ok (.newarray .int, 2) := by decide +kernel
theorem dX6_init_33 : decode cX6_init 33 = .ok (.putfield 21, 3) := by decide +kernel
theorem dX6_init_36 : decode cX6_init 36 = .ok (.aload_n 0, 1) := by decide +kernel
theorem dX6_init_37 : decode cX6_init 37 = .ok (.bipush 6, 2) := by decide +kernel
theorem dX6_init_39 : decode cX6_init 39 = .ok (.newarray .boolean, 2) := by decide +kernel
theorem dX6_init_41 : decode cX6_init 41 = .ok (.putfield 24, 3) := by decide +kernel
theorem dX6_init_44 : decode cX6_init 44 = .ok (.aload_n 0, 1) := by decide +kernel
theorem dX6_init_45 : decode cX6_init 45 = .ok (.bipush 6, 2) := by decide +kernel
theorem dX6_init_47 : decode cX6_init 47 = .ok (.newarray .boolean, 2) := by decide +kernel
theorem dX6_init_49 : decode cX6_init 49 = .ok (.putfield 28, 3) := by decide +kernel
theorem dX6_init_52 : decode cX6_init 52 = .ok (.aload_n 0, 1) := by decide +kernel
theorem dX6_init_53 : decode cX6_init 53 = .ok (.bipush 24, 2) := by decide +kernel
theorem dX6_init_55 : decode cX6_init 55 = .ok (.newarray .int, 2) := by decide +kernel
theorem dX6_init_57 : decode cX6_init 57 = .ok (.putfield 31, 3) := by decide +kernel
theorem dX6_init_60 : decode cX6_init 60 = .ok (.aload_n 0, 1) := by decide +kernel
theorem dX6_init_61 : decode cX6_init 61 = .ok (.bipush 6, 2) := by decide +kernel
theorem dX6_init_63 : decode cX6_init 63 = .ok (.newarray .int, 2) := by decide +kernel
theorem dX6_init_65 : decode cX6_init 65 = .ok (.putfield 34, 3) := by decide +kernel
theorem dX6_init_68 : decode cX6_init 68 = .ok (.aload_n 0, 1) := by decide +kernel
theorem dX6_init_69 : decode cX6_init 69 = .ok (.bipush 36, 2) := by decide +kernel
theorem dX6_init_71 : decode cX6_init 71 = .ok (.newarray .int, 2) := by decide +kernel
theorem dX6_init_73 : decode cX6_init 73 = .ok (.putfield 37, 3) := by decide +kernel
theorem dX6_init_76 : decode cX6_init 76 = .ok (.aload_n 0, 1) := by decide +kernel
theorem dX6_init_77 : decode cX6_init 77 = .ok (.bipush 6, 2) := by decide +kernel
theorem dX6_init_79 : decode cX6_init 79 = .ok (.newarray .int, 2) := by decide +kernel
theorem dX6_init_81 : decode cX6_init 81 = .ok (.putfield 42, 3) := by decide +kernel
theorem dX6_init_84 : decode cX6_init 84 = .ok (.aload_n 0, 1) := by decide +kernel
theorem dX6_init_85 : decode cX6_init 85 = .ok (.aload_n 1, 1) := by decide +kernel
theorem dX6_init_86 : decode cX6_init 86 = .ok (.putfield 45, 3) := by decide +kernel
theorem dX6_init_89 : decode cX6_init 89 = .ok (.iconst 0, 1) := by decide +kernel
theorem dX6_init_90 : decode cX6_init 90 = .ok (.istore_n 2, 1) := by decide +kernel
theorem dX6_init_91 : decode cX6_init 91 = .ok (.iload_n 2, 1) := by decide +kernel
theorem dX6_init_92 : decode cX6_init 92 = .ok (.bipush 6, 2) := by decide +kernel
theorem dX6_init_94 : decode cX6_init 94 = .ok (.if_icmp .ge 16, 3) := by decide +kernel
theorem dX6_init_97 : decode cX6_init 97 = .ok (.aload_n 0, 1) := by decide +kernel
theorem dX6_init_98 : decode cX6_init 98 = .ok (.getfield 34, 3) := by decide +kernel
theorem dX6_init_101 : decode cX6_init 101 = .ok (.iload_n 2, 1) := by decide +kernel
theorem dX6_init_102 : decode cX6_init 102 = .ok (.iconst (-1), 1) := by decide +kernel
theorem dX6_init_103 : decode cX6_init 103 = .ok (.iastore, 1) := by decide +kernel
theorem dX6_init_104 : decode cX6_init 104 = .ok (.iinc 2 1, 3) := by decide +kernel
theorem dX6_init_107 : decode cX6_init 107 = .ok (.goto (-16), 3) := by decide +kernel
theorem dX6_init_110 : decode cX6_init 110 = .ok (.return_, 1) := by decide +kernel
theorem dX6_copyFrom_0 : decode cX6_copyFrom 0 = .ok (.aload_n 1, 1) := by decide +kernel
theorem dX6_copyFrom_1 : decode cX6_copyFrom 1 = .ok (.getfield 9, 3) := by decide +kernel
theorem dX6_copyFrom_4 : decode cX6_copyFrom 4 = .ok (.iconst 0, 1) := by decide +kernel
theorem dX6_copyFrom_5 : decode cX6_copyFrom 5 = .ok (.aload_n 0, 1) := by decide +kernel
theorem dX6_copyFrom_6 : decode cX6_copyFrom 6 = .ok (.getfield 9, 3) := by decide +kernel
theorem dX6_copyFrom_9 : decode cX6_copyFrom 9 = .ok (.iconst 0, 1) := by decide +kernel
theorem dX6_copyFrom_10 : decode cX6_copyFrom 10 = .ok (.bipush 6, 2) := by decide +kernel
theorem dX6_copyFrom_12 : decode cX6_copyFrom 12 = .ok (.invokestatic 49, 3) := by decide +kernel
theorem dX6_copyFrom_15 : decode cX6_copyFrom 15 = .ok (.aload_n 1, 1) := by decide +kernel
theorem dX6_copyFrom_16 : decode cX6_copyFrom 16 = .ok (.getfield 15, 3) := by decide +kernel
theorem dX6_copyFrom_19 : decode cX6_copyFrom 19 = .ok (.iconst 0, 1) := by decide +kernel
theorem dX6_copyFrom_20 : decode cX6_copyFrom 20 = .ok (.aload_n 0, 1) := by decide +kernel
theorem dX6_copyFrom_21 : decode cX6_copyFrom 21 = .ok (.getfield 15, 3) := by decide +kernel
theorem dX6_copyFrom_24 : decode cX6_copyFrom 24 = .ok (.iconst 0, 1) := by decide +kernel
theorem dX6_copyFrom_25 : decode cX6_copyFrom 25 = .ok (.bipush 6, 2) := by decide +kernel
theorem dX6_copyFrom_27 : decode cX6_copyFrom 27 = .ok (.invokestatic 49, 3) := by decide +kernel
theorem dX6_copyFrom_30 : decode cX6_copyFrom 30 = .ok (.aload_n 1, 1) := by decide +kernel
theorem dX6_copyFrom_31 : decode cX6_copyFrom 31 = .ok (.getfield 18, 3) := by decide +kernel
theorem dX6_copyFrom_34 : decode cX6_copyFrom 34 = .ok (.iconst 0, 1) := by decide +kernel
theorem dX6_copyFrom_35 : decode cX6_copyFrom 35 = .ok (.aload_n 0, 1) := by decide +kernel
theorem dX6_copyFrom_36 : decode cX6_copyFrom 36 = .ok (.getfield 18, 3) := by decide +kernel
theorem dX6_copyFrom_39 : decode cX6_copyFrom 39 = .ok (.iconst 0, 1) := by decide +kernel
theorem dX6_copyFrom_40 : decode cX6_copyFrom 40 = .ok (.bipush 6, 2) := by decide +kernel
theorem dX6_copyFrom_42 : decode cX6_copyFrom 42 = .ok (.invokestatic 49, 3) := by decide +kernel
theorem dX6_copyFrom_45 : decode cX6_copyFrom 45 = .ok (.aload_n 1, 1) := by decide +kernel
theorem dX6_copyFrom_46 : decode cX6_copyFrom 46 = .ok (.getfield 21, 3) := by decide +kernel
theorem dX6_copyFrom_49 : decode cX6_copyFrom 49 = .ok (.iconst 0, 1) := by decide +kernel
theorem dX6_copyFrom_50 : decode cX6_copyFrom 50 = .ok (.aload_n 0, 1) := by decide +kernel
theorem dX6_copyFrom_51 : decode cX6_copyFrom 51 = .ok (.getfield 21, 3) := by decide +kernel
theorem dX6_copyFrom_54 : decode cX6_copyFrom 54 = .ok (.iconst 0, 1) := by decide +kernel
theorem dX6_copyFrom_55 : decode cX6_copyFrom 55 = .ok (.bipush 6, 2) := by decide +kernel
theorem dX6_copyFrom_57 : decode cX6_copyFrom 57 = .ok (.invokestatic 49, 3) := by decide +kernel
theorem dX6_copyFrom_60 : decode cX6_copyFrom 60 = .ok (.aload_n 1, 1) := by decide +kernel
theorem dX6_copyFrom_61 : decode cX6_copyFrom 61 = .ok (.getfield 24, 3) := by decide +kernel
theorem dX6_copyFrom_64 : decode cX6_copyFrom 64 = .ok (.iconst 0, 1) := by decide +kernel
theorem dX6_copyFrom_65 : decode cX6_copyFrom 65 = .ok (.aload_n 0, 1) := by decide +kernel
theorem dX6_copyFrom_66 : decode cX6_copyFrom 66 = .ok (.getfield 24, 3) := by decide +kernel
theorem dX6_copyFrom_69 : decode cX6_copyFrom 69 = .ok (.iconst 0, 1) := by decide +kernel
theorem dX6_copyFrom_70 : decode cX6_copyFrom 70 = .ok (.bipush 6, 2) := by decide +kernel
theorem dX6_copyFrom_72 : decode cX6_copyFrom 72 = .ok (.invokestatic 49, 3) := by decide +kernel
theorem dX6_copyFrom_75 : decode cX6_copyFrom 75 = .ok (.aload_n 1, 1) := by decide +kernel
theorem dX6_copyFrom_76 : decode cX6_copyFrom 76 = .ok (.getfield 28, 3) := by decide +kernel
theorem dX6_copyFrom_79 : decode cX6_copyFrom 79 = .ok (.iconst 0, 1) := by decide +kernel
theorem dX6_copyFrom_80 : decode cX6_copyFrom 80 = .ok (.aload_n 0, 1) := by decide +kernel
theorem dX6_copyFrom_81 : decode cX6_copyFrom 81 = .ok (.getfield 28, 3) := by decide +kernel
theorem dX6_copyFrom_84 : decode cX6_copyFrom 84 = .ok (.iconst 0, 1) := by decide +kernel
theorem dX6_copyFrom_85 : decode cX6_copyFrom 85 = .ok (.bipush 6, 2) := by decide +kernel
theorem dX6_copyFrom_87 : decode cX6_copyFrom 87 = .ok (.invokestatic 49, 3) := by decide +kernel
theorem dX6_copyFrom_90 : decode cX6_copyFrom 90 = .ok (.aload_n 1, 1) := by decide +kernel
theorem dX6_copyFrom_91 : decode cX6_copyFrom 91 = .ok (.getfield 31, 3) := by decide +kernel
theorem dX6_copyFrom_94 : decode cX6_copyFrom 94 = .ok (.iconst 0, 1) := by decide +kernel
theorem dX6_copyFrom_95 : decode cX6_copyFrom 95 = .ok (.aload_n 0, 1) := by decide +kernel
theorem dX6_copyFrom_96 : decode cX6_copyFrom 96 = .ok (.getfield 31, 3) := by decide +kernel
theorem dX6_copyFrom_99 : decode cX6_copyFrom 99 = .ok (.iconst 0, 1) := by decide +kernel
theorem dX6_copyFrom_100 : decode cX6_copyFrom 100 = .ok (.bipush 24, 2) := by decide +kernel
theorem dX6_copyFrom_102 : decode cX6_copyFrom 102 = .ok (.invokestatic 49, 3) := by decide +kernel
theorem dX6_copyFrom_105 : decode cX6_copyFrom 105 = .ok (.aload_n 1, 1) := by decide +kernel
theorem dX6_copyFrom_106 : decode cX6_copyFrom 106 = .ok (.getfield 34, 3) := by decide +kernel
theorem dX6_copyFrom_109 : decode cX6_copyFrom 109 = .ok (.iconst 0, 1) := by decide +kernel
theorem dX6_copyFrom_110 : decode cX6_copyFrom 110 = .ok (.aload_n 0, 1) := by decide +kernel
theorem dX6_copyFrom_111 : decode cX6_copyFrom 111 = .ok (.getfield 34, 3) := by decide +kernel
theorem dX6_copyFrom_114 : decode cX6_copyFrom 114 = .ok (.iconst 0, 1) := by decide +kernel
theorem dX6_copyFrom_115 : decode cX6_copyFrom 115 = .ok (.bipush 6, 2) := by decide +kernel
theorem dX6_copyFrom_117 : decode cX6_copyFrom 117 = .ok (.invokestatic 49, 3) := by decide +kernel
theorem dX6_copyFrom_120 : decode cX6_copyFrom 120 = .ok (.aload_n 1, 1) := by decide +kernel
theorem dX6_copyFrom_121 : decode cX6_copyFrom 121 = .ok (.getfield 37, 3) := by decide +kernel
theorem dX6_copyFrom_124 : decode cX6_copyFrom 124 = .ok (.iconst 0, 1) := by decide +kernel
theorem dX6_copyFrom_125 : decode cX6_copyFrom 125 = .ok (.aload_n 0, 1) := by decide +kernel
theorem dX6_copyFrom_126 : decode cX6_copyFrom 126 = .ok (.getfield 37, 3) := by decide +kernel
theorem dX6_copyFrom_129 : decode cX6_copyFrom 129 = .ok (.iconst 0, 1) := by decide +kernel
theorem dX6_copyFrom_130 : decode cX6_copyFrom 130 = .ok (.bipush 36, 2) := by decide +kernel
theorem dX6_copyFrom_132 : decode cX6_copyFrom 132 = .ok (.invokestatic 49, 3) := by decide +kernel
theorem dX6_copyFrom_135 : decode cX6_copyFrom 135 = .ok (.aload_n 0, 1) := by decide +kernel
theorem dX6_copyFrom_136 : decode cX6_copyFrom 136 = .ok (.aload_n 1, 1) := by decide +kernel
theorem dX6_copyFrom_137 : decode cX6_copyFrom 137 = .ok (.getfield 55, 3) := by decide +kernel
theorem dX6_copyFrom_140 : decode cX6_copyFrom 140 = .ok (.putfield 55, 3) := by decide +kernel
theorem dX6_copyFrom_143 : decode cX6_copyFrom 143 = .ok (.aload_n 0, 1) := by decide +kernel
theorem dX6_copyFrom_144 : decode cX6_copyFrom 144 = .ok (.aload_n 1, 1) := by decide +kernel
theorem dX6_copyFrom_145 : decode cX6_copyFrom 145 = .ok (.getfield 59, 3) := by decide +kernel
theorem dX6_copyFrom_148 : decode cX6_copyFrom 148 = .ok (.putfield 59, 3) := by decide +kernel
theorem dX6_copyFrom_151 : decode cX6_copyFrom 151 = .ok (.aload_n 0, 1) := by decide +kernel
theorem dX6_copyFrom_152 : decode cX6_copyFrom 152 = .ok (.aload_n 1, 1) := by decide +kernel
theorem dX6_copyFrom_153 : decode cX6_copyFrom 153 = .ok (.getfield 62, 3) := by decide +kernel
theorem dX6_copyFrom_156 : decode cX6_copyFrom 156 = .ok (.putfield 62, 3) := by decide +kernel
theorem dX6_copyFrom_159 : decode cX6_copyFrom 159 = .ok (.aload_n 0, 1) := by decide +kernel
theorem dX6_copyFrom_160 : decode cX6_copyFrom 160 = .ok (.aload_n 1, 1) := by decide +kernel
theorem dX6_copyFrom_161 : decode cX6_copyFrom 161 = .ok (.getfield 45, 3) := by decide +kernel
theorem dX6_copyFrom_164 : decode cX6_copyFrom 164 = .ok (.putfield 45, 3) := by decide +kernel
theorem dX6_copyFrom_167 : decode cX6_copyFrom 167 = .ok (.return_, 1) := by decide +kernel
theorem dX6_takeIn_0 : decode cX6_takeIn 0 = .ok (.aload_n 0, 1) := by decide +kernel
theorem dX6_takeIn_1 : decode cX6_takeIn 1 = .ok (.getfield 55, 3) := by decide +kernel
theorem dX6_takeIn_4 : decode cX6_takeIn 4 = .ok (.istore_n 3, 1) := by decide +kernel
theorem dX6_takeIn_5 : decode cX6_takeIn 5 = .ok (.aload_n 0, 1) := by decide +kernel
theorem dX6_takeIn_6 : decode cX6_takeIn 6 = .ok (.invokevirtual 65, 3) := by decide +kernel
theorem dX6_takeIn_9 : decode cX6_takeIn 9 = .ok (.istore 4, 2) := by decide +kernel
theorem dX6_takeIn_11 : decode cX6_takeIn 11 = .ok (.iload_n 3, 1) := by decide +kernel
theorem dX6_takeIn_12 : decode cX6_takeIn 12 = .ok (.bipush 6, 2) := by decide +kernel
theorem dX6_takeIn_14 : decode cX6_takeIn 14 = .ok (.if_icmp .ge 8, 3) := by decide +kernel
theorem dX6_takeIn_17 : decode cX6_takeIn 17 = .ok (.iload 4, 2) := by decide +kernel
theorem dX6_takeIn_19 : decode cX6_takeIn 19 = .ok (.ifCond .ge 5, 3) := by decide +kernel
theorem dX6_takeIn_22 : decode cX6_takeIn 22 = .ok (.iconst (-1), 1) := by decide +kernel
theorem dX6_takeIn_23 : decode cX6_takeIn 23 = .ok (.ireturn, 1) := by decide +kernel
theorem dX6_takeIn_24 : decode cX6_takeIn 24 = .ok (.aload_n 0, 1) := by decide +kernel
theorem dX6_takeIn_25 : decode cX6_takeIn 25 = .ok (.getfield 9, 3) := by decide +kernel
theorem dX6_takeIn_28 : decode cX6_takeIn 28 = .ok (.iload_n 3, 1) := by decide +kernel
theorem dX6_takeIn_29 : decode cX6_takeIn 29 = .ok (.iload_n 1, 1) := by decide +kernel
theorem dX6_takeIn_30 : decode cX6_takeIn 30 = .ok (.iastore, 1) := by decide +kernel
theorem dX6_takeIn_31 : decode cX6_takeIn 31 = .ok (.aload_n 0, 1) := by decide +kernel
theorem dX6_takeIn_32 : decode cX6_takeIn 32 = .ok (.getfield 15, 3) := by decide +kernel
theorem dX6_takeIn_35 : decode cX6_takeIn 35 = .ok (.iload_n 3, 1) := by decide +kernel
theorem dX6_takeIn_36 : decode cX6_takeIn 36 = .ok (.iload_n 2, 1) := by decide +kernel
theorem dX6_takeIn_37 : decode cX6_takeIn 37 = .ok (.iastore, 1) := by decide +kernel
theorem dX6_takeIn_38 : decode cX6_takeIn 38 = .ok (.aload_n 0, 1) := by decide +kernel
theorem dX6_takeIn_39 : decode cX6_takeIn 39 = .ok (.iload_n 3, 1) := by decide +kernel
theorem dX6_takeIn_40 : decode cX6_takeIn 40 = .ok (.iload 4, 2) := by decide +kernel
theorem dX6_takeIn_42 : decode cX6_takeIn 42 = .ok (.invokevirtual 69, 3) := by decide +kernel
theorem dX6_takeIn_45 : decode cX6_takeIn 45 = .ok (.aload_n 0, 1) := by decide +kernel
theorem dX6_takeIn_46 : decode cX6_takeIn 46 = .ok (.dup, 1) := by decide +kernel
theorem dX6_takeIn_47 : decode cX6_takeIn 47 = .ok (.getfield 55, 3) := by decide +kernel
theorem dX6_takeIn_50 : decode cX6_takeIn 50 = .ok (.iconst 1, 1) := by decide +kernel
theorem dX6_takeIn_51 : decode cX6_takeIn 51 = .ok (.iadd, 1) := by decide +kernel
theorem dX6_takeIn_52 : decode cX6_takeIn 52 = .ok (.putfield 55, 3) := by decide +kernel
theorem dX6_takeIn_55 : decode cX6_takeIn 55 = .ok (.aload_n 0, 1) := by decide +kernel
theorem dX6_takeIn_56 : decode cX6_takeIn 56 = .ok (.invokevirtual 73, 3) := by decide +kernel
theorem dX6_takeIn_59 : decode cX6_takeIn 59 = .ok (.iload_n 3, 1) := by decide +kernel
theorem dX6_takeIn_60 : decode cX6_takeIn 60 = .ok (.ireturn, 1) := by decide +kernel
theorem dX6_freeSeat_0 : decode cX6_freeSeat 0 = .ok (.iconst 0, 1) := by decide +kernel
theorem dX6_freeSeat_1 : decode cX6_freeSeat 1 = .ok (.istore_n 1, 1) := by decide +kernel
theorem dX6_freeSeat_2 : decode cX6_freeSeat 2 = .ok (.iload_n 1, 1) := by decide +kernel
theorem dX6_freeSeat_3 : decode cX6_freeSeat 3 = .ok (.bipush 6, 2) := by decide +kernel
theorem dX6_freeSeat_5 : decode cX6_freeSeat 5 = .ok (.if_icmp .ge 20, 3) := by decide +kernel
theorem dX6_freeSeat_8 : decode cX6_freeSeat 8 = .ok (.aload_n 0, 1) := by decide +kernel
theorem dX6_freeSeat_9 : decode cX6_freeSeat 9 = .ok (.getfield 34, 3) := by decide +kernel
theorem dX6_freeSeat_12 : decode cX6_freeSeat 12 = .ok (.iload_n 1, 1) := by decide +kernel
theorem dX6_freeSeat_13 : decode cX6_freeSeat 13 = .ok (.iaload, 1) := by decide +kernel
theorem dX6_freeSeat_14 : decode cX6_freeSeat 14 = .ok (.ifCond .ge 5, 3) := by decide +kernel
theorem dX6_freeSeat_17 : decode cX6_freeSeat 17 = .ok (.iload_n 1, 1) := by decide +kernel
theorem dX6_freeSeat_18 : decode cX6_freeSeat 18 = .ok (.ireturn, 1) := by decide +kernel
theorem dX6_freeSeat_19 : decode cX6_freeSeat 19 = .ok (.iinc 1 1, 3) := by decide +kernel
theorem dX6_freeSeat_22 : decode cX6_freeSeat 22 = .ok (.goto (-20), 3) := by decide +kernel
theorem dX6_freeSeat_25 : decode cX6_freeSeat 25 = .ok (.iconst (-1), 1) := by decide +kernel
theorem dX6_freeSeat_26 : decode cX6_freeSeat 26 = .ok (.ireturn, 1) := by decide +kernel
theorem dX6_place_0 : decode cX6_place 0 = .ok (.aload_n 0, 1) := by decide +kernel
theorem dX6_place_1 : decode cX6_place 1 = .ok (.getfield 18, 3) := by decide +kernel
theorem dX6_place_4 : decode cX6_place 4 = .ok (.iload_n 1, 1) := by decide +kernel
theorem dX6_place_5 : decode cX6_place 5 = .ok (.iload_n 2, 1) := by decide +kernel
theorem dX6_place_6 : decode cX6_place 6 = .ok (.iastore, 1) := by decide +kernel
theorem dX6_place_7 : decode cX6_place 7 = .ok (.aload_n 0, 1) := by decide +kernel
theorem dX6_place_8 : decode cX6_place 8 = .ok (.getfield 34, 3) := by decide +kernel
theorem dX6_place_11 : decode cX6_place 11 = .ok (.iload_n 2, 1) := by decide +kernel
theorem dX6_place_12 : decode cX6_place 12 = .ok (.iload_n 1, 1) := by decide +kernel
theorem dX6_place_13 : decode cX6_place 13 = .ok (.iastore, 1) := by decide +kernel
theorem dX6_place_14 : decode cX6_place 14 = .ok (.return_, 1) := by decide +kernel
theorem dX6_moveTo_0 : decode cX6_moveTo 0 = .ok (.aload_n 0, 1) := by decide +kernel
theorem dX6_moveTo_1 : decode cX6_moveTo 1 = .ok (.getfield 18, 3) := by decide +kernel
theorem dX6_moveTo_4 : decode cX6_moveTo 4 = .ok (.iload_n 1, 1) := by decide +kernel
theorem dX6_moveTo_5 : decode cX6_moveTo 5 = .ok (.iaload, 1) := by decide +kernel
theorem dX6_moveTo_6 : decode cX6_moveTo 6 = .ok (.istore_n 3, 1) := by decide +kernel
theorem dX6_moveTo_7 : decode cX6_moveTo 7 = .ok (.aload_n 0, 1) := by decide +kernel
theorem dX6_moveTo_8 : decode cX6_moveTo 8 = .ok (.getfield 34, 3) := by decide +kernel
theorem dX6_moveTo_11 : decode cX6_moveTo 11 = .ok (.iload_n 2, 1) := by decide +kernel
theorem dX6_moveTo_12 : decode cX6_moveTo 12 = .ok (.iaload, 1) := by decide +kernel
theorem dX6_moveTo_13 : decode cX6_moveTo 13 = .ok (.istore 4, 2) := by decide +kernel
theorem dX6_moveTo_15 : decode cX6_moveTo 15 = .ok (.aload_n 0, 1) := by decide +kernel
theorem dX6_moveTo_16 : decode cX6_moveTo 16 = .ok (.getfield 34, 3) := by decide +kernel
theorem dX6_moveTo_19 : decode cX6_moveTo 19 = .ok (.iload_n 3, 1) := by decide +kernel
theorem dX6_moveTo_20 : decode cX6_moveTo 20 = .ok (.iconst (-1), 1) := by decide +kernel
theorem dX6_moveTo_21 : decode cX6_moveTo 21 = .ok (.iastore, 1) := by decide +kernel
theorem dX6_moveTo_22 : decode cX6_moveTo 22 = .ok (.iload 4, 2) := by decide +kernel
theorem dX6_moveTo_24 : decode cX6_moveTo 24 = .ok (.ifCond .lt 10, 3) := by decide +kernel
theorem dX6_moveTo_27 : decode cX6_moveTo 27 = .ok (.aload_n 0, 1) := by decide +kernel
theorem dX6_moveTo_28 : decode cX6_moveTo 28 = .ok (.iload 4, 2) := by decide +kernel
theorem dX6_moveTo_30 : decode cX6_moveTo 30 = .ok (.iload_n 3, 1) := by decide +kernel
theorem dX6_moveTo_31 : decode cX6_moveTo 31 = .ok (.invokevirtual 69, 3) := by decide +kernel
theorem dX6_moveTo_34 : decode cX6_moveTo 34 = .ok (.aload_n 0, 1) := by decide +kernel
theorem dX6_moveTo_35 : decode cX6_moveTo 35 = .ok (.iload_n 1, 1) := by decide +kernel
theorem dX6_moveTo_36 : decode cX6_moveTo 36 = .ok (.iload_n 2, 1) := by decide +kernel
theorem dX6_moveTo_37 : decode cX6_moveTo 37 = .ok (.invokevirtual 69, 3) := by decide +kernel
theorem dX6_moveTo_40 : decode cX6_moveTo 40 = .ok (.return_, 1) := by decide +kernel
theorem dX6_hold_0 : decode cX6_hold 0 = .ok (.aload_n 0, 1) := by decide +kernel
theorem dX6_hold_1 : decode cX6_hold 1 = .ok (.aload_n 1, 1) := by decide +kernel
theorem dX6_hold_2 : decode cX6_hold 2 = .ok (.putfield 45, 3) := by decide +kernel
theorem dX6_hold_5 : decode cX6_hold 5 = .ok (.aload_n 0, 1) := by decide +kernel
theorem dX6_hold_6 : decode cX6_hold 6 = .ok (.invokevirtual 73, 3) := by decide +kernel
theorem dX6_hold_9 : decode cX6_hold 9 = .ok (.return_, 1) := by decide +kernel
theorem dX6_becomeV_0 : decode cX6_becomeV 0 = .ok (.aload_n 0, 1) := by decide +kernel
theorem dX6_becomeV_1 : decode cX6_becomeV 1 = .ok (.getfield 15, 3) := by decide +kernel
theorem dX6_becomeV_4 : decode cX6_becomeV 4 = .ok (.iload_n 1, 1) := by decide +kernel
theorem dX6_becomeV_5 : decode cX6_becomeV 5 = .ok (.iload_n 2, 1) := by decide +kernel
theorem dX6_becomeV_6 : decode cX6_becomeV 6 = .ok (.iastore, 1) := by decide +kernel
theorem dX6_becomeV_7 : decode cX6_becomeV 7 = .ok (.aload_n 0, 1) := by decide +kernel
theorem dX6_becomeV_8 : decode cX6_becomeV 8 = .ok (.invokevirtual 73, 3) := by decide +kernel
theorem dX6_becomeV_11 : decode cX6_becomeV 11 = .ok (.return_, 1) := by decide +kernel
theorem dX6_reckon_0 : decode cX6_reckon 0 = .ok (.aload_n 0, 1) := by decide +kernel
theorem dX6_reckon_1 : decode cX6_reckon 1 = .ok (.getfield 42, 3) := by decide +kernel
theorem dX6_reckon_4 : decode cX6_reckon 4 = .ok (.iconst 5, 1) := by decide +kernel
theorem dX6_reckon_5 : decode cX6_reckon 5 = .ok (.aload_n 0, 1) := by decide +kernel
theorem dX6_reckon_6 : decode cX6_reckon 6 = .ok (.getfield 62, 3) := by decide +kernel
theorem dX6_reckon_9 : decode cX6_reckon 9 = .ok (.bipush 10, 2) := by decide +kernel
theorem dX6_reckon_11 : decode cX6_reckon 11 = .ok (.irem, 1) := by decide +kernel
theorem dX6_reckon_12 : decode cX6_reckon 12 = .ok (.iastore, 1) := by decide +kernel
theorem dX6_reckon_13 : decode cX6_reckon 13 = .ok (.iconst 0, 1) := by decide +kernel
theorem dX6_reckon_14 : decode cX6_reckon 14 = .ok (.istore_n 1, 1) := by decide +kernel
theorem dX6_reckon_15 : decode cX6_reckon 15 = .ok (.iload_n 1, 1) := by decide +kernel
theorem dX6_reckon_16 : decode cX6_reckon 16 = .ok (.aload_n 0, 1) := by decide +kernel
theorem dX6_reckon_17 : decode cX6_reckon 17 = .ok (.getfield 55, 3) := by decide +kernel
theorem dX6_reckon_20 : decode cX6_reckon 20 = .ok (.if_icmp .ge 97, 3) := by decide +kernel
theorem dX6_reckon_23 : decode cX6_reckon 23 = .ok (.aload_n 0, 1) := by decide +kernel
theorem dX6_reckon_24 : decode cX6_reckon 24 = .ok (.getfield 42, 3) := by decide +kernel
theorem dX6_reckon_27 : decode cX6_reckon 27 = .ok (.iconst 0, 1) := by decide +kernel
theorem dX6_reckon_28 : decode cX6_reckon 28 = .ok (.iload_n 1, 1) := by decide +kernel
theorem dX6_reckon_29 : decode cX6_reckon 29 = .ok (.iastore, 1) := by decide +kernel
theorem dX6_reckon_30 : decode cX6_reckon 30 = .ok (.aload_n 0, 1) := by decide +kernel
theorem dX6_reckon_31 : decode cX6_reckon 31 = .ok (.getfield 42, 3) := by decide +kernel
theorem dX6_reckon_34 : decode cX6_reckon 34 = .ok (.iconst 2, 1) := by decide +kernel
theorem dX6_reckon_35 : decode cX6_reckon 35 = .ok (.aload_n 0, 1) := by decide +kernel
theorem dX6_reckon_36 : decode cX6_reckon 36 = .ok (.getfield 9, 3) := by decide +kernel
theorem dX6_reckon_39 : decode cX6_reckon 39 = .ok (.iload_n 1, 1) := by decide +kernel
theorem dX6_reckon_40 : decode cX6_reckon 40 = .ok (.iaload, 1) := by decide +kernel
theorem dX6_reckon_41 : decode cX6_reckon 41 = .ok (.iastore, 1) := by decide +kernel
theorem dX6_reckon_42 : decode cX6_reckon 42 = .ok (.aload_n 0, 1) := by decide +kernel
theorem dX6_reckon_43 : decode cX6_reckon 43 = .ok (.getfield 42, 3) := by decide +kernel
theorem dX6_reckon_46 : decode cX6_reckon 46 = .ok (.iconst 4, 1) := by decide +kernel
theorem dX6_reckon_47 : decode cX6_reckon 47 = .ok (.aload_n 0, 1) := by decide +kernel
theorem dX6_reckon_48 : decode cX6_reckon 48 = .ok (.getfield 15, 3) := by decide +kernel
theorem dX6_reckon_51 : decode cX6_reckon 51 = .ok (.iload_n 1, 1) := by decide +kernel
theorem dX6_reckon_52 : decode cX6_reckon 52 = .ok (.iaload, 1) := by decide +kernel
theorem dX6_reckon_53 : decode cX6_reckon 53 = .ok (.iastore, 1) := by decide +kernel
theorem dX6_reckon_54 : decode cX6_reckon 54 = .ok (.iconst 0, 1) := by decide +kernel
theorem dX6_reckon_55 : decode cX6_reckon 55 = .ok (.istore_n 2, 1) := by decide +kernel
theorem dX6_reckon_56 : decode cX6_reckon 56 = .ok (.iload_n 2, 1) := by decide +kernel
theorem dX6_reckon_57 : decode cX6_reckon 57 = .ok (.aload_n 0, 1) := by decide +kernel
theorem dX6_reckon_58 : decode cX6_reckon 58 = .ok (.getfield 55, 3) := by decide +kernel
theorem dX6_reckon_61 : decode cX6_reckon 61 = .ok (.if_icmp .ge 50, 3) := by decide +kernel
theorem dX6_reckon_64 : decode cX6_reckon 64 = .ok (.aload_n 0, 1) := by decide +kernel
theorem dX6_reckon_65 : decode cX6_reckon 65 = .ok (.getfield 42, 3) := by decide +kernel
theorem dX6_reckon_68 : decode cX6_reckon 68 = .ok (.iconst 1, 1) := by decide +kernel
theorem dX6_reckon_69 : decode cX6_reckon 69 = .ok (.iload_n 2, 1) := by decide +kernel
theorem dX6_reckon_70 : decode cX6_reckon 70 = .ok (.iastore, 1) := by decide +kernel
theorem dX6_reckon_71 : decode cX6_reckon 71 = .ok (.aload_n 0, 1) := by decide +kernel
theorem dX6_reckon_72 : decode cX6_reckon 72 = .ok (.getfield 42, 3) := by decide +kernel
theorem dX6_reckon_75 : decode cX6_reckon 75 = .ok (.iconst 3, 1) := by decide +kernel
theorem dX6_reckon_76 : decode cX6_reckon 76 = .ok (.aload_n 0, 1) := by decide +kernel
theorem dX6_reckon_77 : decode cX6_reckon 77 = .ok (.getfield 9, 3) := by decide +kernel
theorem dX6_reckon_80 : decode cX6_reckon 80 = .ok (.iload_n 2, 1) := by decide +kernel
theorem dX6_reckon_81 : decode cX6_reckon 81 = .ok (.iaload, 1) := by decide +kernel
theorem dX6_reckon_82 : decode cX6_reckon 82 = .ok (.iastore, 1) := by decide +kernel
theorem dX6_reckon_83 : decode cX6_reckon 83 = .ok (.aload_n 0, 1) := by decide +kernel
theorem dX6_reckon_84 : decode cX6_reckon 84 = .ok (.getfield 37, 3) := by decide +kernel
theorem dX6_reckon_87 : decode cX6_reckon 87 = .ok (.iload_n 1, 1) := by decide +kernel
theorem dX6_reckon_88 : decode cX6_reckon 88 = .ok (.bipush 6, 2) := by decide +kernel
theorem dX6_reckon_90 : decode cX6_reckon 90 = .ok (.imul, 1) := by decide +kernel
theorem dX6_reckon_91 : decode cX6_reckon 91 = .ok (.iload_n 2, 1) := by decide +kernel
theorem dX6_reckon_92 : decode cX6_reckon 92 = .ok (.iadd, 1) := by decide +kernel
theorem dX6_reckon_93 : decode cX6_reckon 93 = .ok (.aload_n 0, 1) := by decide +kernel
theorem dX6_reckon_94 : decode cX6_reckon 94 = .ok (.getfield 45, 3) := by decide +kernel
theorem dX6_reckon_97 : decode cX6_reckon 97 = .ok (.aload_n 0, 1) := by decide +kernel
theorem dX6_reckon_98 : decode cX6_reckon 98 = .ok (.getfield 42, 3) := by decide +kernel
theorem dX6_reckon_101 : decode cX6_reckon 101 = .ok (.invokevirtual 76, 3) := by decide +kernel
theorem dX6_reckon_104 : decode cX6_reckon 104 = .ok (.iastore, 1) := by decide +kernel
theorem dX6_reckon_105 : decode cX6_reckon 105 = .ok (.iinc 2 1, 3) := by decide +kernel
theorem dX6_reckon_108 : decode cX6_reckon 108 = .ok (.goto (-52), 3) := by decide +kernel
theorem dX6_reckon_111 : decode cX6_reckon 111 = .ok (.iinc 1 1, 3) := by decide +kernel
theorem dX6_reckon_114 : decode cX6_reckon 114 = .ok (.goto (-99), 3) := by decide +kernel
theorem dX6_reckon_117 : decode cX6_reckon 117 = .ok (.return_, 1) := by decide +kernel
theorem dX6_liking_0 : decode cX6_liking 0 = .ok (.aload_n 0, 1) := by decide +kernel
theorem dX6_liking_1 : decode cX6_liking 1 = .ok (.getfield 37, 3) := by decide +kernel
theorem dX6_liking_4 : decode cX6_liking 4 = .ok (.iload_n 1, 1) := by decide +kernel
theorem dX6_liking_5 : decode cX6_liking 5 = .ok (.bipush 6, 2) := by decide +kernel
theorem dX6_liking_7 : decode cX6_liking 7 = .ok (.imul, 1) := by decide +kernel
theorem dX6_liking_8 : decode cX6_liking 8 = .ok (.iload_n 2, 1) := by decide +kernel
theorem dX6_liking_9 : decode cX6_liking 9 = .ok (.iadd, 1) := by decide +kernel
theorem dX6_liking_10 : decode cX6_liking 10 = .ok (.iaload, 1) := by decide +kernel
theorem dX6_liking_11 : decode cX6_liking 11 = .ok (.ireturn, 1) := by decide +kernel
theorem dX6_neighbourAt_0 : decode cX6_neighbourAt 0 = .ok (.aload_n 0, 1) := by decide +kernel
theorem dX6_neighbourAt_1 : decode cX6_neighbourAt 1 = .ok (.getfield 34, 3) := by decide +kernel
theorem dX6_neighbourAt_4 : decode cX6_neighbourAt 4 = .ok (.iload_n 1, 1) := by decide +kernel
theorem dX6_neighbourAt_5 : decode cX6_neighbourAt 5 = .ok (.iaload, 1) := by decide +kernel
theorem dX6_neighbourAt_6 : decode cX6_neighbourAt 6 = .ok (.istore_n 2, 1) := by decide +kernel
theorem dX6_neighbourAt_7 : decode cX6_neighbourAt 7 = .ok (.iload_n 2, 1) := by decide +kernel
theorem dX6_neighbourAt_8 : decode cX6_neighbourAt 8 = .ok (.ifCond .lt 26, 3) := by decide +kernel
theorem dX6_neighbourAt_11 : decode cX6_neighbourAt 11 = .ok (.aload_n 0, 1) := by decide +kernel
theorem dX6_neighbourAt_12 : decode cX6_neighbourAt 12 = .ok (.getfield 28, 3) := by decide +kernel
theorem dX6_neighbourAt_15 : decode cX6_neighbourAt 15 = .ok (.iload_n 2, 1) := by decide +kernel
theorem dX6_neighbourAt_16 : decode cX6_neighbourAt 16 = .ok (.baload, 1) := by decide +kernel
theorem dX6_neighbourAt_17 : decode cX6_neighbourAt 17 = .ok (.ifCond .ne 17, 3) := by decide +kernel
theorem dX6_neighbourAt_20 : decode cX6_neighbourAt 20 = .ok (.aload_n 0, 1) := by decide +kernel
theorem dX6_neighbourAt_21 : decode cX6_neighbourAt 21 = .ok (.getfield 9, 3) := by decide +kernel
theorem dX6_neighbourAt_24 : decode cX6_neighbourAt 24 = .ok (.iload_n 2, 1) := by decide +kernel
theorem dX6_neighbourAt_25 : decode cX6_neighbourAt 25 = .ok (.iaload, 1) := by decide +kernel
theorem dX6_neighbourAt_26 : decode cX6_neighbourAt 26 = .ok (.iconst 4, 1) := by decide +kernel
theorem dX6_neighbourAt_27 : decode cX6_neighbourAt 27 = .ok (.if_icmp .eq 7, 3) := by decide +kernel
theorem dX6_neighbourAt_30 : decode cX6_neighbourAt 30 = .ok (.iload_n 2, 1) := by decide +kernel
theorem dX6_neighbourAt_31 : decode cX6_neighbourAt 31 = .ok (.goto 4, 3) := by decide +kernel
theorem dX6_neighbourAt_34 : decode cX6_neighbourAt 34 = .ok (.iconst (-1), 1) := by decide +kernel
theorem dX6_neighbourAt_35 : decode cX6_neighbourAt 35 = .ok (.ireturn, 1) := by decide +kernel
theorem dX6_neighbours_0 : decode cX6_neighbours 0 = .ok (.aload_n 0, 1) := by decide +kernel
theorem dX6_neighbours_1 : decode cX6_neighbours 1 = .ok (.getstatic 80, 3) := by decide +kernel
theorem dX6_neighbours_4 : decode cX6_neighbours 4 = .ok (.aload_n 0, 1) := by decide +kernel
theorem dX6_neighbours_5 : decode cX6_neighbours 5 = .ok (.getfield 18, 3) := by decide +kernel
theorem dX6_neighbours_8 : decode cX6_neighbours 8 = .ok (.iload_n 1, 1) := by decide +kernel
theorem dX6_neighbours_9 : decode cX6_neighbours 9 = .ok (.iaload, 1) := by decide +kernel
theorem dX6_neighbours_10 : decode cX6_neighbours 10 = .ok (.iaload, 1) := by decide +kernel
theorem dX6_neighbours_11 : decode cX6_neighbours 11 = .ok (.invokevirtual 83, 3) := by decide +kernel
theorem dX6_neighbours_14 : decode cX6_neighbours 14 = .ok (.istore_n 2, 1) := by decide +kernel
theorem dX6_neighbours_15 : decode cX6_neighbours 15 = .ok (.aload_n 0, 1) := by decide +kernel
theorem dX6_neighbours_16 : decode cX6_neighbours 16 = .ok (.getstatic 87, 3) := by decide +kernel
theorem dX6_neighbours_19 : decode cX6_neighbours 19 = .ok (.aload_n 0, 1) := by decide +kernel
theorem dX6_neighbours_20 : decode cX6_neighbours 20 = .ok (.getfield 18, 3) := by decide +kernel
theorem dX6_neighbours_23 : decode cX6_neighbours 23 = .ok (.iload_n 1, 1) := by decide +kernel
theorem dX6_neighbours_24 : decode cX6_neighbours 24 = .ok (.iaload, 1) := by decide +kernel
theorem dX6_neighbours_25 : decode cX6_neighbours 25 = .ok (.iaload, 1) := by decide +kernel
theorem dX6_neighbours_26 : decode cX6_neighbours 26 = .ok (.invokevirtual 83, 3) := by decide +kernel
theorem dX6_neighbours_29 : decode cX6_neighbours 29 = .ok (.istore_n 3, 1) := by decide +kernel
theorem dX6_neighbours_30 : decode cX6_neighbours 30 = .ok (.iload_n 2, 1) := by decide +kernel
theorem dX6_neighbours_31 : decode cX6_neighbours 31 = .ok (.ifCond .ge 7, 3) := by decide +kernel
theorem dX6_neighbours_34 : decode cX6_neighbours 34 = .ok (.iconst 0, 1) := by decide +kernel
theorem dX6_neighbours_35 : decode cX6_neighbours 35 = .ok (.goto 6, 3) := by decide +kernel
theorem dX6_neighbours_38 : decode cX6_neighbours 38 = .ok (.iconst 1, 1) := by decide +kernel
theorem dX6_neighbours_39 : decode cX6_neighbours 39 = .ok (.iload_n 2, 1) := by decide +kernel
theorem dX6_neighbours_40 : decode cX6_neighbours 40 = .ok (.ishl, 1) := by decide +kernel
theorem dX6_neighbours_41 : decode cX6_neighbours 41 = .ok (.iload_n 3, 1) := by decide +kernel
theorem dX6_neighbours_42 : decode cX6_neighbours 42 = .ok (.ifCond .ge 7, 3) := by decide +kernel
theorem dX6_neighbours_45 : decode cX6_neighbours 45 = .ok (.iconst 0, 1) := by decide +kernel
theorem dX6_neighbours_46 : decode cX6_neighbours 46 = .ok (.goto 6, 3) := by decide +kernel
theorem dX6_neighbours_49 : decode cX6_neighbours 49 = .ok (.iconst 1, 1) := by decide +kernel
theorem dX6_neighbours_50 : decode cX6_neighbours 50 = .ok (.iload_n 3, 1) := by decide +kernel
theorem dX6_neighbours_51 : decode cX6_neighbours 51 = .ok (.ishl, 1) := by decide +kernel
theorem dX6_neighbours_52 : decode cX6_neighbours 52 = .ok (.ior, 1) := by decide +kernel
theorem dX6_neighbours_53 : decode cX6_neighbours 53 = .ok (.ireturn, 1) := by decide +kernel
theorem dX6_fondOf_0 : decode cX6_fondOf 0 = .ok (.aload_n 0, 1) := by decide +kernel
theorem dX6_fondOf_1 : decode cX6_fondOf 1 = .ok (.getfield 9, 3) := by decide +kernel
theorem dX6_fondOf_4 : decode cX6_fondOf 4 = .ok (.iload_n 1, 1) := by decide +kernel
theorem dX6_fondOf_5 : decode cX6_fondOf 5 = .ok (.iaload, 1) := by decide +kernel
theorem dX6_fondOf_6 : decode cX6_fondOf 6 = .ok (.istore_n 2, 1) := by decide +kernel
theorem dX6_fondOf_7 : decode cX6_fondOf 7 = .ok (.aload_n 0, 1) := by decide +kernel
theorem dX6_fondOf_8 : decode cX6_fondOf 8 = .ok (.getfield 28, 3) := by decide +kernel
theorem dX6_fondOf_11 : decode cX6_fondOf 11 = .ok (.iload_n 1, 1) := by decide +kernel
theorem dX6_fondOf_12 : decode cX6_fondOf 12 = .ok (.baload, 1) := by decide +kernel
theorem dX6_fondOf_13 : decode cX6_fondOf 13 = .ok (.ifCond .ne 17, 3) := by decide +kernel
theorem dX6_fondOf_16 : decode cX6_fondOf 16 = .ok (.iload_n 2, 1) := by decide +kernel
theorem dX6_fondOf_17 : decode cX6_fondOf 17 = .ok (.iconst 5, 1) := by decide +kernel
theorem dX6_fondOf_18 : decode cX6_fondOf 18 = .ok (.if_icmp .ne 14, 3) := by decide +kernel
theorem dX6_fondOf_21 : decode cX6_fondOf 21 = .ok (.aload_n 0, 1) := by decide +kernel
theorem dX6_fondOf_22 : decode cX6_fondOf 22 = .ok (.getfield 62, 3) := by decide +kernel
theorem dX6_fondOf_25 : decode cX6_fondOf 25 = .ok (.iconst 2, 1) := by decide +kernel
theorem dX6_fondOf_26 : decode cX6_fondOf 26 = .ok (.irem, 1) := by decide +kernel
theorem dX6_fondOf_27 : decode cX6_fondOf 27 = .ok (.ifCond .eq 5, 3) := by decide +kernel
theorem dX6_fondOf_30 : decode cX6_fondOf 30 = .ok (.iconst 0, 1) := by decide +kernel
theorem dX6_fondOf_31 : decode cX6_fondOf 31 = .ok (.ireturn, 1) := by decide +kernel
theorem dX6_fondOf_32 : decode cX6_fondOf 32 = .ok (.iload_n 2, 1) := by decide +kernel
theorem dX6_fondOf_33 : decode cX6_fondOf 33 = .ok (.iconst 4, 1) := by decide +kernel
theorem dX6_fondOf_34 : decode cX6_fondOf 34 = .ok (.if_icmp .ne 10, 3) := by decide +kernel
theorem dX6_fondOf_37 : decode cX6_fondOf 37 = .ok (.aload_n 0, 1) := by decide +kernel
theorem dX6_fondOf_38 : decode cX6_fondOf 38 = .ok (.getfield 15, 3) := by decide +kernel
theorem dX6_fondOf_41 : decode cX6_fondOf 41 = .ok (.iload_n 1, 1) := by decide +kernel
theorem dX6_fondOf_42 : decode cX6_fondOf 42 = .ok (.iaload, 1) := by decide +kernel
theorem dX6_fondOf_43 : decode cX6_fondOf 43 = .ok (.ireturn, 1) := by decide +kernel
theorem dX6_fondOf_44 : decode cX6_fondOf 44 = .ok (.aload_n 0, 1) := by decide +kernel
theorem dX6_fondOf_45 : decode cX6_fondOf 45 = .ok (.getfield 18, 3) := by decide +kernel
theorem dX6_fondOf_48 : decode cX6_fondOf 48 = .ok (.iload_n 1, 1) := by decide +kernel
theorem dX6_fondOf_49 : decode cX6_fondOf 49 = .ok (.iaload, 1) := by decide +kernel
theorem dX6_fondOf_50 : decode cX6_fondOf 50 = .ok (.istore_n 3, 1) := by decide +kernel
theorem dX6_fondOf_51 : decode cX6_fondOf 51 = .ok (.aload_n 0, 1) := by decide +kernel
theorem dX6_fondOf_52 : decode cX6_fondOf 52 = .ok (.iload_n 1, 1) := by decide +kernel
theorem dX6_fondOf_53 : decode cX6_fondOf 53 = .ok (.getstatic 80, 3) := by decide +kernel
theorem dX6_fondOf_56 : decode cX6_fondOf 56 = .ok (.iload_n 3, 1) := by decide +kernel
theorem dX6_fondOf_57 : decode cX6_fondOf 57 = .ok (.iaload, 1) := by decide +kernel
theorem dX6_fondOf_58 : decode cX6_fondOf 58 = .ok (.invokevirtual 90, 3) := by decide +kernel
theorem dX6_fondOf_61 : decode cX6_fondOf 61 = .ok (.aload_n 0, 1) := by decide +kernel
theorem dX6_fondOf_62 : decode cX6_fondOf 62 = .ok (.iload_n 1, 1) := by decide +kernel
theorem dX6_fondOf_63 : decode cX6_fondOf 63 = .ok (.getstatic 87, 3) := by decide +kernel
theorem dX6_fondOf_66 : decode cX6_fondOf 66 = .ok (.iload_n 3, 1) := by decide +kernel
theorem dX6_fondOf_67 : decode cX6_fondOf 67 = .ok (.iaload, 1) := by decide +kernel
theorem dX6_fondOf_68 : decode cX6_fondOf 68 = .ok (.invokevirtual 90, 3) := by decide +kernel
theorem dX6_fondOf_71 : decode cX6_fondOf 71 = .ok (.iadd, 1) := by decide +kernel
theorem dX6_fondOf_72 : decode cX6_fondOf 72 = .ok (.istore 4, 2) := by decide +kernel
theorem dX6_fondOf_74 : decode cX6_fondOf 74 = .ok (.iload_n 2, 1) := by decide +kernel
theorem dX6_fondOf_75 : decode cX6_fondOf 75 = .ok (.tableswitch 78 1 6 #[37, 42, 78, 78, 42, 62], 37) := by decide +kernel
theorem dX6_fondOf_112 : decode cX6_fondOf 112 = .ok (.iload 4, 2) := by decide +kernel
theorem dX6_fondOf_114 : decode cX6_fondOf 114 = .ok (.iconst 2, 1) := by decide +kernel
theorem dX6_fondOf_115 : decode cX6_fondOf 115 = .ok (.idiv, 1) := by decide +kernel
theorem dX6_fondOf_116 : decode cX6_fondOf 116 = .ok (.ireturn, 1) := by decide +kernel
theorem dX6_fondOf_117 : decode cX6_fondOf 117 = .ok (.iload_n 3, 1) := by decide +kernel
theorem dX6_fondOf_118 : decode cX6_fondOf 118 = .ok (.ifCond .ne 16, 3) := by decide +kernel
theorem dX6_fondOf_121 : decode cX6_fondOf 121 = .ok (.iload 4, 2) := by decide +kernel
theorem dX6_fondOf_123 : decode cX6_fondOf 123 = .ok (.aload_n 0, 1) := by decide +kernel
theorem dX6_fondOf_124 : decode cX6_fondOf 124 = .ok (.getfield 45, 3) := by decide +kernel
theorem dX6_fondOf_127 : decode cX6_fondOf 127 = .ok (.getfield 94, 3) := by decide +kernel
theorem dX6_fondOf_130 : decode cX6_fondOf 130 = .ok (.iadd, 1) := by decide +kernel
theorem dX6_fondOf_131 : decode cX6_fondOf 131 = .ok (.goto 5, 3) := by decide +kernel
theorem dX6_fondOf_134 : decode cX6_fondOf 134 = .ok (.iload 4, 2) := by decide +kernel
theorem dX6_fondOf_136 : decode cX6_fondOf 136 = .ok (.ireturn, 1) := by decide +kernel
theorem dX6_fondOf_137 : decode cX6_fondOf 137 = .ok (.iload 4, 2) := by decide +kernel
theorem dX6_fondOf_139 : decode cX6_fondOf 139 = .ok (.aload_n 0, 1) := by decide +kernel
theorem dX6_fondOf_140 : decode cX6_fondOf 140 = .ok (.getfield 31, 3) := by decide +kernel
theorem dX6_fondOf_143 : decode cX6_fondOf 143 = .ok (.iload_n 1, 1) := by decide +kernel
theorem dX6_fondOf_144 : decode cX6_fondOf 144 = .ok (.iconst 4, 1) := by decide +kernel
theorem dX6_fondOf_145 : decode cX6_fondOf 145 = .ok (.imul, 1) := by decide +kernel
theorem dX6_fondOf_146 : decode cX6_fondOf 146 = .ok (.iload_n 3, 1) := by decide +kernel
theorem dX6_fondOf_147 : decode cX6_fondOf 147 = .ok (.iconst 4, 1) := by decide +kernel
theorem dX6_fondOf_148 : decode cX6_fondOf 148 = .ok (.irem, 1) := by decide +kernel
theorem dX6_fondOf_149 : decode cX6_fondOf 149 = .ok (.iadd, 1) := by decide +kernel
theorem dX6_fondOf_150 : decode cX6_fondOf 150 = .ok (.iaload, 1) := by decide +kernel
theorem dX6_fondOf_151 : decode cX6_fondOf 151 = .ok (.iadd, 1) := by decide +kernel
theorem dX6_fondOf_152 : decode cX6_fondOf 152 = .ok (.ireturn, 1) := by decide +kernel
theorem dX6_fondOf_153 : decode cX6_fondOf 153 = .ok (.iload 4, 2) := by decide +kernel
theorem dX6_fondOf_155 : decode cX6_fondOf 155 = .ok (.ireturn, 1) := by decide +kernel
theorem dX6_warmth_0 : decode cX6_warmth 0 = .ok (.aload_n 0, 1) := by decide +kernel
theorem dX6_warmth_1 : decode cX6_warmth 1 = .ok (.iload_n 2, 1) := by decide +kernel
theorem dX6_warmth_2 : decode cX6_warmth 2 = .ok (.invokevirtual 83, 3) := by decide +kernel
theorem dX6_warmth_5 : decode cX6_warmth 5 = .ok (.istore_n 3, 1) := by decide +kernel
theorem dX6_warmth_6 : decode cX6_warmth 6 = .ok (.iload_n 3, 1) := by decide +kernel
theorem dX6_warmth_7 : decode cX6_warmth 7 = .ok (.ifCond .ge 5, 3) := by decide +kernel
theorem dX6_warmth_10 : decode cX6_warmth 10 = .ok (.iconst 0, 1) := by decide +kernel
theorem dX6_warmth_11 : decode cX6_warmth 11 = .ok (.ireturn, 1) := by decide +kernel
theorem dX6_warmth_12 : decode cX6_warmth 12 = .ok (.getstatic 97, 3) := by decide +kernel
theorem dX6_warmth_15 : decode cX6_warmth 15 = .ok (.aload_n 0, 1) := by decide +kernel
theorem dX6_warmth_16 : decode cX6_warmth 16 = .ok (.getfield 9, 3) := by decide +kernel
theorem dX6_warmth_19 : decode cX6_warmth 19 = .ok (.iload_n 1, 1) := by decide +kernel
theorem dX6_warmth_20 : decode cX6_warmth 20 = .ok (.iaload, 1) := by decide +kernel
theorem dX6_warmth_21 : decode cX6_warmth 21 = .ok (.iaload, 1) := by decide +kernel
theorem dX6_warmth_22 : decode cX6_warmth 22 = .ok (.getstatic 97, 3) := by decide +kernel
theorem dX6_warmth_25 : decode cX6_warmth 25 = .ok (.aload_n 0, 1) := by decide +kernel
theorem dX6_warmth_26 : decode cX6_warmth 26 = .ok (.getfield 9, 3) := by decide +kernel
theorem dX6_warmth_29 : decode cX6_warmth 29 = .ok (.iload_n 3, 1) := by decide +kernel
theorem dX6_warmth_30 : decode cX6_warmth 30 = .ok (.iaload, 1) := by decide +kernel
theorem dX6_warmth_31 : decode cX6_warmth 31 = .ok (.iaload, 1) := by decide +kernel
theorem dX6_warmth_32 : decode cX6_warmth 32 = .ok (.imul, 1) := by decide +kernel
theorem dX6_warmth_33 : decode cX6_warmth 33 = .ok (.aload_n 0, 1) := by decide +kernel
theorem dX6_warmth_34 : decode cX6_warmth 34 = .ok (.getfield 15, 3) := by decide +kernel
theorem dX6_warmth_37 : decode cX6_warmth 37 = .ok (.iload_n 1, 1) := by decide +kernel
theorem dX6_warmth_38 : decode cX6_warmth 38 = .ok (.iaload, 1) := by decide +kernel
theorem dX6_warmth_39 : decode cX6_warmth 39 = .ok (.imul, 1) := by decide +kernel
theorem dX6_warmth_40 : decode cX6_warmth 40 = .ok (.istore 4, 2) := by decide +kernel
theorem dX6_warmth_42 : decode cX6_warmth 42 = .ok (.aload_n 0, 1) := by decide +kernel
theorem dX6_warmth_43 : decode cX6_warmth 43 = .ok (.getfield 37, 3) := by decide +kernel
theorem dX6_warmth_46 : decode cX6_warmth 46 = .ok (.iload_n 1, 1) := by decide +kernel
theorem dX6_warmth_47 : decode cX6_warmth 47 = .ok (.bipush 6, 2) := by decide +kernel
theorem dX6_warmth_49 : decode cX6_warmth 49 = .ok (.imul, 1) := by decide +kernel
theorem dX6_warmth_50 : decode cX6_warmth 50 = .ok (.iload_n 3, 1) := by decide +kernel
theorem dX6_warmth_51 : decode cX6_warmth 51 = .ok (.iadd, 1) := by decide +kernel
theorem dX6_warmth_52 : decode cX6_warmth 52 = .ok (.iaload, 1) := by decide +kernel
theorem dX6_warmth_53 : decode cX6_warmth 53 = .ok (.iload 4, 2) := by decide +kernel
theorem dX6_warmth_55 : decode cX6_warmth 55 = .ok (.isub, 1) := by decide +kernel
theorem dX6_warmth_56 : decode cX6_warmth 56 = .ok (.ireturn, 1) := by decide +kernel
theorem dX6_fondOfAll_0 : decode cX6_fondOfAll 0 = .ok (.iconst 0, 1) := by decide +kernel
theorem dX6_fondOfAll_1 : decode cX6_fondOfAll 1 = .ok (.istore_n 1, 1) := by decide +kernel
theorem dX6_fondOfAll_2 : decode cX6_fondOfAll 2 = .ok (.iconst 0, 1) := by decide +kernel
theorem dX6_fondOfAll_3 : decode cX6_fondOfAll 3 = .ok (.istore_n 2, 1) := by decide +kernel
theorem dX6_fondOfAll_4 : decode cX6_fondOfAll 4 = .ok (.iload_n 2, 1) := by decide +kernel
theorem dX6_fondOfAll_5 : decode cX6_fondOfAll 5 = .ok (.aload_n 0, 1) := by decide +kernel
theorem dX6_fondOfAll_6 : decode cX6_fondOfAll 6 = .ok (.getfield 55, 3) := by decide +kernel
theorem dX6_fondOfAll_9 : decode cX6_fondOfAll 9 = .ok (.if_icmp .ge 17, 3) := by decide +kernel
theorem dX6_fondOfAll_12 : decode cX6_fondOfAll 12 = .ok (.iload_n 1, 1) := by decide +kernel
theorem dX6_fondOfAll_13 : decode cX6_fondOfAll 13 = .ok (.aload_n 0, 1) := by decide +kernel
theorem dX6_fondOfAll_14 : decode cX6_fondOfAll 14 = .ok (.iload_n 2, 1) := by decide +kernel
theorem dX6_fondOfAll_15 : decode cX6_fondOfAll 15 = .ok (.invokevirtual 100, 3) := by decide +kernel
theorem dX6_fondOfAll_18 : decode cX6_fondOfAll 18 = .ok (.iadd, 1) := by decide +kernel
theorem dX6_fondOfAll_19 : decode cX6_fondOfAll 19 = .ok (.istore_n 1, 1) := by decide +kernel
theorem dX6_fondOfAll_20 : decode cX6_fondOfAll 20 = .ok (.iinc 2 1, 3) := by decide +kernel
theorem dX6_fondOfAll_23 : decode cX6_fondOfAll 23 = .ok (.goto (-19), 3) := by decide +kernel
theorem dX6_fondOfAll_26 : decode cX6_fondOfAll 26 = .ok (.iload_n 1, 1) := by decide +kernel
theorem dX6_fondOfAll_27 : decode cX6_fondOfAll 27 = .ok (.ireturn, 1) := by decide +kernel
theorem dX6_clashes_0 : decode cX6_clashes 0 = .ok (.iconst 0, 1) := by decide +kernel
theorem dX6_clashes_1 : decode cX6_clashes 1 = .ok (.istore_n 1, 1) := by decide +kernel
theorem dX6_clashes_2 : decode cX6_clashes 2 = .ok (.iconst 0, 1) := by decide +kernel
theorem dX6_clashes_3 : decode cX6_clashes 3 = .ok (.istore_n 2, 1) := by decide +kernel
theorem dX6_clashes_4 : decode cX6_clashes 4 = .ok (.iload_n 2, 1) := by decide +kernel
theorem dX6_clashes_5 : decode cX6_clashes 5 = .ok (.bipush 6, 2) := by decide +kernel
theorem dX6_clashes_7 : decode cX6_clashes 7 = .ok (.if_icmp .ge 58, 3) := by decide +kernel
theorem dX6_clashes_10 : decode cX6_clashes 10 = .ok (.aload_n 0, 1) := by decide +kernel
theorem dX6_clashes_11 : decode cX6_clashes 11 = .ok (.iload_n 2, 1) := by decide +kernel
theorem dX6_clashes_12 : decode cX6_clashes 12 = .ok (.invokevirtual 83, 3) := by decide +kernel
theorem dX6_clashes_15 : decode cX6_clashes 15 = .ok (.istore_n 3, 1) := by decide +kernel
theorem dX6_clashes_16 : decode cX6_clashes 16 = .ok (.aload_n 0, 1) := by decide +kernel
theorem dX6_clashes_17 : decode cX6_clashes 17 = .ok (.getstatic 80, 3) := by decide +kernel
theorem dX6_clashes_20 : decode cX6_clashes 20 = .ok (.iload_n 2, 1) := by decide +kernel
theorem dX6_clashes_21 : decode cX6_clashes 21 = .ok (.iaload, 1) := by decide +kernel
theorem dX6_clashes_22 : decode cX6_clashes 22 = .ok (.invokevirtual 83, 3) := by decide +kernel
theorem dX6_clashes_25 : decode cX6_clashes 25 = .ok (.istore 4, 2) := by decide +kernel
theorem dX6_clashes_27 : decode cX6_clashes 27 = .ok (.iload_n 3, 1) := by decide +kernel
theorem dX6_clashes_28 : decode cX6_clashes 28 = .ok (.ifCond .lt 31, 3) := by decide +kernel
theorem dX6_clashes_31 : decode cX6_clashes 31 = .ok (.iload 4, 2) := by decide +kernel
theorem dX6_clashes_33 : decode cX6_clashes 33 = .ok (.ifCond .lt 26, 3) := by decide +kernel
theorem dX6_clashes_36 : decode cX6_clashes 36 = .ok (.aload_n 0, 1) := by decide +kernel
theorem dX6_clashes_37 : decode cX6_clashes 37 = .ok (.iload_n 3, 1) := by decide +kernel
theorem dX6_clashes_38 : decode cX6_clashes 38 = .ok (.iload 4, 2) := by decide +kernel
theorem dX6_clashes_40 : decode cX6_clashes 40 = .ok (.invokevirtual 103, 3) := by decide +kernel
theorem dX6_clashes_43 : decode cX6_clashes 43 = .ok (.ifCond .lt 13, 3) := by decide +kernel
theorem dX6_clashes_46 : decode cX6_clashes 46 = .ok (.aload_n 0, 1) := by decide +kernel
theorem dX6_clashes_47 : decode cX6_clashes 47 = .ok (.iload 4, 2) := by decide +kernel
theorem dX6_clashes_49 : decode cX6_clashes 49 = .ok (.iload_n 3, 1) := by decide +kernel
theorem dX6_clashes_50 : decode cX6_clashes 50 = .ok (.invokevirtual 103, 3) := by decide +kernel
theorem dX6_clashes_53 : decode cX6_clashes 53 = .ok (.ifCond .ge 6, 3) := by decide +kernel
theorem dX6_clashes_56 : decode cX6_clashes 56 = .ok (.iinc 1 1, 3) := by decide +kernel
theorem dX6_clashes_59 : decode cX6_clashes 59 = .ok (.iinc 2 1, 3) := by decide +kernel
theorem dX6_clashes_62 : decode cX6_clashes 62 = .ok (.goto (-58), 3) := by decide +kernel
theorem dX6_clashes_65 : decode cX6_clashes 65 = .ok (.iload_n 1, 1) := by decide +kernel
theorem dX6_clashes_66 : decode cX6_clashes 66 = .ok (.ireturn, 1) := by decide +kernel
theorem dX6_yearsGo_0 : decode cX6_yearsGo 0 = .ok (.iconst 0, 1) := by decide +kernel
theorem dX6_yearsGo_1 : decode cX6_yearsGo 1 = .ok (.istore_n 2, 1) := by decide +kernel
theorem dX6_yearsGo_2 : decode cX6_yearsGo 2 = .ok (.iload_n 2, 1) := by decide +kernel
theorem dX6_yearsGo_3 : decode cX6_yearsGo 3 = .ok (.iload_n 1, 1) := by decide +kernel
theorem dX6_yearsGo_4 : decode cX6_yearsGo 4 = .ok (.if_icmp .ge 99, 3) := by decide +kernel
theorem dX6_yearsGo_7 : decode cX6_yearsGo 7 = .ok (.iconst 0, 1) := by decide +kernel
theorem dX6_yearsGo_8 : decode cX6_yearsGo 8 = .ok (.istore_n 3, 1) := by decide +kernel
theorem dX6_yearsGo_9 : decode cX6_yearsGo 9 = .ok (.iload_n 3, 1) := by decide +kernel
theorem dX6_yearsGo_10 : decode cX6_yearsGo 10 = .ok (.aload_n 0, 1) := by decide +kernel
theorem dX6_yearsGo_11 : decode cX6_yearsGo 11 = .ok (.getfield 55, 3) := by decide +kernel
theorem dX6_yearsGo_14 : decode cX6_yearsGo 14 = .ok (.if_icmp .ge 59, 3) := by decide +kernel
theorem dX6_yearsGo_17 : decode cX6_yearsGo 17 = .ok (.aload_n 0, 1) := by decide +kernel
theorem dX6_yearsGo_18 : decode cX6_yearsGo 18 = .ok (.getfield 28, 3) := by decide +kernel
theorem dX6_yearsGo_21 : decode cX6_yearsGo 21 = .ok (.iload_n 3, 1) := by decide +kernel
theorem dX6_yearsGo_22 : decode cX6_yearsGo 22 = .ok (.baload, 1) := by decide +kernel
theorem dX6_yearsGo_23 : decode cX6_yearsGo 23 = .ok (.ifCond .ne 44, 3) := by decide +kernel
theorem dX6_yearsGo_26 : decode cX6_yearsGo 26 = .ok (.aload_n 0, 1) := by decide +kernel
theorem dX6_yearsGo_27 : decode cX6_yearsGo 27 = .ok (.getfield 24, 3) := by decide +kernel
theorem dX6_yearsGo_30 : decode cX6_yearsGo 30 = .ok (.iload_n 3, 1) := by decide +kernel
theorem dX6_yearsGo_31 : decode cX6_yearsGo 31 = .ok (.baload, 1) := by decide +kernel
theorem dX6_yearsGo_32 : decode cX6_yearsGo 32 = .ok (.ifCond .ne 35, 3) := by decide +kernel
theorem dX6_yearsGo_35 : decode cX6_yearsGo 35 = .ok (.aload_n 0, 1) := by decide +kernel
theorem dX6_yearsGo_36 : decode cX6_yearsGo 36 = .ok (.iload_n 3, 1) := by decide +kernel
theorem dX6_yearsGo_37 : decode cX6_yearsGo 37 = .ok (.invokevirtual 100, 3) := by decide +kernel
theorem dX6_yearsGo_40 : decode cX6_yearsGo 40 = .ok (.aload_n 0, 1) := by decide +kernel
theorem dX6_yearsGo_41 : decode cX6_yearsGo 41 = .ok (.getfield 45, 3) := by decide +kernel
theorem dX6_yearsGo_44 : decode cX6_yearsGo 44 = .ok (.getfield 105, 3) := by decide +kernel
theorem dX6_yearsGo_47 : decode cX6_yearsGo 47 = .ok (.if_icmp .lt 20, 3) := by decide +kernel
theorem dX6_yearsGo_50 : decode cX6_yearsGo 50 = .ok (.aload_n 0, 1) := by decide +kernel
theorem dX6_yearsGo_51 : decode cX6_yearsGo 51 = .ok (.getfield 24, 3) := by decide +kernel
theorem dX6_yearsGo_54 : decode cX6_yearsGo 54 = .ok (.iload_n 3, 1) := by decide +kernel
theorem dX6_yearsGo_55 : decode cX6_yearsGo 55 = .ok (.iconst 1, 1) := by decide +kernel
theorem dX6_yearsGo_56 : decode cX6_yearsGo 56 = .ok (.bastore, 1) := by decide +kernel
theorem dX6_yearsGo_57 : decode cX6_yearsGo 57 = .ok (.aload_n 0, 1) := by decide +kernel
theorem dX6_yearsGo_58 : decode cX6_yearsGo 58 = .ok (.getfield 21, 3) := by decide +kernel
theorem dX6_yearsGo_61 : decode cX6_yearsGo 61 = .ok (.iload_n 3, 1) := by decide +kernel
theorem dX6_yearsGo_62 : decode cX6_yearsGo 62 = .ok (.dup2, 1) := by decide +kernel
theorem dX6_yearsGo_63 : decode cX6_yearsGo 63 = .ok (.iaload, 1) := by decide +kernel
theorem dX6_yearsGo_64 : decode cX6_yearsGo 64 = .ok (.iconst 1, 1) := by decide +kernel
theorem dX6_yearsGo_65 : decode cX6_yearsGo 65 = .ok (.iadd, 1) := by decide +kernel
theorem dX6_yearsGo_66 : decode cX6_yearsGo 66 = .ok (.iastore, 1) := by decide +kernel
theorem dX6_yearsGo_67 : decode cX6_yearsGo 67 = .ok (.iinc 3 1, 3) := by decide +kernel
theorem dX6_yearsGo_70 : decode cX6_yearsGo 70 = .ok (.goto (-61), 3) := by decide +kernel
theorem dX6_yearsGo_73 : decode cX6_yearsGo 73 = .ok (.aload_n 0, 1) := by decide +kernel
theorem dX6_yearsGo_74 : decode cX6_yearsGo 74 = .ok (.dup, 1) := by decide +kernel
theorem dX6_yearsGo_75 : decode cX6_yearsGo 75 = .ok (.getfield 62, 3) := by decide +kernel
theorem dX6_yearsGo_78 : decode cX6_yearsGo 78 = .ok (.iconst 1, 1) := by decide +kernel
theorem dX6_yearsGo_79 : decode cX6_yearsGo 79 = .ok (.iadd, 1) := by decide +kernel
theorem dX6_yearsGo_80 : decode cX6_yearsGo 80 = .ok (.putfield 62, 3) := by decide +kernel
theorem dX6_yearsGo_83 : decode cX6_yearsGo 83 = .ok (.aload_n 0, 1) := by decide +kernel
theorem dX6_yearsGo_84 : decode cX6_yearsGo 84 = .ok (.getfield 45, 3) := by decide +kernel
theorem dX6_yearsGo_87 : decode cX6_yearsGo 87 = .ok (.getfield 108, 3) := by decide +kernel
theorem dX6_yearsGo_90 : decode cX6_yearsGo 90 = .ok (.ifCond .eq 7, 3) := by decide +kernel
theorem dX6_yearsGo_93 : decode cX6_yearsGo 93 = .ok (.aload_n 0, 1) := by decide +kernel
theorem dX6_yearsGo_94 : decode cX6_yearsGo 94 = .ok (.invokevirtual 73, 3) := by decide +kernel
theorem dX6_yearsGo_97 : decode cX6_yearsGo 97 = .ok (.iinc 2 1, 3) := by decide +kernel
theorem dX6_yearsGo_100 : decode cX6_yearsGo 100 = .ok (.goto (-98), 3) := by decide +kernel
theorem dX6_yearsGo_103 : decode cX6_yearsGo 103 = .ok (.return_, 1) := by decide +kernel
theorem dX6_pourAt_0 : decode cX6_pourAt 0 = .ok (.aload_n 0, 1) := by decide +kernel
theorem dX6_pourAt_1 : decode cX6_pourAt 1 = .ok (.iload_n 1, 1) := by decide +kernel
theorem dX6_pourAt_2 : decode cX6_pourAt 2 = .ok (.putfield 59, 3) := by decide +kernel
theorem dX6_pourAt_5 : decode cX6_pourAt 5 = .ok (.aload_n 0, 1) := by decide +kernel
theorem dX6_pourAt_6 : decode cX6_pourAt 6 = .ok (.getfield 34, 3) := by decide +kernel
theorem dX6_pourAt_9 : decode cX6_pourAt 9 = .ok (.iload_n 1, 1) := by decide +kernel
theorem dX6_pourAt_10 : decode cX6_pourAt 10 = .ok (.iaload, 1) := by decide +kernel
theorem dX6_pourAt_11 : decode cX6_pourAt 11 = .ok (.ifCond .lt 15, 3) := by decide +kernel
theorem dX6_pourAt_14 : decode cX6_pourAt 14 = .ok (.aload_n 0, 1) := by decide +kernel
theorem dX6_pourAt_15 : decode cX6_pourAt 15 = .ok (.getfield 24, 3) := by decide +kernel
theorem dX6_pourAt_18 : decode cX6_pourAt 18 = .ok (.aload_n 0, 1) := by decide +kernel
theorem dX6_pourAt_19 : decode cX6_pourAt 19 = .ok (.getfield 34, 3) := by decide +kernel
theorem dX6_pourAt_22 : decode cX6_pourAt 22 = .ok (.iload_n 1, 1) := by decide +kernel
theorem dX6_pourAt_23 : decode cX6_pourAt 23 = .ok (.iaload, 1) := by decide +kernel
theorem dX6_pourAt_24 : decode cX6_pourAt 24 = .ok (.iconst 0, 1) := by decide +kernel
theorem dX6_pourAt_25 : decode cX6_pourAt 25 = .ok (.bastore, 1) := by decide +kernel
theorem dX6_pourAt_26 : decode cX6_pourAt 26 = .ok (.return_, 1) := by decide +kernel
theorem dX6_emptyCups_0 : decode cX6_emptyCups 0 = .ok (.iconst 0, 1) := by decide +kernel
theorem dX6_emptyCups_1 : decode cX6_emptyCups 1 = .ok (.istore_n 1, 1) := by decide +kernel
theorem dX6_emptyCups_2 : decode cX6_emptyCups 2 = .ok (.iconst 0, 1) := by decide +kernel
theorem dX6_emptyCups_3 : decode cX6_emptyCups 3 = .ok (.istore_n 2, 1) := by decide +kernel
theorem dX6_emptyCups_4 : decode cX6_emptyCups 4 = .ok (.iload_n 2, 1) := by decide +kernel
theorem dX6_emptyCups_5 : decode cX6_emptyCups 5 = .ok (.aload_n 0, 1) := by decide +kernel
theorem dX6_emptyCups_6 : decode cX6_emptyCups 6 = .ok (.getfield 55, 3) := by decide +kernel
theorem dX6_emptyCups_9 : decode cX6_emptyCups 9 = .ok (.if_icmp .ge 23, 3) := by decide +kernel
theorem dX6_emptyCups_12 : decode cX6_emptyCups 12 = .ok (.iload_n 1, 1) := by decide +kernel
theorem dX6_emptyCups_13 : decode cX6_emptyCups 13 = .ok (.aload_n 0, 1) := by decide +kernel
theorem dX6_emptyCups_14 : decode cX6_emptyCups 14 = .ok (.getfield 24, 3) := by decide +kernel
theorem dX6_emptyCups_17 : decode cX6_emptyCups 17 = .ok (.iload_n 2, 1) := by decide +kernel
theorem dX6_emptyCups_18 : decode cX6_emptyCups 18 = .ok (.baload, 1) := by decide +kernel
theorem dX6_emptyCups_19 : decode cX6_emptyCups 19 = .ok (.invokestatic 112, 3) := by decide +kernel
theorem dX6_emptyCups_22 : decode cX6_emptyCups 22 = .ok (.iload_n 2, 1) := by decide +kernel
theorem dX6_emptyCups_23 : decode cX6_emptyCups 23 = .ok (.ishl, 1) := by decide +kernel
theorem dX6_emptyCups_24 : decode cX6_emptyCups 24 = .ok (.ior, 1) := by decide +kernel
theorem dX6_emptyCups_25 : decode cX6_emptyCups 25 = .ok (.istore_n 1, 1) := by decide +kernel
theorem dX6_emptyCups_26 : decode cX6_emptyCups 26 = .ok (.iinc 2 1, 3) := by decide +kernel
theorem dX6_emptyCups_29 : decode cX6_emptyCups 29 = .ok (.goto (-25), 3) := by decide +kernel
theorem dX6_emptyCups_32 : decode cX6_emptyCups 32 = .ok (.iload_n 1, 1) := by decide +kernel
theorem dX6_emptyCups_33 : decode cX6_emptyCups 33 = .ok (.ireturn, 1) := by decide +kernel
theorem dX6_usedOfAll_0 : decode cX6_usedOfAll 0 = .ok (.iconst 0, 1) := by decide +kernel
theorem dX6_usedOfAll_1 : decode cX6_usedOfAll 1 = .ok (.istore_n 1, 1) := by decide +kernel
theorem dX6_usedOfAll_2 : decode cX6_usedOfAll 2 = .ok (.iconst 0, 1) := by decide +kernel
theorem dX6_usedOfAll_3 : decode cX6_usedOfAll 3 = .ok (.istore_n 2, 1) := by decide +kernel
theorem dX6_usedOfAll_4 : decode cX6_usedOfAll 4 = .ok (.iload_n 2, 1) := by decide +kernel
theorem dX6_usedOfAll_5 : decode cX6_usedOfAll 5 = .ok (.aload_n 0, 1) := by decide +kernel
theorem dX6_usedOfAll_6 : decode cX6_usedOfAll 6 = .ok (.getfield 55, 3) := by decide +kernel
theorem dX6_usedOfAll_9 : decode cX6_usedOfAll 9 = .ok (.if_icmp .ge 18, 3) := by decide +kernel
theorem dX6_usedOfAll_12 : decode cX6_usedOfAll 12 = .ok (.iload_n 1, 1) := by decide +kernel
theorem dX6_usedOfAll_13 : decode cX6_usedOfAll 13 = .ok (.aload_n 0, 1) := by decide +kernel
theorem dX6_usedOfAll_14 : decode cX6_usedOfAll 14 = .ok (.getfield 21, 3) := by decide +kernel
theorem dX6_usedOfAll_17 : decode cX6_usedOfAll 17 = .ok (.iload_n 2, 1) := by decide +kernel
theorem dX6_usedOfAll_18 : decode cX6_usedOfAll 18 = .ok (.iaload, 1) := by decide +kernel
theorem dX6_usedOfAll_19 : decode cX6_usedOfAll 19 = .ok (.iadd, 1) := by decide +kernel
theorem dX6_usedOfAll_20 : decode cX6_usedOfAll 20 = .ok (.istore_n 1, 1) := by decide +kernel
theorem dX6_usedOfAll_21 : decode cX6_usedOfAll 21 = .ok (.iinc 2 1, 3) := by decide +kernel
theorem dX6_usedOfAll_24 : decode cX6_usedOfAll 24 = .ok (.goto (-20), 3) := by decide +kernel
theorem dX6_usedOfAll_27 : decode cX6_usedOfAll 27 = .ok (.iload_n 1, 1) := by decide +kernel
theorem dX6_usedOfAll_28 : decode cX6_usedOfAll 28 = .ok (.ireturn, 1) := by decide +kernel
theorem dX6_round_0 : decode cX6_round 0 = .ok (.aload_n 0, 1) := by decide +kernel
theorem dX6_round_1 : decode cX6_round 1 = .ok (.invokevirtual 116, 3) := by decide +kernel
theorem dX6_round_4 : decode cX6_round 4 = .ok (.aload_n 0, 1) := by decide +kernel
theorem dX6_round_5 : decode cX6_round 5 = .ok (.invokevirtual 119, 3) := by decide +kernel
theorem dX6_round_8 : decode cX6_round 8 = .ok (.invokestatic 122, 3) := by decide +kernel
theorem dX6_round_11 : decode cX6_round 11 = .ok (.ireturn, 1) := by decide +kernel
theorem dX6_toward_0 : decode cX6_toward 0 = .ok (.aload_n 0, 1) := by decide +kernel
theorem dX6_toward_1 : decode cX6_toward 1 = .ok (.invokevirtual 127, 3) := by decide +kernel
theorem dX6_toward_4 : decode cX6_toward 4 = .ok (.istore_n 1, 1) := by decide +kernel
theorem dX6_toward_5 : decode cX6_toward 5 = .ok (.iload_n 1, 1) := by decide +kernel
theorem dX6_toward_6 : decode cX6_toward 6 = .ok (.ifCond .ne 5, 3) := by decide +kernel
theorem dX6_toward_9 : decode cX6_toward 9 = .ok (.iconst 0, 1) := by decide +kernel
theorem dX6_toward_10 : decode cX6_toward 10 = .ok (.ireturn, 1) := by decide +kernel
theorem dX6_toward_11 : decode cX6_toward 11 = .ok (.aload_n 0, 1) := by decide +kernel
theorem dX6_toward_12 : decode cX6_toward 12 = .ok (.invokevirtual 116, 3) := by decide +kernel
theorem dX6_toward_15 : decode cX6_toward 15 = .ok (.iload_n 1, 1) := by decide +kernel
theorem dX6_toward_16 : decode cX6_toward 16 = .ok (.if_icmp .ne 7, 3) := by decide +kernel
theorem dX6_toward_19 : decode cX6_toward 19 = .ok (.iconst 1, 1) := by decide +kernel
theorem dX6_toward_20 : decode cX6_toward 20 = .ok (.goto 4, 3) := by decide +kernel
theorem dX6_toward_23 : decode cX6_toward 23 = .ok (.iconst 2, 1) := by decide +kernel
theorem dX6_toward_24 : decode cX6_toward 24 = .ok (.ireturn, 1) := by decide +kernel
theorem dX6_stepsOn_0 : decode cX6_stepsOn 0 = .ok (.iconst 0, 1) := by decide +kernel
theorem dX6_stepsOn_1 : decode cX6_stepsOn 1 = .ok (.istore_n 1, 1) := by decide +kernel
theorem dX6_stepsOn_2 : decode cX6_stepsOn 2 = .ok (.iconst 1, 1) := by decide +kernel
theorem dX6_stepsOn_3 : decode cX6_stepsOn 3 = .ok (.istore_n 2, 1) := by decide +kernel
theorem dX6_stepsOn_4 : decode cX6_stepsOn 4 = .ok (.iload_n 2, 1) := by decide +kernel
theorem dX6_stepsOn_5 : decode cX6_stepsOn 5 = .ok (.bipush 6, 2) := by decide +kernel
theorem dX6_stepsOn_7 : decode cX6_stepsOn 7 = .ok (.if_icmp .ge 46, 3) := by decide +kernel
theorem dX6_stepsOn_10 : decode cX6_stepsOn 10 = .ok (.aload_n 0, 1) := by decide +kernel
theorem dX6_stepsOn_11 : decode cX6_stepsOn 11 = .ok (.iload_n 2, 1) := by decide +kernel
theorem dX6_stepsOn_12 : decode cX6_stepsOn 12 = .ok (.invokevirtual 130, 3) := by decide +kernel
theorem dX6_stepsOn_15 : decode cX6_stepsOn 15 = .ok (.istore_n 3, 1) := by decide +kernel
theorem dX6_stepsOn_16 : decode cX6_stepsOn 16 = .ok (.iload_n 3, 1) := by decide +kernel
theorem dX6_stepsOn_17 : decode cX6_stepsOn 17 = .ok (.ifCond .ne 7, 3) := by decide +kernel
theorem dX6_stepsOn_20 : decode cX6_stepsOn 20 = .ok (.iload_n 2, 1) := by decide +kernel
theorem dX6_stepsOn_21 : decode cX6_stepsOn 21 = .ok (.goto 8, 3) := by decide +kernel
theorem dX6_stepsOn_24 : decode cX6_stepsOn 24 = .ok (.iload_n 2, 1) := by decide +kernel
theorem dX6_stepsOn_25 : decode cX6_stepsOn 25 = .ok (.iload_n 2, 1) := by decide +kernel
theorem dX6_stepsOn_26 : decode cX6_stepsOn 26 = .ok (.iadd, 1) := by decide +kernel
theorem dX6_stepsOn_27 : decode cX6_stepsOn 27 = .ok (.iload_n 3, 1) := by decide +kernel
theorem dX6_stepsOn_28 : decode cX6_stepsOn 28 = .ok (.iadd, 1) := by decide +kernel
theorem dX6_stepsOn_29 : decode cX6_stepsOn 29 = .ok (.istore 4, 2) := by decide +kernel
theorem dX6_stepsOn_31 : decode cX6_stepsOn 31 = .ok (.iload_n 1, 1) := by decide +kernel
theorem dX6_stepsOn_32 : decode cX6_stepsOn 32 = .ok (.ifCond .ne 8, 3) := by decide +kernel
theorem dX6_stepsOn_35 : decode cX6_stepsOn 35 = .ok (.iload 4, 2) := by decide +kernel
theorem dX6_stepsOn_37 : decode cX6_stepsOn 37 = .ok (.goto 9, 3) := by decide +kernel
theorem dX6_stepsOn_40 : decode cX6_stepsOn 40 = .ok (.iload_n 1, 1) := by decide +kernel
theorem dX6_stepsOn_41 : decode cX6_stepsOn 41 = .ok (.iload 4, 2) := by decide +kernel
theorem dX6_stepsOn_43 : decode cX6_stepsOn 43 = .ok (.invokestatic 122, 3) := by decide +kernel
theorem dX6_stepsOn_46 : decode cX6_stepsOn 46 = .ok (.istore_n 1, 1) := by decide +kernel
theorem dX6_stepsOn_47 : decode cX6_stepsOn 47 = .ok (.iinc 2 1, 3) := by decide +kernel
theorem dX6_stepsOn_50 : decode cX6_stepsOn 50 = .ok (.goto (-46), 3) := by decide +kernel
theorem dX6_stepsOn_53 : decode cX6_stepsOn 53 = .ok (.aload_n 0, 1) := by decide +kernel
theorem dX6_stepsOn_54 : decode cX6_stepsOn 54 = .ok (.iconst 0, 1) := by decide +kernel
theorem dX6_stepsOn_55 : decode cX6_stepsOn 55 = .ok (.invokevirtual 130, 3) := by decide +kernel
theorem dX6_stepsOn_58 : decode cX6_stepsOn 58 = .ok (.ifCond .ne 7, 3) := by decide +kernel
theorem dX6_stepsOn_61 : decode cX6_stepsOn 61 = .ok (.iconst 0, 1) := by decide +kernel
theorem dX6_stepsOn_62 : decode cX6_stepsOn 62 = .ok (.goto 4, 3) := by decide +kernel
theorem dX6_stepsOn_65 : decode cX6_stepsOn 65 = .ok (.iload_n 1, 1) := by decide +kernel
theorem dX6_stepsOn_66 : decode cX6_stepsOn 66 = .ok (.ireturn, 1) := by decide +kernel
theorem dX6_stepsBack_0 : decode cX6_stepsBack 0 = .ok (.aload_n 0, 1) := by decide +kernel
theorem dX6_stepsBack_1 : decode cX6_stepsBack 1 = .ok (.iconst 0, 1) := by decide +kernel
theorem dX6_stepsBack_2 : decode cX6_stepsBack 2 = .ok (.invokevirtual 130, 3) := by decide +kernel
theorem dX6_stepsBack_5 : decode cX6_stepsBack 5 = .ok (.istore_n 1, 1) := by decide +kernel
theorem dX6_stepsBack_6 : decode cX6_stepsBack 6 = .ok (.iconst 1, 1) := by decide +kernel
theorem dX6_stepsBack_7 : decode cX6_stepsBack 7 = .ok (.istore_n 2, 1) := by decide +kernel
theorem dX6_stepsBack_8 : decode cX6_stepsBack 8 = .ok (.iload_n 2, 1) := by decide +kernel
theorem dX6_stepsBack_9 : decode cX6_stepsBack 9 = .ok (.bipush 6, 2) := by decide +kernel
theorem dX6_stepsBack_11 : decode cX6_stepsBack 11 = .ok (.if_icmp .ge 29, 3) := by decide +kernel
theorem dX6_stepsBack_14 : decode cX6_stepsBack 14 = .ok (.aload_n 0, 1) := by decide +kernel
theorem dX6_stepsBack_15 : decode cX6_stepsBack 15 = .ok (.iload_n 2, 1) := by decide +kernel
theorem dX6_stepsBack_16 : decode cX6_stepsBack 16 = .ok (.invokevirtual 130, 3) := by decide +kernel
theorem dX6_stepsBack_19 : decode cX6_stepsBack 19 = .ok (.istore_n 3, 1) := by decide +kernel
theorem dX6_stepsBack_20 : decode cX6_stepsBack 20 = .ok (.iload_n 3, 1) := by decide +kernel
theorem dX6_stepsBack_21 : decode cX6_stepsBack 21 = .ok (.ifCond .le 13, 3) := by decide +kernel
theorem dX6_stepsBack_24 : decode cX6_stepsBack 24 = .ok (.iload_n 1, 1) := by decide +kernel
theorem dX6_stepsBack_25 : decode cX6_stepsBack 25 = .ok (.iload_n 3, 1) := by decide +kernel
theorem dX6_stepsBack_26 : decode cX6_stepsBack 26 = .ok (.iload_n 3, 1) := by decide +kernel
theorem dX6_stepsBack_27 : decode cX6_stepsBack 27 = .ok (.iadd, 1) := by decide +kernel
theorem dX6_stepsBack_28 : decode cX6_stepsBack 28 = .ok (.iload_n 2, 1) := by decide +kernel
theorem dX6_stepsBack_29 : decode cX6_stepsBack 29 = .ok (.iadd, 1) := by decide +kernel
theorem dX6_stepsBack_30 : decode cX6_stepsBack 30 = .ok (.invokestatic 122, 3) := by decide +kernel
theorem dX6_stepsBack_33 : decode cX6_stepsBack 33 = .ok (.istore_n 1, 1) := by decide +kernel
theorem dX6_stepsBack_34 : decode cX6_stepsBack 34 = .ok (.iinc 2 1, 3) := by decide +kernel
theorem dX6_stepsBack_37 : decode cX6_stepsBack 37 = .ok (.goto (-29), 3) := by decide +kernel
theorem dX6_stepsBack_40 : decode cX6_stepsBack 40 = .ok (.iload_n 1, 1) := by decide +kernel
theorem dX6_stepsBack_41 : decode cX6_stepsBack 41 = .ok (.ireturn, 1) := by decide +kernel
theorem dX6_farthestBack_0 : decode cX6_farthestBack 0 = .ok (.iload_n 1, 1) := by decide +kernel
theorem dX6_farthestBack_1 : decode cX6_farthestBack 1 = .ok (.iconst 1, 1) := by decide +kernel
theorem dX6_farthestBack_2 : decode cX6_farthestBack 2 = .ok (.iadd, 1) := by decide +kernel
theorem dX6_farthestBack_3 : decode cX6_farthestBack 3 = .ok (.istore_n 2, 1) := by decide +kernel
theorem dX6_farthestBack_4 : decode cX6_farthestBack 4 = .ok (.iload_n 2, 1) := by decide +kernel
theorem dX6_farthestBack_5 : decode cX6_farthestBack 5 = .ok (.bipush 6, 2) := by decide +kernel
theorem dX6_farthestBack_7 : decode cX6_farthestBack 7 = .ok (.if_icmp .ge 42, 3) := by decide +kernel
theorem dX6_farthestBack_10 : decode cX6_farthestBack 10 = .ok (.aload_n 0, 1) := by decide +kernel
theorem dX6_farthestBack_11 : decode cX6_farthestBack 11 = .ok (.getfield 34, 3) := by decide +kernel
theorem dX6_farthestBack_14 : decode cX6_farthestBack 14 = .ok (.aload_n 0, 1) := by decide +kernel
theorem dX6_farthestBack_15 : decode cX6_farthestBack 15 = .ok (.getfield 59, 3) := by decide +kernel
theorem dX6_farthestBack_18 : decode cX6_farthestBack 18 = .ok (.iload_n 2, 1) := by decide +kernel
theorem dX6_farthestBack_19 : decode cX6_farthestBack 19 = .ok (.iadd, 1) := by decide +kernel
theorem dX6_farthestBack_20 : decode cX6_farthestBack 20 = .ok (.bipush 6, 2) := by decide +kernel
theorem dX6_farthestBack_22 : decode cX6_farthestBack 22 = .ok (.irem, 1) := by decide +kernel
theorem dX6_farthestBack_23 : decode cX6_farthestBack 23 = .ok (.iaload, 1) := by decide +kernel
theorem dX6_farthestBack_24 : decode cX6_farthestBack 24 = .ok (.istore_n 3, 1) := by decide +kernel
theorem dX6_farthestBack_25 : decode cX6_farthestBack 25 = .ok (.iload_n 3, 1) := by decide +kernel
theorem dX6_farthestBack_26 : decode cX6_farthestBack 26 = .ok (.ifCond .lt 17, 3) := by decide +kernel
theorem dX6_farthestBack_29 : decode cX6_farthestBack 29 = .ok (.aload_n 0, 1) := by decide +kernel
theorem dX6_farthestBack_30 : decode cX6_farthestBack 30 = .ok (.getfield 24, 3) := by decide +kernel
theorem dX6_farthestBack_33 : decode cX6_farthestBack 33 = .ok (.iload_n 3, 1) := by decide +kernel
theorem dX6_farthestBack_34 : decode cX6_farthestBack 34 = .ok (.baload, 1) := by decide +kernel
theorem dX6_farthestBack_35 : decode cX6_farthestBack 35 = .ok (.ifCond .eq 8, 3) := by decide +kernel
theorem dX6_farthestBack_38 : decode cX6_farthestBack 38 = .ok (.bipush 6, 2) := by decide +kernel
theorem dX6_farthestBack_40 : decode cX6_farthestBack 40 = .ok (.iload_n 2, 1) := by decide +kernel
theorem dX6_farthestBack_41 : decode cX6_farthestBack 41 = .ok (.isub, 1) := by decide +kernel
theorem dX6_farthestBack_42 : decode cX6_farthestBack 42 = .ok (.ireturn, 1) := by decide +kernel
theorem dX6_farthestBack_43 : decode cX6_farthestBack 43 = .ok (.iinc 2 1, 3) := by decide +kernel
theorem dX6_farthestBack_46 : decode cX6_farthestBack 46 = .ok (.goto (-42), 3) := by decide +kernel
theorem dX6_farthestBack_49 : decode cX6_farthestBack 49 = .ok (.iconst 0, 1) := by decide +kernel
theorem dX6_farthestBack_50 : decode cX6_farthestBack 50 = .ok (.ireturn, 1) := by decide +kernel
theorem dX7_init_0 : decode cX7_init 0 = .ok (.aload_n 0, 1) := by decide +kernel
theorem dX7_init_1 : decode cX7_init 1 = .ok (.invokespecial 3, 3) := by decide +kernel
theorem dX7_init_4 : decode cX7_init 4 = .ok (.aload_n 0, 1) := by decide +kernel
theorem dX7_init_5 : decode cX7_init 5 = .ok (.bipush 60, 2) := by decide +kernel
theorem dX7_init_7 : decode cX7_init 7 = .ok (.newarray .long, 2) := by decide +kernel
theorem dX7_init_9 : decode cX7_init 9 = .ok (.putfield 9, 3) := by decide +kernel
theorem dX7_init_12 : decode cX7_init 12 = .ok (.aload_n 0, 1) := by decide +kernel
theorem dX7_init_13 : decode cX7_init 13 = .ok (.iconst (-1), 1) := by decide +kernel
theorem dX7_init_14 : decode cX7_init 14 = .ok (.putfield 15, 3) := by decide +kernel
theorem dX7_init_17 : decode cX7_init 17 = .ok (.return_, 1) := by decide +kernel
theorem dX7_become_0 : decode cX7_become 0 = .ok (.aload_n 0, 1) := by decide +kernel
theorem dX7_become_1 : decode cX7_become 1 = .ok (.iload_n 1, 1) := by decide +kernel
theorem dX7_become_2 : decode cX7_become 2 = .ok (.putfield 15, 3) := by decide +kernel
theorem dX7_become_5 : decode cX7_become 5 = .ok (.aload_n 0, 1) := by decide +kernel
theorem dX7_become_6 : decode cX7_become 6 = .ok (.iload_n 2, 1) := by decide +kernel
theorem dX7_become_7 : decode cX7_become 7 = .ok (.putfield 19, 3) := by decide +kernel
theorem dX7_become_10 : decode cX7_become 10 = .ok (.iconst 0, 1) := by decide +kernel
theorem dX7_become_11 : decode cX7_become 11 = .ok (.istore_n 3, 1) := by decide +kernel
theorem dX7_become_12 : decode cX7_become 12 = .ok (.iload_n 3, 1) := by decide +kernel
theorem dX7_become_13 : decode cX7_become 13 = .ok (.bipush 60, 2) := by decide +kernel
theorem dX7_become_15 : decode cX7_become 15 = .ok (.if_icmp .ge 16, 3) := by decide +kernel
theorem dX7_become_18 : decode cX7_become 18 = .ok (.aload_n 0, 1) := by decide +kernel
theorem dX7_become_19 : decode cX7_become 19 = .ok (.getfield 9, 3) := by decide +kernel
theorem dX7_become_22 : decode cX7_become 22 = .ok (.iload_n 3, 1) := by decide +kernel
theorem dX7_become_23 : decode cX7_become 23 = .ok (.lconst 0, 1) := by decide +kernel
theorem dX7_become_24 : decode cX7_become 24 = .ok (.lastore, 1) := by decide +kernel
theorem dX7_become_25 : decode cX7_become 25 = .ok (.iinc 3 1, 3) := by decide +kernel
theorem dX7_become_28 : decode cX7_become 28 = .ok (.goto (-16), 3) := by decide +kernel
theorem dX7_become_31 : decode cX7_become 31 = .ok (.return_, 1) := by decide +kernel
theorem dX7_hasPlace_0 : decode cX7_hasPlace 0 = .ok (.iload_n 1, 1) := by decide +kernel
theorem dX7_hasPlace_1 : decode cX7_hasPlace 1 = .ok (.ifCond .lt 15, 3) := by decide +kernel
theorem dX7_hasPlace_4 : decode cX7_hasPlace 4 = .ok (.iload_n 1, 1) := by decide +kernel
theorem dX7_hasPlace_5 : decode cX7_hasPlace 5 = .ok (.aload_n 0, 1) := by decide +kernel
theorem dX7_hasPlace_6 : decode cX7_hasPlace 6 = .ok (.getfield 19, 3) := by decide +kernel
theorem dX7_hasPlace_9 : decode cX7_hasPlace 9 = .ok (.if_icmp .ge 7, 3) := by decide +kernel
theorem dX7_hasPlace_12 : decode cX7_hasPlace 12 = .ok (.iconst 1, 1) := by decide +kernel
theorem dX7_hasPlace_13 : decode cX7_hasPlace 13 = .ok (.goto 4, 3) := by decide +kernel
theorem dX7_hasPlace_16 : decode cX7_hasPlace 16 = .ok (.iconst 0, 1) := by decide +kernel
theorem dX7_hasPlace_17 : decode cX7_hasPlace 17 = .ok (.ireturn, 1) := by decide +kernel
theorem dX7_hasPlaces_0 : decode cX7_hasPlaces 0 = .ok (.iload_n 1, 1) := by decide +kernel
theorem dX7_hasPlaces_1 : decode cX7_hasPlaces 1 = .ok (.ifCond .lt 21, 3) := by decide +kernel
theorem dX7_hasPlaces_4 : decode cX7_hasPlaces 4 = .ok (.iload_n 2, 1) := by decide +kernel
theorem dX7_hasPlaces_5 : decode cX7_hasPlaces 5 = .ok (.ifCond .lt 17, 3) := by decide +kernel
theorem dX7_hasPlaces_8 : decode cX7_hasPlaces 8 = .ok (.iload_n 1, 1) := by decide +kernel
theorem dX7_hasPlaces_9 : decode cX7_hasPlaces 9 = .ok (.aload_n 0, 1) := by decide +kernel
theorem dX7_hasPlaces_10 : decode cX7_hasPlaces 10 = .ok (.getfield 19, 3) := by decide +kernel
theorem dX7_hasPlaces_13 : decode cX7_hasPlaces 13 = .ok (.iload_n 2, 1) := by decide +kernel
theorem dX7_hasPlaces_14 : decode cX7_hasPlaces 14 = .ok (.isub, 1) := by decide +kernel
theorem dX7_hasPlaces_15 : decode cX7_hasPlaces 15 = .ok (.if_icmp .gt 7, 3) := by decide +kernel
theorem dX7_hasPlaces_18 : decode cX7_hasPlaces 18 = .ok (.iconst 1, 1) := by decide +kernel
theorem dX7_hasPlaces_19 : decode cX7_hasPlaces 19 = .ok (.goto 4, 3) := by decide +kernel
theorem dX7_hasPlaces_22 : decode cX7_hasPlaces 22 = .ok (.iconst 0, 1) := by decide +kernel
theorem dX7_hasPlaces_23 : decode cX7_hasPlaces 23 = .ok (.ireturn, 1) := by decide +kernel
theorem dX7_put_0 : decode cX7_put 0 = .ok (.aload_n 0, 1) := by decide +kernel
theorem dX7_put_1 : decode cX7_put 1 = .ok (.getfield 15, 3) := by decide +kernel
theorem dX7_put_4 : decode cX7_put 4 = .ok (.tableswitch 80 0 3 #[32, 45, 58, 70], 32) := by decide +kernel
theorem dX7_put_36 : decode cX7_put 36 = .ok (.aload_n 0, 1) := by decide +kernel
theorem dX7_put_37 : decode cX7_put 37 = .ok (.getfield 9, 3) := by decide +kernel
theorem dX7_put_40 : decode cX7_put 40 = .ok (.iload_n 1, 1) := by decide +kernel
theorem dX7_put_41 : decode cX7_put 41 = .ok (.lload_n 2, 1) := by decide +kernel
theorem dX7_put_42 : decode cX7_put 42 = .ok (.l2i, 1) := by decide +kernel
theorem dX7_put_43 : decode cX7_put 43 = .ok (.i2b, 1) := by decide +kernel
theorem dX7_put_44 : decode cX7_put 44 = .ok (.i2l, 1) := by decide +kernel
theorem dX7_put_45 : decode cX7_put 45 = .ok (.lastore, 1) := by decide +kernel
theorem dX7_put_46 : decode cX7_put 46 = .ok (.goto 59, 3) := by decide +kernel
theorem dX7_put_49 : decode cX7_put 49 = .ok (.aload_n 0, 1) := by decide +kernel
theorem dX7_put_50 : decode cX7_put 50 = .ok (.getfield 9, 3) := by decide +kernel
theorem dX7_put_53 : decode cX7_put 53 = .ok (.iload_n 1, 1) := by decide +kernel
theorem dX7_put_54 : decode cX7_put 54 = .ok (.lload_n 2, 1) := by decide +kernel
theorem dX7_put_55 : decode cX7_put 55 = .ok (.l2i, 1) := by decide +kernel
theorem dX7_put_56 : decode cX7_put 56 = .ok (.i2s, 1) := by decide +kernel
theorem dX7_put_57 : decode cX7_put 57 = .ok (.i2l, 1) := by decide +kernel
theorem dX7_put_58 : decode cX7_put 58 = .ok (.lastore, 1) := by decide +kernel
theorem dX7_put_59 : decode cX7_put 59 = .ok (.goto 46, 3) := by decide +kernel
theorem dX7_put_62 : decode cX7_put 62 = .ok (.aload_n 0, 1) := by decide +kernel
theorem dX7_put_63 : decode cX7_put 63 = .ok (.getfield 9, 3) := by decide +kernel
theorem dX7_put_66 : decode cX7_put 66 = .ok (.iload_n 1, 1) := by decide +kernel
theorem dX7_put_67 : decode cX7_put 67 = .ok (.lload_n 2, 1) := by decide +kernel
theorem dX7_put_68 : decode cX7_put 68 = .ok (.l2i, 1) := by decide +kernel
theorem dX7_put_69 : decode cX7_put 69 = .ok (.i2l, 1) := by decide +kernel
theorem dX7_put_70 : decode cX7_put 70 = .ok (.lastore, 1) := by decide +kernel
theorem dX7_put_71 : decode cX7_put 71 = .ok (.goto 34, 3) := by decide +kernel
theorem dX7_put_74 : decode cX7_put 74 = .ok (.aload_n 0, 1) := by decide +kernel
theorem dX7_put_75 : decode cX7_put 75 = .ok (.getfield 9, 3) := by decide +kernel
theorem dX7_put_78 : decode cX7_put 78 = .ok (.iload_n 1, 1) := by decide +kernel
theorem dX7_put_79 : decode cX7_put 79 = .ok (.lload_n 2, 1) := by decide +kernel
theorem dX7_put_80 : decode cX7_put 80 = .ok (.lastore, 1) := by decide +kernel
theorem dX7_put_81 : decode cX7_put 81 = .ok (.goto 24, 3) := by decide +kernel
theorem dX7_put_84 : decode cX7_put 84 = .ok (.aload_n 0, 1) := by decide +kernel
theorem dX7_put_85 : decode cX7_put 85 = .ok (.getfield 9, 3) := by decide +kernel
theorem dX7_put_88 : decode cX7_put 88 = .ok (.iload_n 1, 1) := by decide +kernel
theorem dX7_put_89 : decode cX7_put 89 = .ok (.lload_n 2, 1) := by decide +kernel
theorem dX7_put_90 : decode cX7_put 90 = .ok (.lconst 0, 1) := by decide +kernel
theorem dX7_put_91 : decode cX7_put 91 = .ok (.lcmp, 1) := by decide +kernel
theorem dX7_put_92 : decode cX7_put 92 = .ok (.ifCond .eq 7, 3) := by decide +kernel
theorem dX7_put_95 : decode cX7_put 95 = .ok (.iconst 1, 1) := by decide +kernel
theorem dX7_put_96 : decode cX7_put 96 = .ok (.goto 4, 3) := by decide +kernel
theorem dX7_put_99 : decode cX7_put 99 = .ok (.iconst 0, 1) := by decide +kernel
theorem dX7_put_100 : decode cX7_put 100 = .ok (.invokestatic 22, 3) := by decide +kernel
theorem dX7_put_103 : decode cX7_put 103 = .ok (.i2l, 1) := by decide +kernel
theorem dX7_put_104 : decode cX7_put 104 = .ok (.lastore, 1) := by decide +kernel
theorem dX7_put_105 : decode cX7_put 105 = .ok (.return_, 1) := by decide +kernel
theorem dJ6_bitCount_0f7a4_0 : decode cJ6_bitCount_0f7a4 0 = .ok (.iload_n 0, 1) := by decide +kernel
theorem dJ6_bitCount_0f7a4_1 : decode cJ6_bitCount_0f7a4 1 = .ok (.iload_n 0, 1) := by decide +kernel
theorem dJ6_bitCount_0f7a4_2 : decode cJ6_bitCount_0f7a4 2 = .ok (.iconst 1, 1) := by decide +kernel
theorem dJ6_bitCount_0f7a4_3 : decode cJ6_bitCount_0f7a4 3 = .ok (.iushr, 1) := by decide +kernel
theorem dJ6_bitCount_0f7a4_4 : decode cJ6_bitCount_0f7a4 4 = .ok (.ldc_w 265, 3) := by decide +kernel
theorem dJ6_bitCount_0f7a4_7 : decode cJ6_bitCount_0f7a4 7 = .ok (.iand, 1) := by decide +kernel
theorem dJ6_bitCount_0f7a4_8 : decode cJ6_bitCount_0f7a4 8 = .ok (.isub, 1) := by decide +kernel
theorem dJ6_bitCount_0f7a4_9 : decode cJ6_bitCount_0f7a4 9 = .ok (.istore_n 0, 1) := by decide +kernel
theorem dJ6_bitCount_0f7a4_10 : decode cJ6_bitCount_0f7a4 10 = .ok (.iload_n 0, 1) := by decide +kernel
theorem dJ6_bitCount_0f7a4_11 : decode cJ6_bitCount_0f7a4 11 = .ok (.ldc_w 266, 3) := by decide +kernel
theorem dJ6_bitCount_0f7a4_14 : decode cJ6_bitCount_0f7a4 14 = .ok (.iand, 1) := by decide +kernel
theorem dJ6_bitCount_0f7a4_15 : decode cJ6_bitCount_0f7a4 15 = .ok (.iload_n 0, 1) := by decide +kernel
theorem dJ6_bitCount_0f7a4_16 : decode cJ6_bitCount_0f7a4 16 = .ok (.iconst 2, 1) := by decide +kernel
theorem dJ6_bitCount_0f7a4_17 : decode cJ6_bitCount_0f7a4 17 = .ok (.iushr, 1) := by decide +kernel
theorem dJ6_bitCount_0f7a4_18 : decode cJ6_bitCount_0f7a4 18 = .ok (.ldc_w 266, 3) := by decide +kernel
theorem dJ6_bitCount_0f7a4_21 : decode cJ6_bitCount_0f7a4 21 = .ok (.iand, 1) := by decide +kernel
theorem dJ6_bitCount_0f7a4_22 : decode cJ6_bitCount_0f7a4 22 = .ok (.iadd, 1) := by decide +kernel
theorem dJ6_bitCount_0f7a4_23 : decode cJ6_bitCount_0f7a4 23 = .ok (.istore_n 0, 1) := by decide +kernel
theorem dJ6_bitCount_0f7a4_24 : decode cJ6_bitCount_0f7a4 24 = .ok (.iload_n 0, 1) := by decide +kernel
theorem dJ6_bitCount_0f7a4_25 : decode cJ6_bitCount_0f7a4 25 = .ok (.iload_n 0, 1) := by decide +kernel
theorem dJ6_bitCount_0f7a4_26 : decode cJ6_bitCount_0f7a4 26 = .ok (.iconst 4, 1) := by decide +kernel
theorem dJ6_bitCount_0f7a4_27 : decode cJ6_bitCount_0f7a4 27 = .ok (.iushr, 1) := by decide +kernel
theorem dJ6_bitCount_0f7a4_28 : decode cJ6_bitCount_0f7a4 28 = .ok (.iadd, 1) := by decide +kernel
theorem dJ6_bitCount_0f7a4_29 : decode cJ6_bitCount_0f7a4 29 = .ok (.ldc_w 267, 3) := by decide +kernel
theorem dJ6_bitCount_0f7a4_32 : decode cJ6_bitCount_0f7a4 32 = .ok (.iand, 1) := by decide +kernel
theorem dJ6_bitCount_0f7a4_33 : decode cJ6_bitCount_0f7a4 33 = .ok (.istore_n 0, 1) := by decide +kernel
theorem dJ6_bitCount_0f7a4_34 : decode cJ6_bitCount_0f7a4 34 = .ok (.iload_n 0, 1) := by decide +kernel
theorem dJ6_bitCount_0f7a4_35 : decode cJ6_bitCount_0f7a4 35 = .ok (.iload_n 0, 1) := by decide +kernel
theorem dJ6_bitCount_0f7a4_36 : decode cJ6_bitCount_0f7a4 36 = .ok (.bipush 8, 2) := by decide +kernel
theorem dJ6_bitCount_0f7a4_38 : decode cJ6_bitCount_0f7a4 38 = .ok (.iushr, 1) := by decide +kernel
theorem dJ6_bitCount_0f7a4_39 : decode cJ6_bitCount_0f7a4 39 = .ok (.iadd, 1) := by decide +kernel
theorem dJ6_bitCount_0f7a4_40 : decode cJ6_bitCount_0f7a4 40 = .ok (.istore_n 0, 1) := by decide +kernel
theorem dJ6_bitCount_0f7a4_41 : decode cJ6_bitCount_0f7a4 41 = .ok (.iload_n 0, 1) := by decide +kernel
theorem dJ6_bitCount_0f7a4_42 : decode cJ6_bitCount_0f7a4 42 = .ok (.iload_n 0, 1) := by decide +kernel
theorem dJ6_bitCount_0f7a4_43 : decode cJ6_bitCount_0f7a4 43 = .ok (.bipush 16, 2) := by decide +kernel
theorem dJ6_bitCount_0f7a4_45 : decode cJ6_bitCount_0f7a4 45 = .ok (.iushr, 1) := by decide +kernel
theorem dJ6_bitCount_0f7a4_46 : decode cJ6_bitCount_0f7a4 46 = .ok (.iadd, 1) := by decide +kernel
theorem dJ6_bitCount_0f7a4_47 : decode cJ6_bitCount_0f7a4 47 = .ok (.istore_n 0, 1) := by decide +kernel
theorem dJ6_bitCount_0f7a4_48 : decode cJ6_bitCount_0f7a4 48 = .ok (.iload_n 0, 1) := by decide +kernel
theorem dJ6_bitCount_0f7a4_49 : decode cJ6_bitCount_0f7a4 49 = .ok (.bipush 63, 2) := by decide +kernel
theorem dJ6_bitCount_0f7a4_51 : decode cJ6_bitCount_0f7a4 51 = .ok (.iand, 1) := by decide +kernel
theorem dJ6_bitCount_0f7a4_52 : decode cJ6_bitCount_0f7a4 52 = .ok (.ireturn, 1) := by decide +kernel
theorem dJ9_max_7cf53_0 : decode cJ9_max_7cf53 0 = .ok (.iload_n 0, 1) := by decide +kernel
theorem dJ9_max_7cf53_1 : decode cJ9_max_7cf53 1 = .ok (.iload_n 1, 1) := by decide +kernel
theorem dJ9_max_7cf53_2 : decode cJ9_max_7cf53 2 = .ok (.if_icmp .lt 7, 3) := by decide +kernel
theorem dJ9_max_7cf53_5 : decode cJ9_max_7cf53 5 = .ok (.iload_n 0, 1) := by decide +kernel
theorem dJ9_max_7cf53_6 : decode cJ9_max_7cf53 6 = .ok (.goto 4, 3) := by decide +kernel
theorem dJ9_max_7cf53_9 : decode cJ9_max_7cf53 9 = .ok (.iload_n 1, 1) := by decide +kernel
theorem dJ9_max_7cf53_10 : decode cJ9_max_7cf53 10 = .ok (.ireturn, 1) := by decide +kernel
theorem dJ9_min_7cf53_0 : decode cJ9_min_7cf53 0 = .ok (.iload_n 0, 1) := by decide +kernel
theorem dJ9_min_7cf53_1 : decode cJ9_min_7cf53 1 = .ok (.iload_n 1, 1) := by decide +kernel
theorem dJ9_min_7cf53_2 : decode cJ9_min_7cf53 2 = .ok (.if_icmp .gt 7, 3) := by decide +kernel
theorem dJ9_min_7cf53_5 : decode cJ9_min_7cf53 5 = .ok (.iload_n 0, 1) := by decide +kernel
theorem dJ9_min_7cf53_6 : decode cJ9_min_7cf53 6 = .ok (.goto 4, 3) := by decide +kernel
theorem dJ9_min_7cf53_9 : decode cJ9_min_7cf53 9 = .ok (.iload_n 1, 1) := by decide +kernel
theorem dJ9_min_7cf53_10 : decode cJ9_min_7cf53 10 = .ok (.ireturn, 1) := by decide +kernel
theorem dJ0_length_8abf5_0 : decode cJ0_length_8abf5 0 = .ok (.aload_n 0, 1) := by decide +kernel
theorem dJ0_length_8abf5_1 : decode cJ0_length_8abf5 1 = .ok (.getfield 9, 3) := by decide +kernel
theorem dJ0_length_8abf5_4 : decode cJ0_length_8abf5 4 = .ok (.arraylength, 1) := by decide +kernel
theorem dJ0_length_8abf5_5 : decode cJ0_length_8abf5 5 = .ok (.aload_n 0, 1) := by decide +kernel
theorem dJ0_length_8abf5_6 : decode cJ0_length_8abf5 6 = .ok (.invokevirtual 335, 3) := by decide +kernel
theorem dJ0_length_8abf5_9 : decode cJ0_length_8abf5 9 = .ok (.ishr, 1) := by decide +kernel
theorem dJ0_length_8abf5_10 : decode cJ0_length_8abf5 10 = .ok (.ireturn, 1) := by decide +kernel
theorem dJ0_charAt_5068e_0 : decode cJ0_charAt_5068e 0 = .ok (.aload_n 0, 1) := by decide +kernel
theorem dJ0_charAt_5068e_1 : decode cJ0_charAt_5068e 1 = .ok (.invokevirtual 492, 3) := by decide +kernel
theorem dJ0_charAt_5068e_4 : decode cJ0_charAt_5068e 4 = .ok (.ifCond .eq 12, 3) := by decide +kernel
theorem dJ0_charAt_5068e_7 : decode cJ0_charAt_5068e 7 = .ok (.aload_n 0, 1) := by decide +kernel
theorem dJ0_charAt_5068e_8 : decode cJ0_charAt_5068e 8 = .ok (.getfield 9, 3) := by decide +kernel
theorem dJ0_charAt_5068e_11 : decode cJ0_charAt_5068e 11 = .ok (.iload_n 1, 1) := by decide +kernel
theorem dJ0_charAt_5068e_12 : decode cJ0_charAt_5068e 12 = .ok (.invokestatic 495, 3) := by decide +kernel
theorem dJ0_charAt_5068e_15 : decode cJ0_charAt_5068e 15 = .ok (.ireturn, 1) := by decide +kernel
theorem dJ0_charAt_5068e_16 : decode cJ0_charAt_5068e 16 = .ok (.aload_n 0, 1) := by decide +kernel
theorem dJ0_charAt_5068e_17 : decode cJ0_charAt_5068e 17 = .ok (.getfield 9, 3) := by decide +kernel
theorem dJ0_charAt_5068e_20 : decode cJ0_charAt_5068e 20 = .ok (.iload_n 1, 1) := by decide +kernel
theorem dJ0_charAt_5068e_21 : decode cJ0_charAt_5068e 21 = .ok (.invokestatic 498, 3) := by decide +kernel
theorem dJ0_charAt_5068e_24 : decode cJ0_charAt_5068e 24 = .ok (.ireturn, 1) := by decide +kernel
theorem dJ0_coder_7d493_0 : decode cJ0_coder_7d493 0 = .ok (.getstatic 38, 3) := by decide +kernel
theorem dJ0_coder_7d493_3 : decode cJ0_coder_7d493 3 = .ok (.ifCond .eq 10, 3) := by decide +kernel
theorem dJ0_coder_7d493_6 : decode cJ0_coder_7d493 6 = .ok (.aload_n 0, 1) := by decide +kernel
theorem dJ0_coder_7d493_7 : decode cJ0_coder_7d493 7 = .ok (.getfield 15, 3) := by decide +kernel
theorem dJ0_coder_7d493_10 : decode cJ0_coder_7d493 10 = .ok (.goto 4, 3) := by decide +kernel
theorem dJ0_coder_7d493_13 : decode cJ0_coder_7d493 13 = .ok (.iconst 1, 1) := by decide +kernel
theorem dJ0_coder_7d493_14 : decode cJ0_coder_7d493 14 = .ok (.ireturn, 1) := by decide +kernel
theorem dJ0_isLatin1_aae02_0 : decode cJ0_isLatin1_aae02 0 = .ok (.getstatic 38, 3) := by decide +kernel
theorem dJ0_isLatin1_aae02_3 : decode cJ0_isLatin1_aae02 3 = .ok (.ifCond .eq 14, 3) := by decide +kernel
theorem dJ0_isLatin1_aae02_6 : decode cJ0_isLatin1_aae02 6 = .ok (.aload_n 0, 1) := by decide +kernel
theorem dJ0_isLatin1_aae02_7 : decode cJ0_isLatin1_aae02 7 = .ok (.getfield 15, 3) := by decide +kernel
theorem dJ0_isLatin1_aae02_10 : decode cJ0_isLatin1_aae02 10 = .ok (.ifCond .ne 7, 3) := by decide +kernel
theorem dJ0_isLatin1_aae02_13 : decode cJ0_isLatin1_aae02 13 = .ok (.iconst 1, 1) := by decide +kernel
theorem dJ0_isLatin1_aae02_14 : decode cJ0_isLatin1_aae02 14 = .ok (.goto 4, 3) := by decide +kernel
theorem dJ0_isLatin1_aae02_17 : decode cJ0_isLatin1_aae02 17 = .ok (.iconst 0, 1) := by decide +kernel
theorem dJ0_isLatin1_aae02_18 : decode cJ0_isLatin1_aae02 18 = .ok (.ireturn, 1) := by decide +kernel
theorem dJ0_checkIndex_df160_0 : decode cJ0_checkIndex_df160 0 = .ok (.iload_n 0, 1) := by decide +kernel
theorem dJ0_checkIndex_df160_1 : decode cJ0_checkIndex_df160 1 = .ok (.iload_n 1, 1) := by decide +kernel
theorem dJ0_checkIndex_df160_2 : decode cJ0_checkIndex_df160 2 = .ok (.getstatic 1053, 3) := by decide +kernel
theorem dJ0_checkIndex_df160_5 : decode cJ0_checkIndex_df160 5 = .ok (.invokestatic 1059, 3) := by decide +kernel
theorem dJ0_checkIndex_df160_8 : decode cJ0_checkIndex_df160 8 = .ok (.pop, 1) := by decide +kernel
theorem dJ0_checkIndex_df160_9 : decode cJ0_checkIndex_df160 9 = .ok (.return_, 1) := by decide +kernel
theorem dJ1_charAt_3b067_0 : decode cJ1_charAt_3b067 0 = .ok (.iload_n 1, 1) := by decide +kernel
theorem dJ1_charAt_3b067_1 : decode cJ1_charAt_3b067 1 = .ok (.aload_n 0, 1) := by decide +kernel
theorem dJ1_charAt_3b067_2 : decode cJ1_charAt_3b067 2 = .ok (.arraylength, 1) := by decide +kernel
theorem dJ1_charAt_3b067_3 : decode cJ1_charAt_3b067 3 = .ok (.invokestatic 9, 3) := by decide +kernel
theorem dJ1_charAt_3b067_6 : decode cJ1_charAt_3b067 6 = .ok (.aload_n 0, 1) := by decide +kernel
theorem dJ1_charAt_3b067_7 : decode cJ1_charAt_3b067 7 = .ok (.iload_n 1, 1) := by decide +kernel
theorem dJ1_charAt_3b067_8 : decode cJ1_charAt_3b067 8 = .ok (.baload, 1) := by decide +kernel
theorem dJ1_charAt_3b067_9 : decode cJ1_charAt_3b067 9 = .ok (.sipush 255, 3) := by decide +kernel
theorem dJ1_charAt_3b067_12 : decode cJ1_charAt_3b067 12 = .ok (.iand, 1) := by decide +kernel
theorem dJ1_charAt_3b067_13 : decode cJ1_charAt_3b067 13 = .ok (.i2c, 1) := by decide +kernel
theorem dJ1_charAt_3b067_14 : decode cJ1_charAt_3b067 14 = .ok (.ireturn, 1) := by decide +kernel
theorem dJ2_getChar_3b067_0 : decode cJ2_getChar_3b067 0 = .ok (.getstatic 44, 3) := by decide +kernel
theorem dJ2_getChar_3b067_3 : decode cJ2_getChar_3b067 3 = .ok (.ifCond .ne 25, 3) := by decide +kernel
theorem dJ2_getChar_3b067_6 : decode cJ2_getChar_3b067 6 = .ok (.iload_n 1, 1) := by decide +kernel
theorem dJ2_getChar_3b067_7 : decode cJ2_getChar_3b067 7 = .ok (.ifCond .lt 11, 3) := by decide +kernel
theorem dJ2_getChar_3b067_10 : decode cJ2_getChar_3b067 10 = .ok (.iload_n 1, 1) := by decide +kernel
theorem dJ2_getChar_3b067_11 : decode cJ2_getChar_3b067 11 = .ok (.aload_n 0, 1) := by decide +kernel
theorem dJ2_getChar_3b067_12 : decode cJ2_getChar_3b067 12 = .ok (.invokestatic 48, 3) := by decide +kernel
theorem dJ2_getChar_3b067_15 : decode cJ2_getChar_3b067 15 = .ok (.if_icmp .lt 13, 3) := by decide +kernel
theorem dJ2_getChar_3b067_18 : decode cJ2_getChar_3b067 18 = .ok (.new 52, 3) := by decide +kernel
theorem dJ2_getChar_3b067_21 : decode cJ2_getChar_3b067 21 = .ok (.dup, 1) := by decide +kernel
theorem dJ2_getChar_3b067_22 : decode cJ2_getChar_3b067 22 = .ok (.ldc 54, 2) := by decide +kernel
theorem dJ2_getChar_3b067_24 : decode cJ2_getChar_3b067 24 = .ok (.invokespecial 56, 3) := by decide +kernel
theorem dJ2_getChar_3b067_27 : decode cJ2_getChar_3b067 27 = .ok (.athrow, 1) := by decide +kernel
theorem dJ2_getChar_3b067_28 : decode cJ2_getChar_3b067 28 = .ok (.iload_n 1, 1) := by decide +kernel
theorem dJ2_getChar_3b067_29 : decode cJ2_getChar_3b067 29 = .ok (.iconst 1, 1) := by decide +kernel
theorem dJ2_getChar_3b067_30 : decode cJ2_getChar_3b067 30 = .ok (.ishl, 1) := by decide +kernel
theorem dJ2_getChar_3b067_31 : decode cJ2_getChar_3b067 31 = .ok (.istore_n 1, 1) := by decide +kernel
theorem dJ2_getChar_3b067_32 : decode cJ2_getChar_3b067 32 = .ok (.aload_n 0, 1) := by decide +kernel
theorem dJ2_getChar_3b067_33 : decode cJ2_getChar_3b067 33 = .ok (.iload_n 1, 1) := by decide +kernel
theorem dJ2_getChar_3b067_34 : decode cJ2_getChar_3b067 34 = .ok (.iinc 1 1, 3) := by decide +kernel
theorem dJ2_getChar_3b067_37 : decode cJ2_getChar_3b067 37 = .ok (.baload, 1) := by decide +kernel
theorem dJ2_getChar_3b067_38 : decode cJ2_getChar_3b067 38 = .ok (.sipush 255, 3) := by decide +kernel
theorem dJ2_getChar_3b067_41 : decode cJ2_getChar_3b067 41 = .ok (.iand, 1) := by decide +kernel
theorem dJ2_getChar_3b067_42 : decode cJ2_getChar_3b067 42 = .ok (.getstatic 59, 3) := by decide +kernel
theorem dJ2_getChar_3b067_45 : decode cJ2_getChar_3b067 45 = .ok (.ishl, 1) := by decide +kernel
theorem dJ2_getChar_3b067_46 : decode cJ2_getChar_3b067 46 = .ok (.aload_n 0, 1) := by decide +kernel
theorem dJ2_getChar_3b067_47 : decode cJ2_getChar_3b067 47 = .ok (.iload_n 1, 1) := by decide +kernel
theorem dJ2_getChar_3b067_48 : decode cJ2_getChar_3b067 48 = .ok (.baload, 1) := by decide +kernel
theorem dJ2_getChar_3b067_49 : decode cJ2_getChar_3b067 49 = .ok (.sipush 255, 3) := by decide +kernel
theorem dJ2_getChar_3b067_52 : decode cJ2_getChar_3b067 52 = .ok (.iand, 1) := by decide +kernel
theorem dJ2_getChar_3b067_53 : decode cJ2_getChar_3b067 53 = .ok (.getstatic 63, 3) := by decide +kernel
theorem dJ2_getChar_3b067_56 : decode cJ2_getChar_3b067 56 = .ok (.ishl, 1) := by decide +kernel
theorem dJ2_getChar_3b067_57 : decode cJ2_getChar_3b067 57 = .ok (.ior, 1) := by decide +kernel
theorem dJ2_getChar_3b067_58 : decode cJ2_getChar_3b067 58 = .ok (.i2c, 1) := by decide +kernel
theorem dJ2_getChar_3b067_59 : decode cJ2_getChar_3b067 59 = .ok (.ireturn, 1) := by decide +kernel
theorem dJ2_length_9d52b_0 : decode cJ2_length_9d52b 0 = .ok (.aload_n 0, 1) := by decide +kernel
theorem dJ2_length_9d52b_1 : decode cJ2_length_9d52b 1 = .ok (.arraylength, 1) := by decide +kernel
theorem dJ2_length_9d52b_2 : decode cJ2_length_9d52b 2 = .ok (.iconst 1, 1) := by decide +kernel
theorem dJ2_length_9d52b_3 : decode cJ2_length_9d52b 3 = .ok (.ishr, 1) := by decide +kernel
theorem dJ2_length_9d52b_4 : decode cJ2_length_9d52b 4 = .ok (.ireturn, 1) := by decide +kernel
theorem dJ2_charAt_3b067_0 : decode cJ2_charAt_3b067 0 = .ok (.iload_n 1, 1) := by decide +kernel
theorem dJ2_charAt_3b067_1 : decode cJ2_charAt_3b067 1 = .ok (.aload_n 0, 1) := by decide +kernel
theorem dJ2_charAt_3b067_2 : decode cJ2_charAt_3b067 2 = .ok (.invokestatic 67, 3) := by decide +kernel
theorem dJ2_charAt_3b067_5 : decode cJ2_charAt_3b067 5 = .ok (.aload_n 0, 1) := by decide +kernel
theorem dJ2_charAt_3b067_6 : decode cJ2_charAt_3b067 6 = .ok (.iload_n 1, 1) := by decide +kernel
theorem dJ2_charAt_3b067_7 : decode cJ2_charAt_3b067 7 = .ok (.invokestatic 71, 3) := by decide +kernel
theorem dJ2_charAt_3b067_10 : decode cJ2_charAt_3b067 10 = .ok (.ireturn, 1) := by decide +kernel
theorem dJ2_checkIndex_2214a_0 : decode cJ2_checkIndex_2214a 0 = .ok (.iload_n 0, 1) := by decide +kernel
theorem dJ2_checkIndex_2214a_1 : decode cJ2_checkIndex_2214a 1 = .ok (.aload_n 1, 1) := by decide +kernel
theorem dJ2_checkIndex_2214a_2 : decode cJ2_checkIndex_2214a 2 = .ok (.invokestatic 48, 3) := by decide +kernel
theorem dJ2_checkIndex_2214a_5 : decode cJ2_checkIndex_2214a 5 = .ok (.invokestatic 414, 3) := by decide +kernel
theorem dJ2_checkIndex_2214a_8 : decode cJ2_checkIndex_2214a 8 = .ok (.return_, 1) := by decide +kernel
theorem dJ3_checkIndex_8e157_0 : decode cJ3_checkIndex_8e157 0 = .ok (.iload_n 0, 1) := by decide +kernel
theorem dJ3_checkIndex_8e157_1 : decode cJ3_checkIndex_8e157 1 = .ok (.ifCond .lt 8, 3) := by decide +kernel
theorem dJ3_checkIndex_8e157_4 : decode cJ3_checkIndex_8e157 4 = .ok (.iload_n 0, 1) := by decide +kernel
theorem dJ3_checkIndex_8e157_5 : decode cJ3_checkIndex_8e157 5 = .ok (.iload_n 1, 1) := by decide +kernel
theorem dJ3_checkIndex_8e157_6 : decode cJ3_checkIndex_8e157 6 = .ok (.if_icmp .lt 10, 3) := by decide +kernel
theorem dJ3_checkIndex_8e157_9 : decode cJ3_checkIndex_8e157 9 = .ok (.aload_n 2, 1) := by decide +kernel
theorem dJ3_checkIndex_8e157_10 : decode cJ3_checkIndex_8e157 10 = .ok (.iload_n 0, 1) := by decide +kernel
theorem dJ3_checkIndex_8e157_11 : decode cJ3_checkIndex_8e157 11 = .ok (.iload_n 1, 1) := by decide +kernel
theorem dJ3_checkIndex_8e157_12 : decode cJ3_checkIndex_8e157 12 = .ok (.invokestatic 95, 3) := by decide +kernel
theorem dJ3_checkIndex_8e157_15 : decode cJ3_checkIndex_8e157 15 = .ok (.athrow, 1) := by decide +kernel
theorem dJ3_checkIndex_8e157_16 : decode cJ3_checkIndex_8e157 16 = .ok (.iload_n 0, 1) := by decide +kernel
theorem dJ3_checkIndex_8e157_17 : decode cJ3_checkIndex_8e157 17 = .ok (.ireturn, 1) := by decide +kernel
