theorem dX4_drawOfInputs_0 : decode cX4_drawOfInputs 0 = .ok (.iconst 0, 1) := by decide +kernel
theorem dX4_drawOfInputs_1 : decode cX4_drawOfInputs 1 = .ok (.istore_n 1, 1) := by decide +kernel
theorem dX4_drawOfInputs_2 : decode cX4_drawOfInputs 2 = .ok (.iconst 0, 1) := by decide +kernel
theorem dX4_drawOfInputs_3 : decode cX4_drawOfInputs 3 = .ok (.istore_n 2, 1) := by decide +kernel
theorem dX4_drawOfInputs_4 : decode cX4_drawOfInputs 4 = .ok (.iload_n 2, 1) := by decide +kernel
theorem dX4_drawOfInputs_5 : decode cX4_drawOfInputs 5 = .ok (.aload_n 0, 1) := by decide +kernel
theorem dX4_drawOfInputs_6 : decode cX4_drawOfInputs 6 = .ok (.getfield 27, 3) := by decide +kernel
theorem dX4_drawOfInputs_9 : decode cX4_drawOfInputs 9 = .ok (.if_icmp .ge 242, 3) := by decide +kernel
theorem dX4_drawOfInputs_12 : decode cX4_drawOfInputs 12 = .ok (.aload_n 0, 1) := by decide +kernel
theorem dX4_drawOfInputs_13 : decode cX4_drawOfInputs 13 = .ok (.getfield 15, 3) := by decide +kernel
theorem dX4_drawOfInputs_16 : decode cX4_drawOfInputs 16 = .ok (.iload_n 2, 1) := by decide +kernel
theorem dX4_drawOfInputs_17 : decode cX4_drawOfInputs 17 = .ok (.iaload, 1) := by decide +kernel
theorem dX4_drawOfInputs_18 : decode cX4_drawOfInputs 18 = .ok (.istore_n 3, 1) := by decide +kernel
theorem dX4_drawOfInputs_19 : decode cX4_drawOfInputs 19 = .ok (.iload_n 3, 1) := by decide +kernel
theorem dX4_drawOfInputs_20 : decode cX4_drawOfInputs 20 = .ok (.sipush 2000, 3) := by decide +kernel
theorem dX4_drawOfInputs_23 : decode cX4_drawOfInputs 23 = .ok (.if_icmp .ge 45, 3) := by decide +kernel
theorem dX4_drawOfInputs_26 : decode cX4_drawOfInputs 26 = .ok (.iload_n 1, 1) := by decide +kernel
theorem dX4_drawOfInputs_27 : decode cX4_drawOfInputs 27 = .ok (.aload_n 0, 1) := by decide +kernel
theorem dX4_drawOfInputs_28 : decode cX4_drawOfInputs 28 = .ok (.getfield 18, 3) := by decide +kernel
theorem dX4_drawOfInputs_31 : decode cX4_drawOfInputs 31 = .ok (.arraylength, 1) := by decide +kernel
theorem dX4_drawOfInputs_32 : decode cX4_drawOfInputs 32 = .ok (.if_icmp .ge 36, 3) := by decide +kernel
theorem dX4_drawOfInputs_35 : decode cX4_drawOfInputs 35 = .ok (.aload_n 0, 1) := by decide +kernel
theorem dX4_drawOfInputs_36 : decode cX4_drawOfInputs 36 = .ok (.getfield 18, 3) := by decide +kernel
theorem dX4_drawOfInputs_39 : decode cX4_drawOfInputs 39 = .ok (.iload_n 1, 1) := by decide +kernel
theorem dX4_drawOfInputs_40 : decode cX4_drawOfInputs 40 = .ok (.iload_n 3, 1) := by decide +kernel
theorem dX4_drawOfInputs_41 : decode cX4_drawOfInputs 41 = .ok (.sipush 1000, 3) := by decide +kernel
theorem dX4_drawOfInputs_44 : decode cX4_drawOfInputs 44 = .ok (.if_icmp .ge 7, 3) := by decide +kernel
theorem dX4_drawOfInputs_47 : decode cX4_drawOfInputs 47 = .ok (.iload_n 3, 1) := by decide +kernel
theorem dX4_drawOfInputs_48 : decode cX4_drawOfInputs 48 = .ok (.goto 13, 3) := by decide +kernel
theorem dX4_drawOfInputs_51 : decode cX4_drawOfInputs 51 = .ok (.aload_n 0, 1) := by decide +kernel
theorem dX4_drawOfInputs_52 : decode cX4_drawOfInputs 52 = .ok (.getfield 11, 3) := by decide +kernel
theorem dX4_drawOfInputs_55 : decode cX4_drawOfInputs 55 = .ok (.iload_n 3, 1) := by decide +kernel
theorem dX4_drawOfInputs_56 : decode cX4_drawOfInputs 56 = .ok (.sipush 1000, 3) := by decide +kernel
theorem dX4_drawOfInputs_59 : decode cX4_drawOfInputs 59 = .ok (.isub, 1) := by decide +kernel
theorem dX4_drawOfInputs_60 : decode cX4_drawOfInputs 60 = .ok (.iaload, 1) := by decide +kernel
theorem dX4_drawOfInputs_61 : decode cX4_drawOfInputs 61 = .ok (.iastore, 1) := by decide +kernel
theorem dX4_drawOfInputs_62 : decode cX4_drawOfInputs 62 = .ok (.iinc 1 1, 3) := by decide +kernel
theorem dX4_drawOfInputs_65 : decode cX4_drawOfInputs 65 = .ok (.goto 180, 3) := by decide +kernel
theorem dX4_drawOfInputs_68 : decode cX4_drawOfInputs 68 = .ok (.iload_n 1, 1) := by decide +kernel
theorem dX4_drawOfInputs_69 : decode cX4_drawOfInputs 69 = .ok (.iconst 2, 1) := by decide +kernel
theorem dX4_drawOfInputs_70 : decode cX4_drawOfInputs 70 = .ok (.if_icmp .lt 175, 3) := by decide +kernel
theorem dX4_drawOfInputs_73 : decode cX4_drawOfInputs 73 = .ok (.iinc 1 (-1), 3) := by decide +kernel
theorem dX4_drawOfInputs_76 : decode cX4_drawOfInputs 76 = .ok (.aload_n 0, 1) := by decide +kernel
theorem dX4_drawOfInputs_77 : decode cX4_drawOfInputs 77 = .ok (.getfield 18, 3) := by decide +kernel
theorem dX4_drawOfInputs_80 : decode cX4_drawOfInputs 80 = .ok (.iload_n 1, 1) := by decide +kernel
theorem dX4_drawOfInputs_81 : decode cX4_drawOfInputs 81 = .ok (.iconst 1, 1) := by decide +kernel
theorem dX4_drawOfInputs_82 : decode cX4_drawOfInputs 82 = .ok (.isub, 1) := by decide +kernel
theorem dX4_drawOfInputs_83 : decode cX4_drawOfInputs 83 = .ok (.iaload, 1) := by decide +kernel
theorem dX4_drawOfInputs_84 : decode cX4_drawOfInputs 84 = .ok (.istore 4, 2) := by decide +kernel
theorem dX4_drawOfInputs_86 : decode cX4_drawOfInputs 86 = .ok (.aload_n 0, 1) := by decide +kernel
theorem dX4_drawOfInputs_87 : decode cX4_drawOfInputs 87 = .ok (.getfield 18, 3) := by decide +kernel
theorem dX4_drawOfInputs_90 : decode cX4_drawOfInputs 90 = .ok (.iload_n 1, 1) := by decide +kernel
theorem dX4_drawOfInputs_91 : decode cX4_drawOfInputs 91 = .ok (.iaload, 1) := by decide +kernel
theorem dX4_drawOfInputs_92 : decode cX4_drawOfInputs 92 = .ok (.istore 5, 2) := by decide +kernel
theorem dX4_drawOfInputs_94 : decode cX4_drawOfInputs 94 = .ok (.iload_n 3, 1) := by decide +kernel
theorem dX4_drawOfInputs_95 : decode cX4_drawOfInputs 95 = .ok (.tableswitch 124 2000 2005 #[37, 47, 57, 67, 86, 105], 37) := by decide +kernel
theorem dX4_drawOfInputs_132 : decode cX4_drawOfInputs 132 = .ok (.iload 4, 2) := by decide +kernel
theorem dX4_drawOfInputs_134 : decode cX4_drawOfInputs 134 = .ok (.iload 5, 2) := by decide +kernel
theorem dX4_drawOfInputs_136 : decode cX4_drawOfInputs 136 = .ok (.iadd, 1) := by decide +kernel
theorem dX4_drawOfInputs_137 : decode cX4_drawOfInputs 137 = .ok (.istore 4, 2) := by decide +kernel
theorem dX4_drawOfInputs_139 : decode cX4_drawOfInputs 139 = .ok (.goto 96, 3) := by decide +kernel
theorem dX4_drawOfInputs_142 : decode cX4_drawOfInputs 142 = .ok (.iload 4, 2) := by decide +kernel
theorem dX4_drawOfInputs_144 : decode cX4_drawOfInputs 144 = .ok (.iload 5, 2) := by decide +kernel
theorem dX4_drawOfInputs_146 : decode cX4_drawOfInputs 146 = .ok (.isub, 1) := by decide +kernel
theorem dX4_drawOfInputs_147 : decode cX4_drawOfInputs 147 = .ok (.istore 4, 2) := by decide +kernel
theorem dX4_drawOfInputs_149 : decode cX4_drawOfInputs 149 = .ok (.goto 86, 3) := by decide +kernel
theorem dX4_drawOfInputs_152 : decode cX4_drawOfInputs 152 = .ok (.iload 4, 2) := by decide +kernel
theorem dX4_drawOfInputs_154 : decode cX4_drawOfInputs 154 = .ok (.iload 5, 2) := by decide +kernel
theorem dX4_drawOfInputs_156 : decode cX4_drawOfInputs 156 = .ok (.imul, 1) := by decide +kernel
theorem dX4_drawOfInputs_157 : decode cX4_drawOfInputs 157 = .ok (.istore 4, 2) := by decide +kernel
theorem dX4_drawOfInputs_159 : decode cX4_drawOfInputs 159 = .ok (.goto 76, 3) := by decide +kernel
theorem dX4_drawOfInputs_162 : decode cX4_drawOfInputs 162 = .ok (.iload 5, 2) := by decide +kernel
theorem dX4_drawOfInputs_164 : decode cX4_drawOfInputs 164 = .ok (.ifCond .ne 7, 3) := by decide +kernel
theorem dX4_drawOfInputs_167 : decode cX4_drawOfInputs 167 = .ok (.iconst 0, 1) := by decide +kernel
theorem dX4_drawOfInputs_168 : decode cX4_drawOfInputs 168 = .ok (.goto 8, 3) := by decide +kernel
theorem dX4_drawOfInputs_171 : decode cX4_drawOfInputs 171 = .ok (.iload 4, 2) := by decide +kernel
theorem dX4_drawOfInputs_173 : decode cX4_drawOfInputs 173 = .ok (.iload 5, 2) := by decide +kernel
theorem dX4_drawOfInputs_175 : decode cX4_drawOfInputs 175 = .ok (.idiv, 1) := by decide +kernel
theorem dX4_drawOfInputs_176 : decode cX4_drawOfInputs 176 = .ok (.istore 4, 2) := by decide +kernel
theorem dX4_drawOfInputs_178 : decode cX4_drawOfInputs 178 = .ok (.goto 57, 3) := by decide +kernel
theorem dX4_drawOfInputs_181 : decode cX4_drawOfInputs 181 = .ok (.iload 5, 2) := by decide +kernel
theorem dX4_drawOfInputs_183 : decode cX4_drawOfInputs 183 = .ok (.ifCond .ne 7, 3) := by decide +kernel
theorem dX4_drawOfInputs_186 : decode cX4_drawOfInputs 186 = .ok (.iconst 0, 1) := by decide +kernel
theorem dX4_drawOfInputs_187 : decode cX4_drawOfInputs 187 = .ok (.goto 8, 3) := by decide +kernel
theorem dX4_drawOfInputs_190 : decode cX4_drawOfInputs 190 = .ok (.iload 4, 2) := by decide +kernel
theorem dX4_drawOfInputs_192 : decode cX4_drawOfInputs 192 = .ok (.iload 5, 2) := by decide +kernel
theorem dX4_drawOfInputs_194 : decode cX4_drawOfInputs 194 = .ok (.irem, 1) := by decide +kernel
theorem dX4_drawOfInputs_195 : decode cX4_drawOfInputs 195 = .ok (.istore 4, 2) := by decide +kernel
theorem dX4_drawOfInputs_197 : decode cX4_drawOfInputs 197 = .ok (.goto 38, 3) := by decide +kernel
theorem dX4_drawOfInputs_200 : decode cX4_drawOfInputs 200 = .ok (.iload 4, 2) := by decide +kernel
theorem dX4_drawOfInputs_202 : decode cX4_drawOfInputs 202 = .ok (.iload 5, 2) := by decide +kernel
theorem dX4_drawOfInputs_204 : decode cX4_drawOfInputs 204 = .ok (.if_icmp .ge 8, 3) := by decide +kernel
theorem dX4_drawOfInputs_207 : decode cX4_drawOfInputs 207 = .ok (.iload 4, 2) := by decide +kernel
theorem dX4_drawOfInputs_209 : decode cX4_drawOfInputs 209 = .ok (.goto 5, 3) := by decide +kernel
theorem dX4_drawOfInputs_212 : decode cX4_drawOfInputs 212 = .ok (.iload 5, 2) := by decide +kernel
theorem dX4_drawOfInputs_214 : decode cX4_drawOfInputs 214 = .ok (.istore 4, 2) := by decide +kernel
theorem dX4_drawOfInputs_216 : decode cX4_drawOfInputs 216 = .ok (.goto 19, 3) := by decide +kernel
theorem dX4_drawOfInputs_219 : decode cX4_drawOfInputs 219 = .ok (.iload 4, 2) := by decide +kernel
theorem dX4_drawOfInputs_221 : decode cX4_drawOfInputs 221 = .ok (.iload 5, 2) := by decide +kernel
theorem dX4_drawOfInputs_223 : decode cX4_drawOfInputs 223 = .ok (.if_icmp .le 8, 3) := by decide +kernel
theorem dX4_drawOfInputs_226 : decode cX4_drawOfInputs 226 = .ok (.iload 4, 2) := by decide +kernel
theorem dX4_drawOfInputs_228 : decode cX4_drawOfInputs 228 = .ok (.goto 5, 3) := by decide +kernel
theorem dX4_drawOfInputs_231 : decode cX4_drawOfInputs 231 = .ok (.iload 5, 2) := by decide +kernel
theorem dX4_drawOfInputs_233 : decode cX4_drawOfInputs 233 = .ok (.istore 4, 2) := by decide +kernel
theorem dX4_drawOfInputs_235 : decode cX4_drawOfInputs 235 = .ok (.aload_n 0, 1) := by decide +kernel
theorem dX4_drawOfInputs_236 : decode cX4_drawOfInputs 236 = .ok (.getfield 18, 3) := by decide +kernel
theorem dX4_drawOfInputs_239 : decode cX4_drawOfInputs 239 = .ok (.iload_n 1, 1) := by decide +kernel
theorem dX4_drawOfInputs_240 : decode cX4_drawOfInputs 240 = .ok (.iconst 1, 1) := by decide +kernel
theorem dX4_drawOfInputs_241 : decode cX4_drawOfInputs 241 = .ok (.isub, 1) := by decide +kernel
theorem dX4_drawOfInputs_242 : decode cX4_drawOfInputs 242 = .ok (.iload 4, 2) := by decide +kernel
theorem dX4_drawOfInputs_244 : decode cX4_drawOfInputs 244 = .ok (.iastore, 1) := by decide +kernel
theorem dX4_drawOfInputs_245 : decode cX4_drawOfInputs 245 = .ok (.iinc 2 1, 3) := by decide +kernel
theorem dX4_drawOfInputs_248 : decode cX4_drawOfInputs 248 = .ok (.goto (-244), 3) := by decide +kernel
theorem dX4_drawOfInputs_251 : decode cX4_drawOfInputs 251 = .ok (.aload_n 0, 1) := by decide +kernel
theorem dX4_drawOfInputs_252 : decode cX4_drawOfInputs 252 = .ok (.getfield 18, 3) := by decide +kernel
theorem dX4_drawOfInputs_255 : decode cX4_drawOfInputs 255 = .ok (.iconst 0, 1) := by decide +kernel
theorem dX4_drawOfInputs_256 : decode cX4_drawOfInputs 256 = .ok (.iaload, 1) := by decide +kernel
theorem dX4_drawOfInputs_257 : decode cX4_drawOfInputs 257 = .ok (.istore_n 2, 1) := by decide +kernel
theorem dX4_drawOfInputs_258 : decode cX4_drawOfInputs 258 = .ok (.iload_n 2, 1) := by decide +kernel
theorem dX4_drawOfInputs_259 : decode cX4_drawOfInputs 259 = .ok (.bipush 99, 2) := by decide +kernel
theorem dX4_drawOfInputs_261 : decode cX4_drawOfInputs 261 = .ok (.if_icmp .le 8, 3) := by decide +kernel
theorem dX4_drawOfInputs_264 : decode cX4_drawOfInputs 264 = .ok (.bipush 99, 2) := by decide +kernel
theorem dX4_drawOfInputs_266 : decode cX4_drawOfInputs 266 = .ok (.goto 15, 3) := by decide +kernel
theorem dX4_drawOfInputs_269 : decode cX4_drawOfInputs 269 = .ok (.iload_n 2, 1) := by decide +kernel
theorem dX4_drawOfInputs_270 : decode cX4_drawOfInputs 270 = .ok (.bipush (-99), 2) := by decide +kernel
theorem dX4_drawOfInputs_272 : decode cX4_drawOfInputs 272 = .ok (.if_icmp .ge 8, 3) := by decide +kernel
theorem dX4_drawOfInputs_275 : decode cX4_drawOfInputs 275 = .ok (.bipush (-99), 2) := by decide +kernel
theorem dX4_drawOfInputs_277 : decode cX4_drawOfInputs 277 = .ok (.goto 4, 3) := by decide +kernel
theorem dX4_drawOfInputs_280 : decode cX4_drawOfInputs 280 = .ok (.iload_n 2, 1) := by decide +kernel
theorem dX4_drawOfInputs_281 : decode cX4_drawOfInputs 281 = .ok (.ireturn, 1) := by decide +kernel
theorem dX4_put_0 : decode cX4_put 0 = .ok (.aload_n 0, 1) := by decide +kernel
theorem dX4_put_1 : decode cX4_put 1 = .ok (.getfield 27, 3) := by decide +kernel
theorem dX4_put_4 : decode cX4_put 4 = .ok (.aload_n 0, 1) := by decide +kernel
theorem dX4_put_5 : decode cX4_put 5 = .ok (.getfield 15, 3) := by decide +kernel
theorem dX4_put_8 : decode cX4_put 8 = .ok (.arraylength, 1) := by decide +kernel
theorem dX4_put_9 : decode cX4_put 9 = .ok (.if_icmp .ge 23, 3) := by decide +kernel
theorem dX4_put_12 : decode cX4_put 12 = .ok (.aload_n 0, 1) := by decide +kernel
theorem dX4_put_13 : decode cX4_put 13 = .ok (.getfield 15, 3) := by decide +kernel
theorem dX4_put_16 : decode cX4_put 16 = .ok (.aload_n 0, 1) := by decide +kernel
theorem dX4_put_17 : decode cX4_put 17 = .ok (.getfield 27, 3) := by decide +kernel
theorem dX4_put_20 : decode cX4_put 20 = .ok (.iload_n 1, 1) := by decide +kernel
theorem dX4_put_21 : decode cX4_put 21 = .ok (.iastore, 1) := by decide +kernel
theorem dX4_put_22 : decode cX4_put 22 = .ok (.aload_n 0, 1) := by decide +kernel
theorem dX4_put_23 : decode cX4_put 23 = .ok (.dup, 1) := by decide +kernel
theorem dX4_put_24 : decode cX4_put 24 = .ok (.getfield 27, 3) := by decide +kernel
theorem dX4_put_27 : decode cX4_put 27 = .ok (.iconst 1, 1) := by decide +kernel
theorem dX4_put_28 : decode cX4_put 28 = .ok (.iadd, 1) := by decide +kernel
theorem dX4_put_29 : decode cX4_put 29 = .ok (.putfield 27, 3) := by decide +kernel
theorem dX4_put_32 : decode cX4_put 32 = .ok (.return_, 1) := by decide +kernel
theorem dX4_clear_0 : decode cX4_clear 0 = .ok (.aload_n 0, 1) := by decide +kernel
theorem dX4_clear_1 : decode cX4_clear 1 = .ok (.getstatic 24, 3) := by decide +kernel
theorem dX4_clear_4 : decode cX4_clear 4 = .ok (.arraylength, 1) := by decide +kernel
theorem dX4_clear_5 : decode cX4_clear 5 = .ok (.putfield 27, 3) := by decide +kernel
theorem dX4_clear_8 : decode cX4_clear 8 = .ok (.getstatic 24, 3) := by decide +kernel
theorem dX4_clear_11 : decode cX4_clear 11 = .ok (.iconst 0, 1) := by decide +kernel
theorem dX4_clear_12 : decode cX4_clear 12 = .ok (.aload_n 0, 1) := by decide +kernel
theorem dX4_clear_13 : decode cX4_clear 13 = .ok (.getfield 15, 3) := by decide +kernel
theorem dX4_clear_16 : decode cX4_clear 16 = .ok (.iconst 0, 1) := by decide +kernel
theorem dX4_clear_17 : decode cX4_clear 17 = .ok (.aload_n 0, 1) := by decide +kernel
theorem dX4_clear_18 : decode cX4_clear 18 = .ok (.getfield 27, 3) := by decide +kernel
theorem dX4_clear_21 : decode cX4_clear 21 = .ok (.invokestatic 31, 3) := by decide +kernel
theorem dX4_clear_24 : decode cX4_clear 24 = .ok (.return_, 1) := by decide +kernel
theorem dX4_copyFrom_0 : decode cX4_copyFrom 0 = .ok (.aload_n 0, 1) := by decide +kernel
theorem dX4_copyFrom_1 : decode cX4_copyFrom 1 = .ok (.aload_n 1, 1) := by decide +kernel
theorem dX4_copyFrom_2 : decode cX4_copyFrom 2 = .ok (.getfield 27, 3) := by decide +kernel
theorem dX4_copyFrom_5 : decode cX4_copyFrom 5 = .ok (.putfield 27, 3) := by decide +kernel
theorem dX4_copyFrom_8 : decode cX4_copyFrom 8 = .ok (.aload_n 1, 1) := by decide +kernel
theorem dX4_copyFrom_9 : decode cX4_copyFrom 9 = .ok (.getfield 15, 3) := by decide +kernel
theorem dX4_copyFrom_12 : decode cX4_copyFrom 12 = .ok (.iconst 0, 1) := by decide +kernel
theorem dX4_copyFrom_13 : decode cX4_copyFrom 13 = .ok (.aload_n 0, 1) := by decide +kernel
theorem dX4_copyFrom_14 : decode cX4_copyFrom 14 = .ok (.getfield 15, 3) := by decide +kernel
theorem dX4_copyFrom_17 : decode cX4_copyFrom 17 = .ok (.iconst 0, 1) := by decide +kernel
theorem dX4_copyFrom_18 : decode cX4_copyFrom 18 = .ok (.aload_n 0, 1) := by decide +kernel
theorem dX4_copyFrom_19 : decode cX4_copyFrom 19 = .ok (.getfield 27, 3) := by decide +kernel
theorem dX4_copyFrom_22 : decode cX4_copyFrom 22 = .ok (.invokestatic 31, 3) := by decide +kernel
theorem dX4_copyFrom_25 : decode cX4_copyFrom 25 = .ok (.return_, 1) := by decide +kernel
theorem dX6_dig_0 : decode cX6_dig 0 = .ok (.aload_n 0, 1) := by decide +kernel
theorem dX6_dig_1 : decode cX6_dig 1 = .ok (.getfield 15, 3) := by decide +kernel
theorem dX6_dig_4 : decode cX6_dig 4 = .ok (.iload_n 2, 1) := by decide +kernel
theorem dX6_dig_5 : decode cX6_dig 5 = .ok (.iload_n 3, 1) := by decide +kernel
theorem dX6_dig_6 : decode cX6_dig 6 = .ok (.invokevirtual 39, 3) := by decide +kernel
theorem dX6_dig_9 : decode cX6_dig 9 = .ok (.istore 4, 2) := by decide +kernel
theorem dX6_dig_11 : decode cX6_dig 11 = .ok (.iload 4, 2) := by decide +kernel
theorem dX6_dig_13 : decode cX6_dig 13 = .ok (.iconst (-1), 1) := by decide +kernel
theorem dX6_dig_14 : decode cX6_dig 14 = .ok (.if_icmp .eq 15, 3) := by decide +kernel
theorem dX6_dig_17 : decode cX6_dig 17 = .ok (.aload_n 1, 1) := by decide +kernel
theorem dX6_dig_18 : decode cX6_dig 18 = .ok (.getfield 52, 3) := by decide +kernel
theorem dX6_dig_21 : decode cX6_dig 21 = .ok (.iload 4, 2) := by decide +kernel
theorem dX6_dig_23 : decode cX6_dig 23 = .ok (.iaload, 1) := by decide +kernel
theorem dX6_dig_24 : decode cX6_dig 24 = .ok (.bipush 9, 2) := by decide +kernel
theorem dX6_dig_26 : decode cX6_dig 26 = .ok (.if_icmp .lt 5, 3) := by decide +kernel
theorem dX6_dig_29 : decode cX6_dig 29 = .ok (.iconst 0, 1) := by decide +kernel
theorem dX6_dig_30 : decode cX6_dig 30 = .ok (.ireturn, 1) := by decide +kernel
theorem dX6_dig_31 : decode cX6_dig 31 = .ok (.aload_n 1, 1) := by decide +kernel
theorem dX6_dig_32 : decode cX6_dig 32 = .ok (.getfield 52, 3) := by decide +kernel
theorem dX6_dig_35 : decode cX6_dig 35 = .ok (.iload 4, 2) := by decide +kernel
theorem dX6_dig_37 : decode cX6_dig 37 = .ok (.dup2, 1) := by decide +kernel
theorem dX6_dig_38 : decode cX6_dig 38 = .ok (.iaload, 1) := by decide +kernel
theorem dX6_dig_39 : decode cX6_dig 39 = .ok (.iconst 1, 1) := by decide +kernel
theorem dX6_dig_40 : decode cX6_dig 40 = .ok (.iadd, 1) := by decide +kernel
theorem dX6_dig_41 : decode cX6_dig 41 = .ok (.iastore, 1) := by decide +kernel
theorem dX6_dig_42 : decode cX6_dig 42 = .ok (.iconst 1, 1) := by decide +kernel
theorem dX6_dig_43 : decode cX6_dig 43 = .ok (.ireturn, 1) := by decide +kernel
theorem dX6_draw_0 : decode cX6_draw 0 = .ok (.iconst 0, 1) := by decide +kernel
theorem dX6_draw_1 : decode cX6_draw 1 = .ok (.istore 4, 2) := by decide +kernel
theorem dX6_draw_3 : decode cX6_draw 3 = .ok (.iconst 0, 1) := by decide +kernel
theorem dX6_draw_4 : decode cX6_draw 4 = .ok (.istore 5, 2) := by decide +kernel
theorem dX6_draw_6 : decode cX6_draw 6 = .ok (.iconst 0, 1) := by decide +kernel
theorem dX6_draw_7 : decode cX6_draw 7 = .ok (.istore 6, 2) := by decide +kernel
theorem dX6_draw_9 : decode cX6_draw 9 = .ok (.iconst 0, 1) := by decide +kernel
theorem dX6_draw_10 : decode cX6_draw 10 = .ok (.istore 7, 2) := by decide +kernel
theorem dX6_draw_12 : decode cX6_draw 12 = .ok (.iload 7, 2) := by decide +kernel
theorem dX6_draw_14 : decode cX6_draw 14 = .ok (.aload_n 1, 1) := by decide +kernel
theorem dX6_draw_15 : decode cX6_draw 15 = .ok (.getfield 23, 3) := by decide +kernel
theorem dX6_draw_18 : decode cX6_draw 18 = .ok (.if_icmp .ge 82, 3) := by decide +kernel
theorem dX6_draw_21 : decode cX6_draw 21 = .ok (.aload_n 1, 1) := by decide +kernel
theorem dX6_draw_22 : decode cX6_draw 22 = .ok (.iload 7, 2) := by decide +kernel
theorem dX6_draw_24 : decode cX6_draw 24 = .ok (.iload_n 2, 1) := by decide +kernel
theorem dX6_draw_25 : decode cX6_draw 25 = .ok (.invokevirtual 29, 3) := by decide +kernel
theorem dX6_draw_28 : decode cX6_draw 28 = .ok (.istore 8, 2) := by decide +kernel
theorem dX6_draw_30 : decode cX6_draw 30 = .ok (.iload 8, 2) := by decide +kernel
theorem dX6_draw_32 : decode cX6_draw 32 = .ok (.iload_n 3, 1) := by decide +kernel
theorem dX6_draw_33 : decode cX6_draw 33 = .ok (.if_icmp .ne 18, 3) := by decide +kernel
theorem dX6_draw_36 : decode cX6_draw 36 = .ok (.iload 4, 2) := by decide +kernel
theorem dX6_draw_38 : decode cX6_draw 38 = .ok (.aload_n 1, 1) := by decide +kernel
theorem dX6_draw_39 : decode cX6_draw 39 = .ok (.getfield 33, 3) := by decide +kernel
theorem dX6_draw_42 : decode cX6_draw 42 = .ok (.iload 7, 2) := by decide +kernel
theorem dX6_draw_44 : decode cX6_draw 44 = .ok (.iaload, 1) := by decide +kernel
theorem dX6_draw_45 : decode cX6_draw 45 = .ok (.iadd, 1) := by decide +kernel
theorem dX6_draw_46 : decode cX6_draw 46 = .ok (.istore 4, 2) := by decide +kernel
theorem dX6_draw_48 : decode cX6_draw 48 = .ok (.goto 21, 3) := by decide +kernel
theorem dX6_draw_51 : decode cX6_draw 51 = .ok (.iload 8, 2) := by decide +kernel
theorem dX6_draw_53 : decode cX6_draw 53 = .ok (.iconst (-1), 1) := by decide +kernel
theorem dX6_draw_54 : decode cX6_draw 54 = .ok (.if_icmp .eq 15, 3) := by decide +kernel
theorem dX6_draw_57 : decode cX6_draw 57 = .ok (.iload 5, 2) := by decide +kernel
theorem dX6_draw_59 : decode cX6_draw 59 = .ok (.aload_n 1, 1) := by decide +kernel
theorem dX6_draw_60 : decode cX6_draw 60 = .ok (.getfield 33, 3) := by decide +kernel
theorem dX6_draw_63 : decode cX6_draw 63 = .ok (.iload 7, 2) := by decide +kernel
theorem dX6_draw_65 : decode cX6_draw 65 = .ok (.iaload, 1) := by decide +kernel
theorem dX6_draw_66 : decode cX6_draw 66 = .ok (.iadd, 1) := by decide +kernel
theorem dX6_draw_67 : decode cX6_draw 67 = .ok (.istore 5, 2) := by decide +kernel
theorem dX6_draw_69 : decode cX6_draw 69 = .ok (.aload_n 1, 1) := by decide +kernel
theorem dX6_draw_70 : decode cX6_draw 70 = .ok (.getfield 36, 3) := by decide +kernel
theorem dX6_draw_73 : decode cX6_draw 73 = .ok (.iload 7, 2) := by decide +kernel
theorem dX6_draw_75 : decode cX6_draw 75 = .ok (.iaload, 1) := by decide +kernel
theorem dX6_draw_76 : decode cX6_draw 76 = .ok (.iload_n 2, 1) := by decide +kernel
theorem dX6_draw_77 : decode cX6_draw 77 = .ok (.if_icmp .eq 14, 3) := by decide +kernel
theorem dX6_draw_80 : decode cX6_draw 80 = .ok (.aload_n 1, 1) := by decide +kernel
theorem dX6_draw_81 : decode cX6_draw 81 = .ok (.getfield 36, 3) := by decide +kernel
theorem dX6_draw_84 : decode cX6_draw 84 = .ok (.iload 7, 2) := by decide +kernel
theorem dX6_draw_86 : decode cX6_draw 86 = .ok (.iaload, 1) := by decide +kernel
theorem dX6_draw_87 : decode cX6_draw 87 = .ok (.iload_n 3, 1) := by decide +kernel
theorem dX6_draw_88 : decode cX6_draw 88 = .ok (.if_icmp .ne 6, 3) := by decide +kernel
theorem dX6_draw_91 : decode cX6_draw 91 = .ok (.iinc 6 1, 3) := by decide +kernel
theorem dX6_draw_94 : decode cX6_draw 94 = .ok (.iinc 7 1, 3) := by decide +kernel
theorem dX6_draw_97 : decode cX6_draw 97 = .ok (.goto (-85), 3) := by decide +kernel
theorem dX6_draw_100 : decode cX6_draw 100 = .ok (.aload_n 0, 1) := by decide +kernel
theorem dX6_draw_101 : decode cX6_draw 101 = .ok (.getfield 15, 3) := by decide +kernel
theorem dX6_draw_104 : decode cX6_draw 104 = .ok (.iload_n 2, 1) := by decide +kernel
theorem dX6_draw_105 : decode cX6_draw 105 = .ok (.iload_n 3, 1) := by decide +kernel
theorem dX6_draw_106 : decode cX6_draw 106 = .ok (.invokevirtual 39, 3) := by decide +kernel
theorem dX6_draw_109 : decode cX6_draw 109 = .ok (.istore 7, 2) := by decide +kernel
theorem dX6_draw_111 : decode cX6_draw 111 = .ok (.aload_n 0, 1) := by decide +kernel
theorem dX6_draw_112 : decode cX6_draw 112 = .ok (.getfield 19, 3) := by decide +kernel
theorem dX6_draw_115 : decode cX6_draw 115 = .ok (.getfield 44, 3) := by decide +kernel
theorem dX6_draw_118 : decode cX6_draw 118 = .ok (.astore 8, 2) := by decide +kernel
theorem dX6_draw_120 : decode cX6_draw 120 = .ok (.aload 8, 2) := by decide +kernel
theorem dX6_draw_122 : decode cX6_draw 122 = .ok (.iconst 0, 1) := by decide +kernel
theorem dX6_draw_123 : decode cX6_draw 123 = .ok (.aload_n 0, 1) := by decide +kernel
theorem dX6_draw_124 : decode cX6_draw 124 = .ok (.getfield 15, 3) := by decide +kernel
theorem dX6_draw_127 : decode cX6_draw 127 = .ok (.getfield 49, 3) := by decide +kernel
theorem dX6_draw_130 : decode cX6_draw 130 = .ok (.iload_n 2, 1) := by decide +kernel
theorem dX6_draw_131 : decode cX6_draw 131 = .ok (.iaload, 1) := by decide +kernel
theorem dX6_draw_132 : decode cX6_draw 132 = .ok (.aload_n 0, 1) := by decide +kernel
theorem dX6_draw_133 : decode cX6_draw 133 = .ok (.getfield 15, 3) := by decide +kernel
theorem dX6_draw_136 : decode cX6_draw 136 = .ok (.getfield 49, 3) := by decide +kernel
theorem dX6_draw_139 : decode cX6_draw 139 = .ok (.iload_n 3, 1) := by decide +kernel
theorem dX6_draw_140 : decode cX6_draw 140 = .ok (.iaload, 1) := by decide +kernel
theorem dX6_draw_141 : decode cX6_draw 141 = .ok (.isub, 1) := by decide +kernel
theorem dX6_draw_142 : decode cX6_draw 142 = .ok (.iastore, 1) := by decide +kernel
theorem dX6_draw_143 : decode cX6_draw 143 = .ok (.aload 8, 2) := by decide +kernel
theorem dX6_draw_145 : decode cX6_draw 145 = .ok (.iconst 1, 1) := by decide +kernel
theorem dX6_draw_146 : decode cX6_draw 146 = .ok (.iload 4, 2) := by decide +kernel
theorem dX6_draw_148 : decode cX6_draw 148 = .ok (.iastore, 1) := by decide +kernel
theorem dX6_draw_149 : decode cX6_draw 149 = .ok (.aload 8, 2) := by decide +kernel
theorem dX6_draw_151 : decode cX6_draw 151 = .ok (.iconst 2, 1) := by decide +kernel
theorem dX6_draw_152 : decode cX6_draw 152 = .ok (.iload 5, 2) := by decide +kernel
theorem dX6_draw_154 : decode cX6_draw 154 = .ok (.iastore, 1) := by decide +kernel
theorem dX6_draw_155 : decode cX6_draw 155 = .ok (.aload 8, 2) := by decide +kernel
theorem dX6_draw_157 : decode cX6_draw 157 = .ok (.iconst 3, 1) := by decide +kernel
theorem dX6_draw_158 : decode cX6_draw 158 = .ok (.iload 6, 2) := by decide +kernel
theorem dX6_draw_160 : decode cX6_draw 160 = .ok (.iastore, 1) := by decide +kernel
theorem dX6_draw_161 : decode cX6_draw 161 = .ok (.aload 8, 2) := by decide +kernel
theorem dX6_draw_163 : decode cX6_draw 163 = .ok (.iconst 4, 1) := by decide +kernel
theorem dX6_draw_164 : decode cX6_draw 164 = .ok (.iload 7, 2) := by decide +kernel
theorem dX6_draw_166 : decode cX6_draw 166 = .ok (.iconst (-1), 1) := by decide +kernel
theorem dX6_draw_167 : decode cX6_draw 167 = .ok (.if_icmp .ne 7, 3) := by decide +kernel
theorem dX6_draw_170 : decode cX6_draw 170 = .ok (.iconst 0, 1) := by decide +kernel
theorem dX6_draw_171 : decode cX6_draw 171 = .ok (.goto 10, 3) := by decide +kernel
theorem dX6_draw_174 : decode cX6_draw 174 = .ok (.aload_n 1, 1) := by decide +kernel
theorem dX6_draw_175 : decode cX6_draw 175 = .ok (.getfield 52, 3) := by decide +kernel
theorem dX6_draw_178 : decode cX6_draw 178 = .ok (.iload 7, 2) := by decide +kernel
theorem dX6_draw_180 : decode cX6_draw 180 = .ok (.iaload, 1) := by decide +kernel
theorem dX6_draw_181 : decode cX6_draw 181 = .ok (.iastore, 1) := by decide +kernel
theorem dX6_draw_182 : decode cX6_draw 182 = .ok (.aload 8, 2) := by decide +kernel
theorem dX6_draw_184 : decode cX6_draw 184 = .ok (.iconst 5, 1) := by decide +kernel
theorem dX6_draw_185 : decode cX6_draw 185 = .ok (.iload 7, 2) := by decide +kernel
theorem dX6_draw_187 : decode cX6_draw 187 = .ok (.iconst (-1), 1) := by decide +kernel
theorem dX6_draw_188 : decode cX6_draw 188 = .ok (.if_icmp .ne 7, 3) := by decide +kernel
theorem dX6_draw_191 : decode cX6_draw 191 = .ok (.iconst 0, 1) := by decide +kernel
theorem dX6_draw_192 : decode cX6_draw 192 = .ok (.goto 10, 3) := by decide +kernel
theorem dX6_draw_195 : decode cX6_draw 195 = .ok (.aload_n 1, 1) := by decide +kernel
theorem dX6_draw_196 : decode cX6_draw 196 = .ok (.getfield 55, 3) := by decide +kernel
theorem dX6_draw_199 : decode cX6_draw 199 = .ok (.iload 7, 2) := by decide +kernel
theorem dX6_draw_201 : decode cX6_draw 201 = .ok (.iaload, 1) := by decide +kernel
theorem dX6_draw_202 : decode cX6_draw 202 = .ok (.iastore, 1) := by decide +kernel
theorem dX6_draw_203 : decode cX6_draw 203 = .ok (.aload 8, 2) := by decide +kernel
theorem dX6_draw_205 : decode cX6_draw 205 = .ok (.bipush 6, 2) := by decide +kernel
theorem dX6_draw_207 : decode cX6_draw 207 = .ok (.aload_n 1, 1) := by decide +kernel
theorem dX6_draw_208 : decode cX6_draw 208 = .ok (.getfield 58, 3) := by decide +kernel
theorem dX6_draw_211 : decode cX6_draw 211 = .ok (.iastore, 1) := by decide +kernel
theorem dX6_draw_212 : decode cX6_draw 212 = .ok (.aload 8, 2) := by decide +kernel
theorem dX6_draw_214 : decode cX6_draw 214 = .ok (.bipush 7, 2) := by decide +kernel
theorem dX6_draw_216 : decode cX6_draw 216 = .ok (.iload_n 2, 1) := by decide +kernel
theorem dX6_draw_217 : decode cX6_draw 217 = .ok (.iastore, 1) := by decide +kernel
theorem dX6_draw_218 : decode cX6_draw 218 = .ok (.aload 8, 2) := by decide +kernel
theorem dX6_draw_220 : decode cX6_draw 220 = .ok (.bipush 8, 2) := by decide +kernel
theorem dX6_draw_222 : decode cX6_draw 222 = .ok (.iload_n 3, 1) := by decide +kernel
theorem dX6_draw_223 : decode cX6_draw 223 = .ok (.iastore, 1) := by decide +kernel
theorem dX6_draw_224 : decode cX6_draw 224 = .ok (.aload_n 0, 1) := by decide +kernel
theorem dX6_draw_225 : decode cX6_draw 225 = .ok (.getfield 19, 3) := by decide +kernel
theorem dX6_draw_228 : decode cX6_draw 228 = .ok (.invokevirtual 61, 3) := by decide +kernel
theorem dX6_draw_231 : decode cX6_draw 231 = .ok (.ireturn, 1) := by decide +kernel
theorem dX6_end_0 : decode cX6_end 0 = .ok (.aload_n 0, 1) := by decide +kernel
theorem dX6_end_1 : decode cX6_end 1 = .ok (.getfield 75, 3) := by decide +kernel
theorem dX6_end_4 : decode cX6_end 4 = .ok (.ifCond .ne 7, 3) := by decide +kernel
theorem dX6_end_7 : decode cX6_end 7 = .ok (.iconst (-1), 1) := by decide +kernel
theorem dX6_end_8 : decode cX6_end 8 = .ok (.goto 14, 3) := by decide +kernel
theorem dX6_end_11 : decode cX6_end 11 = .ok (.aload_n 0, 1) := by decide +kernel
theorem dX6_end_12 : decode cX6_end 12 = .ok (.getfield 9, 3) := by decide +kernel
theorem dX6_end_15 : decode cX6_end 15 = .ok (.aload_n 0, 1) := by decide +kernel
theorem dX6_end_16 : decode cX6_end 16 = .ok (.getfield 75, 3) := by decide +kernel
theorem dX6_end_19 : decode cX6_end 19 = .ok (.iconst 1, 1) := by decide +kernel
theorem dX6_end_20 : decode cX6_end 20 = .ok (.isub, 1) := by decide +kernel
theorem dX6_end_21 : decode cX6_end 21 = .ok (.iaload, 1) := by decide +kernel
theorem dX6_end_22 : decode cX6_end 22 = .ok (.ireturn, 1) := by decide +kernel
theorem dX6_flowOneDay_0 : decode cX6_flowOneDay 0 = .ok (.iconst 0, 1) := by decide +kernel
theorem dX6_flowOneDay_1 : decode cX6_flowOneDay 1 = .ok (.istore_n 2, 1) := by decide +kernel
theorem dX6_flowOneDay_2 : decode cX6_flowOneDay 2 = .ok (.iload_n 2, 1) := by decide +kernel
theorem dX6_flowOneDay_3 : decode cX6_flowOneDay 3 = .ok (.iconst 1, 1) := by decide +kernel
theorem dX6_flowOneDay_4 : decode cX6_flowOneDay 4 = .ok (.iadd, 1) := by decide +kernel
theorem dX6_flowOneDay_5 : decode cX6_flowOneDay 5 = .ok (.aload_n 0, 1) := by decide +kernel
theorem dX6_flowOneDay_6 : decode cX6_flowOneDay 6 = .ok (.getfield 75, 3) := by decide +kernel
theorem dX6_flowOneDay_9 : decode cX6_flowOneDay 9 = .ok (.if_icmp .ge 94, 3) := by decide +kernel
theorem dX6_flowOneDay_12 : decode cX6_flowOneDay 12 = .ok (.aload_n 0, 1) := by decide +kernel
theorem dX6_flowOneDay_13 : decode cX6_flowOneDay 13 = .ok (.getfield 9, 3) := by decide +kernel
theorem dX6_flowOneDay_16 : decode cX6_flowOneDay 16 = .ok (.iload_n 2, 1) := by decide +kernel
theorem dX6_flowOneDay_17 : decode cX6_flowOneDay 17 = .ok (.iaload, 1) := by decide +kernel
theorem dX6_flowOneDay_18 : decode cX6_flowOneDay 18 = .ok (.istore_n 3, 1) := by decide +kernel
theorem dX6_flowOneDay_19 : decode cX6_flowOneDay 19 = .ok (.aload_n 0, 1) := by decide +kernel
theorem dX6_flowOneDay_20 : decode cX6_flowOneDay 20 = .ok (.getfield 9, 3) := by decide +kernel
theorem dX6_flowOneDay_23 : decode cX6_flowOneDay 23 = .ok (.iload_n 2, 1) := by decide +kernel
theorem dX6_flowOneDay_24 : decode cX6_flowOneDay 24 = .ok (.iconst 1, 1) := by decide +kernel
theorem dX6_flowOneDay_25 : decode cX6_flowOneDay 25 = .ok (.iadd, 1) := by decide +kernel
theorem dX6_flowOneDay_26 : decode cX6_flowOneDay 26 = .ok (.iaload, 1) := by decide +kernel
theorem dX6_flowOneDay_27 : decode cX6_flowOneDay 27 = .ok (.istore 4, 2) := by decide +kernel
theorem dX6_flowOneDay_29 : decode cX6_flowOneDay 29 = .ok (.aload_n 0, 1) := by decide +kernel
theorem dX6_flowOneDay_30 : decode cX6_flowOneDay 30 = .ok (.getfield 15, 3) := by decide +kernel
theorem dX6_flowOneDay_33 : decode cX6_flowOneDay 33 = .ok (.iload_n 3, 1) := by decide +kernel
theorem dX6_flowOneDay_34 : decode cX6_flowOneDay 34 = .ok (.iload 4, 2) := by decide +kernel
theorem dX6_flowOneDay_36 : decode cX6_flowOneDay 36 = .ok (.invokevirtual 39, 3) := by decide +kernel
theorem dX6_flowOneDay_39 : decode cX6_flowOneDay 39 = .ok (.istore 5, 2) := by decide +kernel
theorem dX6_flowOneDay_41 : decode cX6_flowOneDay 41 = .ok (.iload 5, 2) := by decide +kernel
theorem dX6_flowOneDay_43 : decode cX6_flowOneDay 43 = .ok (.iconst (-1), 1) := by decide +kernel
theorem dX6_flowOneDay_44 : decode cX6_flowOneDay 44 = .ok (.if_icmp .eq 14, 3) := by decide +kernel
theorem dX6_flowOneDay_47 : decode cX6_flowOneDay 47 = .ok (.aload_n 1, 1) := by decide +kernel
theorem dX6_flowOneDay_48 : decode cX6_flowOneDay 48 = .ok (.getfield 55, 3) := by decide +kernel
theorem dX6_flowOneDay_51 : decode cX6_flowOneDay 51 = .ok (.iload 5, 2) := by decide +kernel
theorem dX6_flowOneDay_53 : decode cX6_flowOneDay 53 = .ok (.dup2, 1) := by decide +kernel
theorem dX6_flowOneDay_54 : decode cX6_flowOneDay 54 = .ok (.iaload, 1) := by decide +kernel
theorem dX6_flowOneDay_55 : decode cX6_flowOneDay 55 = .ok (.iconst 1, 1) := by decide +kernel
theorem dX6_flowOneDay_56 : decode cX6_flowOneDay 56 = .ok (.iadd, 1) := by decide +kernel
theorem dX6_flowOneDay_57 : decode cX6_flowOneDay 57 = .ok (.iastore, 1) := by decide +kernel
theorem dX6_flowOneDay_58 : decode cX6_flowOneDay 58 = .ok (.iconst 0, 1) := by decide +kernel
theorem dX6_flowOneDay_59 : decode cX6_flowOneDay 59 = .ok (.istore 6, 2) := by decide +kernel
theorem dX6_flowOneDay_61 : decode cX6_flowOneDay 61 = .ok (.iload 6, 2) := by decide +kernel
theorem dX6_flowOneDay_63 : decode cX6_flowOneDay 63 = .ok (.aload_n 1, 1) := by decide +kernel
theorem dX6_flowOneDay_64 : decode cX6_flowOneDay 64 = .ok (.getfield 23, 3) := by decide +kernel
theorem dX6_flowOneDay_67 : decode cX6_flowOneDay 67 = .ok (.if_icmp .ge 30, 3) := by decide +kernel
theorem dX6_flowOneDay_70 : decode cX6_flowOneDay 70 = .ok (.aload_n 1, 1) := by decide +kernel
theorem dX6_flowOneDay_71 : decode cX6_flowOneDay 71 = .ok (.getfield 36, 3) := by decide +kernel
theorem dX6_flowOneDay_74 : decode cX6_flowOneDay 74 = .ok (.iload 6, 2) := by decide +kernel
theorem dX6_flowOneDay_76 : decode cX6_flowOneDay 76 = .ok (.iaload, 1) := by decide +kernel
theorem dX6_flowOneDay_77 : decode cX6_flowOneDay 77 = .ok (.iload_n 3, 1) := by decide +kernel
theorem dX6_flowOneDay_78 : decode cX6_flowOneDay 78 = .ok (.if_icmp .ne 13, 3) := by decide +kernel
theorem dX6_flowOneDay_81 : decode cX6_flowOneDay 81 = .ok (.aload_n 1, 1) := by decide +kernel
theorem dX6_flowOneDay_82 : decode cX6_flowOneDay 82 = .ok (.iload 6, 2) := by decide +kernel
theorem dX6_flowOneDay_84 : decode cX6_flowOneDay 84 = .ok (.iload_n 3, 1) := by decide +kernel
theorem dX6_flowOneDay_85 : decode cX6_flowOneDay 85 = .ok (.iload 4, 2) := by decide +kernel
theorem dX6_flowOneDay_87 : decode cX6_flowOneDay 87 = .ok (.invokevirtual 88, 3) := by decide +kernel
theorem dX6_flowOneDay_90 : decode cX6_flowOneDay 90 = .ok (.pop, 1) := by decide +kernel
theorem dX6_flowOneDay_91 : decode cX6_flowOneDay 91 = .ok (.iinc 6 1, 3) := by decide +kernel
theorem dX6_flowOneDay_94 : decode cX6_flowOneDay 94 = .ok (.goto (-33), 3) := by decide +kernel
theorem dX6_flowOneDay_97 : decode cX6_flowOneDay 97 = .ok (.iinc 2 1, 3) := by decide +kernel
theorem dX6_flowOneDay_100 : decode cX6_flowOneDay 100 = .ok (.goto (-98), 3) := by decide +kernel
theorem dX6_flowOneDay_103 : decode cX6_flowOneDay 103 = .ok (.aload_n 1, 1) := by decide +kernel
theorem dX6_flowOneDay_104 : decode cX6_flowOneDay 104 = .ok (.dup, 1) := by decide +kernel
theorem dX6_flowOneDay_105 : decode cX6_flowOneDay 105 = .ok (.getfield 58, 3) := by decide +kernel
theorem dX6_flowOneDay_108 : decode cX6_flowOneDay 108 = .ok (.iconst 1, 1) := by decide +kernel
theorem dX6_flowOneDay_109 : decode cX6_flowOneDay 109 = .ok (.iadd, 1) := by decide +kernel
theorem dX6_flowOneDay_110 : decode cX6_flowOneDay 110 = .ok (.putfield 58, 3) := by decide +kernel
theorem dX6_flowOneDay_113 : decode cX6_flowOneDay 113 = .ok (.return_, 1) := by decide +kernel
theorem dX6_goesOn_0 : decode cX6_goesOn 0 = .ok (.iconst 0, 1) := by decide +kernel
theorem dX6_goesOn_1 : decode cX6_goesOn 1 = .ok (.istore_n 3, 1) := by decide +kernel
theorem dX6_goesOn_2 : decode cX6_goesOn 2 = .ok (.iconst (-1), 1) := by decide +kernel
theorem dX6_goesOn_3 : decode cX6_goesOn 3 = .ok (.istore 4, 2) := by decide +kernel
theorem dX6_goesOn_5 : decode cX6_goesOn 5 = .ok (.iconst 0, 1) := by decide +kernel
theorem dX6_goesOn_6 : decode cX6_goesOn 6 = .ok (.istore 5, 2) := by decide +kernel
theorem dX6_goesOn_8 : decode cX6_goesOn 8 = .ok (.iload 5, 2) := by decide +kernel
theorem dX6_goesOn_10 : decode cX6_goesOn 10 = .ok (.aload_n 0, 1) := by decide +kernel
theorem dX6_goesOn_11 : decode cX6_goesOn 11 = .ok (.getfield 15, 3) := by decide +kernel
theorem dX6_goesOn_14 : decode cX6_goesOn 14 = .ok (.getfield 65, 3) := by decide +kernel
theorem dX6_goesOn_17 : decode cX6_goesOn 17 = .ok (.if_icmp .ge 49, 3) := by decide +kernel
theorem dX6_goesOn_20 : decode cX6_goesOn 20 = .ok (.aload_n 0, 1) := by decide +kernel
theorem dX6_goesOn_21 : decode cX6_goesOn 21 = .ok (.getfield 15, 3) := by decide +kernel
theorem dX6_goesOn_24 : decode cX6_goesOn 24 = .ok (.getfield 68, 3) := by decide +kernel
theorem dX6_goesOn_27 : decode cX6_goesOn 27 = .ok (.iload_n 2, 1) := by decide +kernel
theorem dX6_goesOn_28 : decode cX6_goesOn 28 = .ok (.iaload, 1) := by decide +kernel
theorem dX6_goesOn_29 : decode cX6_goesOn 29 = .ok (.iload 5, 2) := by decide +kernel
theorem dX6_goesOn_31 : decode cX6_goesOn 31 = .ok (.ishr, 1) := by decide +kernel
theorem dX6_goesOn_32 : decode cX6_goesOn 32 = .ok (.iconst 1, 1) := by decide +kernel
theorem dX6_goesOn_33 : decode cX6_goesOn 33 = .ok (.iand, 1) := by decide +kernel
theorem dX6_goesOn_34 : decode cX6_goesOn 34 = .ok (.ifCond .eq 26, 3) := by decide +kernel
theorem dX6_goesOn_37 : decode cX6_goesOn 37 = .ok (.aload_n 0, 1) := by decide +kernel
theorem dX6_goesOn_38 : decode cX6_goesOn 38 = .ok (.aload_n 1, 1) := by decide +kernel
theorem dX6_goesOn_39 : decode cX6_goesOn 39 = .ok (.iload_n 2, 1) := by decide +kernel
theorem dX6_goesOn_40 : decode cX6_goesOn 40 = .ok (.iload 5, 2) := by decide +kernel
theorem dX6_goesOn_42 : decode cX6_goesOn 42 = .ok (.invokevirtual 71, 3) := by decide +kernel
theorem dX6_goesOn_45 : decode cX6_goesOn 45 = .ok (.istore 6, 2) := by decide +kernel
theorem dX6_goesOn_47 : decode cX6_goesOn 47 = .ok (.iload 6, 2) := by decide +kernel
theorem dX6_goesOn_49 : decode cX6_goesOn 49 = .ok (.iload_n 3, 1) := by decide +kernel
theorem dX6_goesOn_50 : decode cX6_goesOn 50 = .ok (.if_icmp .le 10, 3) := by decide +kernel
theorem dX6_goesOn_53 : decode cX6_goesOn 53 = .ok (.iload 6, 2) := by decide +kernel
theorem dX6_goesOn_55 : decode cX6_goesOn 55 = .ok (.istore_n 3, 1) := by decide +kernel
theorem dX6_goesOn_56 : decode cX6_goesOn 56 = .ok (.iload 5, 2) := by decide +kernel
theorem dX6_goesOn_58 : decode cX6_goesOn 58 = .ok (.istore 4, 2) := by decide +kernel
theorem dX6_goesOn_60 : decode cX6_goesOn 60 = .ok (.iinc 5 1, 3) := by decide +kernel
theorem dX6_goesOn_63 : decode cX6_goesOn 63 = .ok (.goto (-55), 3) := by decide +kernel
theorem dX6_goesOn_66 : decode cX6_goesOn 66 = .ok (.iload 4, 2) := by decide +kernel
theorem dX6_goesOn_68 : decode cX6_goesOn 68 = .ok (.ireturn, 1) := by decide +kernel
theorem dX6_key_0 : decode cX6_key 0 = .ok (.lconst 0, 1) := by decide +kernel
theorem dX6_key_1 : decode cX6_key 1 = .ok (.lstore_n 1, 1) := by decide +kernel
theorem dX6_key_2 : decode cX6_key 2 = .ok (.iconst 0, 1) := by decide +kernel
theorem dX6_key_3 : decode cX6_key 3 = .ok (.istore_n 3, 1) := by decide +kernel
theorem dX6_key_4 : decode cX6_key 4 = .ok (.iload_n 3, 1) := by decide +kernel
theorem dX6_key_5 : decode cX6_key 5 = .ok (.aload_n 0, 1) := by decide +kernel
theorem dX6_key_6 : decode cX6_key 6 = .ok (.getfield 75, 3) := by decide +kernel
theorem dX6_key_9 : decode cX6_key 9 = .ok (.if_icmp .ge 23, 3) := by decide +kernel
theorem dX6_key_12 : decode cX6_key 12 = .ok (.lload_n 1, 1) := by decide +kernel
theorem dX6_key_13 : decode cX6_key 13 = .ok (.iconst 4, 1) := by decide +kernel
theorem dX6_key_14 : decode cX6_key 14 = .ok (.lshl, 1) := by decide +kernel
theorem dX6_key_15 : decode cX6_key 15 = .ok (.aload_n 0, 1) := by decide +kernel
theorem dX6_key_16 : decode cX6_key 16 = .ok (.getfield 9, 3) := by decide +kernel
theorem dX6_key_19 : decode cX6_key 19 = .ok (.iload_n 3, 1) := by decide +kernel
theorem dX6_key_20 : decode cX6_key 20 = .ok (.iaload, 1) := by decide +kernel
theorem dX6_key_21 : decode cX6_key 21 = .ok (.iconst 1, 1) := by decide +kernel
theorem dX6_key_22 : decode cX6_key 22 = .ok (.iadd, 1) := by decide +kernel
theorem dX6_key_23 : decode cX6_key 23 = .ok (.i2l, 1) := by decide +kernel
theorem dX6_key_24 : decode cX6_key 24 = .ok (.lor, 1) := by decide +kernel
theorem dX6_key_25 : decode cX6_key 25 = .ok (.lstore_n 1, 1) := by decide +kernel
theorem dX6_key_26 : decode cX6_key 26 = .ok (.iinc 3 1, 3) := by decide +kernel
theorem dX6_key_29 : decode cX6_key 29 = .ok (.goto (-25), 3) := by decide +kernel
theorem dX6_key_32 : decode cX6_key 32 = .ok (.lload_n 1, 1) := by decide +kernel
theorem dX6_key_33 : decode cX6_key 33 = .ok (.lreturn, 1) := by decide +kernel
theorem dX6_rank_0 : decode cX6_rank 0 = .ok (.iconst 0, 1) := by decide +kernel
theorem dX6_rank_1 : decode cX6_rank 1 = .ok (.istore_n 2, 1) := by decide +kernel
theorem dX6_rank_2 : decode cX6_rank 2 = .ok (.iload_n 2, 1) := by decide +kernel
theorem dX6_rank_3 : decode cX6_rank 3 = .ok (.aload_n 0, 1) := by decide +kernel
theorem dX6_rank_4 : decode cX6_rank 4 = .ok (.getfield 75, 3) := by decide +kernel
theorem dX6_rank_7 : decode cX6_rank 7 = .ok (.if_icmp .ge 21, 3) := by decide +kernel
theorem dX6_rank_10 : decode cX6_rank 10 = .ok (.aload_n 0, 1) := by decide +kernel
theorem dX6_rank_11 : decode cX6_rank 11 = .ok (.getfield 9, 3) := by decide +kernel
theorem dX6_rank_14 : decode cX6_rank 14 = .ok (.iload_n 2, 1) := by decide +kernel
theorem dX6_rank_15 : decode cX6_rank 15 = .ok (.iaload, 1) := by decide +kernel
theorem dX6_rank_16 : decode cX6_rank 16 = .ok (.iload_n 1, 1) := by decide +kernel
theorem dX6_rank_17 : decode cX6_rank 17 = .ok (.if_icmp .ne 5, 3) := by decide +kernel
theorem dX6_rank_20 : decode cX6_rank 20 = .ok (.iload_n 2, 1) := by decide +kernel
theorem dX6_rank_21 : decode cX6_rank 21 = .ok (.ireturn, 1) := by decide +kernel
theorem dX6_rank_22 : decode cX6_rank 22 = .ok (.iinc 2 1, 3) := by decide +kernel
theorem dX6_rank_25 : decode cX6_rank 25 = .ok (.goto (-23), 3) := by decide +kernel
theorem dX6_rank_28 : decode cX6_rank 28 = .ok (.iconst (-1), 1) := by decide +kernel
theorem dX6_rank_29 : decode cX6_rank 29 = .ok (.ireturn, 1) := by decide +kernel
theorem dX6_trace_0 : decode cX6_trace 0 = .ok (.aload_n 0, 1) := by decide +kernel
theorem dX6_trace_1 : decode cX6_trace 1 = .ok (.iconst 0, 1) := by decide +kernel
theorem dX6_trace_2 : decode cX6_trace 2 = .ok (.putfield 75, 3) := by decide +kernel
theorem dX6_trace_5 : decode cX6_trace 5 = .ok (.aload_n 0, 1) := by decide +kernel
theorem dX6_trace_6 : decode cX6_trace 6 = .ok (.iconst 0, 1) := by decide +kernel
theorem dX6_trace_7 : decode cX6_trace 7 = .ok (.putfield 78, 3) := by decide +kernel
theorem dX6_trace_10 : decode cX6_trace 10 = .ok (.aload_n 0, 1) := by decide +kernel
theorem dX6_trace_11 : decode cX6_trace 11 = .ok (.getfield 15, 3) := by decide +kernel
theorem dX6_trace_14 : decode cX6_trace 14 = .ok (.getfield 81, 3) := by decide +kernel
theorem dX6_trace_17 : decode cX6_trace 17 = .ok (.istore_n 2, 1) := by decide +kernel
theorem dX6_trace_18 : decode cX6_trace 18 = .ok (.aload_n 0, 1) := by decide +kernel
theorem dX6_trace_19 : decode cX6_trace 19 = .ok (.getfield 75, 3) := by decide +kernel
theorem dX6_trace_22 : decode cX6_trace 22 = .ok (.aload_n 0, 1) := by decide +kernel
theorem dX6_trace_23 : decode cX6_trace 23 = .ok (.getfield 15, 3) := by decide +kernel
theorem dX6_trace_26 : decode cX6_trace 26 = .ok (.getfield 65, 3) := by decide +kernel
theorem dX6_trace_29 : decode cX6_trace 29 = .ok (.if_icmp .ge 64, 3) := by decide +kernel
theorem dX6_trace_32 : decode cX6_trace 32 = .ok (.aload_n 0, 1) := by decide +kernel
theorem dX6_trace_33 : decode cX6_trace 33 = .ok (.getfield 9, 3) := by decide +kernel
theorem dX6_trace_36 : decode cX6_trace 36 = .ok (.aload_n 0, 1) := by decide +kernel
theorem dX6_trace_37 : decode cX6_trace 37 = .ok (.getfield 75, 3) := by decide +kernel
theorem dX6_trace_40 : decode cX6_trace 40 = .ok (.iload_n 2, 1) := by decide +kernel
theorem dX6_trace_41 : decode cX6_trace 41 = .ok (.iastore, 1) := by decide +kernel
theorem dX6_trace_42 : decode cX6_trace 42 = .ok (.aload_n 0, 1) := by decide +kernel
theorem dX6_trace_43 : decode cX6_trace 43 = .ok (.dup, 1) := by decide +kernel
theorem dX6_trace_44 : decode cX6_trace 44 = .ok (.getfield 75, 3) := by decide +kernel
theorem dX6_trace_47 : decode cX6_trace 47 = .ok (.iconst 1, 1) := by decide +kernel
theorem dX6_trace_48 : decode cX6_trace 48 = .ok (.iadd, 1) := by decide +kernel
theorem dX6_trace_49 : decode cX6_trace 49 = .ok (.putfield 75, 3) := by decide +kernel
theorem dX6_trace_52 : decode cX6_trace 52 = .ok (.aload_n 0, 1) := by decide +kernel
theorem dX6_trace_53 : decode cX6_trace 53 = .ok (.dup, 1) := by decide +kernel
theorem dX6_trace_54 : decode cX6_trace 54 = .ok (.getfield 78, 3) := by decide +kernel
theorem dX6_trace_57 : decode cX6_trace 57 = .ok (.iconst 1, 1) := by decide +kernel
theorem dX6_trace_58 : decode cX6_trace 58 = .ok (.iload_n 2, 1) := by decide +kernel
theorem dX6_trace_59 : decode cX6_trace 59 = .ok (.ishl, 1) := by decide +kernel
theorem dX6_trace_60 : decode cX6_trace 60 = .ok (.ior, 1) := by decide +kernel
theorem dX6_trace_61 : decode cX6_trace 61 = .ok (.putfield 78, 3) := by decide +kernel
theorem dX6_trace_64 : decode cX6_trace 64 = .ok (.aload_n 0, 1) := by decide +kernel
theorem dX6_trace_65 : decode cX6_trace 65 = .ok (.aload_n 1, 1) := by decide +kernel
theorem dX6_trace_66 : decode cX6_trace 66 = .ok (.iload_n 2, 1) := by decide +kernel
theorem dX6_trace_67 : decode cX6_trace 67 = .ok (.invokevirtual 84, 3) := by decide +kernel
theorem dX6_trace_70 : decode cX6_trace 70 = .ok (.istore_n 3, 1) := by decide +kernel
theorem dX6_trace_71 : decode cX6_trace 71 = .ok (.iload_n 3, 1) := by decide +kernel
theorem dX6_trace_72 : decode cX6_trace 72 = .ok (.iconst (-1), 1) := by decide +kernel
theorem dX6_trace_73 : decode cX6_trace 73 = .ok (.if_icmp .eq 14, 3) := by decide +kernel
theorem dX6_trace_76 : decode cX6_trace 76 = .ok (.aload_n 0, 1) := by decide +kernel
theorem dX6_trace_77 : decode cX6_trace 77 = .ok (.getfield 78, 3) := by decide +kernel
theorem dX6_trace_80 : decode cX6_trace 80 = .ok (.iload_n 3, 1) := by decide +kernel
theorem dX6_trace_81 : decode cX6_trace 81 = .ok (.ishr, 1) := by decide +kernel
theorem dX6_trace_82 : decode cX6_trace 82 = .ok (.iconst 1, 1) := by decide +kernel
theorem dX6_trace_83 : decode cX6_trace 83 = .ok (.iand, 1) := by decide +kernel
theorem dX6_trace_84 : decode cX6_trace 84 = .ok (.ifCond .eq 4, 3) := by decide +kernel
theorem dX6_trace_87 : decode cX6_trace 87 = .ok (.return_, 1) := by decide +kernel
theorem dX6_trace_88 : decode cX6_trace 88 = .ok (.iload_n 3, 1) := by decide +kernel
theorem dX6_trace_89 : decode cX6_trace 89 = .ok (.istore_n 2, 1) := by decide +kernel
theorem dX6_trace_90 : decode cX6_trace 90 = .ok (.goto (-72), 3) := by decide +kernel
theorem dX6_trace_93 : decode cX6_trace 93 = .ok (.return_, 1) := by decide +kernel
theorem dX6_walk_0 : decode cX6_walk 0 = .ok (.aload_n 0, 1) := by decide +kernel
theorem dX6_walk_1 : decode cX6_walk 1 = .ok (.getfield 15, 3) := by decide +kernel
theorem dX6_walk_4 : decode cX6_walk 4 = .ok (.aload_n 1, 1) := by decide +kernel
theorem dX6_walk_5 : decode cX6_walk 5 = .ok (.getfield 36, 3) := by decide +kernel
theorem dX6_walk_8 : decode cX6_walk 8 = .ok (.iload_n 2, 1) := by decide +kernel
theorem dX6_walk_9 : decode cX6_walk 9 = .ok (.iaload, 1) := by decide +kernel
theorem dX6_walk_10 : decode cX6_walk 10 = .ok (.iload_n 3, 1) := by decide +kernel
theorem dX6_walk_11 : decode cX6_walk 11 = .ok (.invokevirtual 39, 3) := by decide +kernel
theorem dX6_walk_14 : decode cX6_walk 14 = .ok (.iconst (-1), 1) := by decide +kernel
theorem dX6_walk_15 : decode cX6_walk 15 = .ok (.if_icmp .ne 5, 3) := by decide +kernel
theorem dX6_walk_18 : decode cX6_walk 18 = .ok (.iconst 0, 1) := by decide +kernel
theorem dX6_walk_19 : decode cX6_walk 19 = .ok (.ireturn, 1) := by decide +kernel
theorem dX6_walk_20 : decode cX6_walk 20 = .ok (.aload_n 1, 1) := by decide +kernel
theorem dX6_walk_21 : decode cX6_walk 21 = .ok (.getfield 36, 3) := by decide +kernel
theorem dX6_walk_24 : decode cX6_walk 24 = .ok (.iload_n 2, 1) := by decide +kernel
theorem dX6_walk_25 : decode cX6_walk 25 = .ok (.iload_n 3, 1) := by decide +kernel
theorem dX6_walk_26 : decode cX6_walk 26 = .ok (.iastore, 1) := by decide +kernel
theorem dX6_walk_27 : decode cX6_walk 27 = .ok (.iconst 1, 1) := by decide +kernel
theorem dX6_walk_28 : decode cX6_walk 28 = .ok (.ireturn, 1) := by decide +kernel
noncomputable def r_X4_drawOfInputs_j245_c4 (i0 : Nat) (x1 : Int32) (x2 : Int32) (m : Mem) : Option ((Int32 × Int32 × Mem) ⊕ (Mem)) :=
  some (Sum.inl (x1, x2 + 1, m))
set_option maxHeartbeats 4000000 in
set_option maxRecDepth 20000 in
theorem ok_X4_drawOfInputs_j245_c4 (i0 : Nat) (x1 : Int32) (x2 : Int32) (m : Mem) {r : (Int32 × Int32 × Mem) ⊕ (Mem)} (h : r_X4_drawOfInputs_j245_c4 i0 x1 x2 m = some r) {o : Ou} {M' : Mem} (kb : ∀ (x1' : Int32) (x2' : Int32) (m'' : Mem), r = Sum.inl (x1', x2', m'') → Xj RX4 cX4_drawOfInputs 6 (some .int) 1 0 0 0 0 0 4 [(0, vR 4 i0), (1, vI x1'), (2, vI x2')] [] m'' o M') (ke : ∀ (m'' : Mem), r = Sum.inr m'' → Xj RX4 cX4_drawOfInputs 6 (some .int) 1 0 0 0 0 0 251 [(0, vR 4 i0)] [] m'' o M') : Xj RX4 cX4_drawOfInputs 6 (some .int) 1 0 0 0 0 0 245 [(0, vR 4 i0), (1, vI x1), (2, vI x2)] [] m o M' := by
  unfold r_X4_drawOfInputs_j245_c4 at h
  refine xj_iinc (z := x2 + 1) (ls' := [(2, vI (x2 + 1)), (0, vR 4 i0), (1, vI x1)]) 2 dX4_drawOfInputs_245 rfl rfl (by decide) rfl ?_
  refine xj_goto (tgt := 4) dX4_drawOfInputs_248 (by decide) ?_
  cases h
  refine xj_pick (ls' := [(0, vR 4 i0), (1, vI x1), (2, vI (x2 + 1))]) [1, 2, 0] rfl ?_
  exact kb x1 (x2 + 1) m rfl
noncomputable def r_X4_drawOfInputs_j235_c4 (i0 : Nat) (x1 : Int32) (x2 : Int32) (x4 : Int32) (m : Mem) : Option ((Int32 × Int32 × Mem) ⊕ (Mem)) :=
  if inb (x1 - 1) 150 = true then (r_X4_drawOfInputs_j245_c4 i0 x1 x2 (wr m 35 i0 ((x1 - 1).toNatClampNeg) x4)) else none
set_option maxHeartbeats 4000000 in
set_option maxRecDepth 20000 in
theorem ok_X4_drawOfInputs_j235_c4 (i0 : Nat) (x1 : Int32) (x2 : Int32) (x4 : Int32) (m : Mem) {r : (Int32 × Int32 × Mem) ⊕ (Mem)} (h : r_X4_drawOfInputs_j235_c4 i0 x1 x2 x4 m = some r) {o : Ou} {M' : Mem} (kb : ∀ (x1' : Int32) (x2' : Int32) (m'' : Mem), r = Sum.inl (x1', x2', m'') → Xj RX4 cX4_drawOfInputs 6 (some .int) 1 0 0 0 0 0 4 [(0, vR 4 i0), (1, vI x1'), (2, vI x2')] [] m'' o M') (ke : ∀ (m'' : Mem), r = Sum.inr m'' → Xj RX4 cX4_drawOfInputs 6 (some .int) 1 0 0 0 0 0 251 [(0, vR 4 i0)] [] m'' o M') : Xj RX4 cX4_drawOfInputs 6 (some .int) 1 0 0 0 0 0 235 [(0, vR 4 i0), (1, vI x1), (2, vI x2), (4, vI x4)] [] m o M' := by
  unfold r_X4_drawOfInputs_j235_c4 at h
  refine xj_aload_n 0 dX4_drawOfInputs_235 rfl ?_
  refine xg_getR (k' := 35) (i' := i0) dX4_drawOfInputs_236 fl_X4_18 rfl ?_
  refine xj_iload_n 1 dX4_drawOfInputs_239 rfl ?_
  refine xj_iconst (z := 1) dX4_drawOfInputs_240 (by decide) ?_
  refine xj_isub dX4_drawOfInputs_241 ?_
  refine xj_iload 3 dX4_drawOfInputs_242 rfl ?_
  by_cases c8 : inb (x1 - 1) 150 = true
  case neg => rw [if_neg c8] at h; cases h
  rw [if_pos c8] at h
  refine xg_iast (n := (x1 - 1).toNatClampNeg) dX4_drawOfInputs_244 rfl (by decide) (inb_in c8) rfl ?_
  refine xj_pick (ls' := [(0, vR 4 i0), (1, vI x1), (2, vI x2)]) [0, 1, 2] rfl ?_
  exact ok_X4_drawOfInputs_j245_c4 i0 x1 x2 (wr m 35 i0 ((x1 - 1).toNatClampNeg) x4) h kb ke
noncomputable def r_X4_drawOfInputs_j176_c4 (i0 : Nat) (x1 : Int32) (x2 : Int32) (s0 : Int32) (m : Mem) : Option ((Int32 × Int32 × Mem) ⊕ (Mem)) :=
  r_X4_drawOfInputs_j235_c4 i0 x1 x2 s0 m
set_option maxHeartbeats 4000000 in
set_option maxRecDepth 20000 in
theorem ok_X4_drawOfInputs_j176_c4 (i0 : Nat) (x1 : Int32) (x2 : Int32) (s0 : Int32) (m : Mem) {r : (Int32 × Int32 × Mem) ⊕ (Mem)} (h : r_X4_drawOfInputs_j176_c4 i0 x1 x2 s0 m = some r) {o : Ou} {M' : Mem} (kb : ∀ (x1' : Int32) (x2' : Int32) (m'' : Mem), r = Sum.inl (x1', x2', m'') → Xj RX4 cX4_drawOfInputs 6 (some .int) 1 0 0 0 0 0 4 [(0, vR 4 i0), (1, vI x1'), (2, vI x2')] [] m'' o M') (ke : ∀ (m'' : Mem), r = Sum.inr m'' → Xj RX4 cX4_drawOfInputs 6 (some .int) 1 0 0 0 0 0 251 [(0, vR 4 i0)] [] m'' o M') : Xj RX4 cX4_drawOfInputs 6 (some .int) 1 0 0 0 0 0 176 [(0, vR 4 i0), (1, vI x1), (2, vI x2)] [vI s0] m o M' := by
  unfold r_X4_drawOfInputs_j176_c4 at h
  refine xj_istore (ls' := [(4, vI s0), (0, vR 4 i0), (1, vI x1), (2, vI x2)]) dX4_drawOfInputs_176 (by decide) rfl ?_
  refine xj_goto (tgt := 235) dX4_drawOfInputs_178 (by decide) ?_
  refine xj_pick (ls' := [(0, vR 4 i0), (1, vI x1), (2, vI x2), (4, vI s0)]) [1, 2, 3, 0] rfl ?_
  exact ok_X4_drawOfInputs_j235_c4 i0 x1 x2 s0 m h kb ke
noncomputable def r_X4_drawOfInputs_j195_c4 (i0 : Nat) (x1 : Int32) (x2 : Int32) (s0 : Int32) (m : Mem) : Option ((Int32 × Int32 × Mem) ⊕ (Mem)) :=
  r_X4_drawOfInputs_j235_c4 i0 x1 x2 s0 m
set_option maxHeartbeats 4000000 in
set_option maxRecDepth 20000 in
theorem ok_X4_drawOfInputs_j195_c4 (i0 : Nat) (x1 : Int32) (x2 : Int32) (s0 : Int32) (m : Mem) {r : (Int32 × Int32 × Mem) ⊕ (Mem)} (h : r_X4_drawOfInputs_j195_c4 i0 x1 x2 s0 m = some r) {o : Ou} {M' : Mem} (kb : ∀ (x1' : Int32) (x2' : Int32) (m'' : Mem), r = Sum.inl (x1', x2', m'') → Xj RX4 cX4_drawOfInputs 6 (some .int) 1 0 0 0 0 0 4 [(0, vR 4 i0), (1, vI x1'), (2, vI x2')] [] m'' o M') (ke : ∀ (m'' : Mem), r = Sum.inr m'' → Xj RX4 cX4_drawOfInputs 6 (some .int) 1 0 0 0 0 0 251 [(0, vR 4 i0)] [] m'' o M') : Xj RX4 cX4_drawOfInputs 6 (some .int) 1 0 0 0 0 0 195 [(0, vR 4 i0), (1, vI x1), (2, vI x2)] [vI s0] m o M' := by
  unfold r_X4_drawOfInputs_j195_c4 at h
  refine xj_istore (ls' := [(4, vI s0), (0, vR 4 i0), (1, vI x1), (2, vI x2)]) dX4_drawOfInputs_195 (by decide) rfl ?_
  refine xj_goto (tgt := 235) dX4_drawOfInputs_197 (by decide) ?_
  refine xj_pick (ls' := [(0, vR 4 i0), (1, vI x1), (2, vI x2), (4, vI s0)]) [1, 2, 3, 0] rfl ?_
  exact ok_X4_drawOfInputs_j235_c4 i0 x1 x2 s0 m h kb ke
noncomputable def r_X4_drawOfInputs_j214_c4 (i0 : Nat) (x1 : Int32) (x2 : Int32) (s0 : Int32) (m : Mem) : Option ((Int32 × Int32 × Mem) ⊕ (Mem)) :=
  r_X4_drawOfInputs_j235_c4 i0 x1 x2 s0 m
set_option maxHeartbeats 4000000 in
set_option maxRecDepth 20000 in
theorem ok_X4_drawOfInputs_j214_c4 (i0 : Nat) (x1 : Int32) (x2 : Int32) (s0 : Int32) (m : Mem) {r : (Int32 × Int32 × Mem) ⊕ (Mem)} (h : r_X4_drawOfInputs_j214_c4 i0 x1 x2 s0 m = some r) {o : Ou} {M' : Mem} (kb : ∀ (x1' : Int32) (x2' : Int32) (m'' : Mem), r = Sum.inl (x1', x2', m'') → Xj RX4 cX4_drawOfInputs 6 (some .int) 1 0 0 0 0 0 4 [(0, vR 4 i0), (1, vI x1'), (2, vI x2')] [] m'' o M') (ke : ∀ (m'' : Mem), r = Sum.inr m'' → Xj RX4 cX4_drawOfInputs 6 (some .int) 1 0 0 0 0 0 251 [(0, vR 4 i0)] [] m'' o M') : Xj RX4 cX4_drawOfInputs 6 (some .int) 1 0 0 0 0 0 214 [(0, vR 4 i0), (1, vI x1), (2, vI x2)] [vI s0] m o M' := by
  unfold r_X4_drawOfInputs_j214_c4 at h
  refine xj_istore (ls' := [(4, vI s0), (0, vR 4 i0), (1, vI x1), (2, vI x2)]) dX4_drawOfInputs_214 (by decide) rfl ?_
  refine xj_goto (tgt := 235) dX4_drawOfInputs_216 (by decide) ?_
  refine xj_pick (ls' := [(0, vR 4 i0), (1, vI x1), (2, vI x2), (4, vI s0)]) [1, 2, 3, 0] rfl ?_
  exact ok_X4_drawOfInputs_j235_c4 i0 x1 x2 s0 m h kb ke
noncomputable def r_X4_drawOfInputs_j233_c4 (i0 : Nat) (x1 : Int32) (x2 : Int32) (s0 : Int32) (m : Mem) : Option ((Int32 × Int32 × Mem) ⊕ (Mem)) :=
  r_X4_drawOfInputs_j235_c4 i0 x1 x2 s0 m
set_option maxHeartbeats 4000000 in
set_option maxRecDepth 20000 in
theorem ok_X4_drawOfInputs_j233_c4 (i0 : Nat) (x1 : Int32) (x2 : Int32) (s0 : Int32) (m : Mem) {r : (Int32 × Int32 × Mem) ⊕ (Mem)} (h : r_X4_drawOfInputs_j233_c4 i0 x1 x2 s0 m = some r) {o : Ou} {M' : Mem} (kb : ∀ (x1' : Int32) (x2' : Int32) (m'' : Mem), r = Sum.inl (x1', x2', m'') → Xj RX4 cX4_drawOfInputs 6 (some .int) 1 0 0 0 0 0 4 [(0, vR 4 i0), (1, vI x1'), (2, vI x2')] [] m'' o M') (ke : ∀ (m'' : Mem), r = Sum.inr m'' → Xj RX4 cX4_drawOfInputs 6 (some .int) 1 0 0 0 0 0 251 [(0, vR 4 i0)] [] m'' o M') : Xj RX4 cX4_drawOfInputs 6 (some .int) 1 0 0 0 0 0 233 [(0, vR 4 i0), (1, vI x1), (2, vI x2)] [vI s0] m o M' := by
  unfold r_X4_drawOfInputs_j233_c4 at h
  refine xj_istore (ls' := [(4, vI s0), (0, vR 4 i0), (1, vI x1), (2, vI x2)]) dX4_drawOfInputs_233 (by decide) rfl ?_
  refine xj_pick (ls' := [(0, vR 4 i0), (1, vI x1), (2, vI x2), (4, vI s0)]) [1, 2, 3, 0] rfl ?_
  exact ok_X4_drawOfInputs_j235_c4 i0 x1 x2 s0 m h kb ke
noncomputable def r_X4_drawOfInputs_j68_c4 (i0 : Nat) (x1 : Int32) (x2 : Int32) (x3 : Int32) (m : Mem) : Option ((Int32 × Int32 × Mem) ⊕ (Mem)) :=
  if x1 < 2 then (r_X4_drawOfInputs_j245_c4 i0 x1 x2 m) else (if inb ((x1 + (-1)) - 1) 150 = true then (if inb (x1 + (-1)) 150 = true then (if x3 = 2000 then (r_X4_drawOfInputs_j235_c4 i0 (x1 + (-1)) x2 ((m 35 i0 (((x1 + (-1)) - 1).toNatClampNeg)) + (m 35 i0 ((x1 + (-1)).toNatClampNeg))) m) else if x3 = 2001 then (r_X4_drawOfInputs_j235_c4 i0 (x1 + (-1)) x2 ((m 35 i0 (((x1 + (-1)) - 1).toNatClampNeg)) - (m 35 i0 ((x1 + (-1)).toNatClampNeg))) m) else if x3 = 2002 then (r_X4_drawOfInputs_j235_c4 i0 (x1 + (-1)) x2 ((m 35 i0 (((x1 + (-1)) - 1).toNatClampNeg)) * (m 35 i0 ((x1 + (-1)).toNatClampNeg))) m) else if x3 = 2003 then (if (m 35 i0 ((x1 + (-1)).toNatClampNeg)) = 0 then (r_X4_drawOfInputs_j176_c4 i0 (x1 + (-1)) x2 0 m) else (if (m 35 i0 ((x1 + (-1)).toNatClampNeg)) = 0 then none else (r_X4_drawOfInputs_j176_c4 i0 (x1 + (-1)) x2 ((m 35 i0 (((x1 + (-1)) - 1).toNatClampNeg)) / (m 35 i0 ((x1 + (-1)).toNatClampNeg))) m))) else if x3 = 2004 then (if (m 35 i0 ((x1 + (-1)).toNatClampNeg)) = 0 then (r_X4_drawOfInputs_j195_c4 i0 (x1 + (-1)) x2 0 m) else (if (m 35 i0 ((x1 + (-1)).toNatClampNeg)) = 0 then none else (r_X4_drawOfInputs_j195_c4 i0 (x1 + (-1)) x2 (remI (m 35 i0 (((x1 + (-1)) - 1).toNatClampNeg)) (m 35 i0 ((x1 + (-1)).toNatClampNeg))) m))) else if x3 = 2005 then (if (m 35 i0 ((x1 + (-1)).toNatClampNeg)) ≤ (m 35 i0 (((x1 + (-1)) - 1).toNatClampNeg)) then (r_X4_drawOfInputs_j214_c4 i0 (x1 + (-1)) x2 (m 35 i0 ((x1 + (-1)).toNatClampNeg)) m) else (r_X4_drawOfInputs_j214_c4 i0 (x1 + (-1)) x2 (m 35 i0 (((x1 + (-1)) - 1).toNatClampNeg)) m)) else (if (m 35 i0 (((x1 + (-1)) - 1).toNatClampNeg)) ≤ (m 35 i0 ((x1 + (-1)).toNatClampNeg)) then (r_X4_drawOfInputs_j233_c4 i0 (x1 + (-1)) x2 (m 35 i0 ((x1 + (-1)).toNatClampNeg)) m) else (r_X4_drawOfInputs_j233_c4 i0 (x1 + (-1)) x2 (m 35 i0 (((x1 + (-1)) - 1).toNatClampNeg)) m))) else none) else none)
set_option maxHeartbeats 4000000 in
set_option maxRecDepth 20000 in
theorem ok_X4_drawOfInputs_j68_c4 (i0 : Nat) (x1 : Int32) (x2 : Int32) (x3 : Int32) (m : Mem) {r : (Int32 × Int32 × Mem) ⊕ (Mem)} (h : r_X4_drawOfInputs_j68_c4 i0 x1 x2 x3 m = some r) {o : Ou} {M' : Mem} (kb : ∀ (x1' : Int32) (x2' : Int32) (m'' : Mem), r = Sum.inl (x1', x2', m'') → Xj RX4 cX4_drawOfInputs 6 (some .int) 1 0 0 0 0 0 4 [(0, vR 4 i0), (1, vI x1'), (2, vI x2')] [] m'' o M') (ke : ∀ (m'' : Mem), r = Sum.inr m'' → Xj RX4 cX4_drawOfInputs 6 (some .int) 1 0 0 0 0 0 251 [(0, vR 4 i0)] [] m'' o M') : Xj RX4 cX4_drawOfInputs 6 (some .int) 1 0 0 0 0 0 68 [(0, vR 4 i0), (1, vI x1), (2, vI x2), (3, vI x3)] [] m o M' := by
  unfold r_X4_drawOfInputs_j68_c4 at h
  refine xj_iload_n 1 dX4_drawOfInputs_68 rfl ?_
  refine xj_iconst (z := 2) dX4_drawOfInputs_69 (by decide) ?_
  refine xj_icmp_lt (tgt := 245) dX4_drawOfInputs_70 (by decide) (fun c4 => ?_) (fun c4 => ?_)
  · rw [if_pos c4] at h
    refine xj_pick (ls' := [(0, vR 4 i0), (1, vI x1), (2, vI x2)]) [0, 1, 2] rfl ?_
    exact ok_X4_drawOfInputs_j245_c4 i0 x1 x2 m h kb ke
  · rw [if_neg c4] at h
    refine xj_iinc (z := x1 + (-1)) (ls' := [(1, vI (x1 + (-1))), (0, vR 4 i0), (2, vI x2), (3, vI x3)]) 1 dX4_drawOfInputs_73 rfl rfl (by decide) rfl ?_
    refine xj_aload_n 1 dX4_drawOfInputs_76 rfl ?_
    refine xg_getR (k' := 35) (i' := i0) dX4_drawOfInputs_77 fl_X4_18 rfl ?_
    refine xj_iload_n 0 dX4_drawOfInputs_80 rfl ?_
    refine xj_iconst (z := 1) dX4_drawOfInputs_81 (by decide) ?_
    refine xj_isub dX4_drawOfInputs_82 ?_
    by_cases c5 : inb ((x1 + (-1)) - 1) 150 = true
    case neg => rw [if_neg c5] at h; cases h
    rw [if_pos c5] at h
    refine xg_iald (z := (m 35 i0 (((x1 + (-1)) - 1).toNatClampNeg))) (n := ((x1 + (-1)) - 1).toNatClampNeg) dX4_drawOfInputs_83 rfl (by decide) (inb_in c5) rfl rfl ?_
    refine xj_istore (ls' := [(4, vI (m 35 i0 (((x1 + (-1)) - 1).toNatClampNeg))), (1, vI (x1 + (-1))), (0, vR 4 i0), (2, vI x2), (3, vI x3)]) dX4_drawOfInputs_84 (by decide) rfl ?_
    refine xj_aload_n 2 dX4_drawOfInputs_86 rfl ?_
    refine xg_getR (k' := 35) (i' := i0) dX4_drawOfInputs_87 fl_X4_18 rfl ?_
    refine xj_iload_n 1 dX4_drawOfInputs_90 rfl ?_
    by_cases c6 : inb (x1 + (-1)) 150 = true
    case neg => rw [if_neg c6] at h; cases h
    rw [if_pos c6] at h
    refine xg_iald (z := (m 35 i0 ((x1 + (-1)).toNatClampNeg))) (n := (x1 + (-1)).toNatClampNeg) dX4_drawOfInputs_91 rfl (by decide) (inb_in c6) rfl rfl ?_
    refine xj_istore (ls' := [(5, vI (m 35 i0 ((x1 + (-1)).toNatClampNeg))), (4, vI (m 35 i0 (((x1 + (-1)) - 1).toNatClampNeg))), (1, vI (x1 + (-1))), (0, vR 4 i0), (2, vI x2), (3, vI x3)]) dX4_drawOfInputs_92 (by decide) rfl ?_
    refine xj_iload_n 5 dX4_drawOfInputs_94 rfl ?_
    by_cases c7 : x3 = 2000
    · rw [if_pos c7] at h
      refine xj_tableIn (off := 37) (tgt := 132) dX4_drawOfInputs_95 (by rw [c7]; decide) (by rw [c7]; decide) (by rw [c7]; decide) (by decide) ?_
      refine xj_iload 1 dX4_drawOfInputs_132 rfl ?_
      refine xj_iload 0 dX4_drawOfInputs_134 rfl ?_
      refine xj_iadd dX4_drawOfInputs_136 ?_
      refine xj_istore (ls' := [(4, vI ((m 35 i0 (((x1 + (-1)) - 1).toNatClampNeg)) + (m 35 i0 ((x1 + (-1)).toNatClampNeg)))), (5, vI (m 35 i0 ((x1 + (-1)).toNatClampNeg))), (1, vI (x1 + (-1))), (0, vR 4 i0), (2, vI x2), (3, vI x3)]) dX4_drawOfInputs_137 (by decide) rfl ?_
      refine xj_goto (tgt := 235) dX4_drawOfInputs_139 (by decide) ?_
      refine xj_pick (ls' := [(0, vR 4 i0), (1, vI (x1 + (-1))), (2, vI x2), (4, vI ((m 35 i0 (((x1 + (-1)) - 1).toNatClampNeg)) + (m 35 i0 ((x1 + (-1)).toNatClampNeg))))]) [3, 2, 4, 0] rfl ?_
      exact ok_X4_drawOfInputs_j235_c4 i0 (x1 + (-1)) x2 ((m 35 i0 (((x1 + (-1)) - 1).toNatClampNeg)) + (m 35 i0 ((x1 + (-1)).toNatClampNeg))) m h kb ke
    rw [if_neg c7] at h
    by_cases c9 : x3 = 2001
    · rw [if_pos c9] at h
      refine xj_tableIn (off := 47) (tgt := 142) dX4_drawOfInputs_95 (by rw [c9]; decide) (by rw [c9]; decide) (by rw [c9]; decide) (by decide) ?_
      refine xj_iload 1 dX4_drawOfInputs_142 rfl ?_
      refine xj_iload 0 dX4_drawOfInputs_144 rfl ?_
      refine xj_isub dX4_drawOfInputs_146 ?_
      refine xj_istore (ls' := [(4, vI ((m 35 i0 (((x1 + (-1)) - 1).toNatClampNeg)) - (m 35 i0 ((x1 + (-1)).toNatClampNeg)))), (5, vI (m 35 i0 ((x1 + (-1)).toNatClampNeg))), (1, vI (x1 + (-1))), (0, vR 4 i0), (2, vI x2), (3, vI x3)]) dX4_drawOfInputs_147 (by decide) rfl ?_
      refine xj_goto (tgt := 235) dX4_drawOfInputs_149 (by decide) ?_
      refine xj_pick (ls' := [(0, vR 4 i0), (1, vI (x1 + (-1))), (2, vI x2), (4, vI ((m 35 i0 (((x1 + (-1)) - 1).toNatClampNeg)) - (m 35 i0 ((x1 + (-1)).toNatClampNeg))))]) [3, 2, 4, 0] rfl ?_
      exact ok_X4_drawOfInputs_j235_c4 i0 (x1 + (-1)) x2 ((m 35 i0 (((x1 + (-1)) - 1).toNatClampNeg)) - (m 35 i0 ((x1 + (-1)).toNatClampNeg))) m h kb ke
    rw [if_neg c9] at h
    by_cases c10 : x3 = 2002
    · rw [if_pos c10] at h
      refine xj_tableIn (off := 57) (tgt := 152) dX4_drawOfInputs_95 (by rw [c10]; decide) (by rw [c10]; decide) (by rw [c10]; decide) (by decide) ?_
      refine xj_iload 1 dX4_drawOfInputs_152 rfl ?_
      refine xj_iload 0 dX4_drawOfInputs_154 rfl ?_
      refine xj_imul dX4_drawOfInputs_156 ?_
      refine xj_istore (ls' := [(4, vI ((m 35 i0 (((x1 + (-1)) - 1).toNatClampNeg)) * (m 35 i0 ((x1 + (-1)).toNatClampNeg)))), (5, vI (m 35 i0 ((x1 + (-1)).toNatClampNeg))), (1, vI (x1 + (-1))), (0, vR 4 i0), (2, vI x2), (3, vI x3)]) dX4_drawOfInputs_157 (by decide) rfl ?_
      refine xj_goto (tgt := 235) dX4_drawOfInputs_159 (by decide) ?_
      refine xj_pick (ls' := [(0, vR 4 i0), (1, vI (x1 + (-1))), (2, vI x2), (4, vI ((m 35 i0 (((x1 + (-1)) - 1).toNatClampNeg)) * (m 35 i0 ((x1 + (-1)).toNatClampNeg))))]) [3, 2, 4, 0] rfl ?_
      exact ok_X4_drawOfInputs_j235_c4 i0 (x1 + (-1)) x2 ((m 35 i0 (((x1 + (-1)) - 1).toNatClampNeg)) * (m 35 i0 ((x1 + (-1)).toNatClampNeg))) m h kb ke
    rw [if_neg c10] at h
    by_cases c11 : x3 = 2003
    · rw [if_pos c11] at h
      refine xj_tableIn (off := 67) (tgt := 162) dX4_drawOfInputs_95 (by rw [c11]; decide) (by rw [c11]; decide) (by rw [c11]; decide) (by decide) ?_
      refine xj_iload 0 dX4_drawOfInputs_162 rfl ?_
      refine xj_if_ne (tgt := 171) dX4_drawOfInputs_164 (by decide) (fun c12 => ?_) (fun c12 => ?_)
      · rw [if_neg c12] at h
        refine xj_iload 1 dX4_drawOfInputs_171 rfl ?_
        refine xj_iload 0 dX4_drawOfInputs_173 rfl ?_
        by_cases c13 : (m 35 i0 ((x1 + (-1)).toNatClampNeg)) = 0
        · rw [if_pos c13] at h; cases h
        rw [if_neg c13] at h
        refine xj_idiv dX4_drawOfInputs_175 c13 ?_
        refine xj_pick (ls' := [(0, vR 4 i0), (1, vI (x1 + (-1))), (2, vI x2)]) [3, 2, 4] rfl ?_
        exact ok_X4_drawOfInputs_j176_c4 i0 (x1 + (-1)) x2 ((m 35 i0 (((x1 + (-1)) - 1).toNatClampNeg)) / (m 35 i0 ((x1 + (-1)).toNatClampNeg))) m h kb ke
      · rw [if_pos c12] at h
        refine xj_iconst (z := 0) dX4_drawOfInputs_167 (by decide) ?_
        refine xj_goto (tgt := 176) dX4_drawOfInputs_168 (by decide) ?_
        refine xj_pick (ls' := [(0, vR 4 i0), (1, vI (x1 + (-1))), (2, vI x2)]) [3, 2, 4] rfl ?_
        exact ok_X4_drawOfInputs_j176_c4 i0 (x1 + (-1)) x2 0 m h kb ke
    rw [if_neg c11] at h
    by_cases c14 : x3 = 2004
    · rw [if_pos c14] at h
      refine xj_tableIn (off := 86) (tgt := 181) dX4_drawOfInputs_95 (by rw [c14]; decide) (by rw [c14]; decide) (by rw [c14]; decide) (by decide) ?_
      refine xj_iload 0 dX4_drawOfInputs_181 rfl ?_
      refine xj_if_ne (tgt := 190) dX4_drawOfInputs_183 (by decide) (fun c15 => ?_) (fun c15 => ?_)
      · rw [if_neg c15] at h
        refine xj_iload 1 dX4_drawOfInputs_190 rfl ?_
        refine xj_iload 0 dX4_drawOfInputs_192 rfl ?_
        by_cases c16 : (m 35 i0 ((x1 + (-1)).toNatClampNeg)) = 0
        · rw [if_pos c16] at h; cases h
        rw [if_neg c16] at h
        refine xg_irem dX4_drawOfInputs_194 c16 ?_
        refine xj_pick (ls' := [(0, vR 4 i0), (1, vI (x1 + (-1))), (2, vI x2)]) [3, 2, 4] rfl ?_
        exact ok_X4_drawOfInputs_j195_c4 i0 (x1 + (-1)) x2 (remI (m 35 i0 (((x1 + (-1)) - 1).toNatClampNeg)) (m 35 i0 ((x1 + (-1)).toNatClampNeg))) m h kb ke
      · rw [if_pos c15] at h
        refine xj_iconst (z := 0) dX4_drawOfInputs_186 (by decide) ?_
        refine xj_goto (tgt := 195) dX4_drawOfInputs_187 (by decide) ?_
        refine xj_pick (ls' := [(0, vR 4 i0), (1, vI (x1 + (-1))), (2, vI x2)]) [3, 2, 4] rfl ?_
        exact ok_X4_drawOfInputs_j195_c4 i0 (x1 + (-1)) x2 0 m h kb ke
    rw [if_neg c14] at h
    by_cases c17 : x3 = 2005
    · rw [if_pos c17] at h
      refine xj_tableIn (off := 105) (tgt := 200) dX4_drawOfInputs_95 (by rw [c17]; decide) (by rw [c17]; decide) (by rw [c17]; decide) (by decide) ?_
      refine xj_iload 1 dX4_drawOfInputs_200 rfl ?_
      refine xj_iload 0 dX4_drawOfInputs_202 rfl ?_
      refine xj_icmp_ge (tgt := 212) dX4_drawOfInputs_204 (by decide) (fun c18 => ?_) (fun c18 => ?_)
      · rw [if_pos c18] at h
        refine xj_iload 0 dX4_drawOfInputs_212 rfl ?_
        refine xj_pick (ls' := [(0, vR 4 i0), (1, vI (x1 + (-1))), (2, vI x2)]) [3, 2, 4] rfl ?_
        exact ok_X4_drawOfInputs_j214_c4 i0 (x1 + (-1)) x2 (m 35 i0 ((x1 + (-1)).toNatClampNeg)) m h kb ke
      · rw [if_neg c18] at h
        refine xj_iload 1 dX4_drawOfInputs_207 rfl ?_
        refine xj_goto (tgt := 214) dX4_drawOfInputs_209 (by decide) ?_
        refine xj_pick (ls' := [(0, vR 4 i0), (1, vI (x1 + (-1))), (2, vI x2)]) [3, 2, 4] rfl ?_
        exact ok_X4_drawOfInputs_j214_c4 i0 (x1 + (-1)) x2 (m 35 i0 (((x1 + (-1)) - 1).toNatClampNeg)) m h kb ke
    rw [if_neg c17] at h
    refine xj_tableOut (tgt := 219) dX4_drawOfInputs_95 ?_ (by decide) ?_
    · have nc7 := lv_neT c7 (show (2000 : Int32).toInt = 2000 by decide)
      have nc9 := lv_neT c9 (show (2001 : Int32).toInt = 2001 by decide)
      have nc10 := lv_neT c10 (show (2002 : Int32).toInt = 2002 by decide)
      have nc11 := lv_neT c11 (show (2003 : Int32).toInt = 2003 by decide)
      have nc14 := lv_neT c14 (show (2004 : Int32).toInt = 2004 by decide)
      have nc17 := lv_neT c17 (show (2005 : Int32).toInt = 2005 by decide)
      omega
    refine xj_iload 1 dX4_drawOfInputs_219 rfl ?_
    refine xj_iload 0 dX4_drawOfInputs_221 rfl ?_
    refine xj_icmp_le (tgt := 231) dX4_drawOfInputs_223 (by decide) (fun c19 => ?_) (fun c19 => ?_)
    · rw [if_pos c19] at h
      refine xj_iload 0 dX4_drawOfInputs_231 rfl ?_
      refine xj_pick (ls' := [(0, vR 4 i0), (1, vI (x1 + (-1))), (2, vI x2)]) [3, 2, 4] rfl ?_
      exact ok_X4_drawOfInputs_j233_c4 i0 (x1 + (-1)) x2 (m 35 i0 ((x1 + (-1)).toNatClampNeg)) m h kb ke
    · rw [if_neg c19] at h
      refine xj_iload 1 dX4_drawOfInputs_226 rfl ?_
      refine xj_goto (tgt := 233) dX4_drawOfInputs_228 (by decide) ?_
      refine xj_pick (ls' := [(0, vR 4 i0), (1, vI (x1 + (-1))), (2, vI x2)]) [3, 2, 4] rfl ?_
      exact ok_X4_drawOfInputs_j233_c4 i0 (x1 + (-1)) x2 (m 35 i0 (((x1 + (-1)) - 1).toNatClampNeg)) m h kb ke
noncomputable def r_X4_drawOfInputs_j61_c4 (i0 : Nat) (x1 : Int32) (x2 : Int32) (s0 : Int32) (s1 : Int32) (q2 : Nat) (m : Mem) : Option ((Int32 × Int32 × Mem) ⊕ (Mem)) :=
  if inb s1 150 = true then (r_X4_drawOfInputs_j245_c4 i0 (x1 + 1) x2 (wr m 35 q2 s1.toNatClampNeg s0)) else none
set_option maxHeartbeats 4000000 in
set_option maxRecDepth 20000 in
theorem ok_X4_drawOfInputs_j61_c4 (i0 : Nat) (x1 : Int32) (x2 : Int32) (s0 : Int32) (s1 : Int32) (q2 : Nat) (m : Mem) {r : (Int32 × Int32 × Mem) ⊕ (Mem)} (h : r_X4_drawOfInputs_j61_c4 i0 x1 x2 s0 s1 q2 m = some r) {o : Ou} {M' : Mem} (kb : ∀ (x1' : Int32) (x2' : Int32) (m'' : Mem), r = Sum.inl (x1', x2', m'') → Xj RX4 cX4_drawOfInputs 6 (some .int) 1 0 0 0 0 0 4 [(0, vR 4 i0), (1, vI x1'), (2, vI x2')] [] m'' o M') (ke : ∀ (m'' : Mem), r = Sum.inr m'' → Xj RX4 cX4_drawOfInputs 6 (some .int) 1 0 0 0 0 0 251 [(0, vR 4 i0)] [] m'' o M') : Xj RX4 cX4_drawOfInputs 6 (some .int) 1 0 0 0 0 0 61 [(0, vR 4 i0), (1, vI x1), (2, vI x2)] [vI s0, vI s1, vR 35 q2] m o M' := by
  unfold r_X4_drawOfInputs_j61_c4 at h
  by_cases c23 : inb s1 150 = true
  case neg => rw [if_neg c23] at h; cases h
  rw [if_pos c23] at h
  refine xg_iast (n := s1.toNatClampNeg) dX4_drawOfInputs_61 rfl (by decide) (inb_in c23) rfl ?_
  refine xj_iinc (z := x1 + 1) (ls' := [(1, vI (x1 + 1)), (0, vR 4 i0), (2, vI x2)]) 1 dX4_drawOfInputs_62 rfl rfl (by decide) rfl ?_
  refine xj_goto (tgt := 245) dX4_drawOfInputs_65 (by decide) ?_
  refine xj_pick (ls' := [(0, vR 4 i0), (1, vI (x1 + 1)), (2, vI x2)]) [1, 0, 2] rfl ?_
  exact ok_X4_drawOfInputs_j245_c4 i0 (x1 + 1) x2 (wr m 35 q2 s1.toNatClampNeg s0) h kb ke
noncomputable def r_X4_drawOfInputs_b4 (i0 : Nat) (x1 : Int32) (x2 : Int32) (m : Mem) : Option ((Int32 × Int32 × Mem) ⊕ (Mem)) :=
  if (m 4 i0 3) ≤ x2 then (some (Sum.inr m)) else (if inb x2 150 = true then (if 2000 ≤ (m 34 i0 x2.toNatClampNeg) then (r_X4_drawOfInputs_j68_c4 i0 x1 x2 (m 34 i0 x2.toNatClampNeg) m) else (if 150 ≤ x1 then (r_X4_drawOfInputs_j68_c4 i0 x1 x2 (m 34 i0 x2.toNatClampNeg) m) else (if 1000 ≤ (m 34 i0 x2.toNatClampNeg) then (if inb ((m 34 i0 x2.toNatClampNeg) - 1000) 9 = true then (r_X4_drawOfInputs_j61_c4 i0 x1 x2 (m 33 i0 (((m 34 i0 x2.toNatClampNeg) - 1000).toNatClampNeg)) x1 i0 m) else none) else (r_X4_drawOfInputs_j61_c4 i0 x1 x2 (m 34 i0 x2.toNatClampNeg) x1 i0 m)))) else none)
set_option maxHeartbeats 4000000 in
set_option maxRecDepth 20000 in
theorem ok_X4_drawOfInputs_b4 (i0 : Nat) (x1 : Int32) (x2 : Int32) (m : Mem) {r : (Int32 × Int32 × Mem) ⊕ (Mem)} (h : r_X4_drawOfInputs_b4 i0 x1 x2 m = some r) {o : Ou} {M' : Mem} (kb : ∀ (x1' : Int32) (x2' : Int32) (m'' : Mem), r = Sum.inl (x1', x2', m'') → Xj RX4 cX4_drawOfInputs 6 (some .int) 1 0 0 0 0 0 4 [(0, vR 4 i0), (1, vI x1'), (2, vI x2')] [] m'' o M') (ke : ∀ (m'' : Mem), r = Sum.inr m'' → Xj RX4 cX4_drawOfInputs 6 (some .int) 1 0 0 0 0 0 251 [(0, vR 4 i0)] [] m'' o M') : Xj RX4 cX4_drawOfInputs 6 (some .int) 1 0 0 0 0 0 4 [(0, vR 4 i0), (1, vI x1), (2, vI x2)] [] m o M' := by
  unfold r_X4_drawOfInputs_b4 at h
  refine xj_iload_n 2 dX4_drawOfInputs_4 rfl ?_
  refine xj_aload_n 0 dX4_drawOfInputs_5 rfl ?_
  refine xg_getI (x := (m 4 i0 3)) dX4_drawOfInputs_6 fl_X4_27 rfl rfl ?_
  refine xj_icmp_ge (tgt := 251) dX4_drawOfInputs_9 (by decide) (fun c1 => ?_) (fun c1 => ?_)
  · rw [if_pos c1] at h
    cases h
    refine xj_pick (ls' := [(0, vR 4 i0)]) [0] rfl ?_
    exact ke m rfl
  · rw [if_neg c1] at h
    refine xj_aload_n 0 dX4_drawOfInputs_12 rfl ?_
    refine xg_getR (k' := 34) (i' := i0) dX4_drawOfInputs_13 fl_X4_15 rfl ?_
    refine xj_iload_n 2 dX4_drawOfInputs_16 rfl ?_
    by_cases c2 : inb x2 150 = true
    case neg => rw [if_neg c2] at h; cases h
    rw [if_pos c2] at h
    refine xg_iald (z := (m 34 i0 x2.toNatClampNeg)) (n := x2.toNatClampNeg) dX4_drawOfInputs_17 rfl (by decide) (inb_in c2) rfl rfl ?_
    refine xj_istore_n (ls' := [(3, vI (m 34 i0 x2.toNatClampNeg)), (0, vR 4 i0), (1, vI x1), (2, vI x2)]) dX4_drawOfInputs_18 rfl (by decide) rfl ?_
    refine xj_iload_n 0 dX4_drawOfInputs_19 rfl ?_
    refine xj_sipush (z := 2000) dX4_drawOfInputs_20 (by decide) ?_
    refine xj_icmp_ge (tgt := 68) dX4_drawOfInputs_23 (by decide) (fun c3 => ?_) (fun c3 => ?_)
    · rw [if_pos c3] at h
      refine xj_pick (ls' := [(0, vR 4 i0), (1, vI x1), (2, vI x2), (3, vI (m 34 i0 x2.toNatClampNeg))]) [1, 2, 3, 0] rfl ?_
      exact ok_X4_drawOfInputs_j68_c4 i0 x1 x2 (m 34 i0 x2.toNatClampNeg) m h kb ke
    · rw [if_neg c3] at h
      refine xj_iload_n 2 dX4_drawOfInputs_26 rfl ?_
      refine xj_aload_n 1 dX4_drawOfInputs_27 rfl ?_
      refine xg_getR (k' := 35) (i' := i0) dX4_drawOfInputs_28 fl_X4_18 rfl ?_
      refine xj_alen (x := 150) dX4_drawOfInputs_31 (by decide) (by decide) (by decide) (by decide) ?_
      refine xj_icmp_ge (tgt := 68) dX4_drawOfInputs_32 (by decide) (fun c20 => ?_) (fun c20 => ?_)
      · rw [if_pos c20] at h
        refine xj_pick (ls' := [(0, vR 4 i0), (1, vI x1), (2, vI x2), (3, vI (m 34 i0 x2.toNatClampNeg))]) [1, 2, 3, 0] rfl ?_
        exact ok_X4_drawOfInputs_j68_c4 i0 x1 x2 (m 34 i0 x2.toNatClampNeg) m h kb ke
      · rw [if_neg c20] at h
        refine xj_aload_n 1 dX4_drawOfInputs_35 rfl ?_
        refine xg_getR (k' := 35) (i' := i0) dX4_drawOfInputs_36 fl_X4_18 rfl ?_
        refine xj_iload_n 2 dX4_drawOfInputs_39 rfl ?_
        refine xj_iload_n 0 dX4_drawOfInputs_40 rfl ?_
        refine xj_sipush (z := 1000) dX4_drawOfInputs_41 (by decide) ?_
        refine xj_icmp_ge (tgt := 51) dX4_drawOfInputs_44 (by decide) (fun c21 => ?_) (fun c21 => ?_)
        · rw [if_pos c21] at h
          refine xj_aload_n 1 dX4_drawOfInputs_51 rfl ?_
          refine xg_getR (k' := 33) (i' := i0) dX4_drawOfInputs_52 fl_X4_11 rfl ?_
          refine xj_iload_n 0 dX4_drawOfInputs_55 rfl ?_
          refine xj_sipush (z := 1000) dX4_drawOfInputs_56 (by decide) ?_
          refine xj_isub dX4_drawOfInputs_59 ?_
          by_cases c22 : inb ((m 34 i0 x2.toNatClampNeg) - 1000) 9 = true
          case neg => rw [if_neg c22] at h; cases h
          rw [if_pos c22] at h
          refine xg_iald (z := (m 33 i0 (((m 34 i0 x2.toNatClampNeg) - 1000).toNatClampNeg))) (n := ((m 34 i0 x2.toNatClampNeg) - 1000).toNatClampNeg) dX4_drawOfInputs_60 rfl (by decide) (inb_in c22) rfl rfl ?_
          refine xj_pick (ls' := [(0, vR 4 i0), (1, vI x1), (2, vI x2)]) [1, 2, 3] rfl ?_
          exact ok_X4_drawOfInputs_j61_c4 i0 x1 x2 (m 33 i0 (((m 34 i0 x2.toNatClampNeg) - 1000).toNatClampNeg)) x1 i0 m h kb ke
        · rw [if_neg c21] at h
          refine xj_iload_n 0 dX4_drawOfInputs_47 rfl ?_
          refine xj_goto (tgt := 61) dX4_drawOfInputs_48 (by decide) ?_
          refine xj_pick (ls' := [(0, vR 4 i0), (1, vI x1), (2, vI x2)]) [1, 2, 3] rfl ?_
          exact ok_X4_drawOfInputs_j61_c4 i0 x1 x2 (m 34 i0 x2.toNatClampNeg) x1 i0 m h kb ke
noncomputable def r_X4_drawOfInputs_e251_h4 (i0 : Nat) (m : Mem) : Option (Int32 × Mem) :=
  if (m 35 i0 0) ≤ 99 then (if (-99) ≤ (m 35 i0 0) then (some ((m 35 i0 0), m)) else (some ((-99), m))) else (some (99, m))
set_option maxHeartbeats 4000000 in
set_option maxRecDepth 20000 in
theorem ok_X4_drawOfInputs_e251_h4 (i0 : Nat) (m : Mem) {z : Int32} {m' : Mem} (h : r_X4_drawOfInputs_e251_h4 i0 m = some (z, m')) : Xj RX4 cX4_drawOfInputs 6 (some .int) 1 0 0 0 0 0 251 [(0, vR 4 i0)] [] m (oI z) m' := by
  unfold r_X4_drawOfInputs_e251_h4 at h
  refine xj_aload_n 0 dX4_drawOfInputs_251 rfl ?_
  refine xg_getR (k' := 35) (i' := i0) dX4_drawOfInputs_252 fl_X4_18 rfl ?_
  refine xj_iconst (z := 0) dX4_drawOfInputs_255 (by decide) ?_
  refine xg_iald (z := (m 35 i0 0)) (n := 0) dX4_drawOfInputs_256 rfl (by decide) (inb_in (by decide)) (by decide) rfl ?_
  refine xj_istore_n (ls' := [(2, vI (m 35 i0 0)), (0, vR 4 i0)]) dX4_drawOfInputs_257 rfl (by decide) rfl ?_
  refine xj_iload_n 0 dX4_drawOfInputs_258 rfl ?_
  refine xj_bipush (z := 99) dX4_drawOfInputs_259 (by decide) ?_
  refine xj_icmp_le (tgt := 269) dX4_drawOfInputs_261 (by decide) (fun c24 => ?_) (fun c24 => ?_)
  · rw [if_pos c24] at h
    refine xj_iload_n 0 dX4_drawOfInputs_269 rfl ?_
    refine xj_bipush (z := (-99)) dX4_drawOfInputs_270 (by decide) ?_
    refine xj_icmp_ge (tgt := 280) dX4_drawOfInputs_272 (by decide) (fun c25 => ?_) (fun c25 => ?_)
    · rw [if_pos c25] at h
      refine xj_iload_n 0 dX4_drawOfInputs_280 rfl ?_
      cases h
      exact xj_ireturn dX4_drawOfInputs_281 rfl (by decide) (by decide)
    · rw [if_neg c25] at h
      refine xj_bipush (z := (-99)) dX4_drawOfInputs_275 (by decide) ?_
      refine xj_goto (tgt := 281) dX4_drawOfInputs_277 (by decide) ?_
      cases h
      exact xj_ireturn dX4_drawOfInputs_281 rfl (by decide) (by decide)
  · rw [if_neg c24] at h
    refine xj_bipush (z := 99) dX4_drawOfInputs_264 (by decide) ?_
    refine xj_goto (tgt := 281) dX4_drawOfInputs_266 (by decide) ?_
    cases h
    exact xj_ireturn dX4_drawOfInputs_281 rfl (by decide) (by decide)
noncomputable def r_X4_drawOfInputs_l4 (i0 : Nat) (x1 : Int32) (x2 : Int32) (m : Mem) : Option (Int32 × Mem) :=
  bd1 (loopO (fun s => r_X4_drawOfInputs_b4 i0 s.1 s.2.1 s.2.2) (x1, x2, m)) (fun e => r_X4_drawOfInputs_e251_h4 i0 e)
set_option maxHeartbeats 4000000 in
set_option maxRecDepth 20000 in
theorem ok_X4_drawOfInputs_l4 (i0 : Nat) (x1 : Int32) (x2 : Int32) (m : Mem) {z : Int32} {m' : Mem} (h : r_X4_drawOfInputs_l4 i0 x1 x2 m = some (z, m')) : Xj RX4 cX4_drawOfInputs 6 (some .int) 1 0 0 0 0 0 4 [(0, vR 4 i0), (1, vI x1), (2, vI x2)] [] m (oI z) m' := by
  unfold r_X4_drawOfInputs_l4 at h
  obtain ⟨e, e1, h⟩ := bd1_some h
  refine loopO_ok (P := fun s : (Int32 × Int32 × Mem) => Xj RX4 cX4_drawOfInputs 6 (some .int) 1 0 0 0 0 0 4 [(0, vR 4 i0), (1, vI s.1), (2, vI s.2.1)] [] s.2.2 (oI z) m') (Q := fun e : (Mem) => Xj RX4 cX4_drawOfInputs 6 (some .int) 1 0 0 0 0 0 251 [(0, vR 4 i0)] [] e (oI z) m') ?_ _ _ e1 ?_
  · intro s r9 h9 hi hx
    exact ok_X4_drawOfInputs_b4 i0 s.1 s.2.1 s.2.2 h9 (by rintro _ _ _ rfl; exact hi _ rfl) (by rintro _ rfl; exact hx _ rfl)
  · exact ok_X4_drawOfInputs_e251_h4 i0 e h 
noncomputable def r_X4_drawOfInputs (i0 : Nat) (m : Mem) : Option (Int32 × Mem) :=
  r_X4_drawOfInputs_l4 i0 0 0 m
set_option maxHeartbeats 4000000 in
set_option maxRecDepth 20000 in
theorem ok_X4_drawOfInputs (i0 : Nat) (m : Mem) {z : Int32} {m' : Mem} (h : r_X4_drawOfInputs i0 m = some (z, m')) : Mt yX4_drawOfInputs cX4_drawOfInputs 6 (some .int) 1 0 0 0 [vR 4 i0] m (oI z) m' := by
  refine Mt.of (by decide) (Nat.le_of_ble_eq_true rfl) (by decide +kernel) (hhF_ne (by decide)) ?_
  show Xj RX4 cX4_drawOfInputs 6 (some .int) 1 0 0 0 0 0 0 [(0, vR 4 i0)] [] m (oI z) m'
  unfold r_X4_drawOfInputs at h
  refine xj_iconst (z := 0) dX4_drawOfInputs_0 (by decide) ?_
  refine xj_istore_n (ls' := [(1, vI 0), (0, vR 4 i0)]) dX4_drawOfInputs_1 rfl (by decide) rfl ?_
  refine xj_iconst (z := 0) dX4_drawOfInputs_2 (by decide) ?_
  refine xj_istore_n (ls' := [(2, vI 0), (1, vI 0), (0, vR 4 i0)]) dX4_drawOfInputs_3 rfl (by decide) rfl ?_
  refine xj_pick (ls' := [(0, vR 4 i0), (1, vI 0), (2, vI 0)]) [2, 1, 0] rfl ?_
  exact ok_X4_drawOfInputs_l4 i0 0 0 m h 
noncomputable def r_X4_put (i0 : Nat) (x1 : Int32) (m : Mem) : Option Mem :=
  if 150 ≤ (m 4 i0 3) then (some m) else (if inb (m 4 i0 3) 150 = true then (some (wr (wr m 34 i0 ((m 4 i0 3).toNatClampNeg) x1) 4 i0 3 ((m 4 i0 3) + 1))) else none)
set_option maxHeartbeats 4000000 in
set_option maxRecDepth 20000 in
theorem ok_X4_put (i0 : Nat) (x1 : Int32) (m : Mem) {m' : Mem} (h : r_X4_put i0 x1 m = some m') : Mt yX4_put cX4_put 2 none 1 0 0 0 [vR 4 i0, vI x1] m oV m' := by
  refine Mt.of (by decide) (Nat.le_of_ble_eq_true rfl) (by decide +kernel) (hhF_ne (by decide)) ?_
  show Xj RX4 cX4_put 2 none 1 0 0 0 0 0 0 [(0, vR 4 i0), (1, vI x1)] [] m oV m'
  unfold r_X4_put at h
  refine xj_aload_n 0 dX4_put_0 rfl ?_
  refine xg_getI (x := (m 4 i0 3)) dX4_put_1 fl_X4_27 rfl rfl ?_
  refine xj_aload_n 0 dX4_put_4 rfl ?_
  refine xg_getR (k' := 34) (i' := i0) dX4_put_5 fl_X4_15 rfl ?_
  refine xj_alen (x := 150) dX4_put_8 (by decide) (by decide) (by decide) (by decide) ?_
  refine xj_icmp_ge (tgt := 32) dX4_put_9 (by decide) (fun c1 => ?_) (fun c1 => ?_)
  · rw [if_pos c1] at h
    cases h
    exact xj_return dX4_put_32 (by decide) (by decide)
  · rw [if_neg c1] at h
    refine xj_aload_n 0 dX4_put_12 rfl ?_
    refine xg_getR (k' := 34) (i' := i0) dX4_put_13 fl_X4_15 rfl ?_
    refine xj_aload_n 0 dX4_put_16 rfl ?_
    refine xg_getI (x := (m 4 i0 3)) dX4_put_17 fl_X4_27 rfl rfl ?_
    refine xj_iload_n 1 dX4_put_20 rfl ?_
    by_cases c2 : inb (m 4 i0 3) 150 = true
    case neg => rw [if_neg c2] at h; cases h
    rw [if_pos c2] at h
    refine xg_iast (n := (m 4 i0 3).toNatClampNeg) dX4_put_21 rfl (by decide) (inb_in c2) rfl ?_
    refine xj_aload_n 0 dX4_put_22 rfl ?_
    refine xj_dup dX4_put_23 rfl ?_
    refine xg_getI (x := (m 4 i0 3)) dX4_put_24 fl_X4_27 rfl rfl ?_
    refine xj_iconst (z := 1) dX4_put_27 (by decide) ?_
    refine xj_iadd dX4_put_28 ?_
    refine xj_putI dX4_put_29 fw_X4_27 rfl ?_
    cases h
    exact xj_return dX4_put_32 (by decide) (by decide)
noncomputable def r_X4_clear (i0 : Nat) (m : Mem) : Option Mem :=
  some (cpL (wr m 4 i0 3 7) (fun j => wtL.getD j 0) 34 i0 0 7)
set_option maxHeartbeats 4000000 in
set_option maxRecDepth 20000 in
theorem ok_X4_clear (i0 : Nat) (m : Mem) {m' : Mem} (h : r_X4_clear i0 m = some m') : Mt yX4_clear cX4_clear 1 none 1 88 0 0 [vR 4 i0] m oV m' := by
  refine Mt.of (by decide) (Nat.le_of_ble_eq_true rfl) (by decide +kernel) (hhF_ne (by decide)) ?_
  show Xj RX4 cX4_clear 1 none 1 88 0 0 0 0 0 [(0, vR 4 i0)] [] m oV m'
  unfold r_X4_clear at h
  refine xj_aload_n 0 dX4_clear_0 rfl ?_
  refine xj_getW dX4_clear_1 wt_148 ?_
  refine xj_lenW dX4_clear_4 ?_
  refine xj_putI dX4_clear_5 fw_X4_27 rfl ?_
  refine xj_getW dX4_clear_8 wt_148 ?_
  refine xj_iconst (z := 0) dX4_clear_11 (by decide) ?_
  refine xj_aload_n 0 dX4_clear_12 rfl ?_
  refine xg_getR (k' := 34) (i' := i0) dX4_clear_13 fl_X4_15 rfl ?_
  refine xj_iconst (z := 0) dX4_clear_16 (by decide) ?_
  refine xj_aload_n 0 dX4_clear_17 rfl ?_
  refine xg_getI (x := 7) dX4_clear_18 fl_X4_27 rfl (by first | rfl | simp [wr]) ?_
  refine xg_copyW (n' := 7) dX4_clear_21 cp_X4_31 rfl (by decide) (by decide) (by decide) (by decide) (by decide) (by decide) (by decide) (Nat.le_of_ble_eq_true rfl) ?_
  cases h
  exact xj_return dX4_clear_24 (by decide) (by decide)
noncomputable def r_X4_copyFrom (i0 : Nat) (i1 : Nat) (m : Mem) : Option Mem :=
  if leb (m 4 i1 3) 150 = true then (some (cpM (wr m 4 i0 3 (m 4 i1 3)) 34 i1 0 34 i0 0 ((m 4 i1 3).toNatClampNeg))) else none
set_option maxHeartbeats 4000000 in
set_option maxRecDepth 20000 in
theorem ok_X4_copyFrom (i0 : Nat) (i1 : Nat) (m : Mem) {m' : Mem} (h : r_X4_copyFrom i0 i1 m = some m') : Mt yX4_copyFrom cX4_copyFrom 2 none 1 88 0 0 [vR 4 i0, vR 4 i1] m oV m' := by
  refine Mt.of (by decide) (Nat.le_of_ble_eq_true rfl) (by decide +kernel) (hhF_ne (by decide)) ?_
  show Xj RX4 cX4_copyFrom 2 none 1 88 0 0 0 0 0 [(0, vR 4 i0), (1, vR 4 i1)] [] m oV m'
  unfold r_X4_copyFrom at h
  refine xj_aload_n 0 dX4_copyFrom_0 rfl ?_
  refine xj_aload_n 1 dX4_copyFrom_1 rfl ?_
  refine xg_getI (x := (m 4 i1 3)) dX4_copyFrom_2 fl_X4_27 rfl rfl ?_
  refine xj_putI dX4_copyFrom_5 fw_X4_27 rfl ?_
  refine xj_aload_n 1 dX4_copyFrom_8 rfl ?_
  refine xg_getR (k' := 34) (i' := i1) dX4_copyFrom_9 fl_X4_15 rfl ?_
  refine xj_iconst (z := 0) dX4_copyFrom_12 (by decide) ?_
  refine xj_aload_n 0 dX4_copyFrom_13 rfl ?_
  refine xg_getR (k' := 34) (i' := i0) dX4_copyFrom_14 fl_X4_15 rfl ?_
  refine xj_iconst (z := 0) dX4_copyFrom_17 (by decide) ?_
  refine xj_aload_n 0 dX4_copyFrom_18 rfl ?_
  refine xg_getI (x := (m 4 i1 3)) dX4_copyFrom_19 fl_X4_27 rfl (by first | rfl | simp [wr]) ?_
  by_cases c1 : leb (m 4 i1 3) 150 = true
  case neg => rw [if_neg c1] at h; cases h
  rw [if_pos c1] at h
  refine xg_copy (s' := 0) (d' := 0) (n' := (m 4 i1 3).toNatClampNeg) dX4_copyFrom_22 cp_X4_31 rfl rfl (by decide) (by decide) (by decide) (by decide) (leb_n c1) (by decide) (by decide) rfl (by have := leb_le c1; show 0 + _ ≤ 150; omega) (by have := leb_le c1; show 0 + _ ≤ 150; omega) (by decide) (Nat.le_of_ble_eq_true rfl) ?_
  cases h
  exact xj_return dX4_copyFrom_25 (by decide) (by decide)
noncomputable def r_X6_dig (i1 : Nat) (x2 : Int32) (x3 : Int32) (m : Mem) : Option (Bool × Mem) :=
  bd1 (r_X3_between 0 x2 x3 m) fun z2 => (if z2 = (-1) then (some (false, m)) else (if inb z2 16 = true then (if (m 23 i1 z2.toNatClampNeg) < 9 then (some (true, (wr m 23 i1 z2.toNatClampNeg ((m 23 i1 z2.toNatClampNeg) + 1)))) else (some (false, m))) else none))
set_option maxHeartbeats 4000000 in
set_option maxRecDepth 20000 in
theorem ok_X6_dig (i1 : Nat) (x2 : Int32) (x3 : Int32) (m : Mem) {z : Bool} {m' : Mem} (h : r_X6_dig i1 x2 x3 m = some (z, m')) : Mt yX6_dig cX6_dig 5 (some .boolean) 2 22 0 0 [vR 6 0, vR 7 i1, vI x2, vI x3] m (oB z) m' := by
  refine Mt.of (by decide) (Nat.le_of_ble_eq_true rfl) (by decide +kernel) (hhF_ne (by decide)) ?_
  show Xj RX6 cX6_dig 5 (some .boolean) 2 22 0 0 0 0 0 [(0, vR 6 0), (1, vR 7 i1), (2, vI x2), (3, vI x3)] [] m (oB z) m'
  unfold r_X6_dig at h
  refine xj_aload_n 0 dX6_dig_0 rfl ?_
  refine xg_getR (k' := 3) (i' := 0) dX6_dig_1 fl_X6_15 rfl ?_
  refine xj_iload_n 2 dX6_dig_4 rfl ?_
  refine xj_iload_n 3 dX6_dig_5 rfl ?_
  obtain ⟨z2, e1, h⟩ := bd1_some h
  refine xc_Vi0 (st := []) (ok_X3_between 0 x2 x3 m e1) dX6_dig_6 cv_X6_39 rfl rfl (Nat.le_of_ble_eq_true rfl) (by decide) (by decide) (by decide) (by decide) ?_
  refine xj_istore (ls' := [(4, vI z2), (0, vR 6 0), (1, vR 7 i1), (2, vI x2), (3, vI x3)]) dX6_dig_9 (by decide) rfl ?_
  refine xj_iload 0 dX6_dig_11 rfl ?_
  refine xj_iconst (z := (-1)) dX6_dig_13 (by decide) ?_
  refine xj_icmp_eq (tgt := 29) dX6_dig_14 (by decide) (fun c3 => ?_) (fun c3 => ?_)
  · rw [if_pos c3] at h
    refine xj_iconst (z := 0) dX6_dig_29 (by decide) ?_
    cases h
    exact xj_ireturn dX6_dig_30 rfl (by decide) (by decide)
  · rw [if_neg c3] at h
    refine xj_aload_n 2 dX6_dig_17 rfl ?_
    refine xg_getR (k' := 23) (i' := i1) dX6_dig_18 fl_X6_52 rfl ?_
    refine xj_iload 0 dX6_dig_21 rfl ?_
    by_cases c4 : inb z2 16 = true
    case neg => rw [if_neg c4] at h; cases h
    rw [if_pos c4] at h
    refine xg_iald (z := (m 23 i1 z2.toNatClampNeg)) (n := z2.toNatClampNeg) dX6_dig_23 rfl (by decide) (inb_in c4) rfl rfl ?_
    refine xj_bipush (z := 9) dX6_dig_24 (by decide) ?_
    refine xj_icmp_lt (tgt := 31) dX6_dig_26 (by decide) (fun c5 => ?_) (fun c5 => ?_)
    · rw [if_pos c5] at h
      refine xj_aload_n 2 dX6_dig_31 rfl ?_
      refine xg_getR (k' := 23) (i' := i1) dX6_dig_32 fl_X6_52 rfl ?_
      refine xj_iload 0 dX6_dig_35 rfl ?_
      refine xj_dup2 dX6_dig_37 rfl rfl ?_
      refine xg_iald (z := (m 23 i1 z2.toNatClampNeg)) (n := z2.toNatClampNeg) dX6_dig_38 rfl (by decide) (inb_in c4) rfl rfl ?_
      refine xj_iconst (z := 1) dX6_dig_39 (by decide) ?_
      refine xj_iadd dX6_dig_40 ?_
      refine xg_iast (n := z2.toNatClampNeg) dX6_dig_41 rfl (by decide) (inb_in c4) rfl ?_
      refine xj_iconst (z := 1) dX6_dig_42 (by decide) ?_
      cases h
      exact xj_ireturn dX6_dig_43 rfl (by decide) (by decide)
    · rw [if_neg c5] at h
      refine xj_iconst (z := 0) dX6_dig_29 (by decide) ?_
      cases h
      exact xj_ireturn dX6_dig_30 rfl (by decide) (by decide)
noncomputable def r_X6_draw_j94_c12 (i1 : Nat) (x2 : Int32) (x3 : Int32) (x4 : Int32) (x5 : Int32) (x6 : Int32) (x7 : Int32) (m : Mem) : Option ((Int32 × Int32 × Int32 × Int32) ⊕ (Int32 × Int32 × Int32)) :=
  some (Sum.inl (x4, x5, x6, x7 + 1))
set_option maxHeartbeats 4000000 in
set_option maxRecDepth 20000 in
theorem ok_X6_draw_j94_c12 (i1 : Nat) (x2 : Int32) (x3 : Int32) (x4 : Int32) (x5 : Int32) (x6 : Int32) (x7 : Int32) (m : Mem) {r : (Int32 × Int32 × Int32 × Int32) ⊕ (Int32 × Int32 × Int32)} (h : r_X6_draw_j94_c12 i1 x2 x3 x4 x5 x6 x7 m = some r) {o : Ou} {M' : Mem} (kb : ∀ (x4' : Int32) (x5' : Int32) (x6' : Int32) (x7' : Int32), r = Sum.inl (x4', x5', x6', x7') → Xj RX6 cX6_draw 9 (some .int) 2 25 0 0 0 0 12 [(0, vR 6 0), (1, vR 7 i1), (2, vI x2), (3, vI x3), (4, vI x4'), (5, vI x5'), (6, vI x6'), (7, vI x7')] [] m o M') (ke : ∀ (x4' : Int32) (x5' : Int32) (x6' : Int32), r = Sum.inr (x4', x5', x6') → Xj RX6 cX6_draw 9 (some .int) 2 25 0 0 0 0 100 [(0, vR 6 0), (1, vR 7 i1), (2, vI x2), (3, vI x3), (4, vI x4'), (5, vI x5'), (6, vI x6')] [] m o M') : Xj RX6 cX6_draw 9 (some .int) 2 25 0 0 0 0 94 [(0, vR 6 0), (1, vR 7 i1), (2, vI x2), (3, vI x3), (4, vI x4), (5, vI x5), (6, vI x6), (7, vI x7)] [] m o M' := by
  unfold r_X6_draw_j94_c12 at h
  refine xj_iinc (z := x7 + 1) (ls' := [(7, vI (x7 + 1)), (0, vR 6 0), (1, vR 7 i1), (2, vI x2), (3, vI x3), (4, vI x4), (5, vI x5), (6, vI x6)]) 7 dX6_draw_94 rfl rfl (by decide) rfl ?_
  refine xj_goto (tgt := 12) dX6_draw_97 (by decide) ?_
  cases h
  refine xj_pick (ls' := [(0, vR 6 0), (1, vR 7 i1), (2, vI x2), (3, vI x3), (4, vI x4), (5, vI x5), (6, vI x6), (7, vI (x7 + 1))]) [1, 2, 3, 4, 5, 6, 7, 0] rfl ?_
  exact kb x4 x5 x6 (x7 + 1) rfl
noncomputable def r_X6_draw_j91_c12 (i1 : Nat) (x2 : Int32) (x3 : Int32) (x4 : Int32) (x5 : Int32) (x6 : Int32) (x7 : Int32) (m : Mem) : Option ((Int32 × Int32 × Int32 × Int32) ⊕ (Int32 × Int32 × Int32)) :=
  r_X6_draw_j94_c12 i1 x2 x3 x4 x5 (x6 + 1) x7 m
set_option maxHeartbeats 4000000 in
set_option maxRecDepth 20000 in
theorem ok_X6_draw_j91_c12 (i1 : Nat) (x2 : Int32) (x3 : Int32) (x4 : Int32) (x5 : Int32) (x6 : Int32) (x7 : Int32) (m : Mem) {r : (Int32 × Int32 × Int32 × Int32) ⊕ (Int32 × Int32 × Int32)} (h : r_X6_draw_j91_c12 i1 x2 x3 x4 x5 x6 x7 m = some r) {o : Ou} {M' : Mem} (kb : ∀ (x4' : Int32) (x5' : Int32) (x6' : Int32) (x7' : Int32), r = Sum.inl (x4', x5', x6', x7') → Xj RX6 cX6_draw 9 (some .int) 2 25 0 0 0 0 12 [(0, vR 6 0), (1, vR 7 i1), (2, vI x2), (3, vI x3), (4, vI x4'), (5, vI x5'), (6, vI x6'), (7, vI x7')] [] m o M') (ke : ∀ (x4' : Int32) (x5' : Int32) (x6' : Int32), r = Sum.inr (x4', x5', x6') → Xj RX6 cX6_draw 9 (some .int) 2 25 0 0 0 0 100 [(0, vR 6 0), (1, vR 7 i1), (2, vI x2), (3, vI x3), (4, vI x4'), (5, vI x5'), (6, vI x6')] [] m o M') : Xj RX6 cX6_draw 9 (some .int) 2 25 0 0 0 0 91 [(0, vR 6 0), (1, vR 7 i1), (2, vI x2), (3, vI x3), (4, vI x4), (5, vI x5), (6, vI x6), (7, vI x7)] [] m o M' := by
  unfold r_X6_draw_j91_c12 at h
  refine xj_iinc (z := x6 + 1) (ls' := [(6, vI (x6 + 1)), (0, vR 6 0), (1, vR 7 i1), (2, vI x2), (3, vI x3), (4, vI x4), (5, vI x5), (7, vI x7)]) 6 dX6_draw_91 rfl rfl (by decide) rfl ?_
  refine xj_pick (ls' := [(0, vR 6 0), (1, vR 7 i1), (2, vI x2), (3, vI x3), (4, vI x4), (5, vI x5), (6, vI (x6 + 1)), (7, vI x7)]) [1, 2, 3, 4, 5, 6, 0, 7] rfl ?_
  exact ok_X6_draw_j94_c12 i1 x2 x3 x4 x5 (x6 + 1) x7 m h kb ke
noncomputable def r_X6_draw_j69_c12 (i1 : Nat) (x2 : Int32) (x3 : Int32) (x4 : Int32) (x5 : Int32) (x6 : Int32) (x7 : Int32) (m : Mem) : Option ((Int32 × Int32 × Int32 × Int32) ⊕ (Int32 × Int32 × Int32)) :=
  if inb x7 8 = true then (if (m 21 i1 x7.toNatClampNeg) = x2 then (r_X6_draw_j91_c12 i1 x2 x3 x4 x5 x6 x7 m) else (if (m 21 i1 x7.toNatClampNeg) = x3 then (r_X6_draw_j91_c12 i1 x2 x3 x4 x5 x6 x7 m) else (r_X6_draw_j94_c12 i1 x2 x3 x4 x5 x6 x7 m))) else none
set_option maxHeartbeats 4000000 in
set_option maxRecDepth 20000 in
theorem ok_X6_draw_j69_c12 (i1 : Nat) (x2 : Int32) (x3 : Int32) (x4 : Int32) (x5 : Int32) (x6 : Int32) (x7 : Int32) (m : Mem) {r : (Int32 × Int32 × Int32 × Int32) ⊕ (Int32 × Int32 × Int32)} (h : r_X6_draw_j69_c12 i1 x2 x3 x4 x5 x6 x7 m = some r) {o : Ou} {M' : Mem} (kb : ∀ (x4' : Int32) (x5' : Int32) (x6' : Int32) (x7' : Int32), r = Sum.inl (x4', x5', x6', x7') → Xj RX6 cX6_draw 9 (some .int) 2 25 0 0 0 0 12 [(0, vR 6 0), (1, vR 7 i1), (2, vI x2), (3, vI x3), (4, vI x4'), (5, vI x5'), (6, vI x6'), (7, vI x7')] [] m o M') (ke : ∀ (x4' : Int32) (x5' : Int32) (x6' : Int32), r = Sum.inr (x4', x5', x6') → Xj RX6 cX6_draw 9 (some .int) 2 25 0 0 0 0 100 [(0, vR 6 0), (1, vR 7 i1), (2, vI x2), (3, vI x3), (4, vI x4'), (5, vI x5'), (6, vI x6')] [] m o M') : Xj RX6 cX6_draw 9 (some .int) 2 25 0 0 0 0 69 [(0, vR 6 0), (1, vR 7 i1), (2, vI x2), (3, vI x3), (4, vI x4), (5, vI x5), (6, vI x6), (7, vI x7)] [] m o M' := by
  unfold r_X6_draw_j69_c12 at h
  refine xj_aload_n 1 dX6_draw_69 rfl ?_
  refine xg_getR (k' := 21) (i' := i1) dX6_draw_70 fl_X6_36 rfl ?_
  refine xj_iload 7 dX6_draw_73 rfl ?_
  by_cases c6 : inb x7 8 = true
  case neg => rw [if_neg c6] at h; cases h
  rw [if_pos c6] at h
  refine xg_iald (z := (m 21 i1 x7.toNatClampNeg)) (n := x7.toNatClampNeg) dX6_draw_75 rfl (by decide) (inb_in c6) rfl rfl ?_
  refine xj_iload_n 2 dX6_draw_76 rfl ?_
  refine xj_icmp_eq (tgt := 91) dX6_draw_77 (by decide) (fun c7 => ?_) (fun c7 => ?_)
  · rw [if_pos c7] at h
    exact ok_X6_draw_j91_c12 i1 x2 x3 x4 x5 x6 x7 m h kb ke
  · rw [if_neg c7] at h
    refine xj_aload_n 1 dX6_draw_80 rfl ?_
    refine xg_getR (k' := 21) (i' := i1) dX6_draw_81 fl_X6_36 rfl ?_
    refine xj_iload 7 dX6_draw_84 rfl ?_
    refine xg_iald (z := (m 21 i1 x7.toNatClampNeg)) (n := x7.toNatClampNeg) dX6_draw_86 rfl (by decide) (inb_in c6) rfl rfl ?_
    refine xj_iload_n 3 dX6_draw_87 rfl ?_
    refine xj_icmp_ne (tgt := 94) dX6_draw_88 (by decide) (fun c8 => ?_) (fun c8 => ?_)
    · rw [if_neg c8] at h
      exact ok_X6_draw_j94_c12 i1 x2 x3 x4 x5 x6 x7 m h kb ke
    · rw [if_pos c8] at h
      exact ok_X6_draw_j91_c12 i1 x2 x3 x4 x5 x6 x7 m h kb ke
noncomputable def r_X6_draw_b12 (i1 : Nat) (x2 : Int32) (x3 : Int32) (m : Mem) (x4 : Int32) (x5 : Int32) (x6 : Int32) (x7 : Int32) : Option ((Int32 × Int32 × Int32 × Int32) ⊕ (Int32 × Int32 × Int32)) :=
  if (m 7 i1 1) ≤ x7 then (some (Sum.inr (x4, x5, x6))) else (bd1 (r_X7_believes i1 x7 x2 m) fun z3 => (if z3 = x3 then (if inb x7 8 = true then (r_X6_draw_j69_c12 i1 x2 x3 (x4 + (m 20 i1 x7.toNatClampNeg)) x5 x6 x7 m) else none) else (if z3 = (-1) then (r_X6_draw_j69_c12 i1 x2 x3 x4 x5 x6 x7 m) else (if inb x7 8 = true then (r_X6_draw_j69_c12 i1 x2 x3 x4 (x5 + (m 20 i1 x7.toNatClampNeg)) x6 x7 m) else none))))
set_option maxHeartbeats 4000000 in
set_option maxRecDepth 20000 in
theorem ok_X6_draw_b12 (i1 : Nat) (x2 : Int32) (x3 : Int32) (m : Mem) (x4 : Int32) (x5 : Int32) (x6 : Int32) (x7 : Int32) {r : (Int32 × Int32 × Int32 × Int32) ⊕ (Int32 × Int32 × Int32)} (h : r_X6_draw_b12 i1 x2 x3 m x4 x5 x6 x7 = some r) {o : Ou} {M' : Mem} (kb : ∀ (x4' : Int32) (x5' : Int32) (x6' : Int32) (x7' : Int32), r = Sum.inl (x4', x5', x6', x7') → Xj RX6 cX6_draw 9 (some .int) 2 25 0 0 0 0 12 [(0, vR 6 0), (1, vR 7 i1), (2, vI x2), (3, vI x3), (4, vI x4'), (5, vI x5'), (6, vI x6'), (7, vI x7')] [] m o M') (ke : ∀ (x4' : Int32) (x5' : Int32) (x6' : Int32), r = Sum.inr (x4', x5', x6') → Xj RX6 cX6_draw 9 (some .int) 2 25 0 0 0 0 100 [(0, vR 6 0), (1, vR 7 i1), (2, vI x2), (3, vI x3), (4, vI x4'), (5, vI x5'), (6, vI x6')] [] m o M') : Xj RX6 cX6_draw 9 (some .int) 2 25 0 0 0 0 12 [(0, vR 6 0), (1, vR 7 i1), (2, vI x2), (3, vI x3), (4, vI x4), (5, vI x5), (6, vI x6), (7, vI x7)] [] m o M' := by
  unfold r_X6_draw_b12 at h
  refine xj_iload 7 dX6_draw_12 rfl ?_
  refine xj_aload_n 1 dX6_draw_14 rfl ?_
  refine xg_getI (x := (m 7 i1 1)) dX6_draw_15 fl_X6_23 rfl rfl ?_
  refine xj_icmp_ge (tgt := 100) dX6_draw_18 (by decide) (fun c1 => ?_) (fun c1 => ?_)
  · rw [if_pos c1] at h
    cases h
    refine xj_pick (ls' := [(0, vR 6 0), (1, vR 7 i1), (2, vI x2), (3, vI x3), (4, vI x4), (5, vI x5), (6, vI x6)]) [0, 1, 2, 3, 4, 5, 6] rfl ?_
    exact ke x4 x5 x6 rfl
  · rw [if_neg c1] at h
    refine xj_aload_n 1 dX6_draw_21 rfl ?_
    refine xj_iload 7 dX6_draw_22 rfl ?_
    refine xj_iload_n 2 dX6_draw_24 rfl ?_
    obtain ⟨z3, e2, h⟩ := bd1_some h
    refine xc_Vi0 (st := []) (ok_X7_believes i1 x7 x2 m e2) dX6_draw_25 cv_X6_29 rfl rfl (Nat.le_of_ble_eq_true rfl) (by decide) (by decide) (by decide) (by decide) ?_
    refine xj_istore (ls' := [(8, vI z3), (0, vR 6 0), (1, vR 7 i1), (2, vI x2), (3, vI x3), (4, vI x4), (5, vI x5), (6, vI x6), (7, vI x7)]) dX6_draw_28 (by decide) rfl ?_
    refine xj_iload 0 dX6_draw_30 rfl ?_
    refine xj_iload_n 4 dX6_draw_32 rfl ?_
    refine xj_icmp_ne (tgt := 51) dX6_draw_33 (by decide) (fun c4 => ?_) (fun c4 => ?_)
    · rw [if_neg c4] at h
      refine xj_iload 0 dX6_draw_51 rfl ?_
      refine xj_iconst (z := (-1)) dX6_draw_53 (by decide) ?_
      refine xj_icmp_eq (tgt := 69) dX6_draw_54 (by decide) (fun c9 => ?_) (fun c9 => ?_)
      · rw [if_pos c9] at h
        refine xj_pick (ls' := [(0, vR 6 0), (1, vR 7 i1), (2, vI x2), (3, vI x3), (4, vI x4), (5, vI x5), (6, vI x6), (7, vI x7)]) [1, 2, 3, 4, 5, 6, 7, 8] rfl ?_
        exact ok_X6_draw_j69_c12 i1 x2 x3 x4 x5 x6 x7 m h kb ke
      · rw [if_neg c9] at h
        refine xj_iload 6 dX6_draw_57 rfl ?_
        refine xj_aload_n 2 dX6_draw_59 rfl ?_
        refine xg_getR (k' := 20) (i' := i1) dX6_draw_60 fl_X6_33 rfl ?_
        refine xj_iload 8 dX6_draw_63 rfl ?_
        by_cases c10 : inb x7 8 = true
        case neg => rw [if_neg c10] at h; cases h
        rw [if_pos c10] at h
        refine xg_iald (z := (m 20 i1 x7.toNatClampNeg)) (n := x7.toNatClampNeg) dX6_draw_65 rfl (by decide) (inb_in c10) rfl rfl ?_
        refine xj_iadd dX6_draw_66 ?_
        refine xj_istore (ls' := [(5, vI (x5 + (m 20 i1 x7.toNatClampNeg))), (8, vI z3), (0, vR 6 0), (1, vR 7 i1), (2, vI x2), (3, vI x3), (4, vI x4), (6, vI x6), (7, vI x7)]) dX6_draw_67 (by decide) rfl ?_
        refine xj_pick (ls' := [(0, vR 6 0), (1, vR 7 i1), (2, vI x2), (3, vI x3), (4, vI x4), (5, vI (x5 + (m 20 i1 x7.toNatClampNeg))), (6, vI x6), (7, vI x7)]) [2, 3, 4, 5, 6, 0, 7, 8] rfl ?_
        exact ok_X6_draw_j69_c12 i1 x2 x3 x4 (x5 + (m 20 i1 x7.toNatClampNeg)) x6 x7 m h kb ke
    · rw [if_pos c4] at h
      refine xj_iload 5 dX6_draw_36 rfl ?_
      refine xj_aload_n 2 dX6_draw_38 rfl ?_
      refine xg_getR (k' := 20) (i' := i1) dX6_draw_39 fl_X6_33 rfl ?_
      refine xj_iload 8 dX6_draw_42 rfl ?_
      by_cases c5 : inb x7 8 = true
      case neg => rw [if_neg c5] at h; cases h
      rw [if_pos c5] at h
      refine xg_iald (z := (m 20 i1 x7.toNatClampNeg)) (n := x7.toNatClampNeg) dX6_draw_44 rfl (by decide) (inb_in c5) rfl rfl ?_
      refine xj_iadd dX6_draw_45 ?_
      refine xj_istore (ls' := [(4, vI (x4 + (m 20 i1 x7.toNatClampNeg))), (8, vI z3), (0, vR 6 0), (1, vR 7 i1), (2, vI x2), (3, vI x3), (5, vI x5), (6, vI x6), (7, vI x7)]) dX6_draw_46 (by decide) rfl ?_
      refine xj_goto (tgt := 69) dX6_draw_48 (by decide) ?_
      refine xj_pick (ls' := [(0, vR 6 0), (1, vR 7 i1), (2, vI x2), (3, vI x3), (4, vI (x4 + (m 20 i1 x7.toNatClampNeg))), (5, vI x5), (6, vI x6), (7, vI x7)]) [2, 3, 4, 5, 0, 6, 7, 8] rfl ?_
      exact ok_X6_draw_j69_c12 i1 x2 x3 (x4 + (m 20 i1 x7.toNatClampNeg)) x5 x6 x7 m h kb ke
noncomputable def r_X6_draw_j202 (i1 : Nat) (x2 : Int32) (x3 : Int32) (i8 : Nat) (s0 : Int32) (s1 : Int32) (q2 : Nat) (m : Mem) : Option (Int32 × Mem) :=
  if inb s1 9 = true then (bd2 (r_X4_drawOfInputs 0 (wr (wr (wr (wr m 33 q2 s1.toNatClampNeg s0) 33 i8 6 (m 7 i1 0)) 33 i8 7 x2) 33 i8 8 x3)) fun z21 m20 => (some (z21, m20))) else none
set_option maxHeartbeats 4000000 in
set_option maxRecDepth 20000 in
theorem ok_X6_draw_j202 (i1 : Nat) (x2 : Int32) (x3 : Int32) (i8 : Nat) (s0 : Int32) (s1 : Int32) (q2 : Nat) (m : Mem) {z : Int32} {m' : Mem} (h : r_X6_draw_j202 i1 x2 x3 i8 s0 s1 q2 m = some (z, m')) : Xj RX6 cX6_draw 9 (some .int) 2 25 0 0 0 0 202 [(0, vR 6 0), (1, vR 7 i1), (2, vI x2), (3, vI x3), (8, vR 33 i8)] [vI s0, vI s1, vR 33 q2] m (oI z) m' := by
  unfold r_X6_draw_j202 at h
  by_cases c18 : inb s1 9 = true
  case neg => rw [if_neg c18] at h; cases h
  rw [if_pos c18] at h
  refine xg_iast (n := s1.toNatClampNeg) dX6_draw_202 rfl (by decide) (inb_in c18) rfl ?_
  refine xj_aload 4 dX6_draw_203 rfl ?_
  refine xj_bipush (z := 6) dX6_draw_205 (by decide) ?_
  refine xj_aload_n 1 dX6_draw_207 rfl ?_
  refine xg_getI (x := (m 7 i1 0)) dX6_draw_208 fl_X6_58 rfl rfl ?_
  refine xg_iast (n := 6) dX6_draw_211 rfl (by decide) (inb_in (by decide)) (by decide) ?_
  refine xj_aload 4 dX6_draw_212 rfl ?_
  refine xj_bipush (z := 7) dX6_draw_214 (by decide) ?_
  refine xj_iload_n 2 dX6_draw_216 rfl ?_
  refine xg_iast (n := 7) dX6_draw_217 rfl (by decide) (inb_in (by decide)) (by decide) ?_
  refine xj_aload 4 dX6_draw_218 rfl ?_
  refine xj_bipush (z := 8) dX6_draw_220 (by decide) ?_
  refine xj_iload_n 3 dX6_draw_222 rfl ?_
  refine xg_iast (n := 8) dX6_draw_223 rfl (by decide) (inb_in (by decide)) (by decide) ?_
  refine xj_aload_n 0 dX6_draw_224 rfl ?_
  refine xg_getR (k' := 4) (i' := 0) dX6_draw_225 fl_X6_19 rfl ?_
  obtain ⟨z21, m20, e19, h⟩ := bd2_some h
  refine xc_Vi0 (st := []) (ok_X4_drawOfInputs 0 (wr (wr (wr (wr m 33 q2 s1.toNatClampNeg s0) 33 i8 6 (m 7 i1 0)) 33 i8 7 x2) 33 i8 8 x3) e19) dX6_draw_228 cv_X6_61 rfl rfl (Nat.le_of_ble_eq_true rfl) (by decide) (by decide) (by decide) (by decide) ?_
  cases h
  exact xj_ireturn dX6_draw_231 rfl (by decide) (by decide)
noncomputable def r_X6_draw_j181 (i1 : Nat) (x2 : Int32) (x3 : Int32) (x7 : Int32) (i8 : Nat) (s0 : Int32) (s1 : Int32) (q2 : Nat) (m : Mem) : Option (Int32 × Mem) :=
  if inb s1 9 = true then (if x7 = (-1) then (r_X6_draw_j202 i1 x2 x3 i8 0 5 i8 (wr m 33 q2 s1.toNatClampNeg s0)) else (if inb x7 16 = true then (r_X6_draw_j202 i1 x2 x3 i8 (m 24 i1 x7.toNatClampNeg) 5 i8 (wr m 33 q2 s1.toNatClampNeg s0)) else none)) else none
set_option maxHeartbeats 4000000 in
set_option maxRecDepth 20000 in
theorem ok_X6_draw_j181 (i1 : Nat) (x2 : Int32) (x3 : Int32) (x7 : Int32) (i8 : Nat) (s0 : Int32) (s1 : Int32) (q2 : Nat) (m : Mem) {z : Int32} {m' : Mem} (h : r_X6_draw_j181 i1 x2 x3 x7 i8 s0 s1 q2 m = some (z, m')) : Xj RX6 cX6_draw 9 (some .int) 2 25 0 0 0 0 181 [(0, vR 6 0), (1, vR 7 i1), (2, vI x2), (3, vI x3), (7, vI x7), (8, vR 33 i8)] [vI s0, vI s1, vR 33 q2] m (oI z) m' := by
  unfold r_X6_draw_j181 at h
  by_cases c16 : inb s1 9 = true
  case neg => rw [if_neg c16] at h; cases h
  rw [if_pos c16] at h
  refine xg_iast (n := s1.toNatClampNeg) dX6_draw_181 rfl (by decide) (inb_in c16) rfl ?_
  refine xj_aload 5 dX6_draw_182 rfl ?_
  refine xj_iconst (z := 5) dX6_draw_184 (by decide) ?_
  refine xj_iload 4 dX6_draw_185 rfl ?_
  refine xj_iconst (z := (-1)) dX6_draw_187 (by decide) ?_
  refine xj_icmp_ne (tgt := 195) dX6_draw_188 (by decide) (fun c17 => ?_) (fun c17 => ?_)
  · rw [if_neg c17] at h
    refine xj_aload_n 1 dX6_draw_195 rfl ?_
    refine xg_getR (k' := 24) (i' := i1) dX6_draw_196 fl_X6_55 rfl ?_
    refine xj_iload 4 dX6_draw_199 rfl ?_
    by_cases c22 : inb x7 16 = true
    case neg => rw [if_neg c22] at h; cases h
    rw [if_pos c22] at h
    refine xg_iald (z := (m 24 i1 x7.toNatClampNeg)) (n := x7.toNatClampNeg) dX6_draw_201 rfl (by decide) (inb_in c22) rfl rfl ?_
    refine xj_pick (ls' := [(0, vR 6 0), (1, vR 7 i1), (2, vI x2), (3, vI x3), (8, vR 33 i8)]) [0, 1, 2, 3, 5] rfl ?_
    exact ok_X6_draw_j202 i1 x2 x3 i8 (m 24 i1 x7.toNatClampNeg) 5 i8 (wr m 33 q2 s1.toNatClampNeg s0) h 
  · rw [if_pos c17] at h
    refine xj_iconst (z := 0) dX6_draw_191 (by decide) ?_
    refine xj_goto (tgt := 202) dX6_draw_192 (by decide) ?_
    refine xj_pick (ls' := [(0, vR 6 0), (1, vR 7 i1), (2, vI x2), (3, vI x3), (8, vR 33 i8)]) [0, 1, 2, 3, 5] rfl ?_
    exact ok_X6_draw_j202 i1 x2 x3 i8 0 5 i8 (wr m 33 q2 s1.toNatClampNeg s0) h 
noncomputable def r_X6_draw_e100_h12 (i1 : Nat) (x2 : Int32) (x3 : Int32) (x4 : Int32) (x5 : Int32) (x6 : Int32) (m : Mem) : Option (Int32 × Mem) :=
  bd1 (r_X3_between 0 x2 x3 m) fun z12 => (if inb x2 12 = true then (if inb x3 12 = true then (if z12 = (-1) then (r_X6_draw_j181 i1 x2 x3 z12 0 0 4 0 (wr (wr (wr (wr m 33 0 0 ((m 25 0 x2.toNatClampNeg) - (m 25 0 x3.toNatClampNeg))) 33 0 1 x4) 33 0 2 x5) 33 0 3 x6)) else (if inb z12 16 = true then (r_X6_draw_j181 i1 x2 x3 z12 0 (m 23 i1 z12.toNatClampNeg) 4 0 (wr (wr (wr (wr m 33 0 0 ((m 25 0 x2.toNatClampNeg) - (m 25 0 x3.toNatClampNeg))) 33 0 1 x4) 33 0 2 x5) 33 0 3 x6)) else none)) else none) else none)
set_option maxHeartbeats 4000000 in
set_option maxRecDepth 20000 in
theorem ok_X6_draw_e100_h12 (i1 : Nat) (x2 : Int32) (x3 : Int32) (x4 : Int32) (x5 : Int32) (x6 : Int32) (m : Mem) {z : Int32} {m' : Mem} (h : r_X6_draw_e100_h12 i1 x2 x3 x4 x5 x6 m = some (z, m')) : Xj RX6 cX6_draw 9 (some .int) 2 25 0 0 0 0 100 [(0, vR 6 0), (1, vR 7 i1), (2, vI x2), (3, vI x3), (4, vI x4), (5, vI x5), (6, vI x6)] [] m (oI z) m' := by
  unfold r_X6_draw_e100_h12 at h
  refine xj_aload_n 0 dX6_draw_100 rfl ?_
  refine xg_getR (k' := 3) (i' := 0) dX6_draw_101 fl_X6_15 rfl ?_
  refine xj_iload_n 2 dX6_draw_104 rfl ?_
  refine xj_iload_n 3 dX6_draw_105 rfl ?_
  obtain ⟨z12, e11, h⟩ := bd1_some h
  refine xc_Vi0 (st := []) (ok_X3_between 0 x2 x3 m e11) dX6_draw_106 cv_X6_39 rfl rfl (Nat.le_of_ble_eq_true rfl) (by decide) (by decide) (by decide) (by decide) ?_
  refine xj_istore (ls' := [(7, vI z12), (0, vR 6 0), (1, vR 7 i1), (2, vI x2), (3, vI x3), (4, vI x4), (5, vI x5), (6, vI x6)]) dX6_draw_109 (by decide) rfl ?_
  refine xj_aload_n 1 dX6_draw_111 rfl ?_
  refine xg_getR (k' := 4) (i' := 0) dX6_draw_112 fl_X6_19 rfl ?_
  refine xg_getR (k' := 33) (i' := 0) dX6_draw_115 fl_X6_44 rfl ?_
  refine xj_astore (ls' := [(8, vR 33 0), (7, vI z12), (0, vR 6 0), (1, vR 7 i1), (2, vI x2), (3, vI x3), (4, vI x4), (5, vI x5), (6, vI x6)]) dX6_draw_118 (by decide) rfl ?_
  refine xj_aload 0 dX6_draw_120 rfl ?_
  refine xj_iconst (z := 0) dX6_draw_122 (by decide) ?_
  refine xj_aload_n 2 dX6_draw_123 rfl ?_
  refine xg_getR (k' := 3) (i' := 0) dX6_draw_124 fl_X6_15 rfl ?_
  refine xg_getR (k' := 25) (i' := 0) dX6_draw_127 fl_X6_49 rfl ?_
  refine xj_iload_n 4 dX6_draw_130 rfl ?_
  by_cases c13 : inb x2 12 = true
  case neg => rw [if_neg c13] at h; cases h
  rw [if_pos c13] at h
  refine xg_iald (z := (m 25 0 x2.toNatClampNeg)) (n := x2.toNatClampNeg) dX6_draw_131 rfl (by decide) (inb_in c13) rfl rfl ?_
  refine xj_aload_n 2 dX6_draw_132 rfl ?_
  refine xg_getR (k' := 3) (i' := 0) dX6_draw_133 fl_X6_15 rfl ?_
  refine xg_getR (k' := 25) (i' := 0) dX6_draw_136 fl_X6_49 rfl ?_
  refine xj_iload_n 5 dX6_draw_139 rfl ?_
  by_cases c14 : inb x3 12 = true
  case neg => rw [if_neg c14] at h; cases h
  rw [if_pos c14] at h
  refine xg_iald (z := (m 25 0 x3.toNatClampNeg)) (n := x3.toNatClampNeg) dX6_draw_140 rfl (by decide) (inb_in c14) rfl rfl ?_
  refine xj_isub dX6_draw_141 ?_
  refine xg_iast (n := 0) dX6_draw_142 rfl (by decide) (inb_in (by decide)) (by decide) ?_
  refine xj_aload 0 dX6_draw_143 rfl ?_
  refine xj_iconst (z := 1) dX6_draw_145 (by decide) ?_
  refine xj_iload 6 dX6_draw_146 rfl ?_
  refine xg_iast (n := 1) dX6_draw_148 rfl (by decide) (inb_in (by decide)) (by decide) ?_
  refine xj_aload 0 dX6_draw_149 rfl ?_
  refine xj_iconst (z := 2) dX6_draw_151 (by decide) ?_
  refine xj_iload 7 dX6_draw_152 rfl ?_
  refine xg_iast (n := 2) dX6_draw_154 rfl (by decide) (inb_in (by decide)) (by decide) ?_
  refine xj_aload 0 dX6_draw_155 rfl ?_
  refine xj_iconst (z := 3) dX6_draw_157 (by decide) ?_
  refine xj_iload 8 dX6_draw_158 rfl ?_
  refine xg_iast (n := 3) dX6_draw_160 rfl (by decide) (inb_in (by decide)) (by decide) ?_
  refine xj_aload 0 dX6_draw_161 rfl ?_
  refine xj_iconst (z := 4) dX6_draw_163 (by decide) ?_
  refine xj_iload 1 dX6_draw_164 rfl ?_
  refine xj_iconst (z := (-1)) dX6_draw_166 (by decide) ?_
  refine xj_icmp_ne (tgt := 174) dX6_draw_167 (by decide) (fun c15 => ?_) (fun c15 => ?_)
  · rw [if_neg c15] at h
    refine xj_aload_n 3 dX6_draw_174 rfl ?_
    refine xg_getR (k' := 23) (i' := i1) dX6_draw_175 fl_X6_52 rfl ?_
    refine xj_iload 1 dX6_draw_178 rfl ?_
    by_cases c23 : inb z12 16 = true
    case neg => rw [if_neg c23] at h; cases h
    rw [if_pos c23] at h
    refine xg_iald (z := (m 23 i1 z12.toNatClampNeg)) (n := z12.toNatClampNeg) dX6_draw_180 rfl (by decide) (inb_in c23) rfl rfl ?_
    refine xj_pick (ls' := [(0, vR 6 0), (1, vR 7 i1), (2, vI x2), (3, vI x3), (7, vI z12), (8, vR 33 0)]) [2, 3, 4, 5, 1, 0] rfl ?_
    exact ok_X6_draw_j181 i1 x2 x3 z12 0 (m 23 i1 z12.toNatClampNeg) 4 0 (wr (wr (wr (wr m 33 0 0 ((m 25 0 x2.toNatClampNeg) - (m 25 0 x3.toNatClampNeg))) 33 0 1 x4) 33 0 2 x5) 33 0 3 x6) h 
  · rw [if_pos c15] at h
    refine xj_iconst (z := 0) dX6_draw_170 (by decide) ?_
    refine xj_goto (tgt := 181) dX6_draw_171 (by decide) ?_
    refine xj_pick (ls' := [(0, vR 6 0), (1, vR 7 i1), (2, vI x2), (3, vI x3), (7, vI z12), (8, vR 33 0)]) [2, 3, 4, 5, 1, 0] rfl ?_
    exact ok_X6_draw_j181 i1 x2 x3 z12 0 0 4 0 (wr (wr (wr (wr m 33 0 0 ((m 25 0 x2.toNatClampNeg) - (m 25 0 x3.toNatClampNeg))) 33 0 1 x4) 33 0 2 x5) 33 0 3 x6) h 
noncomputable def r_X6_draw_l12 (i1 : Nat) (x2 : Int32) (x3 : Int32) (x4 : Int32) (x5 : Int32) (x6 : Int32) (x7 : Int32) (m : Mem) : Option (Int32 × Mem) :=
  bd1 (loopO (fun s => r_X6_draw_b12 i1 x2 x3 m s.1 s.2.1 s.2.2.1 s.2.2.2) (x4, x5, x6, x7)) (fun e => r_X6_draw_e100_h12 i1 x2 x3 e.1 e.2.1 e.2.2 m)
set_option maxHeartbeats 4000000 in
set_option maxRecDepth 20000 in
theorem ok_X6_draw_l12 (i1 : Nat) (x2 : Int32) (x3 : Int32) (x4 : Int32) (x5 : Int32) (x6 : Int32) (x7 : Int32) (m : Mem) {z : Int32} {m' : Mem} (h : r_X6_draw_l12 i1 x2 x3 x4 x5 x6 x7 m = some (z, m')) : Xj RX6 cX6_draw 9 (some .int) 2 25 0 0 0 0 12 [(0, vR 6 0), (1, vR 7 i1), (2, vI x2), (3, vI x3), (4, vI x4), (5, vI x5), (6, vI x6), (7, vI x7)] [] m (oI z) m' := by
  unfold r_X6_draw_l12 at h
  obtain ⟨e, e1, h⟩ := bd1_some h
  refine loopO_ok (P := fun s : (Int32 × Int32 × Int32 × Int32) => Xj RX6 cX6_draw 9 (some .int) 2 25 0 0 0 0 12 [(0, vR 6 0), (1, vR 7 i1), (2, vI x2), (3, vI x3), (4, vI s.1), (5, vI s.2.1), (6, vI s.2.2.1), (7, vI s.2.2.2)] [] m (oI z) m') (Q := fun e : (Int32 × Int32 × Int32) => Xj RX6 cX6_draw 9 (some .int) 2 25 0 0 0 0 100 [(0, vR 6 0), (1, vR 7 i1), (2, vI x2), (3, vI x3), (4, vI e.1), (5, vI e.2.1), (6, vI e.2.2)] [] m (oI z) m') ?_ _ _ e1 ?_
  · intro s r9 h9 hi hx
    exact ok_X6_draw_b12 i1 x2 x3 m s.1 s.2.1 s.2.2.1 s.2.2.2 h9 (by rintro _ _ _ _ rfl; exact hi _ rfl) (by rintro _ _ _ rfl; exact hx _ rfl)
  · exact ok_X6_draw_e100_h12 i1 x2 x3 e.1 e.2.1 e.2.2 m h 
noncomputable def r_X6_draw (i1 : Nat) (x2 : Int32) (x3 : Int32) (m : Mem) : Option (Int32 × Mem) :=
  r_X6_draw_l12 i1 x2 x3 0 0 0 0 m
set_option maxHeartbeats 4000000 in
set_option maxRecDepth 20000 in
theorem ok_X6_draw (i1 : Nat) (x2 : Int32) (x3 : Int32) (m : Mem) {z : Int32} {m' : Mem} (h : r_X6_draw i1 x2 x3 m = some (z, m')) : Mt yX6_draw cX6_draw 9 (some .int) 2 25 0 0 [vR 6 0, vR 7 i1, vI x2, vI x3] m (oI z) m' := by
  refine Mt.of (by decide) (Nat.le_of_ble_eq_true rfl) (by decide +kernel) (hhF_ne (by decide)) ?_
  show Xj RX6 cX6_draw 9 (some .int) 2 25 0 0 0 0 0 [(0, vR 6 0), (1, vR 7 i1), (2, vI x2), (3, vI x3)] [] m (oI z) m'
  unfold r_X6_draw at h
  refine xj_iconst (z := 0) dX6_draw_0 (by decide) ?_
  refine xj_istore (ls' := [(4, vI 0), (0, vR 6 0), (1, vR 7 i1), (2, vI x2), (3, vI x3)]) dX6_draw_1 (by decide) rfl ?_
  refine xj_iconst (z := 0) dX6_draw_3 (by decide) ?_
  refine xj_istore (ls' := [(5, vI 0), (4, vI 0), (0, vR 6 0), (1, vR 7 i1), (2, vI x2), (3, vI x3)]) dX6_draw_4 (by decide) rfl ?_
  refine xj_iconst (z := 0) dX6_draw_6 (by decide) ?_
  refine xj_istore (ls' := [(6, vI 0), (5, vI 0), (4, vI 0), (0, vR 6 0), (1, vR 7 i1), (2, vI x2), (3, vI x3)]) dX6_draw_7 (by decide) rfl ?_
  refine xj_iconst (z := 0) dX6_draw_9 (by decide) ?_
  refine xj_istore (ls' := [(7, vI 0), (6, vI 0), (5, vI 0), (4, vI 0), (0, vR 6 0), (1, vR 7 i1), (2, vI x2), (3, vI x3)]) dX6_draw_10 (by decide) rfl ?_
  refine xj_pick (ls' := [(0, vR 6 0), (1, vR 7 i1), (2, vI x2), (3, vI x3), (4, vI 0), (5, vI 0), (6, vI 0), (7, vI 0)]) [4, 5, 6, 7, 3, 2, 1, 0] rfl ?_
  exact ok_X6_draw_l12 i1 x2 x3 0 0 0 0 m h 
noncomputable def r_X6_end (m : Mem) : Option Int32 :=
  if (m 6 0 3) = 0 then (some (-1)) else (if inb ((m 6 0 3) - 1) 12 = true then (some (m 38 0 (((m 6 0 3) - 1).toNatClampNeg))) else none)
set_option maxHeartbeats 4000000 in
set_option maxRecDepth 20000 in
theorem ok_X6_end (m : Mem) {z : Int32} (h : r_X6_end m = some z) : Mt yX6_end cX6_end 1 (some .int) 1 0 0 0 [vR 6 0] m (oI z) m := by
  refine Mt.of (by decide) (Nat.le_of_ble_eq_true rfl) (by decide +kernel) (hhF_ne (by decide)) ?_
  show Xj RX6 cX6_end 1 (some .int) 1 0 0 0 0 0 0 [(0, vR 6 0)] [] m (oI z) m
  unfold r_X6_end at h
  refine xj_aload_n 0 dX6_end_0 rfl ?_
  refine xg_getI (x := (m 6 0 3)) dX6_end_1 fl_X6_75 rfl rfl ?_
  refine xj_if_ne (tgt := 11) dX6_end_4 (by decide) (fun c1 => ?_) (fun c1 => ?_)
  · rw [if_neg c1] at h
    refine xj_aload_n 0 dX6_end_11 rfl ?_
    refine xg_getR (k' := 38) (i' := 0) dX6_end_12 fl_X6_9 rfl ?_
    refine xj_aload_n 0 dX6_end_15 rfl ?_
    refine xg_getI (x := (m 6 0 3)) dX6_end_16 fl_X6_75 rfl rfl ?_
    refine xj_iconst (z := 1) dX6_end_19 (by decide) ?_
    refine xj_isub dX6_end_20 ?_
    by_cases c2 : inb ((m 6 0 3) - 1) 12 = true
    case neg => rw [if_neg c2] at h; cases h
    rw [if_pos c2] at h
    refine xg_iald (z := (m 38 0 (((m 6 0 3) - 1).toNatClampNeg))) (n := ((m 6 0 3) - 1).toNatClampNeg) dX6_end_21 rfl (by decide) (inb_in c2) rfl rfl ?_
    cases h
    exact xj_ireturn dX6_end_22 rfl (by decide) (by decide)
  · rw [if_pos c1] at h
    refine xj_iconst (z := (-1)) dX6_end_7 (by decide) ?_
    refine xj_goto (tgt := 22) dX6_end_8 (by decide) ?_
    cases h
    exact xj_ireturn dX6_end_22 rfl (by decide) (by decide)
noncomputable def r_X6_flowOneDay_j91_c61 (i1 : Nat) (x2 : Int32) (x3 : Int32) (x4 : Int32) (x6 : Int32) (m : Mem) : Option ((Int32 × Mem) ⊕ (Mem)) :=
  some (Sum.inl (x6 + 1, m))
set_option maxHeartbeats 4000000 in
set_option maxRecDepth 20000 in
theorem ok_X6_flowOneDay_j91_c61 (i1 : Nat) (x2 : Int32) (x3 : Int32) (x4 : Int32) (x6 : Int32) (m : Mem) {r : (Int32 × Mem) ⊕ (Mem)} (h : r_X6_flowOneDay_j91_c61 i1 x2 x3 x4 x6 m = some r) {o : Ou} {M' : Mem} (kb : ∀ (x6' : Int32) (m'' : Mem), r = Sum.inl (x6', m'') → Xj RX6 cX6_flowOneDay 7 none 2 25 0 0 0 0 61 [(0, vR 6 0), (1, vR 7 i1), (2, vI x2), (3, vI x3), (4, vI x4), (6, vI x6')] [] m'' o M') (ke : ∀ (m'' : Mem), r = Sum.inr m'' → Xj RX6 cX6_flowOneDay 7 none 2 25 0 0 0 0 97 [(0, vR 6 0), (1, vR 7 i1), (2, vI x2)] [] m'' o M') : Xj RX6 cX6_flowOneDay 7 none 2 25 0 0 0 0 91 [(0, vR 6 0), (1, vR 7 i1), (2, vI x2), (3, vI x3), (4, vI x4), (6, vI x6)] [] m o M' := by
  unfold r_X6_flowOneDay_j91_c61 at h
  refine xj_iinc (z := x6 + 1) (ls' := [(6, vI (x6 + 1)), (0, vR 6 0), (1, vR 7 i1), (2, vI x2), (3, vI x3), (4, vI x4)]) 5 dX6_flowOneDay_91 rfl rfl (by decide) rfl ?_
  refine xj_goto (tgt := 61) dX6_flowOneDay_94 (by decide) ?_
  cases h
  refine xj_pick (ls' := [(0, vR 6 0), (1, vR 7 i1), (2, vI x2), (3, vI x3), (4, vI x4), (6, vI (x6 + 1))]) [1, 2, 3, 4, 5, 0] rfl ?_
  exact kb (x6 + 1) m rfl
noncomputable def r_X6_flowOneDay_b61_c2 (i1 : Nat) (x2 : Int32) (x3 : Int32) (x4 : Int32) (x6 : Int32) (m : Mem) : Option ((Int32 × Mem) ⊕ (Mem)) :=
  if (m 7 i1 1) ≤ x6 then (some (Sum.inr m)) else (if inb x6 8 = true then (if (m 21 i1 x6.toNatClampNeg) = x3 then (bd2 (r_X7_tell i1 x6 x3 x4 m) fun z12 m11 => (r_X6_flowOneDay_j91_c61 i1 x2 x3 x4 x6 m11)) else (r_X6_flowOneDay_j91_c61 i1 x2 x3 x4 x6 m)) else none)
set_option maxHeartbeats 4000000 in
set_option maxRecDepth 20000 in
theorem ok_X6_flowOneDay_b61_c2 (i1 : Nat) (x2 : Int32) (x3 : Int32) (x4 : Int32) (x6 : Int32) (m : Mem) {r : (Int32 × Mem) ⊕ (Mem)} (h : r_X6_flowOneDay_b61_c2 i1 x2 x3 x4 x6 m = some r) {o : Ou} {M' : Mem} (kb : ∀ (x6' : Int32) (m'' : Mem), r = Sum.inl (x6', m'') → Xj RX6 cX6_flowOneDay 7 none 2 25 0 0 0 0 61 [(0, vR 6 0), (1, vR 7 i1), (2, vI x2), (3, vI x3), (4, vI x4), (6, vI x6')] [] m'' o M') (ke : ∀ (m'' : Mem), r = Sum.inr m'' → Xj RX6 cX6_flowOneDay 7 none 2 25 0 0 0 0 97 [(0, vR 6 0), (1, vR 7 i1), (2, vI x2)] [] m'' o M') : Xj RX6 cX6_flowOneDay 7 none 2 25 0 0 0 0 61 [(0, vR 6 0), (1, vR 7 i1), (2, vI x2), (3, vI x3), (4, vI x4), (6, vI x6)] [] m o M' := by
  unfold r_X6_flowOneDay_b61_c2 at h
  refine xj_iload 5 dX6_flowOneDay_61 rfl ?_
  refine xj_aload_n 1 dX6_flowOneDay_63 rfl ?_
  refine xg_getI (x := (m 7 i1 1)) dX6_flowOneDay_64 fl_X6_23 rfl rfl ?_
  refine xj_icmp_ge (tgt := 97) dX6_flowOneDay_67 (by decide) (fun c7 => ?_) (fun c7 => ?_)
  · rw [if_pos c7] at h
    cases h
    refine xj_pick (ls' := [(0, vR 6 0), (1, vR 7 i1), (2, vI x2)]) [0, 1, 2] rfl ?_
    exact ke m rfl
  · rw [if_neg c7] at h
    refine xj_aload_n 1 dX6_flowOneDay_70 rfl ?_
    refine xg_getR (k' := 21) (i' := i1) dX6_flowOneDay_71 fl_X6_36 rfl ?_
    refine xj_iload 5 dX6_flowOneDay_74 rfl ?_
    by_cases c8 : inb x6 8 = true
    case neg => rw [if_neg c8] at h; cases h
    rw [if_pos c8] at h
    refine xg_iald (z := (m 21 i1 x6.toNatClampNeg)) (n := x6.toNatClampNeg) dX6_flowOneDay_76 rfl (by decide) (inb_in c8) rfl rfl ?_
    refine xj_iload_n 3 dX6_flowOneDay_77 rfl ?_
    refine xj_icmp_ne (tgt := 91) dX6_flowOneDay_78 (by decide) (fun c9 => ?_) (fun c9 => ?_)
    · rw [if_neg c9] at h
      exact ok_X6_flowOneDay_j91_c61 i1 x2 x3 x4 x6 m h kb ke
    · rw [if_pos c9] at h
      refine xj_aload_n 1 dX6_flowOneDay_81 rfl ?_
      refine xj_iload 5 dX6_flowOneDay_82 rfl ?_
      refine xj_iload_n 3 dX6_flowOneDay_84 rfl ?_
      refine xj_iload 4 dX6_flowOneDay_85 rfl ?_
      obtain ⟨z12, m11, e10, h⟩ := bd2_some h
      refine xc_Vb0 (st := []) (ok_X7_tell i1 x6 x3 x4 m e10) dX6_flowOneDay_87 cv_X6_88 rfl rfl (Nat.le_of_ble_eq_true rfl) (by decide) (by decide) (by decide) (by decide) ?_
      refine xj_pop dX6_flowOneDay_90 rfl ?_
      exact ok_X6_flowOneDay_j91_c61 i1 x2 x3 x4 x6 m11 h kb ke
noncomputable def r_X6_flowOneDay_e97_h61_c2 (i1 : Nat) (x2 : Int32) (m : Mem) : Option ((Int32 × Mem) ⊕ (Mem)) :=
  some (Sum.inl (x2 + 1, m))
set_option maxHeartbeats 4000000 in
set_option maxRecDepth 20000 in
theorem ok_X6_flowOneDay_e97_h61_c2 (i1 : Nat) (x2 : Int32) (m : Mem) {r : (Int32 × Mem) ⊕ (Mem)} (h : r_X6_flowOneDay_e97_h61_c2 i1 x2 m = some r) {o : Ou} {M' : Mem} (kb : ∀ (x2' : Int32) (m'' : Mem), r = Sum.inl (x2', m'') → Xj RX6 cX6_flowOneDay 7 none 2 25 0 0 0 0 2 [(0, vR 6 0), (1, vR 7 i1), (2, vI x2')] [] m'' o M') (ke : ∀ (m'' : Mem), r = Sum.inr m'' → Xj RX6 cX6_flowOneDay 7 none 2 25 0 0 0 0 103 [(1, vR 7 i1)] [] m'' o M') : Xj RX6 cX6_flowOneDay 7 none 2 25 0 0 0 0 97 [(0, vR 6 0), (1, vR 7 i1), (2, vI x2)] [] m o M' := by
  unfold r_X6_flowOneDay_e97_h61_c2 at h
  refine xj_iinc (z := x2 + 1) (ls' := [(2, vI (x2 + 1)), (0, vR 6 0), (1, vR 7 i1)]) 2 dX6_flowOneDay_97 rfl rfl (by decide) rfl ?_
  refine xj_goto (tgt := 2) dX6_flowOneDay_100 (by decide) ?_
  cases h
  refine xj_pick (ls' := [(0, vR 6 0), (1, vR 7 i1), (2, vI (x2 + 1))]) [1, 2, 0] rfl ?_
  exact kb (x2 + 1) m rfl
noncomputable def r_X6_flowOneDay_l61_c2 (i1 : Nat) (x2 : Int32) (x3 : Int32) (x4 : Int32) (x6 : Int32) (m : Mem) : Option ((Int32 × Mem) ⊕ (Mem)) :=
  bd1 (loopO (fun s => r_X6_flowOneDay_b61_c2 i1 x2 x3 x4 s.1 s.2) (x6, m)) (fun e => r_X6_flowOneDay_e97_h61_c2 i1 x2 e)
set_option maxHeartbeats 4000000 in
set_option maxRecDepth 20000 in
theorem ok_X6_flowOneDay_l61_c2 (i1 : Nat) (x2 : Int32) (x3 : Int32) (x4 : Int32) (x6 : Int32) (m : Mem) {r : (Int32 × Mem) ⊕ (Mem)} (h : r_X6_flowOneDay_l61_c2 i1 x2 x3 x4 x6 m = some r) {o : Ou} {M' : Mem} (kb : ∀ (x2' : Int32) (m'' : Mem), r = Sum.inl (x2', m'') → Xj RX6 cX6_flowOneDay 7 none 2 25 0 0 0 0 2 [(0, vR 6 0), (1, vR 7 i1), (2, vI x2')] [] m'' o M') (ke : ∀ (m'' : Mem), r = Sum.inr m'' → Xj RX6 cX6_flowOneDay 7 none 2 25 0 0 0 0 103 [(1, vR 7 i1)] [] m'' o M') : Xj RX6 cX6_flowOneDay 7 none 2 25 0 0 0 0 61 [(0, vR 6 0), (1, vR 7 i1), (2, vI x2), (3, vI x3), (4, vI x4), (6, vI x6)] [] m o M' := by
  unfold r_X6_flowOneDay_l61_c2 at h
  obtain ⟨e, e1, h⟩ := bd1_some h
  refine loopO_ok (P := fun s : (Int32 × Mem) => Xj RX6 cX6_flowOneDay 7 none 2 25 0 0 0 0 61 [(0, vR 6 0), (1, vR 7 i1), (2, vI x2), (3, vI x3), (4, vI x4), (6, vI s.1)] [] s.2 o M') (Q := fun e : (Mem) => Xj RX6 cX6_flowOneDay 7 none 2 25 0 0 0 0 97 [(0, vR 6 0), (1, vR 7 i1), (2, vI x2)] [] e o M') ?_ _ _ e1 ?_
  · intro s r9 h9 hi hx
    exact ok_X6_flowOneDay_b61_c2 i1 x2 x3 x4 s.1 s.2 h9 (by rintro _ _ rfl; exact hi _ rfl) (by rintro _ rfl; exact hx _ rfl)
  · exact ok_X6_flowOneDay_e97_h61_c2 i1 x2 e h kb ke
noncomputable def r_X6_flowOneDay_j58_c2 (i1 : Nat) (x2 : Int32) (x3 : Int32) (x4 : Int32) (m : Mem) : Option ((Int32 × Mem) ⊕ (Mem)) :=
  r_X6_flowOneDay_l61_c2 i1 x2 x3 x4 0 m
set_option maxHeartbeats 4000000 in
set_option maxRecDepth 20000 in
theorem ok_X6_flowOneDay_j58_c2 (i1 : Nat) (x2 : Int32) (x3 : Int32) (x4 : Int32) (m : Mem) {r : (Int32 × Mem) ⊕ (Mem)} (h : r_X6_flowOneDay_j58_c2 i1 x2 x3 x4 m = some r) {o : Ou} {M' : Mem} (kb : ∀ (x2' : Int32) (m'' : Mem), r = Sum.inl (x2', m'') → Xj RX6 cX6_flowOneDay 7 none 2 25 0 0 0 0 2 [(0, vR 6 0), (1, vR 7 i1), (2, vI x2')] [] m'' o M') (ke : ∀ (m'' : Mem), r = Sum.inr m'' → Xj RX6 cX6_flowOneDay 7 none 2 25 0 0 0 0 103 [(1, vR 7 i1)] [] m'' o M') : Xj RX6 cX6_flowOneDay 7 none 2 25 0 0 0 0 58 [(0, vR 6 0), (1, vR 7 i1), (2, vI x2), (3, vI x3), (4, vI x4)] [] m o M' := by
  unfold r_X6_flowOneDay_j58_c2 at h
  refine xj_iconst (z := 0) dX6_flowOneDay_58 (by decide) ?_
  refine xj_istore (ls' := [(6, vI 0), (0, vR 6 0), (1, vR 7 i1), (2, vI x2), (3, vI x3), (4, vI x4)]) dX6_flowOneDay_59 (by decide) rfl ?_
  refine xj_pick (ls' := [(0, vR 6 0), (1, vR 7 i1), (2, vI x2), (3, vI x3), (4, vI x4), (6, vI 0)]) [1, 2, 3, 4, 5, 0] rfl ?_
  exact ok_X6_flowOneDay_l61_c2 i1 x2 x3 x4 0 m h kb ke
noncomputable def r_X6_flowOneDay_b2 (i1 : Nat) (x2 : Int32) (m : Mem) : Option ((Int32 × Mem) ⊕ (Mem)) :=
  if (m 6 0 3) ≤ (x2 + 1) then (some (Sum.inr m)) else (if inb x2 12 = true then (if inb (x2 + 1) 12 = true then (bd1 (r_X3_between 0 (m 38 0 x2.toNatClampNeg) (m 38 0 ((x2 + 1).toNatClampNeg)) m) fun z5 => (if z5 = (-1) then (r_X6_flowOneDay_j58_c2 i1 x2 (m 38 0 x2.toNatClampNeg) (m 38 0 ((x2 + 1).toNatClampNeg)) m) else (if inb z5 16 = true then (r_X6_flowOneDay_j58_c2 i1 x2 (m 38 0 x2.toNatClampNeg) (m 38 0 ((x2 + 1).toNatClampNeg)) (wr m 24 i1 z5.toNatClampNeg ((m 24 i1 z5.toNatClampNeg) + 1))) else none))) else none) else none)
set_option maxHeartbeats 4000000 in
set_option maxRecDepth 20000 in
theorem ok_X6_flowOneDay_b2 (i1 : Nat) (x2 : Int32) (m : Mem) {r : (Int32 × Mem) ⊕ (Mem)} (h : r_X6_flowOneDay_b2 i1 x2 m = some r) {o : Ou} {M' : Mem} (kb : ∀ (x2' : Int32) (m'' : Mem), r = Sum.inl (x2', m'') → Xj RX6 cX6_flowOneDay 7 none 2 25 0 0 0 0 2 [(0, vR 6 0), (1, vR 7 i1), (2, vI x2')] [] m'' o M') (ke : ∀ (m'' : Mem), r = Sum.inr m'' → Xj RX6 cX6_flowOneDay 7 none 2 25 0 0 0 0 103 [(1, vR 7 i1)] [] m'' o M') : Xj RX6 cX6_flowOneDay 7 none 2 25 0 0 0 0 2 [(0, vR 6 0), (1, vR 7 i1), (2, vI x2)] [] m o M' := by
  unfold r_X6_flowOneDay_b2 at h
  refine xj_iload_n 2 dX6_flowOneDay_2 rfl ?_
  refine xj_iconst (z := 1) dX6_flowOneDay_3 (by decide) ?_
  refine xj_iadd dX6_flowOneDay_4 ?_
  refine xj_aload_n 0 dX6_flowOneDay_5 rfl ?_
  refine xg_getI (x := (m 6 0 3)) dX6_flowOneDay_6 fl_X6_75 rfl rfl ?_
  refine xj_icmp_ge (tgt := 103) dX6_flowOneDay_9 (by decide) (fun c1 => ?_) (fun c1 => ?_)
  · rw [if_pos c1] at h
    cases h
    refine xj_pick (ls' := [(1, vR 7 i1)]) [1] rfl ?_
    exact ke m rfl
  · rw [if_neg c1] at h
    refine xj_aload_n 0 dX6_flowOneDay_12 rfl ?_
    refine xg_getR (k' := 38) (i' := 0) dX6_flowOneDay_13 fl_X6_9 rfl ?_
    refine xj_iload_n 2 dX6_flowOneDay_16 rfl ?_
    by_cases c2 : inb x2 12 = true
    case neg => rw [if_neg c2] at h; cases h
    rw [if_pos c2] at h
    refine xg_iald (z := (m 38 0 x2.toNatClampNeg)) (n := x2.toNatClampNeg) dX6_flowOneDay_17 rfl (by decide) (inb_in c2) rfl rfl ?_
    refine xj_istore_n (ls' := [(3, vI (m 38 0 x2.toNatClampNeg)), (0, vR 6 0), (1, vR 7 i1), (2, vI x2)]) dX6_flowOneDay_18 rfl (by decide) rfl ?_
    refine xj_aload_n 1 dX6_flowOneDay_19 rfl ?_
    refine xg_getR (k' := 38) (i' := 0) dX6_flowOneDay_20 fl_X6_9 rfl ?_
    refine xj_iload_n 3 dX6_flowOneDay_23 rfl ?_
    refine xj_iconst (z := 1) dX6_flowOneDay_24 (by decide) ?_
    refine xj_iadd dX6_flowOneDay_25 ?_
    by_cases c3 : inb (x2 + 1) 12 = true
    case neg => rw [if_neg c3] at h; cases h
    rw [if_pos c3] at h
    refine xg_iald (z := (m 38 0 ((x2 + 1).toNatClampNeg))) (n := (x2 + 1).toNatClampNeg) dX6_flowOneDay_26 rfl (by decide) (inb_in c3) rfl rfl ?_
    refine xj_istore (ls' := [(4, vI (m 38 0 ((x2 + 1).toNatClampNeg))), (3, vI (m 38 0 x2.toNatClampNeg)), (0, vR 6 0), (1, vR 7 i1), (2, vI x2)]) dX6_flowOneDay_27 (by decide) rfl ?_
    refine xj_aload_n 2 dX6_flowOneDay_29 rfl ?_
    refine xg_getR (k' := 3) (i' := 0) dX6_flowOneDay_30 fl_X6_15 rfl ?_
    refine xj_iload_n 1 dX6_flowOneDay_33 rfl ?_
    refine xj_iload 0 dX6_flowOneDay_34 rfl ?_
    obtain ⟨z5, e4, h⟩ := bd1_some h
    refine xc_Vi0 (st := []) (ok_X3_between 0 (m 38 0 x2.toNatClampNeg) (m 38 0 ((x2 + 1).toNatClampNeg)) m e4) dX6_flowOneDay_36 cv_X6_39 rfl rfl (Nat.le_of_ble_eq_true rfl) (by decide) (by decide) (by decide) (by decide) ?_
    refine xj_istore (ls' := [(5, vI z5), (4, vI (m 38 0 ((x2 + 1).toNatClampNeg))), (3, vI (m 38 0 x2.toNatClampNeg)), (0, vR 6 0), (1, vR 7 i1), (2, vI x2)]) dX6_flowOneDay_39 (by decide) rfl ?_
    refine xj_iload 0 dX6_flowOneDay_41 rfl ?_
    refine xj_iconst (z := (-1)) dX6_flowOneDay_43 (by decide) ?_
    refine xj_icmp_eq (tgt := 58) dX6_flowOneDay_44 (by decide) (fun c6 => ?_) (fun c6 => ?_)
    · rw [if_pos c6] at h
      refine xj_pick (ls' := [(0, vR 6 0), (1, vR 7 i1), (2, vI x2), (3, vI (m 38 0 x2.toNatClampNeg)), (4, vI (m 38 0 ((x2 + 1).toNatClampNeg)))]) [3, 4, 5, 2, 1] rfl ?_
      exact ok_X6_flowOneDay_j58_c2 i1 x2 (m 38 0 x2.toNatClampNeg) (m 38 0 ((x2 + 1).toNatClampNeg)) m h kb ke
    · rw [if_neg c6] at h
      refine xj_aload_n 4 dX6_flowOneDay_47 rfl ?_
      refine xg_getR (k' := 24) (i' := i1) dX6_flowOneDay_48 fl_X6_55 rfl ?_
      refine xj_iload 0 dX6_flowOneDay_51 rfl ?_
      refine xj_dup2 dX6_flowOneDay_53 rfl rfl ?_
      by_cases c13 : inb z5 16 = true
      case neg => rw [if_neg c13] at h; cases h
      rw [if_pos c13] at h
      refine xg_iald (z := (m 24 i1 z5.toNatClampNeg)) (n := z5.toNatClampNeg) dX6_flowOneDay_54 rfl (by decide) (inb_in c13) rfl rfl ?_
      refine xj_iconst (z := 1) dX6_flowOneDay_55 (by decide) ?_
      refine xj_iadd dX6_flowOneDay_56 ?_
      refine xg_iast (n := z5.toNatClampNeg) dX6_flowOneDay_57 rfl (by decide) (inb_in c13) rfl ?_
      refine xj_pick (ls' := [(0, vR 6 0), (1, vR 7 i1), (2, vI x2), (3, vI (m 38 0 x2.toNatClampNeg)), (4, vI (m 38 0 ((x2 + 1).toNatClampNeg)))]) [3, 4, 5, 2, 1] rfl ?_
      exact ok_X6_flowOneDay_j58_c2 i1 x2 (m 38 0 x2.toNatClampNeg) (m 38 0 ((x2 + 1).toNatClampNeg)) (wr m 24 i1 z5.toNatClampNeg ((m 24 i1 z5.toNatClampNeg) + 1)) h kb ke
noncomputable def r_X6_flowOneDay_e103_h2 (i1 : Nat) (m : Mem) : Option Mem :=
  some (wr m 7 i1 0 ((m 7 i1 0) + 1))
set_option maxHeartbeats 4000000 in
set_option maxRecDepth 20000 in
theorem ok_X6_flowOneDay_e103_h2 (i1 : Nat) (m : Mem) {m' : Mem} (h : r_X6_flowOneDay_e103_h2 i1 m = some m') : Xj RX6 cX6_flowOneDay 7 none 2 25 0 0 0 0 103 [(1, vR 7 i1)] [] m oV m' := by
  unfold r_X6_flowOneDay_e103_h2 at h
  refine xj_aload_n 0 dX6_flowOneDay_103 rfl ?_
  refine xj_dup dX6_flowOneDay_104 rfl ?_
  refine xg_getI (x := (m 7 i1 0)) dX6_flowOneDay_105 fl_X6_58 rfl rfl ?_
  refine xj_iconst (z := 1) dX6_flowOneDay_108 (by decide) ?_
  refine xj_iadd dX6_flowOneDay_109 ?_
  refine xj_putI dX6_flowOneDay_110 fw_X6_58 rfl ?_
  cases h
  exact xj_return dX6_flowOneDay_113 (by decide) (by decide)
noncomputable def r_X6_flowOneDay_l2 (i1 : Nat) (x2 : Int32) (m : Mem) : Option Mem :=
  bd1 (loopO (fun s => r_X6_flowOneDay_b2 i1 s.1 s.2) (x2, m)) (fun e => r_X6_flowOneDay_e103_h2 i1 e)
set_option maxHeartbeats 4000000 in
set_option maxRecDepth 20000 in
theorem ok_X6_flowOneDay_l2 (i1 : Nat) (x2 : Int32) (m : Mem) {m' : Mem} (h : r_X6_flowOneDay_l2 i1 x2 m = some m') : Xj RX6 cX6_flowOneDay 7 none 2 25 0 0 0 0 2 [(0, vR 6 0), (1, vR 7 i1), (2, vI x2)] [] m oV m' := by
  unfold r_X6_flowOneDay_l2 at h
  obtain ⟨e, e1, h⟩ := bd1_some h
  refine loopO_ok (P := fun s : (Int32 × Mem) => Xj RX6 cX6_flowOneDay 7 none 2 25 0 0 0 0 2 [(0, vR 6 0), (1, vR 7 i1), (2, vI s.1)] [] s.2 oV m') (Q := fun e : (Mem) => Xj RX6 cX6_flowOneDay 7 none 2 25 0 0 0 0 103 [(1, vR 7 i1)] [] e oV m') ?_ _ _ e1 ?_
  · intro s r9 h9 hi hx
    exact ok_X6_flowOneDay_b2 i1 s.1 s.2 h9 (by rintro _ _ rfl; exact hi _ rfl) (by rintro _ rfl; exact hx _ rfl)
  · exact ok_X6_flowOneDay_e103_h2 i1 e h 
noncomputable def r_X6_flowOneDay (i1 : Nat) (m : Mem) : Option Mem :=
  r_X6_flowOneDay_l2 i1 0 m
set_option maxHeartbeats 4000000 in
set_option maxRecDepth 20000 in
theorem ok_X6_flowOneDay (i1 : Nat) (m : Mem) {m' : Mem} (h : r_X6_flowOneDay i1 m = some m') : Mt yX6_flowOneDay cX6_flowOneDay 7 none 2 25 0 0 [vR 6 0, vR 7 i1] m oV m' := by
  refine Mt.of (by decide) (Nat.le_of_ble_eq_true rfl) (by decide +kernel) (hhF_ne (by decide)) ?_
  show Xj RX6 cX6_flowOneDay 7 none 2 25 0 0 0 0 0 [(0, vR 6 0), (1, vR 7 i1)] [] m oV m'
  unfold r_X6_flowOneDay at h
  refine xj_iconst (z := 0) dX6_flowOneDay_0 (by decide) ?_
  refine xj_istore_n (ls' := [(2, vI 0), (0, vR 6 0), (1, vR 7 i1)]) dX6_flowOneDay_1 rfl (by decide) rfl ?_
  refine xj_pick (ls' := [(0, vR 6 0), (1, vR 7 i1), (2, vI 0)]) [1, 2, 0] rfl ?_
  exact ok_X6_flowOneDay_l2 i1 0 m h 
noncomputable def r_X6_goesOn_j60_c8 (i1 : Nat) (x2 : Int32) (x3 : Int32) (x4 : Int32) (x5 : Int32) (m : Mem) : Option ((Int32 × Int32 × Int32 × Mem) ⊕ (Int32 × Mem)) :=
  some (Sum.inl (x3, x4, x5 + 1, m))
set_option maxHeartbeats 4000000 in
set_option maxRecDepth 20000 in
theorem ok_X6_goesOn_j60_c8 (i1 : Nat) (x2 : Int32) (x3 : Int32) (x4 : Int32) (x5 : Int32) (m : Mem) {r : (Int32 × Int32 × Int32 × Mem) ⊕ (Int32 × Mem)} (h : r_X6_goesOn_j60_c8 i1 x2 x3 x4 x5 m = some r) {o : Ou} {M' : Mem} (kb : ∀ (x3' : Int32) (x4' : Int32) (x5' : Int32) (m'' : Mem), r = Sum.inl (x3', x4', x5', m'') → Xj RX6 cX6_goesOn 7 (some .int) 3 53 0 0 0 0 8 [(0, vR 6 0), (1, vR 7 i1), (2, vI x2), (3, vI x3'), (4, vI x4'), (5, vI x5')] [] m'' o M') (ke : ∀ (x4' : Int32) (m'' : Mem), r = Sum.inr (x4', m'') → Xj RX6 cX6_goesOn 7 (some .int) 3 53 0 0 0 0 66 [(4, vI x4')] [] m'' o M') : Xj RX6 cX6_goesOn 7 (some .int) 3 53 0 0 0 0 60 [(0, vR 6 0), (1, vR 7 i1), (2, vI x2), (3, vI x3), (4, vI x4), (5, vI x5)] [] m o M' := by
  unfold r_X6_goesOn_j60_c8 at h
  refine xj_iinc (z := x5 + 1) (ls' := [(5, vI (x5 + 1)), (0, vR 6 0), (1, vR 7 i1), (2, vI x2), (3, vI x3), (4, vI x4)]) 5 dX6_goesOn_60 rfl rfl (by decide) rfl ?_
  refine xj_goto (tgt := 8) dX6_goesOn_63 (by decide) ?_
  cases h
  refine xj_pick (ls' := [(0, vR 6 0), (1, vR 7 i1), (2, vI x2), (3, vI x3), (4, vI x4), (5, vI (x5 + 1))]) [1, 2, 3, 4, 5, 0] rfl ?_
  exact kb x3 x4 (x5 + 1) m rfl
noncomputable def r_X6_goesOn_b8 (i1 : Nat) (x2 : Int32) (x3 : Int32) (x4 : Int32) (x5 : Int32) (m : Mem) : Option ((Int32 × Int32 × Int32 × Mem) ⊕ (Int32 × Mem)) :=
  if (m 3 0 0) ≤ x5 then (some (Sum.inr (x4, m))) else (if inb x2 12 = true then (if (((m 26 0 x2.toNatClampNeg) >>> (x5 &&& 31)) &&& 1) = 0 then (r_X6_goesOn_j60_c8 i1 x2 x3 x4 x5 m) else (bd2 (r_X6_draw i1 x2 x5 m) fun z6 m5 => (if z6 ≤ x3 then (r_X6_goesOn_j60_c8 i1 x2 x3 x4 x5 m5) else (r_X6_goesOn_j60_c8 i1 x2 z6 x5 x5 m5)))) else none)
set_option maxHeartbeats 4000000 in
set_option maxRecDepth 20000 in
theorem ok_X6_goesOn_b8 (i1 : Nat) (x2 : Int32) (x3 : Int32) (x4 : Int32) (x5 : Int32) (m : Mem) {r : (Int32 × Int32 × Int32 × Mem) ⊕ (Int32 × Mem)} (h : r_X6_goesOn_b8 i1 x2 x3 x4 x5 m = some r) {o : Ou} {M' : Mem} (kb : ∀ (x3' : Int32) (x4' : Int32) (x5' : Int32) (m'' : Mem), r = Sum.inl (x3', x4', x5', m'') → Xj RX6 cX6_goesOn 7 (some .int) 3 53 0 0 0 0 8 [(0, vR 6 0), (1, vR 7 i1), (2, vI x2), (3, vI x3'), (4, vI x4'), (5, vI x5')] [] m'' o M') (ke : ∀ (x4' : Int32) (m'' : Mem), r = Sum.inr (x4', m'') → Xj RX6 cX6_goesOn 7 (some .int) 3 53 0 0 0 0 66 [(4, vI x4')] [] m'' o M') : Xj RX6 cX6_goesOn 7 (some .int) 3 53 0 0 0 0 8 [(0, vR 6 0), (1, vR 7 i1), (2, vI x2), (3, vI x3), (4, vI x4), (5, vI x5)] [] m o M' := by
  unfold r_X6_goesOn_b8 at h
  refine xj_iload 5 dX6_goesOn_8 rfl ?_
  refine xj_aload_n 0 dX6_goesOn_10 rfl ?_
  refine xg_getR (k' := 3) (i' := 0) dX6_goesOn_11 fl_X6_15 rfl ?_
  refine xg_getI (x := (m 3 0 0)) dX6_goesOn_14 fl_X6_65 rfl rfl ?_
  refine xj_icmp_ge (tgt := 66) dX6_goesOn_17 (by decide) (fun c1 => ?_) (fun c1 => ?_)
  · rw [if_pos c1] at h
    cases h
    refine xj_pick (ls' := [(4, vI x4)]) [4] rfl ?_
    exact ke x4 m rfl
  · rw [if_neg c1] at h
    refine xj_aload_n 0 dX6_goesOn_20 rfl ?_
    refine xg_getR (k' := 3) (i' := 0) dX6_goesOn_21 fl_X6_15 rfl ?_
    refine xg_getR (k' := 26) (i' := 0) dX6_goesOn_24 fl_X6_68 rfl ?_
    refine xj_iload_n 2 dX6_goesOn_27 rfl ?_
    by_cases c2 : inb x2 12 = true
    case neg => rw [if_neg c2] at h; cases h
    rw [if_pos c2] at h
    refine xg_iald (z := (m 26 0 x2.toNatClampNeg)) (n := x2.toNatClampNeg) dX6_goesOn_28 rfl (by decide) (inb_in c2) rfl rfl ?_
    refine xj_iload 5 dX6_goesOn_29 rfl ?_
    refine xj_ishr dX6_goesOn_31 ?_
    refine xj_iconst (z := 1) dX6_goesOn_32 (by decide) ?_
    refine xj_iand dX6_goesOn_33 ?_
    refine xj_if_eq (tgt := 60) dX6_goesOn_34 (by decide) (fun c3 => ?_) (fun c3 => ?_)
    · rw [if_pos c3] at h
      exact ok_X6_goesOn_j60_c8 i1 x2 x3 x4 x5 m h kb ke
    · rw [if_neg c3] at h
      refine xj_aload_n 0 dX6_goesOn_37 rfl ?_
      refine xj_aload_n 1 dX6_goesOn_38 rfl ?_
      refine xj_iload_n 2 dX6_goesOn_39 rfl ?_
      refine xj_iload 5 dX6_goesOn_40 rfl ?_
      obtain ⟨z6, m5, e4, h⟩ := bd2_some h
      refine xc_Vi0 (st := []) (ok_X6_draw i1 x2 x5 m e4) dX6_goesOn_42 cv_X6_71 rfl rfl (Nat.le_of_ble_eq_true rfl) (by decide) (by decide) (by decide) (by decide) ?_
      refine xj_istore (ls' := [(6, vI z6), (0, vR 6 0), (1, vR 7 i1), (2, vI x2), (3, vI x3), (4, vI x4), (5, vI x5)]) dX6_goesOn_45 (by decide) rfl ?_
      refine xj_iload 0 dX6_goesOn_47 rfl ?_
      refine xj_iload_n 4 dX6_goesOn_49 rfl ?_
      refine xj_icmp_le (tgt := 60) dX6_goesOn_50 (by decide) (fun c7 => ?_) (fun c7 => ?_)
      · rw [if_pos c7] at h
        refine xj_pick (ls' := [(0, vR 6 0), (1, vR 7 i1), (2, vI x2), (3, vI x3), (4, vI x4), (5, vI x5)]) [1, 2, 3, 4, 5, 6] rfl ?_
        exact ok_X6_goesOn_j60_c8 i1 x2 x3 x4 x5 m5 h kb ke
      · rw [if_neg c7] at h
        refine xj_iload 0 dX6_goesOn_53 rfl ?_
        refine xj_istore_n (ls' := [(3, vI z6), (6, vI z6), (0, vR 6 0), (1, vR 7 i1), (2, vI x2), (4, vI x4), (5, vI x5)]) dX6_goesOn_55 rfl (by decide) rfl ?_
        refine xj_iload 6 dX6_goesOn_56 rfl ?_
        refine xj_istore (ls' := [(4, vI x5), (3, vI z6), (6, vI z6), (0, vR 6 0), (1, vR 7 i1), (2, vI x2), (5, vI x5)]) dX6_goesOn_58 (by decide) rfl ?_
        refine xj_pick (ls' := [(0, vR 6 0), (1, vR 7 i1), (2, vI x2), (3, vI z6), (4, vI x5), (5, vI x5)]) [3, 4, 5, 1, 0, 6] rfl ?_
        exact ok_X6_goesOn_j60_c8 i1 x2 z6 x5 x5 m5 h kb ke
noncomputable def r_X6_goesOn_e66_h8 (x4 : Int32) (m : Mem) : Option (Int32 × Mem) :=
  some (x4, m)
set_option maxHeartbeats 4000000 in
set_option maxRecDepth 20000 in
theorem ok_X6_goesOn_e66_h8 (x4 : Int32) (m : Mem) {z : Int32} {m' : Mem} (h : r_X6_goesOn_e66_h8 x4 m = some (z, m')) : Xj RX6 cX6_goesOn 7 (some .int) 3 53 0 0 0 0 66 [(4, vI x4)] [] m (oI z) m' := by
  unfold r_X6_goesOn_e66_h8 at h
  refine xj_iload 0 dX6_goesOn_66 rfl ?_
  cases h
  exact xj_ireturn dX6_goesOn_68 rfl (by decide) (by decide)
noncomputable def r_X6_goesOn_l8 (i1 : Nat) (x2 : Int32) (x3 : Int32) (x4 : Int32) (x5 : Int32) (m : Mem) : Option (Int32 × Mem) :=
  bd1 (loopO (fun s => r_X6_goesOn_b8 i1 x2 s.1 s.2.1 s.2.2.1 s.2.2.2) (x3, x4, x5, m)) (fun e => r_X6_goesOn_e66_h8 e.1 e.2)
set_option maxHeartbeats 4000000 in
set_option maxRecDepth 20000 in
theorem ok_X6_goesOn_l8 (i1 : Nat) (x2 : Int32) (x3 : Int32) (x4 : Int32) (x5 : Int32) (m : Mem) {z : Int32} {m' : Mem} (h : r_X6_goesOn_l8 i1 x2 x3 x4 x5 m = some (z, m')) : Xj RX6 cX6_goesOn 7 (some .int) 3 53 0 0 0 0 8 [(0, vR 6 0), (1, vR 7 i1), (2, vI x2), (3, vI x3), (4, vI x4), (5, vI x5)] [] m (oI z) m' := by
  unfold r_X6_goesOn_l8 at h
  obtain ⟨e, e1, h⟩ := bd1_some h
  refine loopO_ok (P := fun s : (Int32 × Int32 × Int32 × Mem) => Xj RX6 cX6_goesOn 7 (some .int) 3 53 0 0 0 0 8 [(0, vR 6 0), (1, vR 7 i1), (2, vI x2), (3, vI s.1), (4, vI s.2.1), (5, vI s.2.2.1)] [] s.2.2.2 (oI z) m') (Q := fun e : (Int32 × Mem) => Xj RX6 cX6_goesOn 7 (some .int) 3 53 0 0 0 0 66 [(4, vI e.1)] [] e.2 (oI z) m') ?_ _ _ e1 ?_
  · intro s r9 h9 hi hx
    exact ok_X6_goesOn_b8 i1 x2 s.1 s.2.1 s.2.2.1 s.2.2.2 h9 (by rintro _ _ _ _ rfl; exact hi _ rfl) (by rintro _ _ rfl; exact hx _ rfl)
  · exact ok_X6_goesOn_e66_h8 e.1 e.2 h 
noncomputable def r_X6_goesOn (i1 : Nat) (x2 : Int32) (m : Mem) : Option (Int32 × Mem) :=
  r_X6_goesOn_l8 i1 x2 0 (-1) 0 m
set_option maxHeartbeats 4000000 in
set_option maxRecDepth 20000 in
theorem ok_X6_goesOn (i1 : Nat) (x2 : Int32) (m : Mem) {z : Int32} {m' : Mem} (h : r_X6_goesOn i1 x2 m = some (z, m')) : Mt yX6_goesOn cX6_goesOn 7 (some .int) 3 53 0 0 [vR 6 0, vR 7 i1, vI x2] m (oI z) m' := by
  refine Mt.of (by decide) (Nat.le_of_ble_eq_true rfl) (by decide +kernel) (hhF_ne (by decide)) ?_
  show Xj RX6 cX6_goesOn 7 (some .int) 3 53 0 0 0 0 0 [(0, vR 6 0), (1, vR 7 i1), (2, vI x2)] [] m (oI z) m'
  unfold r_X6_goesOn at h
  refine xj_iconst (z := 0) dX6_goesOn_0 (by decide) ?_
  refine xj_istore_n (ls' := [(3, vI 0), (0, vR 6 0), (1, vR 7 i1), (2, vI x2)]) dX6_goesOn_1 rfl (by decide) rfl ?_
  refine xj_iconst (z := (-1)) dX6_goesOn_2 (by decide) ?_
  refine xj_istore (ls' := [(4, vI (-1)), (3, vI 0), (0, vR 6 0), (1, vR 7 i1), (2, vI x2)]) dX6_goesOn_3 (by decide) rfl ?_
  refine xj_iconst (z := 0) dX6_goesOn_5 (by decide) ?_
  refine xj_istore (ls' := [(5, vI 0), (4, vI (-1)), (3, vI 0), (0, vR 6 0), (1, vR 7 i1), (2, vI x2)]) dX6_goesOn_6 (by decide) rfl ?_
  refine xj_pick (ls' := [(0, vR 6 0), (1, vR 7 i1), (2, vI x2), (3, vI 0), (4, vI (-1)), (5, vI 0)]) [3, 4, 5, 2, 1, 0] rfl ?_
  exact ok_X6_goesOn_l8 i1 x2 0 (-1) 0 m h 
noncomputable def r_X6_key_b4 (m : Mem) (y1 : Int64) (x3 : Int32) : Option ((Int64 × Int32) ⊕ (Int64)) :=
  if (m 6 0 3) ≤ x3 then (some (Sum.inr y1)) else (if inb x3 12 = true then (some (Sum.inl (((y1 <<< ((4 : Int32).toInt64 &&& 63)) ||| (((m 38 0 x3.toNatClampNeg) + 1).toInt64)), x3 + 1))) else none)
set_option maxHeartbeats 4000000 in
set_option maxRecDepth 20000 in
theorem ok_X6_key_b4 (m : Mem) (y1 : Int64) (x3 : Int32) {r : (Int64 × Int32) ⊕ (Int64)} (h : r_X6_key_b4 m y1 x3 = some r) {o : Ou} {M' : Mem} (kb : ∀ (y1' : Int64) (x3' : Int32), r = Sum.inl (y1', x3') → Xj RX6 cX6_key 4 (some .long) 1 0 0 0 0 0 4 [(0, vR 6 0), (1, vL y1'), (3, vI x3')] [] m o M') (ke : ∀ (y1' : Int64), r = Sum.inr y1' → Xj RX6 cX6_key 4 (some .long) 1 0 0 0 0 0 32 [(1, vL y1')] [] m o M') : Xj RX6 cX6_key 4 (some .long) 1 0 0 0 0 0 4 [(0, vR 6 0), (1, vL y1), (3, vI x3)] [] m o M' := by
  unfold r_X6_key_b4 at h
  refine xj_iload_n 2 dX6_key_4 rfl ?_
  refine xj_aload_n 0 dX6_key_5 rfl ?_
  refine xg_getI (x := (m 6 0 3)) dX6_key_6 fl_X6_75 rfl rfl ?_
  refine xj_icmp_ge (tgt := 32) dX6_key_9 (by decide) (fun c1 => ?_) (fun c1 => ?_)
  · rw [if_pos c1] at h
    cases h
    refine xj_pick (ls' := [(1, vL y1)]) [1] rfl ?_
    exact ke y1 rfl
  · rw [if_neg c1] at h
    refine xj_lload_n 1 dX6_key_12 rfl ?_
    refine xj_iconst (z := 4) dX6_key_13 (by decide) ?_
    refine xj_lshl dX6_key_14 ?_
    refine xj_aload_n 0 dX6_key_15 rfl ?_
    refine xg_getR (k' := 38) (i' := 0) dX6_key_16 fl_X6_9 rfl ?_
    refine xj_iload_n 2 dX6_key_19 rfl ?_
    by_cases c2 : inb x3 12 = true
    case neg => rw [if_neg c2] at h; cases h
    rw [if_pos c2] at h
    refine xg_iald (z := (m 38 0 x3.toNatClampNeg)) (n := x3.toNatClampNeg) dX6_key_20 rfl (by decide) (inb_in c2) rfl rfl ?_
    refine xj_iconst (z := 1) dX6_key_21 (by decide) ?_
    refine xj_iadd dX6_key_22 ?_
    refine xj_i2l dX6_key_23 ?_
    refine xj_lor dX6_key_24 ?_
    refine xj_lstore_n (ls' := [(1, vL ((y1 <<< ((4 : Int32).toInt64 &&& 63)) ||| (((m 38 0 x3.toNatClampNeg) + 1).toInt64))), (0, vR 6 0), (3, vI x3)]) dX6_key_25 rfl (by decide) rfl ?_
    refine xj_iinc (z := x3 + 1) (ls' := [(3, vI (x3 + 1)), (1, vL ((y1 <<< ((4 : Int32).toInt64 &&& 63)) ||| (((m 38 0 x3.toNatClampNeg) + 1).toInt64))), (0, vR 6 0)]) 2 dX6_key_26 rfl rfl (by decide) rfl ?_
    refine xj_goto (tgt := 4) dX6_key_29 (by decide) ?_
    cases h
    refine xj_pick (ls' := [(0, vR 6 0), (1, vL ((y1 <<< ((4 : Int32).toInt64 &&& 63)) ||| (((m 38 0 x3.toNatClampNeg) + 1).toInt64))), (3, vI (x3 + 1))]) [2, 1, 0] rfl ?_
    exact kb ((y1 <<< ((4 : Int32).toInt64 &&& 63)) ||| (((m 38 0 x3.toNatClampNeg) + 1).toInt64)) (x3 + 1) rfl
noncomputable def r_X6_key_e32_h4 (y1 : Int64) (m : Mem) : Option Int64 :=
  some y1
set_option maxHeartbeats 4000000 in
set_option maxRecDepth 20000 in
theorem ok_X6_key_e32_h4 (y1 : Int64) (m : Mem) {z : Int64} (h : r_X6_key_e32_h4 y1 m = some z) : Xj RX6 cX6_key 4 (some .long) 1 0 0 0 0 0 32 [(1, vL y1)] [] m (oL z) m := by
  unfold r_X6_key_e32_h4 at h
  refine xj_lload_n 0 dX6_key_32 rfl ?_
  cases h
  exact xj_lreturn dX6_key_33 (by decide) (by decide)
noncomputable def r_X6_key_l4 (y1 : Int64) (x3 : Int32) (m : Mem) : Option Int64 :=
  bd1 (loopO (fun s => r_X6_key_b4 m s.1 s.2) (y1, x3)) (fun e => r_X6_key_e32_h4 e m)
set_option maxHeartbeats 4000000 in
set_option maxRecDepth 20000 in
theorem ok_X6_key_l4 (y1 : Int64) (x3 : Int32) (m : Mem) {z : Int64} (h : r_X6_key_l4 y1 x3 m = some z) : Xj RX6 cX6_key 4 (some .long) 1 0 0 0 0 0 4 [(0, vR 6 0), (1, vL y1), (3, vI x3)] [] m (oL z) m := by
  unfold r_X6_key_l4 at h
  obtain ⟨e, e1, h⟩ := bd1_some h
  refine loopO_ok (P := fun s : (Int64 × Int32) => Xj RX6 cX6_key 4 (some .long) 1 0 0 0 0 0 4 [(0, vR 6 0), (1, vL s.1), (3, vI s.2)] [] m (oL z) m) (Q := fun e : (Int64) => Xj RX6 cX6_key 4 (some .long) 1 0 0 0 0 0 32 [(1, vL e)] [] m (oL z) m) ?_ _ _ e1 ?_
  · intro s r9 h9 hi hx
    exact ok_X6_key_b4 m s.1 s.2 h9 (by rintro _ _ rfl; exact hi _ rfl) (by rintro _ rfl; exact hx _ rfl)
  · exact ok_X6_key_e32_h4 e m h 
noncomputable def r_X6_key (m : Mem) : Option Int64 :=
  r_X6_key_l4 0 0 m
set_option maxHeartbeats 4000000 in
set_option maxRecDepth 20000 in
theorem ok_X6_key (m : Mem) {z : Int64} (h : r_X6_key m = some z) : Mt yX6_key cX6_key 4 (some .long) 1 0 0 0 [vR 6 0] m (oL z) m := by
  refine Mt.of (by decide) (Nat.le_of_ble_eq_true rfl) (by decide +kernel) (hhF_ne (by decide)) ?_
  show Xj RX6 cX6_key 4 (some .long) 1 0 0 0 0 0 0 [(0, vR 6 0)] [] m (oL z) m
  unfold r_X6_key at h
  refine xj_lconst (z := 0) dX6_key_0 (by decide) ?_
  refine xj_lstore_n (ls' := [(1, vL 0), (0, vR 6 0)]) dX6_key_1 rfl (by decide) rfl ?_
  refine xj_iconst (z := 0) dX6_key_2 (by decide) ?_
  refine xj_istore_n (ls' := [(3, vI 0), (1, vL 0), (0, vR 6 0)]) dX6_key_3 rfl (by decide) rfl ?_
  refine xj_pick (ls' := [(0, vR 6 0), (1, vL 0), (3, vI 0)]) [2, 1, 0] rfl ?_
  exact ok_X6_key_l4 0 0 m h 
noncomputable def r_X6_rank_b2 (x1 : Int32) (m : Mem) (x2 : Int32) : Option ((Int32) ⊕ (Unit ⊕ Int32)) :=
  if (m 6 0 3) ≤ x2 then (some (Sum.inr (Sum.inl ()))) else (if inb x2 12 = true then (if (m 38 0 x2.toNatClampNeg) = x1 then (some (Sum.inr (Sum.inr x2))) else (some (Sum.inl (x2 + 1)))) else none)
set_option maxHeartbeats 4000000 in
set_option maxRecDepth 20000 in
theorem ok_X6_rank_b2 (x1 : Int32) (m : Mem) (x2 : Int32) {r : (Int32) ⊕ (Unit ⊕ Int32)} (h : r_X6_rank_b2 x1 m x2 = some r) {o : Ou} {M' : Mem} (kb : ∀ (x2' : Int32), r = Sum.inl x2' → Xj RX6 cX6_rank 3 (some .int) 1 0 0 0 0 0 2 [(0, vR 6 0), (1, vI x1), (2, vI x2')] [] m o M') (ke : r = Sum.inr (Sum.inl ()) → Xj RX6 cX6_rank 3 (some .int) 1 0 0 0 0 0 28 [] [] m o M') (kr : ∀ (z : Int32), r = Sum.inr (Sum.inr z) → o = (oI z) ∧ M' = m) : Xj RX6 cX6_rank 3 (some .int) 1 0 0 0 0 0 2 [(0, vR 6 0), (1, vI x1), (2, vI x2)] [] m o M' := by
  unfold r_X6_rank_b2 at h
  refine xj_iload_n 2 dX6_rank_2 rfl ?_
  refine xj_aload_n 0 dX6_rank_3 rfl ?_
  refine xg_getI (x := (m 6 0 3)) dX6_rank_4 fl_X6_75 rfl rfl ?_
  refine xj_icmp_ge (tgt := 28) dX6_rank_7 (by decide) (fun c1 => ?_) (fun c1 => ?_)
  · rw [if_pos c1] at h
    cases h
    refine xj_pick (ls' := []) [] rfl ?_
    exact ke  rfl
  · rw [if_neg c1] at h
    refine xj_aload_n 0 dX6_rank_10 rfl ?_
    refine xg_getR (k' := 38) (i' := 0) dX6_rank_11 fl_X6_9 rfl ?_
    refine xj_iload_n 2 dX6_rank_14 rfl ?_
    by_cases c2 : inb x2 12 = true
    case neg => rw [if_neg c2] at h; cases h
    rw [if_pos c2] at h
    refine xg_iald (z := (m 38 0 x2.toNatClampNeg)) (n := x2.toNatClampNeg) dX6_rank_15 rfl (by decide) (inb_in c2) rfl rfl ?_
    refine xj_iload_n 1 dX6_rank_16 rfl ?_
    refine xj_icmp_ne (tgt := 22) dX6_rank_17 (by decide) (fun c3 => ?_) (fun c3 => ?_)
    · rw [if_neg c3] at h
      refine xj_iinc (z := x2 + 1) (ls' := [(2, vI (x2 + 1)), (0, vR 6 0), (1, vI x1)]) 2 dX6_rank_22 rfl rfl (by decide) rfl ?_
      refine xj_goto (tgt := 2) dX6_rank_25 (by decide) ?_
      cases h
      refine xj_pick (ls' := [(0, vR 6 0), (1, vI x1), (2, vI (x2 + 1))]) [1, 2, 0] rfl ?_
      exact kb (x2 + 1) rfl
    · rw [if_pos c3] at h
      refine xj_iload_n 2 dX6_rank_20 rfl ?_
      cases h
      obtain ⟨rfl, rfl⟩ := kr _ rfl
      exact xj_ireturn dX6_rank_21 rfl (by decide) (by decide)
noncomputable def r_X6_rank_e28_h2 (m : Mem) : Option Int32 :=
  some (-1)
set_option maxHeartbeats 4000000 in
set_option maxRecDepth 20000 in
theorem ok_X6_rank_e28_h2 (m : Mem) {z : Int32} (h : r_X6_rank_e28_h2 m = some z) : Xj RX6 cX6_rank 3 (some .int) 1 0 0 0 0 0 28 [] [] m (oI z) m := by
  unfold r_X6_rank_e28_h2 at h
  refine xj_iconst (z := (-1)) dX6_rank_28 (by decide) ?_
  cases h
  exact xj_ireturn dX6_rank_29 rfl (by decide) (by decide)
noncomputable def r_X6_rank_l2 (x1 : Int32) (x2 : Int32) (m : Mem) : Option Int32 :=
  bdS (loopO (fun s => r_X6_rank_b2 x1 m s) x2) (fun e => r_X6_rank_e28_h2 m) (fun q => some q)
set_option maxHeartbeats 4000000 in
set_option maxRecDepth 20000 in
theorem ok_X6_rank_l2 (x1 : Int32) (x2 : Int32) (m : Mem) {z : Int32} (h : r_X6_rank_l2 x1 x2 m = some z) : Xj RX6 cX6_rank 3 (some .int) 1 0 0 0 0 0 2 [(0, vR 6 0), (1, vI x1), (2, vI x2)] [] m (oI z) m := by
  unfold r_X6_rank_l2 at h
  rcases bdS_some h with ⟨e, e1, h⟩ | ⟨q, e1, h⟩
  · refine loopO_ok (P := fun s : (Int32) => Xj RX6 cX6_rank 3 (some .int) 1 0 0 0 0 0 2 [(0, vR 6 0), (1, vI x1), (2, vI s)] [] m (oI z) m) (Q := Sum.elim (fun e : Unit => Xj RX6 cX6_rank 3 (some .int) 1 0 0 0 0 0 28 [] [] m (oI z) m) (fun q : Int32 => (oI z) = (oI q) ∧ m = m)) ?_ _ _ e1 ?_
    · intro s r9 h9 hi hx
      exact ok_X6_rank_b2 x1 m s h9 (by rintro _ rfl; exact hi _ rfl) (by rintro rfl; exact hx _ rfl) (by rintro _ rfl; exact hx _ rfl)
    · exact ok_X6_rank_e28_h2 m h 
  · refine loopO_ok (P := fun s : (Int32) => Xj RX6 cX6_rank 3 (some .int) 1 0 0 0 0 0 2 [(0, vR 6 0), (1, vI x1), (2, vI s)] [] m (oI z) m) (Q := Sum.elim (fun e : Unit => Xj RX6 cX6_rank 3 (some .int) 1 0 0 0 0 0 28 [] [] m (oI z) m) (fun q : Int32 => (oI z) = (oI q) ∧ m = m)) ?_ _ _ e1 ?_
    · intro s r9 h9 hi hx
      exact ok_X6_rank_b2 x1 m s h9 (by rintro _ rfl; exact hi _ rfl) (by rintro rfl; exact hx _ rfl) (by rintro _ rfl; exact hx _ rfl)
    · cases h; exact ⟨rfl, rfl⟩
noncomputable def r_X6_rank (x1 : Int32) (m : Mem) : Option Int32 :=
  r_X6_rank_l2 x1 0 m
set_option maxHeartbeats 4000000 in
set_option maxRecDepth 20000 in
theorem ok_X6_rank (x1 : Int32) (m : Mem) {z : Int32} (h : r_X6_rank x1 m = some z) : Mt yX6_rank cX6_rank 3 (some .int) 1 0 0 0 [vR 6 0, vI x1] m (oI z) m := by
  refine Mt.of (by decide) (Nat.le_of_ble_eq_true rfl) (by decide +kernel) (hhF_ne (by decide)) ?_
  show Xj RX6 cX6_rank 3 (some .int) 1 0 0 0 0 0 0 [(0, vR 6 0), (1, vI x1)] [] m (oI z) m
  unfold r_X6_rank at h
  refine xj_iconst (z := 0) dX6_rank_0 (by decide) ?_
  refine xj_istore_n (ls' := [(2, vI 0), (0, vR 6 0), (1, vI x1)]) dX6_rank_1 rfl (by decide) rfl ?_
  refine xj_pick (ls' := [(0, vR 6 0), (1, vI x1), (2, vI 0)]) [1, 2, 0] rfl ?_
  exact ok_X6_rank_l2 x1 0 m h 
noncomputable def r_X6_trace_b18 (i1 : Nat) (x2 : Int32) (m : Mem) : Option ((Int32 × Mem) ⊕ ((Mem) ⊕ Mem)) :=
  if (m 3 0 0) ≤ (m 6 0 3) then (some (Sum.inr (Sum.inl m))) else (if inb (m 6 0 3) 12 = true then (bd2 (r_X6_goesOn i1 x2 (wr (wr (wr m 38 0 ((m 6 0 3).toNatClampNeg) x2) 6 0 3 ((m 6 0 3) + 1)) 6 0 4 ((m 6 0 4) ||| (1 <<< (x2 &&& 31))))) fun z5 m4 => (if z5 = (-1) then (some (Sum.inr (Sum.inr m4))) else (if (((m4 6 0 4) >>> (z5 &&& 31)) &&& 1) = 0 then (some (Sum.inl (z5, m4))) else (some (Sum.inr (Sum.inr m4)))))) else none)
set_option maxHeartbeats 4000000 in
set_option maxRecDepth 20000 in
theorem ok_X6_trace_b18 (i1 : Nat) (x2 : Int32) (m : Mem) {r : (Int32 × Mem) ⊕ ((Mem) ⊕ Mem)} (h : r_X6_trace_b18 i1 x2 m = some r) {o : Ou} {M' : Mem} (kb : ∀ (x2' : Int32) (m'' : Mem), r = Sum.inl (x2', m'') → Xj RX6 cX6_trace 4 none 4 79 0 0 0 0 18 [(0, vR 6 0), (1, vR 7 i1), (2, vI x2')] [] m'' o M') (ke : ∀ (m'' : Mem), r = Sum.inr (Sum.inl m'') → Xj RX6 cX6_trace 4 none 4 79 0 0 0 0 93 [] [] m'' o M') (kr : ∀ (m' : Mem), r = Sum.inr (Sum.inr m') → o = oV ∧ M' = m') : Xj RX6 cX6_trace 4 none 4 79 0 0 0 0 18 [(0, vR 6 0), (1, vR 7 i1), (2, vI x2)] [] m o M' := by
  unfold r_X6_trace_b18 at h
  refine xj_aload_n 0 dX6_trace_18 rfl ?_
  refine xg_getI (x := (m 6 0 3)) dX6_trace_19 fl_X6_75 rfl rfl ?_
  refine xj_aload_n 0 dX6_trace_22 rfl ?_
  refine xg_getR (k' := 3) (i' := 0) dX6_trace_23 fl_X6_15 rfl ?_
  refine xg_getI (x := (m 3 0 0)) dX6_trace_26 fl_X6_65 rfl rfl ?_
  refine xj_icmp_ge (tgt := 93) dX6_trace_29 (by decide) (fun c1 => ?_) (fun c1 => ?_)
  · rw [if_pos c1] at h
    cases h
    refine xj_pick (ls' := []) [] rfl ?_
    exact ke m rfl
  · rw [if_neg c1] at h
    refine xj_aload_n 0 dX6_trace_32 rfl ?_
    refine xg_getR (k' := 38) (i' := 0) dX6_trace_33 fl_X6_9 rfl ?_
    refine xj_aload_n 0 dX6_trace_36 rfl ?_
    refine xg_getI (x := (m 6 0 3)) dX6_trace_37 fl_X6_75 rfl rfl ?_
    refine xj_iload_n 2 dX6_trace_40 rfl ?_
    by_cases c2 : inb (m 6 0 3) 12 = true
    case neg => rw [if_neg c2] at h; cases h
    rw [if_pos c2] at h
    refine xg_iast (n := (m 6 0 3).toNatClampNeg) dX6_trace_41 rfl (by decide) (inb_in c2) rfl ?_
    refine xj_aload_n 0 dX6_trace_42 rfl ?_
    refine xj_dup dX6_trace_43 rfl ?_
    refine xg_getI (x := (m 6 0 3)) dX6_trace_44 fl_X6_75 rfl rfl ?_
    refine xj_iconst (z := 1) dX6_trace_47 (by decide) ?_
    refine xj_iadd dX6_trace_48 ?_
    refine xj_putI dX6_trace_49 fw_X6_75 rfl ?_
    refine xj_aload_n 0 dX6_trace_52 rfl ?_
    refine xj_dup dX6_trace_53 rfl ?_
    refine xg_getI (x := (m 6 0 4)) dX6_trace_54 fl_X6_78 rfl rfl ?_
    refine xj_iconst (z := 1) dX6_trace_57 (by decide) ?_
    refine xj_iload_n 2 dX6_trace_58 rfl ?_
    refine xj_ishl dX6_trace_59 ?_
    refine xj_ior dX6_trace_60 ?_
    refine xj_putI dX6_trace_61 fw_X6_78 rfl ?_
    refine xj_aload_n 0 dX6_trace_64 rfl ?_
    refine xj_aload_n 1 dX6_trace_65 rfl ?_
    refine xj_iload_n 2 dX6_trace_66 rfl ?_
    obtain ⟨z5, m4, e3, h⟩ := bd2_some h
    refine xc_Vi0 (st := []) (ok_X6_goesOn i1 x2 (wr (wr (wr m 38 0 ((m 6 0 3).toNatClampNeg) x2) 6 0 3 ((m 6 0 3) + 1)) 6 0 4 ((m 6 0 4) ||| (1 <<< (x2 &&& 31)))) e3) dX6_trace_67 cv_X6_84 rfl rfl (Nat.le_of_ble_eq_true rfl) (by decide) (by decide) (by decide) (by decide) ?_
    refine xj_istore_n (ls' := [(3, vI z5), (0, vR 6 0), (1, vR 7 i1), (2, vI x2)]) dX6_trace_70 rfl (by decide) rfl ?_
    refine xj_iload_n 0 dX6_trace_71 rfl ?_
    refine xj_iconst (z := (-1)) dX6_trace_72 (by decide) ?_
    refine xj_icmp_eq (tgt := 87) dX6_trace_73 (by decide) (fun c6 => ?_) (fun c6 => ?_)
    · rw [if_pos c6] at h
      cases h
      obtain ⟨rfl, rfl⟩ := kr _ rfl
      exact xj_return dX6_trace_87 (by decide) (by decide)
    · rw [if_neg c6] at h
      refine xj_aload_n 1 dX6_trace_76 rfl ?_
      refine xg_getI (x := (m4 6 0 4)) dX6_trace_77 fl_X6_78 rfl rfl ?_
      refine xj_iload_n 0 dX6_trace_80 rfl ?_
      refine xj_ishr dX6_trace_81 ?_
      refine xj_iconst (z := 1) dX6_trace_82 (by decide) ?_
      refine xj_iand dX6_trace_83 ?_
      refine xj_if_eq (tgt := 88) dX6_trace_84 (by decide) (fun c7 => ?_) (fun c7 => ?_)
      · rw [if_pos c7] at h
        refine xj_iload_n 0 dX6_trace_88 rfl ?_
        refine xj_istore_n (ls' := [(2, vI z5), (3, vI z5), (0, vR 6 0), (1, vR 7 i1)]) dX6_trace_89 rfl (by decide) rfl ?_
        refine xj_goto (tgt := 18) dX6_trace_90 (by decide) ?_
        cases h
        refine xj_pick (ls' := [(0, vR 6 0), (1, vR 7 i1), (2, vI z5)]) [2, 3, 0] rfl ?_
        exact kb z5 m4 rfl
      · rw [if_neg c7] at h
        cases h
        obtain ⟨rfl, rfl⟩ := kr _ rfl
        exact xj_return dX6_trace_87 (by decide) (by decide)
noncomputable def r_X6_trace_e93_h18 (m : Mem) : Option Mem :=
  some m
set_option maxHeartbeats 4000000 in
set_option maxRecDepth 20000 in
theorem ok_X6_trace_e93_h18 (m : Mem) {m' : Mem} (h : r_X6_trace_e93_h18 m = some m') : Xj RX6 cX6_trace 4 none 4 79 0 0 0 0 93 [] [] m oV m' := by
  unfold r_X6_trace_e93_h18 at h
  cases h
  exact xj_return dX6_trace_93 (by decide) (by decide)
noncomputable def r_X6_trace_l18 (i1 : Nat) (x2 : Int32) (m : Mem) : Option Mem :=
  bdS (loopO (fun s => r_X6_trace_b18 i1 s.1 s.2) (x2, m)) (fun e => r_X6_trace_e93_h18 e) (fun q => some q)
set_option maxHeartbeats 4000000 in
set_option maxRecDepth 20000 in
theorem ok_X6_trace_l18 (i1 : Nat) (x2 : Int32) (m : Mem) {m' : Mem} (h : r_X6_trace_l18 i1 x2 m = some m') : Xj RX6 cX6_trace 4 none 4 79 0 0 0 0 18 [(0, vR 6 0), (1, vR 7 i1), (2, vI x2)] [] m oV m' := by
  unfold r_X6_trace_l18 at h
  rcases bdS_some h with ⟨e, e1, h⟩ | ⟨q, e1, h⟩
  · refine loopO_ok (P := fun s : (Int32 × Mem) => Xj RX6 cX6_trace 4 none 4 79 0 0 0 0 18 [(0, vR 6 0), (1, vR 7 i1), (2, vI s.1)] [] s.2 oV m') (Q := Sum.elim (fun e : (Mem) => Xj RX6 cX6_trace 4 none 4 79 0 0 0 0 93 [] [] e oV m') (fun q : Mem => oV = oV ∧ m' = q)) ?_ _ _ e1 ?_
    · intro s r9 h9 hi hx
      exact ok_X6_trace_b18 i1 s.1 s.2 h9 (by rintro _ _ rfl; exact hi _ rfl) (by rintro _ rfl; exact hx _ rfl) (by rintro _ rfl; exact hx _ rfl)
    · exact ok_X6_trace_e93_h18 e h 
  · refine loopO_ok (P := fun s : (Int32 × Mem) => Xj RX6 cX6_trace 4 none 4 79 0 0 0 0 18 [(0, vR 6 0), (1, vR 7 i1), (2, vI s.1)] [] s.2 oV m') (Q := Sum.elim (fun e : (Mem) => Xj RX6 cX6_trace 4 none 4 79 0 0 0 0 93 [] [] e oV m') (fun q : Mem => oV = oV ∧ m' = q)) ?_ _ _ e1 ?_
    · intro s r9 h9 hi hx
      exact ok_X6_trace_b18 i1 s.1 s.2 h9 (by rintro _ _ rfl; exact hi _ rfl) (by rintro _ rfl; exact hx _ rfl) (by rintro _ rfl; exact hx _ rfl)
    · cases h; exact ⟨rfl, rfl⟩
noncomputable def r_X6_trace (i1 : Nat) (m : Mem) : Option Mem :=
  r_X6_trace_l18 i1 (m 3 0 3) (wr (wr m 6 0 3 0) 6 0 4 0)
set_option maxHeartbeats 4000000 in
set_option maxRecDepth 20000 in
theorem ok_X6_trace (i1 : Nat) (m : Mem) {m' : Mem} (h : r_X6_trace i1 m = some m') : Mt yX6_trace cX6_trace 4 none 4 79 0 0 [vR 6 0, vR 7 i1] m oV m' := by
  refine Mt.of (by decide) (Nat.le_of_ble_eq_true rfl) (by decide +kernel) (hhF_ne (by decide)) ?_
  show Xj RX6 cX6_trace 4 none 4 79 0 0 0 0 0 [(0, vR 6 0), (1, vR 7 i1)] [] m oV m'
  unfold r_X6_trace at h
  refine xj_aload_n 0 dX6_trace_0 rfl ?_
  refine xj_iconst (z := 0) dX6_trace_1 (by decide) ?_
  refine xj_putI dX6_trace_2 fw_X6_75 rfl ?_
  refine xj_aload_n 0 dX6_trace_5 rfl ?_
  refine xj_iconst (z := 0) dX6_trace_6 (by decide) ?_
  refine xj_putI dX6_trace_7 fw_X6_78 rfl ?_
  refine xj_aload_n 0 dX6_trace_10 rfl ?_
  refine xg_getR (k' := 3) (i' := 0) dX6_trace_11 fl_X6_15 rfl ?_
  refine xg_getI (x := (m 3 0 3)) dX6_trace_14 fl_X6_81 rfl rfl ?_
  refine xj_istore_n (ls' := [(2, vI (m 3 0 3)), (0, vR 6 0), (1, vR 7 i1)]) dX6_trace_17 rfl (by decide) rfl ?_
  refine xj_pick (ls' := [(0, vR 6 0), (1, vR 7 i1), (2, vI (m 3 0 3))]) [1, 2, 0] rfl ?_
  exact ok_X6_trace_l18 i1 (m 3 0 3) (wr (wr m 6 0 3 0) 6 0 4 0) h 
noncomputable def r_X6_walk (i1 : Nat) (x2 : Int32) (x3 : Int32) (m : Mem) : Option (Bool × Mem) :=
  if inb x2 8 = true then (bd1 (r_X3_between 0 (m 21 i1 x2.toNatClampNeg) x3 m) fun z3 => (if z3 = (-1) then (some (false, m)) else (some (true, (wr m 21 i1 x2.toNatClampNeg x3))))) else none
set_option maxHeartbeats 4000000 in
set_option maxRecDepth 20000 in
theorem ok_X6_walk (i1 : Nat) (x2 : Int32) (x3 : Int32) (m : Mem) {z : Bool} {m' : Mem} (h : r_X6_walk i1 x2 x3 m = some (z, m')) : Mt yX6_walk cX6_walk 4 (some .boolean) 2 22 0 0 [vR 6 0, vR 7 i1, vI x2, vI x3] m (oB z) m' := by
  refine Mt.of (by decide) (Nat.le_of_ble_eq_true rfl) (by decide +kernel) (hhF_ne (by decide)) ?_
  show Xj RX6 cX6_walk 4 (some .boolean) 2 22 0 0 0 0 0 [(0, vR 6 0), (1, vR 7 i1), (2, vI x2), (3, vI x3)] [] m (oB z) m'
  unfold r_X6_walk at h
  refine xj_aload_n 0 dX6_walk_0 rfl ?_
  refine xg_getR (k' := 3) (i' := 0) dX6_walk_1 fl_X6_15 rfl ?_
  refine xj_aload_n 1 dX6_walk_4 rfl ?_
  refine xg_getR (k' := 21) (i' := i1) dX6_walk_5 fl_X6_36 rfl ?_
  refine xj_iload_n 2 dX6_walk_8 rfl ?_
  by_cases c1 : inb x2 8 = true
  case neg => rw [if_neg c1] at h; cases h
  rw [if_pos c1] at h
  refine xg_iald (z := (m 21 i1 x2.toNatClampNeg)) (n := x2.toNatClampNeg) dX6_walk_9 rfl (by decide) (inb_in c1) rfl rfl ?_
  refine xj_iload_n 3 dX6_walk_10 rfl ?_
  obtain ⟨z3, e2, h⟩ := bd1_some h
  refine xc_Vi0 (st := []) (ok_X3_between 0 (m 21 i1 x2.toNatClampNeg) x3 m e2) dX6_walk_11 cv_X6_39 rfl rfl (Nat.le_of_ble_eq_true rfl) (by decide) (by decide) (by decide) (by decide) ?_
  refine xj_iconst (z := (-1)) dX6_walk_14 (by decide) ?_
  refine xj_icmp_ne (tgt := 20) dX6_walk_15 (by decide) (fun c4 => ?_) (fun c4 => ?_)
  · rw [if_neg c4] at h
    refine xj_aload_n 1 dX6_walk_20 rfl ?_
    refine xg_getR (k' := 21) (i' := i1) dX6_walk_21 fl_X6_36 rfl ?_
    refine xj_iload_n 2 dX6_walk_24 rfl ?_
    refine xj_iload_n 3 dX6_walk_25 rfl ?_
    refine xg_iast (n := x2.toNatClampNeg) dX6_walk_26 rfl (by decide) (inb_in c1) rfl ?_
    refine xj_iconst (z := 1) dX6_walk_27 (by decide) ?_
    cases h
    exact xj_ireturn dX6_walk_28 rfl (by decide) (by decide)
  · rw [if_pos c4] at h
    refine xj_iconst (z := 0) dX6_walk_18 (by decide) ?_
    cases h
    exact xj_ireturn dX6_walk_19 rfl (by decide) (by decide)
