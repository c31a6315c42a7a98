theorem dX9_init_0 : decode cX9_init 0 = .ok (.aload_n 0, 1) := by decide +kernel
theorem dX9_init_1 : decode cX9_init 1 = .ok (.invokespecial 1, 3) := by decide +kernel
theorem dX9_init_4 : decode cX9_init 4 = .ok (.aload_n 0, 1) := by decide +kernel
theorem dX9_init_5 : decode cX9_init 5 = .ok (.bipush 26, 2) := by decide +kernel
theorem dX9_init_7 : decode cX9_init 7 = .ok (.newarray .int, 2) := by decide +kernel
theorem dX9_init_9 : decode cX9_init 9 = .ok (.putfield 7, 3) := by decide +kernel
theorem dX9_init_12 : decode cX9_init 12 = .ok (.aload_n 0, 1) := by decide +kernel
theorem dX9_init_13 : decode cX9_init 13 = .ok (.bipush 16, 2) := by decide +kernel
theorem dX9_init_15 : decode cX9_init 15 = .ok (.newarray .int, 2) := by decide +kernel
theorem dX9_init_17 : decode cX9_init 17 = .ok (.putfield 13, 3) := by decide +kernel
theorem dX9_init_20 : decode cX9_init 20 = .ok (.aload_n 0, 1) := by decide +kernel
theorem dX9_init_21 : decode cX9_init 21 = .ok (.sipush 128, 3) := by decide +kernel
theorem dX9_init_24 : decode cX9_init 24 = .ok (.newarray .int, 2) := by decide +kernel
theorem dX9_init_26 : decode cX9_init 26 = .ok (.putfield 16, 3) := by decide +kernel
theorem dX9_init_29 : decode cX9_init 29 = .ok (.aload_n 0, 1) := by decide +kernel
theorem dX9_init_30 : decode cX9_init 30 = .ok (.bipush 6, 2) := by decide +kernel
theorem dX9_init_32 : decode cX9_init 32 = .ok (.newarray .int, 2) := by decide +kernel
theorem dX9_init_34 : decode cX9_init 34 = .ok (.putfield 19, 3) := by decide +kernel
theorem dX9_init_37 : decode cX9_init 37 = .ok (.aload_n 0, 1) := by decide +kernel
theorem dX9_init_38 : decode cX9_init 38 = .ok (.bipush 26, 2) := by decide +kernel
theorem dX9_init_40 : decode cX9_init 40 = .ok (.newarray .int, 2) := by decide +kernel
theorem dX9_init_42 : decode cX9_init 42 = .ok (.putfield 22, 3) := by decide +kernel
theorem dX9_init_45 : decode cX9_init 45 = .ok (.aload_n 0, 1) := by decide +kernel
theorem dX9_init_46 : decode cX9_init 46 = .ok (.bipush 16, 2) := by decide +kernel
theorem dX9_init_48 : decode cX9_init 48 = .ok (.newarray .int, 2) := by decide +kernel
theorem dX9_init_50 : decode cX9_init 50 = .ok (.putfield 25, 3) := by decide +kernel
theorem dX9_init_53 : decode cX9_init 53 = .ok (.aload_n 0, 1) := by decide +kernel
theorem dX9_init_54 : decode cX9_init 54 = .ok (.sipush 128, 3) := by decide +kernel
theorem dX9_init_57 : decode cX9_init 57 = .ok (.newarray .int, 2) := by decide +kernel
theorem dX9_init_59 : decode cX9_init 59 = .ok (.putfield 28, 3) := by decide +kernel
theorem dX9_init_62 : decode cX9_init 62 = .ok (.aload_n 0, 1) := by decide +kernel
theorem dX9_init_63 : decode cX9_init 63 = .ok (.bipush 6, 2) := by decide +kernel
theorem dX9_init_65 : decode cX9_init 65 = .ok (.newarray .int, 2) := by decide +kernel
theorem dX9_init_67 : decode cX9_init 67 = .ok (.putfield 31, 3) := by decide +kernel
theorem dX9_init_70 : decode cX9_init 70 = .ok (.aload_n 0, 1) := by decide +kernel
theorem dX9_init_71 : decode cX9_init 71 = .ok (.sipush 400, 3) := by decide +kernel
theorem dX9_init_74 : decode cX9_init 74 = .ok (.newarray .int, 2) := by decide +kernel
theorem dX9_init_76 : decode cX9_init 76 = .ok (.putfield 34, 3) := by decide +kernel
theorem dX9_init_79 : decode cX9_init 79 = .ok (.aload_n 0, 1) := by decide +kernel
theorem dX9_init_80 : decode cX9_init 80 = .ok (.bipush 8, 2) := by decide +kernel
theorem dX9_init_82 : decode cX9_init 82 = .ok (.newarray .int, 2) := by decide +kernel
theorem dX9_init_84 : decode cX9_init 84 = .ok (.putfield 37, 3) := by decide +kernel
theorem dX9_init_87 : decode cX9_init 87 = .ok (.aload_n 0, 1) := by decide +kernel
theorem dX9_init_88 : decode cX9_init 88 = .ok (.bipush 8, 2) := by decide +kernel
theorem dX9_init_90 : decode cX9_init 90 = .ok (.newarray .int, 2) := by decide +kernel
theorem dX9_init_92 : decode cX9_init 92 = .ok (.putfield 40, 3) := by decide +kernel
theorem dX9_init_95 : decode cX9_init 95 = .ok (.aload_n 0, 1) := by decide +kernel
theorem dX9_init_96 : decode cX9_init 96 = .ok (.bipush 10, 2) := by decide +kernel
theorem dX9_init_98 : decode cX9_init 98 = .ok (.newarray .int, 2) := by decide +kernel
theorem dX9_init_100 : decode cX9_init 100 = .ok (.putfield 43, 3) := by decide +kernel
theorem dX9_init_103 : decode cX9_init 103 = .ok (.aload_n 0, 1) := by decide +kernel
theorem dX9_init_104 : decode cX9_init 104 = .ok (.bipush 10, 2) := by decide +kernel
theorem dX9_init_106 : decode cX9_init 106 = .ok (.newarray .int, 2) := by decide +kernel
theorem dX9_init_108 : decode cX9_init 108 = .ok (.putfield 46, 3) := by decide +kernel
theorem dX9_init_111 : decode cX9_init 111 = .ok (.aload_n 0, 1) := by decide +kernel
theorem dX9_init_112 : decode cX9_init 112 = .ok (.bipush 10, 2) := by decide +kernel
theorem dX9_init_114 : decode cX9_init 114 = .ok (.newarray .int, 2) := by decide +kernel
theorem dX9_init_116 : decode cX9_init 116 = .ok (.putfield 49, 3) := by decide +kernel
theorem dX9_init_119 : decode cX9_init 119 = .ok (.aload_n 0, 1) := by decide +kernel
theorem dX9_init_120 : decode cX9_init 120 = .ok (.bipush 6, 2) := by decide +kernel
theorem dX9_init_122 : decode cX9_init 122 = .ok (.newarray .int, 2) := by decide +kernel
theorem dX9_init_124 : decode cX9_init 124 = .ok (.putfield 52, 3) := by decide +kernel
theorem dX9_init_127 : decode cX9_init 127 = .ok (.aload_n 0, 1) := by decide +kernel
theorem dX9_init_128 : decode cX9_init 128 = .ok (.bipush 6, 2) := by decide +kernel
theorem dX9_init_130 : decode cX9_init 130 = .ok (.newarray .int, 2) := by decide +kernel
theorem dX9_init_132 : decode cX9_init 132 = .ok (.putfield 55, 3) := by decide +kernel
theorem dX9_init_135 : decode cX9_init 135 = .ok (.aload_n 0, 1) := by decide +kernel
theorem dX9_init_136 : decode cX9_init 136 = .ok (.iconst 4, 1) := by decide +kernel
theorem dX9_init_137 : decode cX9_init 137 = .ok (.newarray .int, 2) := by decide +kernel
theorem dX9_init_139 : decode cX9_init 139 = .ok (.putfield 58, 3) := by decide +kernel
theorem dX9_init_142 : decode cX9_init 142 = .ok (.aload_n 0, 1) := by decide +kernel
theorem dX9_init_143 : decode cX9_init 143 = .ok (.iconst 4, 1) := by decide +kernel
theorem dX9_init_144 : decode cX9_init 144 = .ok (.newarray .int, 2) := by decide +kernel
theorem dX9_init_146 : decode cX9_init 146 = .ok (.putfield 61, 3) := by decide +kernel
theorem dX9_init_149 : decode cX9_init 149 = .ok (.aload_n 0, 1) := by decide +kernel
theorem dX9_init_150 : decode cX9_init 150 = .ok (.sipush 240, 3) := by decide +kernel
theorem dX9_init_153 : decode cX9_init 153 = .ok (.newarray .int, 2) := by decide +kernel
theorem dX9_init_155 : decode cX9_init 155 = .ok (.putfield 64, 3) := by decide +kernel
theorem dX9_init_158 : decode cX9_init 158 = .ok (.aload_n 0, 1) := by decide +kernel
theorem dX9_init_159 : decode cX9_init 159 = .ok (.bipush 10, 2) := by decide +kernel
theorem dX9_init_161 : decode cX9_init 161 = .ok (.newarray .int, 2) := by decide +kernel
theorem dX9_init_163 : decode cX9_init 163 = .ok (.putfield 67, 3) := by decide +kernel
theorem dX9_init_166 : decode cX9_init 166 = .ok (.aload_n 0, 1) := by decide +kernel
theorem dX9_init_167 : decode cX9_init 167 = .ok (.bipush 30, 2) := by decide +kernel
theorem dX9_init_169 : decode cX9_init 169 = .ok (.newarray .int, 2) := by decide +kernel
theorem dX9_init_171 : decode cX9_init 171 = .ok (.putfield 70, 3) := by decide +kernel
theorem dX9_init_174 : decode cX9_init 174 = .ok (.aload_n 0, 1) := by decide +kernel
theorem dX9_init_175 : decode cX9_init 175 = .ok (.bipush 30, 2) := by decide +kernel
theorem dX9_init_177 : decode cX9_init 177 = .ok (.newarray .int, 2) := by decide +kernel
theorem dX9_init_179 : decode cX9_init 179 = .ok (.putfield 73, 3) := by decide +kernel
theorem dX9_init_182 : decode cX9_init 182 = .ok (.aload_n 0, 1) := by decide +kernel
theorem dX9_init_183 : decode cX9_init 183 = .ok (.bipush 30, 2) := by decide +kernel
theorem dX9_init_185 : decode cX9_init 185 = .ok (.newarray .int, 2) := by decide +kernel
theorem dX9_init_187 : decode cX9_init 187 = .ok (.putfield 76, 3) := by decide +kernel
theorem dX9_init_190 : decode cX9_init 190 = .ok (.aload_n 0, 1) := by decide +kernel
theorem dX9_init_191 : decode cX9_init 191 = .ok (.bipush 30, 2) := by decide +kernel
theorem dX9_init_193 : decode cX9_init 193 = .ok (.newarray .int, 2) := by decide +kernel
theorem dX9_init_195 : decode cX9_init 195 = .ok (.putfield 79, 3) := by decide +kernel
theorem dX9_init_198 : decode cX9_init 198 = .ok (.aload_n 0, 1) := by decide +kernel
theorem dX9_init_199 : decode cX9_init 199 = .ok (.bipush 30, 2) := by decide +kernel
theorem dX9_init_201 : decode cX9_init 201 = .ok (.newarray .int, 2) := by decide +kernel
theorem dX9_init_203 : decode cX9_init 203 = .ok (.putfield 82, 3) := by decide +kernel
theorem dX9_init_206 : decode cX9_init 206 = .ok (.aload_n 0, 1) := by decide +kernel
theorem dX9_init_207 : decode cX9_init 207 = .ok (.bipush 30, 2) := by decide +kernel
theorem dX9_init_209 : decode cX9_init 209 = .ok (.newarray .int, 2) := by decide +kernel
theorem dX9_init_211 : decode cX9_init 211 = .ok (.putfield 85, 3) := by decide +kernel
theorem dX9_init_214 : decode cX9_init 214 = .ok (.aload_n 0, 1) := by decide +kernel
theorem dX9_init_215 : decode cX9_init 215 = .ok (.bipush 30, 2) := by decide +kernel
theorem dX9_init_217 : decode cX9_init 217 = .ok (.newarray .boolean, 2) := by decide +kernel
theorem dX9_init_219 : decode cX9_init 219 = .ok (.putfield 88, 3) := by decide +kernel
theorem dX9_init_222 : decode cX9_init 222 = .ok (.aload_n 0, 1) := by decide +kernel
theorem dX9_init_223 : decode cX9_init 223 = .ok (.bipush 64, 2) := by decide +kernel
theorem dX9_init_225 : decode cX9_init 225 = .ok (.newarray .int, 2) := by decide +kernel
theorem dX9_init_227 : decode cX9_init 227 = .ok (.putfield 92, 3) := by decide +kernel
theorem dX9_init_230 : decode cX9_init 230 = .ok (.aload_n 0, 1) := by decide +kernel
theorem dX9_init_231 : decode cX9_init 231 = .ok (.bipush 16, 2) := by decide +kernel
theorem dX9_init_233 : decode cX9_init 233 = .ok (.newarray .int, 2) := by decide +kernel
theorem dX9_init_235 : decode cX9_init 235 = .ok (.putfield 95, 3) := by decide +kernel
theorem dX9_init_238 : decode cX9_init 238 = .ok (.iconst 0, 1) := by decide +kernel
theorem dX9_init_239 : decode cX9_init 239 = .ok (.istore_n 1, 1) := by decide +kernel
theorem dX9_init_240 : decode cX9_init 240 = .ok (.iload_n 1, 1) := by decide +kernel
theorem dX9_init_241 : decode cX9_init 241 = .ok (.iconst 4, 1) := by decide +kernel
theorem dX9_init_242 : decode cX9_init 242 = .ok (.if_icmp .ge 17, 3) := by decide +kernel
theorem dX9_init_245 : decode cX9_init 245 = .ok (.aload_n 0, 1) := by decide +kernel
theorem dX9_init_246 : decode cX9_init 246 = .ok (.getfield 58, 3) := by decide +kernel
theorem dX9_init_249 : decode cX9_init 249 = .ok (.iload_n 1, 1) := by decide +kernel
theorem dX9_init_250 : decode cX9_init 250 = .ok (.bipush (-4), 2) := by decide +kernel
theorem dX9_init_252 : decode cX9_init 252 = .ok (.iastore, 1) := by decide +kernel
theorem dX9_init_253 : decode cX9_init 253 = .ok (.iinc 1 1, 3) := by decide +kernel
theorem dX9_init_256 : decode cX9_init 256 = .ok (.goto (-16), 3) := by decide +kernel
theorem dX9_init_259 : decode cX9_init 259 = .ok (.iconst 0, 1) := by decide +kernel
theorem dX9_init_260 : decode cX9_init 260 = .ok (.istore_n 1, 1) := by decide +kernel
theorem dX9_init_261 : decode cX9_init 261 = .ok (.iload_n 1, 1) := by decide +kernel
theorem dX9_init_262 : decode cX9_init 262 = .ok (.bipush 26, 2) := by decide +kernel
theorem dX9_init_264 : decode cX9_init 264 = .ok (.if_icmp .ge 16, 3) := by decide +kernel
theorem dX9_init_267 : decode cX9_init 267 = .ok (.aload_n 0, 1) := by decide +kernel
theorem dX9_init_268 : decode cX9_init 268 = .ok (.getfield 7, 3) := by decide +kernel
theorem dX9_init_271 : decode cX9_init 271 = .ok (.iload_n 1, 1) := by decide +kernel
theorem dX9_init_272 : decode cX9_init 272 = .ok (.iconst (-1), 1) := by decide +kernel
theorem dX9_init_273 : decode cX9_init 273 = .ok (.iastore, 1) := by decide +kernel
theorem dX9_init_274 : decode cX9_init 274 = .ok (.iinc 1 1, 3) := by decide +kernel
theorem dX9_init_277 : decode cX9_init 277 = .ok (.goto (-16), 3) := by decide +kernel
theorem dX9_init_280 : decode cX9_init 280 = .ok (.return_, 1) := by decide +kernel
theorem dX9_in_0 : decode cX9_in 0 = .ok (.lload_n 0, 1) := by decide +kernel
theorem dX9_in_1 : decode cX9_in 1 = .ok (.lload_n 2, 1) := by decide +kernel
theorem dX9_in_2 : decode cX9_in 2 = .ok (.lcmp, 1) := by decide +kernel
theorem dX9_in_3 : decode cX9_in 3 = .ok (.ifCond .lt 14, 3) := by decide +kernel
theorem dX9_in_6 : decode cX9_in 6 = .ok (.lload_n 0, 1) := by decide +kernel
theorem dX9_in_7 : decode cX9_in 7 = .ok (.lload 4, 2) := by decide +kernel
theorem dX9_in_9 : decode cX9_in 9 = .ok (.lcmp, 1) := by decide +kernel
theorem dX9_in_10 : decode cX9_in 10 = .ok (.ifCond .gt 7, 3) := by decide +kernel
theorem dX9_in_13 : decode cX9_in 13 = .ok (.iconst 1, 1) := by decide +kernel
theorem dX9_in_14 : decode cX9_in 14 = .ok (.goto 4, 3) := by decide +kernel
theorem dX9_in_17 : decode cX9_in 17 = .ok (.iconst 0, 1) := by decide +kernel
theorem dX9_in_18 : decode cX9_in 18 = .ok (.ireturn, 1) := by decide +kernel
theorem dX9_bits_0 : decode cX9_bits 0 = .ok (.iconst 0, 1) := by decide +kernel
theorem dX9_bits_1 : decode cX9_bits 1 = .ok (.istore_n 1, 1) := by decide +kernel
theorem dX9_bits_2 : decode cX9_bits 2 = .ok (.iconst 0, 1) := by decide +kernel
theorem dX9_bits_3 : decode cX9_bits 3 = .ok (.istore_n 2, 1) := by decide +kernel
theorem dX9_bits_4 : decode cX9_bits 4 = .ok (.iload_n 2, 1) := by decide +kernel
theorem dX9_bits_5 : decode cX9_bits 5 = .ok (.bipush 16, 2) := by decide +kernel
theorem dX9_bits_7 : decode cX9_bits 7 = .ok (.if_icmp .ge 17, 3) := by decide +kernel
theorem dX9_bits_10 : decode cX9_bits 10 = .ok (.iload_n 1, 1) := by decide +kernel
theorem dX9_bits_11 : decode cX9_bits 11 = .ok (.iload_n 0, 1) := by decide +kernel
theorem dX9_bits_12 : decode cX9_bits 12 = .ok (.iload_n 2, 1) := by decide +kernel
theorem dX9_bits_13 : decode cX9_bits 13 = .ok (.ishr, 1) := by decide +kernel
theorem dX9_bits_14 : decode cX9_bits 14 = .ok (.iconst 1, 1) := by decide +kernel
theorem dX9_bits_15 : decode cX9_bits 15 = .ok (.iand, 1) := by decide +kernel
theorem dX9_bits_16 : decode cX9_bits 16 = .ok (.iadd, 1) := by decide +kernel
theorem dX9_bits_17 : decode cX9_bits 17 = .ok (.istore_n 1, 1) := by decide +kernel
theorem dX9_bits_18 : decode cX9_bits 18 = .ok (.iinc 2 1, 3) := by decide +kernel
theorem dX9_bits_21 : decode cX9_bits 21 = .ok (.goto (-17), 3) := by decide +kernel
theorem dX9_bits_24 : decode cX9_bits 24 = .ok (.iload_n 1, 1) := by decide +kernel
theorem dX9_bits_25 : decode cX9_bits 25 = .ok (.ireturn, 1) := by decide +kernel
theorem dX9_feed_0 : decode cX9_feed 0 = .ok (.aload_n 0, 1) := by decide +kernel
theorem dX9_feed_1 : decode cX9_feed 1 = .ok (.getfield 98, 3) := by decide +kernel
theorem dX9_feed_4 : decode cX9_feed 4 = .ok (.bipush 8, 2) := by decide +kernel
theorem dX9_feed_6 : decode cX9_feed 6 = .ok (.iadd, 1) := by decide +kernel
theorem dX9_feed_7 : decode cX9_feed 7 = .ok (.sipush 400, 3) := by decide +kernel
theorem dX9_feed_10 : decode cX9_feed 10 = .ok (.if_icmp .le 6, 3) := by decide +kernel
theorem dX9_feed_13 : decode cX9_feed 13 = .ok (.bipush (-3), 2) := by decide +kernel
theorem dX9_feed_15 : decode cX9_feed 15 = .ok (.ireturn, 1) := by decide +kernel
theorem dX9_feed_16 : decode cX9_feed 16 = .ok (.bipush 56, 2) := by decide +kernel
theorem dX9_feed_18 : decode cX9_feed 18 = .ok (.istore_n 3, 1) := by decide +kernel
theorem dX9_feed_19 : decode cX9_feed 19 = .ok (.iload_n 3, 1) := by decide +kernel
theorem dX9_feed_20 : decode cX9_feed 20 = .ok (.ifCond .lt 36, 3) := by decide +kernel
theorem dX9_feed_23 : decode cX9_feed 23 = .ok (.aload_n 0, 1) := by decide +kernel
theorem dX9_feed_24 : decode cX9_feed 24 = .ok (.getfield 34, 3) := by decide +kernel
theorem dX9_feed_27 : decode cX9_feed 27 = .ok (.aload_n 0, 1) := by decide +kernel
theorem dX9_feed_28 : decode cX9_feed 28 = .ok (.getfield 98, 3) := by decide +kernel
theorem dX9_feed_31 : decode cX9_feed 31 = .ok (.lload_n 1, 1) := by decide +kernel
theorem dX9_feed_32 : decode cX9_feed 32 = .ok (.iload_n 3, 1) := by decide +kernel
theorem dX9_feed_33 : decode cX9_feed 33 = .ok (.lshr, 1) := by decide +kernel
theorem dX9_feed_34 : decode cX9_feed 34 = .ok (.ldc2_w 102, 3) := by decide +kernel
theorem dX9_feed_37 : decode cX9_feed 37 = .ok (.land, 1) := by decide +kernel
theorem dX9_feed_38 : decode cX9_feed 38 = .ok (.l2i, 1) := by decide +kernel
theorem dX9_feed_39 : decode cX9_feed 39 = .ok (.iastore, 1) := by decide +kernel
theorem dX9_feed_40 : decode cX9_feed 40 = .ok (.aload_n 0, 1) := by decide +kernel
theorem dX9_feed_41 : decode cX9_feed 41 = .ok (.dup, 1) := by decide +kernel
theorem dX9_feed_42 : decode cX9_feed 42 = .ok (.getfield 98, 3) := by decide +kernel
theorem dX9_feed_45 : decode cX9_feed 45 = .ok (.iconst 1, 1) := by decide +kernel
theorem dX9_feed_46 : decode cX9_feed 46 = .ok (.iadd, 1) := by decide +kernel
theorem dX9_feed_47 : decode cX9_feed 47 = .ok (.putfield 98, 3) := by decide +kernel
theorem dX9_feed_50 : decode cX9_feed 50 = .ok (.iinc 3 (-8), 3) := by decide +kernel
theorem dX9_feed_53 : decode cX9_feed 53 = .ok (.goto (-34), 3) := by decide +kernel
theorem dX9_feed_56 : decode cX9_feed 56 = .ok (.aload_n 0, 1) := by decide +kernel
theorem dX9_feed_57 : decode cX9_feed 57 = .ok (.getfield 98, 3) := by decide +kernel
theorem dX9_feed_60 : decode cX9_feed 60 = .ok (.ireturn, 1) := by decide +kernel
set_option maxRecDepth 20000 in
theorem ggX9_end_X9_in : GoodIn wsX9_end wsX9_in := goodIn_r _ [5] (by decide +kernel) (by decide +kernel)
set_option maxRecDepth 20000 in
theorem gX9_end_X9_in : GoodIn wsX9_end (va_wsS RX9 104 yX9_in wsX9_in) := goodIn_app (goodIn_of _ (by decide +kernel)) ggX9_end_X9_in
theorem dX9_end_0 : decode cX9_end 0 = .ok (.iload_n 1, 1) := by decide +kernel
theorem dX9_end_1 : decode cX9_end 1 = .ok (.i2l, 1) := by decide +kernel
theorem dX9_end_2 : decode cX9_end 2 = .ok (.lconst 0, 1) := by decide +kernel
theorem dX9_end_3 : decode cX9_end 3 = .ok (.aload_n 0, 1) := by decide +kernel
theorem dX9_end_4 : decode cX9_end 4 = .ok (.getfield 98, 3) := by decide +kernel
theorem dX9_end_7 : decode cX9_end 7 = .ok (.i2l, 1) := by decide +kernel
theorem dX9_end_8 : decode cX9_end 8 = .ok (.invokestatic 104, 3) := by decide +kernel
theorem dX9_end_11 : decode cX9_end 11 = .ok (.ifCond .ne 5, 3) := by decide +kernel
theorem dX9_end_14 : decode cX9_end 14 = .ok (.iconst (-1), 1) := by decide +kernel
theorem dX9_end_15 : decode cX9_end 15 = .ok (.ireturn, 1) := by decide +kernel
theorem dX9_end_16 : decode cX9_end 16 = .ok (.aload_n 0, 1) := by decide +kernel
theorem dX9_end_17 : decode cX9_end 17 = .ok (.getfield 98, 3) := by decide +kernel
theorem dX9_end_20 : decode cX9_end 20 = .ok (.istore_n 2, 1) := by decide +kernel
theorem dX9_end_21 : decode cX9_end 21 = .ok (.aload_n 0, 1) := by decide +kernel
theorem dX9_end_22 : decode cX9_end 22 = .ok (.iload_n 1, 1) := by decide +kernel
theorem dX9_end_23 : decode cX9_end 23 = .ok (.putfield 98, 3) := by decide +kernel
theorem dX9_end_26 : decode cX9_end 26 = .ok (.iload_n 2, 1) := by decide +kernel
theorem dX9_end_27 : decode cX9_end 27 = .ok (.ireturn, 1) := by decide +kernel
theorem dX9_wants_0 : decode cX9_wants 0 = .ok (.iload_n 1, 1) := by decide +kernel
theorem dX9_wants_1 : decode cX9_wants 1 = .ok (.ifCond .ne 23, 3) := by decide +kernel
theorem dX9_wants_4 : decode cX9_wants 4 = .ok (.aload_n 0, 1) := by decide +kernel
theorem dX9_wants_5 : decode cX9_wants 5 = .ok (.getfield 108, 3) := by decide +kernel
theorem dX9_wants_8 : decode cX9_wants 8 = .ok (.ifCond .ne 16, 3) := by decide +kernel
theorem dX9_wants_11 : decode cX9_wants 11 = .ok (.aload_n 0, 1) := by decide +kernel
theorem dX9_wants_12 : decode cX9_wants 12 = .ok (.iload_n 2, 1) := by decide +kernel
theorem dX9_wants_13 : decode cX9_wants 13 = .ok (.putfield 108, 3) := by decide +kernel
theorem dX9_wants_16 : decode cX9_wants 16 = .ok (.aload_n 0, 1) := by decide +kernel
theorem dX9_wants_17 : decode cX9_wants 17 = .ok (.aload_n 0, 1) := by decide +kernel
theorem dX9_wants_18 : decode cX9_wants 18 = .ok (.getfield 111, 3) := by decide +kernel
theorem dX9_wants_21 : decode cX9_wants 21 = .ok (.putfield 114, 3) := by decide +kernel
theorem dX9_wants_24 : decode cX9_wants 24 = .ok (.return_, 1) := by decide +kernel
theorem dX9_look_0 : decode cX9_look 0 = .ok (.iload_n 1, 1) := by decide +kernel
theorem dX9_look_1 : decode cX9_look 1 = .ok (.aload_n 0, 1) := by decide +kernel
theorem dX9_look_2 : decode cX9_look 2 = .ok (.getfield 98, 3) := by decide +kernel
theorem dX9_look_5 : decode cX9_look 5 = .ok (.if_icmp .ge 12, 3) := by decide +kernel
theorem dX9_look_8 : decode cX9_look 8 = .ok (.aload_n 0, 1) := by decide +kernel
theorem dX9_look_9 : decode cX9_look 9 = .ok (.getfield 34, 3) := by decide +kernel
theorem dX9_look_12 : decode cX9_look 12 = .ok (.iload_n 1, 1) := by decide +kernel
theorem dX9_look_13 : decode cX9_look 13 = .ok (.iaload, 1) := by decide +kernel
theorem dX9_look_14 : decode cX9_look 14 = .ok (.goto 4, 3) := by decide +kernel
theorem dX9_look_17 : decode cX9_look 17 = .ok (.iconst (-1), 1) := by decide +kernel
theorem dX9_look_18 : decode cX9_look 18 = .ok (.ireturn, 1) := by decide +kernel
set_option maxRecDepth 20000 in
theorem ggX9_next_X9_look : GoodIn wsX9_next wsX9_look := goodIn_r _ [14, 15, 16, 25, 26, 27, 28, 29, 30, 31, 32, 33, 34, 35, 36, 37, 38, 39, 40, 41, 42, 43, 44, 45, 46, 47, 48, 49, 50, 51, 52, 53, 54, 55, 56, 57, 58, 59, 60, 61, 62, 63, 64, 65, 66, 67, 68, 69, 70] (by decide +kernel) (by decide +kernel)
set_option maxRecDepth 20000 in
theorem gX9_next_X9_look : GoodIn wsX9_next (wsV RX9 120 RX9 yX9_look wsX9_look) := goodIn_app (goodIn_of _ (by decide +kernel)) ggX9_next_X9_look
set_option maxRecDepth 20000 in
theorem ggX9_next_X9_in : GoodIn wsX9_next wsX9_in := goodIn_r _ [19] (by decide +kernel) (by decide +kernel)
set_option maxRecDepth 20000 in
theorem gX9_next_X9_in : GoodIn wsX9_next (va_wsS RX9 104 yX9_in wsX9_in) := goodIn_app (goodIn_of _ (by decide +kernel)) ggX9_next_X9_in
set_option maxRecDepth 20000 in
theorem ggX9_next_X9_wants : GoodIn wsX9_next wsX9_wants := goodIn_r _ [23, 1, 3, 24, 25, 26, 27, 28, 29, 30, 31, 32, 33, 34, 35, 36, 37, 38, 39, 40, 41, 42, 43, 44, 45, 46, 47, 48, 49, 50, 51, 52, 53, 54, 55, 56, 57, 58, 59, 60, 61, 62, 63, 64, 65, 66, 67, 68, 69, 70] (by decide +kernel) (by decide +kernel)
set_option maxRecDepth 20000 in
theorem gX9_next_X9_wants : GoodIn wsX9_next (wsV RX9 138 RX9 yX9_wants wsX9_wants) := goodIn_app (goodIn_of _ (by decide +kernel)) ggX9_next_X9_wants
theorem dX9_next_0 : decode cX9_next 0 = .ok (.aload_n 0, 1) := by decide +kernel
theorem dX9_next_1 : decode cX9_next 1 = .ok (.getfield 108, 3) := by decide +kernel
theorem dX9_next_4 : decode cX9_next 4 = .ok (.ifCond .le 4, 3) := by decide +kernel
theorem dX9_next_7 : decode cX9_next 7 = .ok (.return_, 1) := by decide +kernel
theorem dX9_next_8 : decode cX9_next 8 = .ok (.aload_n 0, 1) := by decide +kernel
theorem dX9_next_9 : decode cX9_next 9 = .ok (.aload_n 0, 1) := by decide +kernel
theorem dX9_next_10 : decode cX9_next 10 = .ok (.getfield 117, 3) := by decide +kernel
theorem dX9_next_13 : decode cX9_next 13 = .ok (.invokevirtual 120, 3) := by decide +kernel
theorem dX9_next_16 : decode cX9_next 16 = .ok (.bipush 32, 2) := by decide +kernel
theorem dX9_next_18 : decode cX9_next 18 = .ok (.if_icmp .ne 16, 3) := by decide +kernel
theorem dX9_next_21 : decode cX9_next 21 = .ok (.aload_n 0, 1) := by decide +kernel
theorem dX9_next_22 : decode cX9_next 22 = .ok (.dup, 1) := by decide +kernel
theorem dX9_next_23 : decode cX9_next 23 = .ok (.getfield 117, 3) := by decide +kernel
theorem dX9_next_26 : decode cX9_next 26 = .ok (.iconst 1, 1) := by decide +kernel
theorem dX9_next_27 : decode cX9_next 27 = .ok (.iadd, 1) := by decide +kernel
theorem dX9_next_28 : decode cX9_next 28 = .ok (.putfield 117, 3) := by decide +kernel
theorem dX9_next_31 : decode cX9_next 31 = .ok (.goto (-23), 3) := by decide +kernel
theorem dX9_next_34 : decode cX9_next 34 = .ok (.aload_n 0, 1) := by decide +kernel
theorem dX9_next_35 : decode cX9_next 35 = .ok (.aload_n 0, 1) := by decide +kernel
theorem dX9_next_36 : decode cX9_next 36 = .ok (.getfield 117, 3) := by decide +kernel
theorem dX9_next_39 : decode cX9_next 39 = .ok (.putfield 111, 3) := by decide +kernel
theorem dX9_next_42 : decode cX9_next 42 = .ok (.aload_n 0, 1) := by decide +kernel
theorem dX9_next_43 : decode cX9_next 43 = .ok (.aload_n 0, 1) := by decide +kernel
theorem dX9_next_44 : decode cX9_next 44 = .ok (.getfield 117, 3) := by decide +kernel
theorem dX9_next_47 : decode cX9_next 47 = .ok (.invokevirtual 120, 3) := by decide +kernel
theorem dX9_next_50 : decode cX9_next 50 = .ok (.istore_n 1, 1) := by decide +kernel
theorem dX9_next_51 : decode cX9_next 51 = .ok (.iload_n 1, 1) := by decide +kernel
theorem dX9_next_52 : decode cX9_next 52 = .ok (.ifCond .ge 11, 3) := by decide +kernel
theorem dX9_next_55 : decode cX9_next 55 = .ok (.aload_n 0, 1) := by decide +kernel
theorem dX9_next_56 : decode cX9_next 56 = .ok (.iconst 0, 1) := by decide +kernel
theorem dX9_next_57 : decode cX9_next 57 = .ok (.putfield 124, 3) := by decide +kernel
theorem dX9_next_60 : decode cX9_next 60 = .ok (.goto 230, 3) := by decide +kernel
theorem dX9_next_63 : decode cX9_next 63 = .ok (.iload_n 1, 1) := by decide +kernel
theorem dX9_next_64 : decode cX9_next 64 = .ok (.i2l, 1) := by decide +kernel
theorem dX9_next_65 : decode cX9_next 65 = .ok (.ldc2_w 127, 3) := by decide +kernel
theorem dX9_next_68 : decode cX9_next 68 = .ok (.ldc2_w 129, 3) := by decide +kernel
theorem dX9_next_71 : decode cX9_next 71 = .ok (.invokestatic 104, 3) := by decide +kernel
theorem dX9_next_74 : decode cX9_next 74 = .ok (.ifCond .eq 42, 3) := by decide +kernel
theorem dX9_next_77 : decode cX9_next 77 = .ok (.aload_n 0, 1) := by decide +kernel
theorem dX9_next_78 : decode cX9_next 78 = .ok (.iconst 1, 1) := by decide +kernel
theorem dX9_next_79 : decode cX9_next 79 = .ok (.putfield 124, 3) := by decide +kernel
theorem dX9_next_82 : decode cX9_next 82 = .ok (.aload_n 0, 1) := by decide +kernel
theorem dX9_next_83 : decode cX9_next 83 = .ok (.aload_n 0, 1) := by decide +kernel
theorem dX9_next_84 : decode cX9_next 84 = .ok (.getfield 117, 3) := by decide +kernel
theorem dX9_next_87 : decode cX9_next 87 = .ok (.invokevirtual 120, 3) := by decide +kernel
theorem dX9_next_90 : decode cX9_next 90 = .ok (.i2l, 1) := by decide +kernel
theorem dX9_next_91 : decode cX9_next 91 = .ok (.ldc2_w 127, 3) := by decide +kernel
theorem dX9_next_94 : decode cX9_next 94 = .ok (.ldc2_w 129, 3) := by decide +kernel
theorem dX9_next_97 : decode cX9_next 97 = .ok (.invokestatic 104, 3) := by decide +kernel
theorem dX9_next_100 : decode cX9_next 100 = .ok (.ifCond .eq 190, 3) := by decide +kernel
theorem dX9_next_103 : decode cX9_next 103 = .ok (.aload_n 0, 1) := by decide +kernel
theorem dX9_next_104 : decode cX9_next 104 = .ok (.dup, 1) := by decide +kernel
theorem dX9_next_105 : decode cX9_next 105 = .ok (.getfield 117, 3) := by decide +kernel
theorem dX9_next_108 : decode cX9_next 108 = .ok (.iconst 1, 1) := by decide +kernel
theorem dX9_next_109 : decode cX9_next 109 = .ok (.iadd, 1) := by decide +kernel
theorem dX9_next_110 : decode cX9_next 110 = .ok (.putfield 117, 3) := by decide +kernel
theorem dX9_next_113 : decode cX9_next 113 = .ok (.goto (-31), 3) := by decide +kernel
theorem dX9_next_116 : decode cX9_next 116 = .ok (.iload_n 1, 1) := by decide +kernel
theorem dX9_next_117 : decode cX9_next 117 = .ok (.i2l, 1) := by decide +kernel
theorem dX9_next_118 : decode cX9_next 118 = .ok (.ldc2_w 131, 3) := by decide +kernel
theorem dX9_next_121 : decode cX9_next 121 = .ok (.ldc2_w 133, 3) := by decide +kernel
theorem dX9_next_124 : decode cX9_next 124 = .ok (.invokestatic 104, 3) := by decide +kernel
theorem dX9_next_127 : decode cX9_next 127 = .ok (.ifCond .eq 116, 3) := by decide +kernel
theorem dX9_next_130 : decode cX9_next 130 = .ok (.aload_n 0, 1) := by decide +kernel
theorem dX9_next_131 : decode cX9_next 131 = .ok (.iconst 2, 1) := by decide +kernel
theorem dX9_next_132 : decode cX9_next 132 = .ok (.putfield 124, 3) := by decide +kernel
theorem dX9_next_135 : decode cX9_next 135 = .ok (.aload_n 0, 1) := by decide +kernel
theorem dX9_next_136 : decode cX9_next 136 = .ok (.iconst 0, 1) := by decide +kernel
theorem dX9_next_137 : decode cX9_next 137 = .ok (.putfield 135, 3) := by decide +kernel
theorem dX9_next_140 : decode cX9_next 140 = .ok (.aload_n 0, 1) := by decide +kernel
theorem dX9_next_141 : decode cX9_next 141 = .ok (.aload_n 0, 1) := by decide +kernel
theorem dX9_next_142 : decode cX9_next 142 = .ok (.getfield 117, 3) := by decide +kernel
theorem dX9_next_145 : decode cX9_next 145 = .ok (.invokevirtual 120, 3) := by decide +kernel
theorem dX9_next_148 : decode cX9_next 148 = .ok (.i2l, 1) := by decide +kernel
theorem dX9_next_149 : decode cX9_next 149 = .ok (.ldc2_w 131, 3) := by decide +kernel
theorem dX9_next_152 : decode cX9_next 152 = .ok (.ldc2_w 133, 3) := by decide +kernel
theorem dX9_next_155 : decode cX9_next 155 = .ok (.invokestatic 104, 3) := by decide +kernel
theorem dX9_next_158 : decode cX9_next 158 = .ok (.ifCond .eq 59, 3) := by decide +kernel
theorem dX9_next_161 : decode cX9_next 161 = .ok (.aload_n 0, 1) := by decide +kernel
theorem dX9_next_162 : decode cX9_next 162 = .ok (.aload_n 0, 1) := by decide +kernel
theorem dX9_next_163 : decode cX9_next 163 = .ok (.getfield 117, 3) := by decide +kernel
theorem dX9_next_166 : decode cX9_next 166 = .ok (.aload_n 0, 1) := by decide +kernel
theorem dX9_next_167 : decode cX9_next 167 = .ok (.getfield 111, 3) := by decide +kernel
theorem dX9_next_170 : decode cX9_next 170 = .ok (.isub, 1) := by decide +kernel
theorem dX9_next_171 : decode cX9_next 171 = .ok (.iconst 2, 1) := by decide +kernel
theorem dX9_next_172 : decode cX9_next 172 = .ok (.if_icmp .ge 25, 3) := by decide +kernel
theorem dX9_next_175 : decode cX9_next 175 = .ok (.bipush 10, 2) := by decide +kernel
theorem dX9_next_177 : decode cX9_next 177 = .ok (.aload_n 0, 1) := by decide +kernel
theorem dX9_next_178 : decode cX9_next 178 = .ok (.getfield 135, 3) := by decide +kernel
theorem dX9_next_181 : decode cX9_next 181 = .ok (.imul, 1) := by decide +kernel
theorem dX9_next_182 : decode cX9_next 182 = .ok (.aload_n 0, 1) := by decide +kernel
theorem dX9_next_183 : decode cX9_next 183 = .ok (.aload_n 0, 1) := by decide +kernel
theorem dX9_next_184 : decode cX9_next 184 = .ok (.getfield 117, 3) := by decide +kernel
theorem dX9_next_187 : decode cX9_next 187 = .ok (.invokevirtual 120, 3) := by decide +kernel
theorem dX9_next_190 : decode cX9_next 190 = .ok (.iadd, 1) := by decide +kernel
theorem dX9_next_191 : decode cX9_next 191 = .ok (.bipush 48, 2) := by decide +kernel
theorem dX9_next_193 : decode cX9_next 193 = .ok (.isub, 1) := by decide +kernel
theorem dX9_next_194 : decode cX9_next 194 = .ok (.goto 7, 3) := by decide +kernel
theorem dX9_next_197 : decode cX9_next 197 = .ok (.aload_n 0, 1) := by decide +kernel
theorem dX9_next_198 : decode cX9_next 198 = .ok (.getfield 135, 3) := by decide +kernel
theorem dX9_next_201 : decode cX9_next 201 = .ok (.putfield 135, 3) := by decide +kernel
theorem dX9_next_204 : decode cX9_next 204 = .ok (.aload_n 0, 1) := by decide +kernel
theorem dX9_next_205 : decode cX9_next 205 = .ok (.dup, 1) := by decide +kernel
theorem dX9_next_206 : decode cX9_next 206 = .ok (.getfield 117, 3) := by decide +kernel
theorem dX9_next_209 : decode cX9_next 209 = .ok (.iconst 1, 1) := by decide +kernel
theorem dX9_next_210 : decode cX9_next 210 = .ok (.iadd, 1) := by decide +kernel
theorem dX9_next_211 : decode cX9_next 211 = .ok (.putfield 117, 3) := by decide +kernel
theorem dX9_next_214 : decode cX9_next 214 = .ok (.goto (-74), 3) := by decide +kernel
theorem dX9_next_217 : decode cX9_next 217 = .ok (.aload_n 0, 1) := by decide +kernel
theorem dX9_next_218 : decode cX9_next 218 = .ok (.aload_n 0, 1) := by decide +kernel
theorem dX9_next_219 : decode cX9_next 219 = .ok (.getfield 117, 3) := by decide +kernel
theorem dX9_next_222 : decode cX9_next 222 = .ok (.aload_n 0, 1) := by decide +kernel
theorem dX9_next_223 : decode cX9_next 223 = .ok (.getfield 111, 3) := by decide +kernel
theorem dX9_next_226 : decode cX9_next 226 = .ok (.isub, 1) := by decide +kernel
theorem dX9_next_227 : decode cX9_next 227 = .ok (.iconst 2, 1) := by decide +kernel
theorem dX9_next_228 : decode cX9_next 228 = .ok (.if_icmp .gt 7, 3) := by decide +kernel
theorem dX9_next_231 : decode cX9_next 231 = .ok (.iconst 1, 1) := by decide +kernel
theorem dX9_next_232 : decode cX9_next 232 = .ok (.goto 4, 3) := by decide +kernel
theorem dX9_next_235 : decode cX9_next 235 = .ok (.iconst 0, 1) := by decide +kernel
theorem dX9_next_236 : decode cX9_next 236 = .ok (.iconst 1, 1) := by decide +kernel
theorem dX9_next_237 : decode cX9_next 237 = .ok (.invokevirtual 138, 3) := by decide +kernel
theorem dX9_next_240 : decode cX9_next 240 = .ok (.goto 50, 3) := by decide +kernel
theorem dX9_next_243 : decode cX9_next 243 = .ok (.aload_n 0, 1) := by decide +kernel
theorem dX9_next_244 : decode cX9_next 244 = .ok (.iload_n 1, 1) := by decide +kernel
theorem dX9_next_245 : decode cX9_next 245 = .ok (.bipush 59, 2) := by decide +kernel
theorem dX9_next_247 : decode cX9_next 247 = .ok (.if_icmp .ne 7, 3) := by decide +kernel
theorem dX9_next_250 : decode cX9_next 250 = .ok (.iconst 3, 1) := by decide +kernel
theorem dX9_next_251 : decode cX9_next 251 = .ok (.goto 4, 3) := by decide +kernel
theorem dX9_next_254 : decode cX9_next 254 = .ok (.iconst 4, 1) := by decide +kernel
theorem dX9_next_255 : decode cX9_next 255 = .ok (.putfield 124, 3) := by decide +kernel
theorem dX9_next_258 : decode cX9_next 258 = .ok (.aload_n 0, 1) := by decide +kernel
theorem dX9_next_259 : decode cX9_next 259 = .ok (.iload_n 1, 1) := by decide +kernel
theorem dX9_next_260 : decode cX9_next 260 = .ok (.bipush 59, 2) := by decide +kernel
theorem dX9_next_262 : decode cX9_next 262 = .ok (.if_icmp .eq 9, 3) := by decide +kernel
theorem dX9_next_265 : decode cX9_next 265 = .ok (.iload_n 1, 1) := by decide +kernel
theorem dX9_next_266 : decode cX9_next 266 = .ok (.bipush 44, 2) := by decide +kernel
theorem dX9_next_268 : decode cX9_next 268 = .ok (.if_icmp .ne 7, 3) := by decide +kernel
theorem dX9_next_271 : decode cX9_next 271 = .ok (.iconst 1, 1) := by decide +kernel
theorem dX9_next_272 : decode cX9_next 272 = .ok (.goto 4, 3) := by decide +kernel
theorem dX9_next_275 : decode cX9_next 275 = .ok (.iconst 0, 1) := by decide +kernel
theorem dX9_next_276 : decode cX9_next 276 = .ok (.iconst 1, 1) := by decide +kernel
theorem dX9_next_277 : decode cX9_next 277 = .ok (.invokevirtual 138, 3) := by decide +kernel
theorem dX9_next_280 : decode cX9_next 280 = .ok (.aload_n 0, 1) := by decide +kernel
theorem dX9_next_281 : decode cX9_next 281 = .ok (.dup, 1) := by decide +kernel
theorem dX9_next_282 : decode cX9_next 282 = .ok (.getfield 117, 3) := by decide +kernel
theorem dX9_next_285 : decode cX9_next 285 = .ok (.iconst 1, 1) := by decide +kernel
theorem dX9_next_286 : decode cX9_next 286 = .ok (.iadd, 1) := by decide +kernel
theorem dX9_next_287 : decode cX9_next 287 = .ok (.putfield 117, 3) := by decide +kernel
theorem dX9_next_290 : decode cX9_next 290 = .ok (.return_, 1) := by decide +kernel
set_option maxRecDepth 20000 in
theorem ggX9_is_X9_look : GoodIn wsX9_is wsX9_look := goodIn_r _ [8, 9, 10, 11, 12, 13, 14, 15, 16, 17, 18, 19, 20, 21, 22, 23, 24, 25, 26, 27, 28, 29, 30, 31, 32, 33, 34, 35, 36, 37, 38, 39, 40, 41, 42, 43, 44, 45, 46, 47, 48, 49, 50, 51, 52, 53, 54, 55, 56] (by decide +kernel) (by decide +kernel)
set_option maxRecDepth 20000 in
theorem gX9_is_X9_look : GoodIn wsX9_is (wsV RX9 120 RX9 yX9_look wsX9_look) := goodIn_app (goodIn_of _ (by decide +kernel)) ggX9_is_X9_look
theorem dX9_is_0 : decode cX9_is 0 = .ok (.aload_n 0, 1) := by decide +kernel
theorem dX9_is_1 : decode cX9_is 1 = .ok (.getfield 124, 3) := by decide +kernel
theorem dX9_is_4 : decode cX9_is 4 = .ok (.iconst 1, 1) := by decide +kernel
theorem dX9_is_5 : decode cX9_is 5 = .ok (.if_icmp .ne 81, 3) := by decide +kernel
theorem dX9_is_8 : decode cX9_is 8 = .ok (.aload_n 0, 1) := by decide +kernel
theorem dX9_is_9 : decode cX9_is 9 = .ok (.getfield 117, 3) := by decide +kernel
theorem dX9_is_12 : decode cX9_is 12 = .ok (.aload_n 0, 1) := by decide +kernel
theorem dX9_is_13 : decode cX9_is 13 = .ok (.getfield 111, 3) := by decide +kernel
theorem dX9_is_16 : decode cX9_is 16 = .ok (.isub, 1) := by decide +kernel
theorem dX9_is_17 : decode cX9_is 17 = .ok (.iload_n 1, 1) := by decide +kernel
theorem dX9_is_18 : decode cX9_is 18 = .ok (.if_icmp .ne 68, 3) := by decide +kernel
theorem dX9_is_21 : decode cX9_is 21 = .ok (.aload_n 0, 1) := by decide +kernel
theorem dX9_is_22 : decode cX9_is 22 = .ok (.aload_n 0, 1) := by decide +kernel
theorem dX9_is_23 : decode cX9_is 23 = .ok (.getfield 111, 3) := by decide +kernel
theorem dX9_is_26 : decode cX9_is 26 = .ok (.invokevirtual 120, 3) := by decide +kernel
theorem dX9_is_29 : decode cX9_is 29 = .ok (.iload_n 2, 1) := by decide +kernel
theorem dX9_is_30 : decode cX9_is 30 = .ok (.if_icmp .ne 56, 3) := by decide +kernel
theorem dX9_is_33 : decode cX9_is 33 = .ok (.aload_n 0, 1) := by decide +kernel
theorem dX9_is_34 : decode cX9_is 34 = .ok (.aload_n 0, 1) := by decide +kernel
theorem dX9_is_35 : decode cX9_is 35 = .ok (.getfield 111, 3) := by decide +kernel
theorem dX9_is_38 : decode cX9_is 38 = .ok (.iconst 1, 1) := by decide +kernel
theorem dX9_is_39 : decode cX9_is 39 = .ok (.iadd, 1) := by decide +kernel
theorem dX9_is_40 : decode cX9_is 40 = .ok (.invokevirtual 120, 3) := by decide +kernel
theorem dX9_is_43 : decode cX9_is 43 = .ok (.iload_n 3, 1) := by decide +kernel
theorem dX9_is_44 : decode cX9_is 44 = .ok (.if_icmp .ne 42, 3) := by decide +kernel
theorem dX9_is_47 : decode cX9_is 47 = .ok (.aload_n 0, 1) := by decide +kernel
theorem dX9_is_48 : decode cX9_is 48 = .ok (.aload_n 0, 1) := by decide +kernel
theorem dX9_is_49 : decode cX9_is 49 = .ok (.getfield 111, 3) := by decide +kernel
theorem dX9_is_52 : decode cX9_is 52 = .ok (.iconst 2, 1) := by decide +kernel
theorem dX9_is_53 : decode cX9_is 53 = .ok (.iadd, 1) := by decide +kernel
theorem dX9_is_54 : decode cX9_is 54 = .ok (.invokevirtual 120, 3) := by decide +kernel
theorem dX9_is_57 : decode cX9_is 57 = .ok (.iload 4, 2) := by decide +kernel
theorem dX9_is_59 : decode cX9_is 59 = .ok (.if_icmp .ne 27, 3) := by decide +kernel
theorem dX9_is_62 : decode cX9_is 62 = .ok (.iload_n 1, 1) := by decide +kernel
theorem dX9_is_63 : decode cX9_is 63 = .ok (.iconst 4, 1) := by decide +kernel
theorem dX9_is_64 : decode cX9_is 64 = .ok (.if_icmp .lt 18, 3) := by decide +kernel
theorem dX9_is_67 : decode cX9_is 67 = .ok (.aload_n 0, 1) := by decide +kernel
theorem dX9_is_68 : decode cX9_is 68 = .ok (.aload_n 0, 1) := by decide +kernel
theorem dX9_is_69 : decode cX9_is 69 = .ok (.getfield 111, 3) := by decide +kernel
theorem dX9_is_72 : decode cX9_is 72 = .ok (.iconst 3, 1) := by decide +kernel
theorem dX9_is_73 : decode cX9_is 73 = .ok (.iadd, 1) := by decide +kernel
theorem dX9_is_74 : decode cX9_is 74 = .ok (.invokevirtual 120, 3) := by decide +kernel
theorem dX9_is_77 : decode cX9_is 77 = .ok (.iload 5, 2) := by decide +kernel
theorem dX9_is_79 : decode cX9_is 79 = .ok (.if_icmp .ne 7, 3) := by decide +kernel
theorem dX9_is_82 : decode cX9_is 82 = .ok (.iconst 1, 1) := by decide +kernel
theorem dX9_is_83 : decode cX9_is 83 = .ok (.goto 4, 3) := by decide +kernel
theorem dX9_is_86 : decode cX9_is 86 = .ok (.iconst 0, 1) := by decide +kernel
theorem dX9_is_87 : decode cX9_is 87 = .ok (.ireturn, 1) := by decide +kernel
set_option maxRecDepth 20000 in
theorem ggX9_lineNow_X9_is : GoodIn wsX9_lineNow wsX9_is := goodIn_r _ [6, 7, 8, 1, 9, 10, 11, 5, 12, 13, 14, 15, 16, 17, 18, 19, 20, 21, 22, 23, 24, 25, 26, 27, 28, 29, 30, 31, 32, 33, 34, 35, 36, 37, 38, 39, 40, 41, 42, 43, 44, 45, 46, 47, 48, 49, 50, 51, 52, 53, 54, 55, 56, 57, 58, 59, 60] (by decide +kernel) (by decide +kernel)
set_option maxRecDepth 20000 in
theorem gX9_lineNow_X9_is : GoodIn wsX9_lineNow (wsV RX9 142 RX9 yX9_is wsX9_is) := goodIn_app (goodIn_of _ (by decide +kernel)) ggX9_lineNow_X9_is
set_option maxRecDepth 20000 in
theorem ggX9_lineNow_X9_look : GoodIn wsX9_lineNow wsX9_look := goodIn_r _ [12, 13, 14, 15, 16, 17, 18, 19, 20, 21, 22, 23, 24, 25, 26, 27, 28, 29, 30, 31, 32, 33, 34, 35, 36, 37, 38, 39, 40, 41, 42, 43, 44, 45, 46, 47, 48, 49, 50, 51, 52, 53, 54, 55, 56, 57, 58, 59, 60] (by decide +kernel) (by decide +kernel)
set_option maxRecDepth 20000 in
theorem gX9_lineNow_X9_look : GoodIn wsX9_lineNow (wsV RX9 120 RX9 yX9_look wsX9_look) := goodIn_app (goodIn_of _ (by decide +kernel)) ggX9_lineNow_X9_look
theorem dX9_lineNow_0 : decode cX9_lineNow 0 = .ok (.aload_n 0, 1) := by decide +kernel
theorem dX9_lineNow_1 : decode cX9_lineNow 1 = .ok (.iconst 4, 1) := by decide +kernel
theorem dX9_lineNow_2 : decode cX9_lineNow 2 = .ok (.bipush 104, 2) := by decide +kernel
theorem dX9_lineNow_4 : decode cX9_lineNow 4 = .ok (.bipush 105, 2) := by decide +kernel
theorem dX9_lineNow_6 : decode cX9_lineNow 6 = .ok (.bipush 103, 2) := by decide +kernel
theorem dX9_lineNow_8 : decode cX9_lineNow 8 = .ok (.bipush 104, 2) := by decide +kernel
theorem dX9_lineNow_10 : decode cX9_lineNow 10 = .ok (.invokevirtual 142, 3) := by decide +kernel
theorem dX9_lineNow_13 : decode cX9_lineNow 13 = .ok (.ifCond .eq 5, 3) := by decide +kernel
theorem dX9_lineNow_16 : decode cX9_lineNow 16 = .ok (.iconst 0, 1) := by decide +kernel
theorem dX9_lineNow_17 : decode cX9_lineNow 17 = .ok (.ireturn, 1) := by decide +kernel
theorem dX9_lineNow_18 : decode cX9_lineNow 18 = .ok (.aload_n 0, 1) := by decide +kernel
theorem dX9_lineNow_19 : decode cX9_lineNow 19 = .ok (.iconst 4, 1) := by decide +kernel
theorem dX9_lineNow_20 : decode cX9_lineNow 20 = .ok (.bipush 115, 2) := by decide +kernel
theorem dX9_lineNow_22 : decode cX9_lineNow 22 = .ok (.bipush 116, 2) := by decide +kernel
theorem dX9_lineNow_24 : decode cX9_lineNow 24 = .ok (.bipush 111, 2) := by decide +kernel
theorem dX9_lineNow_26 : decode cX9_lineNow 26 = .ok (.bipush 112, 2) := by decide +kernel
theorem dX9_lineNow_28 : decode cX9_lineNow 28 = .ok (.invokevirtual 142, 3) := by decide +kernel
theorem dX9_lineNow_31 : decode cX9_lineNow 31 = .ok (.ifCond .eq 5, 3) := by decide +kernel
theorem dX9_lineNow_34 : decode cX9_lineNow 34 = .ok (.iconst 1, 1) := by decide +kernel
theorem dX9_lineNow_35 : decode cX9_lineNow 35 = .ok (.ireturn, 1) := by decide +kernel
theorem dX9_lineNow_36 : decode cX9_lineNow 36 = .ok (.aload_n 0, 1) := by decide +kernel
theorem dX9_lineNow_37 : decode cX9_lineNow 37 = .ok (.iconst 5, 1) := by decide +kernel
theorem dX9_lineNow_38 : decode cX9_lineNow 38 = .ok (.bipush 103, 2) := by decide +kernel
theorem dX9_lineNow_40 : decode cX9_lineNow 40 = .ok (.bipush 108, 2) := by decide +kernel
theorem dX9_lineNow_42 : decode cX9_lineNow 42 = .ok (.bipush 105, 2) := by decide +kernel
theorem dX9_lineNow_44 : decode cX9_lineNow 44 = .ok (.bipush 100, 2) := by decide +kernel
theorem dX9_lineNow_46 : decode cX9_lineNow 46 = .ok (.invokevirtual 142, 3) := by decide +kernel
theorem dX9_lineNow_49 : decode cX9_lineNow 49 = .ok (.ifCond .eq 20, 3) := by decide +kernel
theorem dX9_lineNow_52 : decode cX9_lineNow 52 = .ok (.aload_n 0, 1) := by decide +kernel
theorem dX9_lineNow_53 : decode cX9_lineNow 53 = .ok (.aload_n 0, 1) := by decide +kernel
theorem dX9_lineNow_54 : decode cX9_lineNow 54 = .ok (.getfield 111, 3) := by decide +kernel
theorem dX9_lineNow_57 : decode cX9_lineNow 57 = .ok (.iconst 4, 1) := by decide +kernel
theorem dX9_lineNow_58 : decode cX9_lineNow 58 = .ok (.iadd, 1) := by decide +kernel
theorem dX9_lineNow_59 : decode cX9_lineNow 59 = .ok (.invokevirtual 120, 3) := by decide +kernel
theorem dX9_lineNow_62 : decode cX9_lineNow 62 = .ok (.bipush 101, 2) := by decide +kernel
theorem dX9_lineNow_64 : decode cX9_lineNow 64 = .ok (.if_icmp .ne 5, 3) := by decide +kernel
theorem dX9_lineNow_67 : decode cX9_lineNow 67 = .ok (.iconst 2, 1) := by decide +kernel
theorem dX9_lineNow_68 : decode cX9_lineNow 68 = .ok (.ireturn, 1) := by decide +kernel
theorem dX9_lineNow_69 : decode cX9_lineNow 69 = .ok (.aload_n 0, 1) := by decide +kernel
theorem dX9_lineNow_70 : decode cX9_lineNow 70 = .ok (.iconst 4, 1) := by decide +kernel
theorem dX9_lineNow_71 : decode cX9_lineNow 71 = .ok (.bipush 109, 2) := by decide +kernel
theorem dX9_lineNow_73 : decode cX9_lineNow 73 = .ok (.bipush 117, 2) := by decide +kernel
theorem dX9_lineNow_75 : decode cX9_lineNow 75 = .ok (.bipush 116, 2) := by decide +kernel
theorem dX9_lineNow_77 : decode cX9_lineNow 77 = .ok (.bipush 101, 2) := by decide +kernel
theorem dX9_lineNow_79 : decode cX9_lineNow 79 = .ok (.invokevirtual 142, 3) := by decide +kernel
theorem dX9_lineNow_82 : decode cX9_lineNow 82 = .ok (.ifCond .eq 5, 3) := by decide +kernel
theorem dX9_lineNow_85 : decode cX9_lineNow 85 = .ok (.iconst 3, 1) := by decide +kernel
theorem dX9_lineNow_86 : decode cX9_lineNow 86 = .ok (.ireturn, 1) := by decide +kernel
theorem dX9_lineNow_87 : decode cX9_lineNow 87 = .ok (.aload_n 0, 1) := by decide +kernel
theorem dX9_lineNow_88 : decode cX9_lineNow 88 = .ok (.iconst 4, 1) := by decide +kernel
theorem dX9_lineNow_89 : decode cX9_lineNow 89 = .ok (.bipush 119, 2) := by decide +kernel
theorem dX9_lineNow_91 : decode cX9_lineNow 91 = .ok (.bipush 111, 2) := by decide +kernel
theorem dX9_lineNow_93 : decode cX9_lineNow 93 = .ok (.bipush 114, 2) := by decide +kernel
theorem dX9_lineNow_95 : decode cX9_lineNow 95 = .ok (.bipush 100, 2) := by decide +kernel
theorem dX9_lineNow_97 : decode cX9_lineNow 97 = .ok (.invokevirtual 142, 3) := by decide +kernel
theorem dX9_lineNow_100 : decode cX9_lineNow 100 = .ok (.ifCond .eq 7, 3) := by decide +kernel
theorem dX9_lineNow_103 : decode cX9_lineNow 103 = .ok (.iconst 4, 1) := by decide +kernel
theorem dX9_lineNow_104 : decode cX9_lineNow 104 = .ok (.goto 24, 3) := by decide +kernel
theorem dX9_lineNow_107 : decode cX9_lineNow 107 = .ok (.aload_n 0, 1) := by decide +kernel
theorem dX9_lineNow_108 : decode cX9_lineNow 108 = .ok (.iconst 3, 1) := by decide +kernel
theorem dX9_lineNow_109 : decode cX9_lineNow 109 = .ok (.bipush 97, 2) := by decide +kernel
theorem dX9_lineNow_111 : decode cX9_lineNow 111 = .ok (.bipush 115, 2) := by decide +kernel
theorem dX9_lineNow_113 : decode cX9_lineNow 113 = .ok (.bipush 107, 2) := by decide +kernel
theorem dX9_lineNow_115 : decode cX9_lineNow 115 = .ok (.iconst 0, 1) := by decide +kernel
theorem dX9_lineNow_116 : decode cX9_lineNow 116 = .ok (.invokevirtual 142, 3) := by decide +kernel
theorem dX9_lineNow_119 : decode cX9_lineNow 119 = .ok (.ifCond .eq 7, 3) := by decide +kernel
theorem dX9_lineNow_122 : decode cX9_lineNow 122 = .ok (.iconst 5, 1) := by decide +kernel
theorem dX9_lineNow_123 : decode cX9_lineNow 123 = .ok (.goto 5, 3) := by decide +kernel
theorem dX9_lineNow_126 : decode cX9_lineNow 126 = .ok (.bipush (-4), 2) := by decide +kernel
theorem dX9_lineNow_128 : decode cX9_lineNow 128 = .ok (.ireturn, 1) := by decide +kernel
set_option maxRecDepth 20000 in
theorem ggX9_readLetter_X9_wants : GoodIn wsX9_readLetter wsX9_wants := goodIn_r _ [13, 4, 3, 14, 32, 33, 34, 35, 36, 37, 38, 39, 40, 41, 42, 43, 44, 45, 46, 47, 48, 49, 50, 51, 52, 53, 54, 55, 56, 57, 58, 59, 60, 61, 62, 63, 64, 65, 66, 67, 68, 69, 70, 71, 72, 73, 74, 75, 76, 77] (by decide +kernel) (by decide +kernel)
set_option maxRecDepth 20000 in
theorem gX9_readLetter_X9_wants : GoodIn wsX9_readLetter (wsV RX9 138 RX9 yX9_wants wsX9_wants) := goodIn_app (goodIn_of _ (by decide +kernel)) ggX9_readLetter_X9_wants
set_option maxRecDepth 20000 in
theorem ggX9_readLetter_X9_look : GoodIn wsX9_readLetter wsX9_look := goodIn_r _ [18, 19, 20, 32, 33, 34, 35, 36, 37, 38, 39, 40, 41, 42, 43, 44, 45, 46, 47, 48, 49, 50, 51, 52, 53, 54, 55, 56, 57, 58, 59, 60, 61, 62, 63, 64, 65, 66, 67, 68, 69, 70, 71, 72, 73, 74, 75, 76, 77] (by decide +kernel) (by decide +kernel)
set_option maxRecDepth 20000 in
theorem gX9_readLetter_X9_look : GoodIn wsX9_readLetter (wsV RX9 120 RX9 yX9_look wsX9_look) := goodIn_app (goodIn_of _ (by decide +kernel)) ggX9_readLetter_X9_look
set_option maxRecDepth 20000 in
theorem ggX9_readLetter_X9_next : GoodIn wsX9_readLetter wsX9_next := goodIn_r _ [24, 4, 2, 3, 1, 25, 26, 27, 28, 6, 15, 16, 17, 12, 18, 19, 20, 29, 30, 31, 9, 10, 11, 13, 14, 32, 33, 34, 35, 36, 37, 38, 39, 40, 41, 42, 43, 44, 45, 46, 47, 48, 49, 50, 51, 52, 53, 54, 55, 56, 57, 58, 59, 60, 61, 62, 63, 64, 65, 66, 67, 68, 69, 70, 71, 72, 73, 74, 75, 76, 77] (by decide +kernel) (by decide +kernel)
set_option maxRecDepth 20000 in
theorem gX9_readLetter_X9_next : GoodIn wsX9_readLetter (wsV RX9 146 RX9 yX9_next wsX9_next) := goodIn_app (goodIn_of _ (by decide +kernel)) ggX9_readLetter_X9_next
set_option maxRecDepth 20000 in
theorem ggX9_readLetter_X9_in : GoodIn wsX9_readLetter wsX9_in := goodIn_r _ [31] (by decide +kernel) (by decide +kernel)
set_option maxRecDepth 20000 in
theorem gX9_readLetter_X9_in : GoodIn wsX9_readLetter (va_wsS RX9 104 yX9_in wsX9_in) := goodIn_app (goodIn_of _ (by decide +kernel)) ggX9_readLetter_X9_in
theorem dX9_readLetter_0 : decode cX9_readLetter 0 = .ok (.aload_n 0, 1) := by decide +kernel
theorem dX9_readLetter_1 : decode cX9_readLetter 1 = .ok (.aload_n 0, 1) := by decide +kernel
theorem dX9_readLetter_2 : decode cX9_readLetter 2 = .ok (.getfield 124, 3) := by decide +kernel
theorem dX9_readLetter_5 : decode cX9_readLetter 5 = .ok (.iconst 1, 1) := by decide +kernel
theorem dX9_readLetter_6 : decode cX9_readLetter 6 = .ok (.if_icmp .ne 20, 3) := by decide +kernel
theorem dX9_readLetter_9 : decode cX9_readLetter 9 = .ok (.aload_n 0, 1) := by decide +kernel
theorem dX9_readLetter_10 : decode cX9_readLetter 10 = .ok (.getfield 117, 3) := by decide +kernel
theorem dX9_readLetter_13 : decode cX9_readLetter 13 = .ok (.aload_n 0, 1) := by decide +kernel
theorem dX9_readLetter_14 : decode cX9_readLetter 14 = .ok (.getfield 111, 3) := by decide +kernel
theorem dX9_readLetter_17 : decode cX9_readLetter 17 = .ok (.isub, 1) := by decide +kernel
theorem dX9_readLetter_18 : decode cX9_readLetter 18 = .ok (.iconst 1, 1) := by decide +kernel
theorem dX9_readLetter_19 : decode cX9_readLetter 19 = .ok (.if_icmp .ne 7, 3) := by decide +kernel
theorem dX9_readLetter_22 : decode cX9_readLetter 22 = .ok (.iconst 1, 1) := by decide +kernel
theorem dX9_readLetter_23 : decode cX9_readLetter 23 = .ok (.goto 4, 3) := by decide +kernel
theorem dX9_readLetter_26 : decode cX9_readLetter 26 = .ok (.iconst 0, 1) := by decide +kernel
theorem dX9_readLetter_27 : decode cX9_readLetter 27 = .ok (.iconst 2, 1) := by decide +kernel
theorem dX9_readLetter_28 : decode cX9_readLetter 28 = .ok (.invokevirtual 138, 3) := by decide +kernel
theorem dX9_readLetter_31 : decode cX9_readLetter 31 = .ok (.aload_n 0, 1) := by decide +kernel
theorem dX9_readLetter_32 : decode cX9_readLetter 32 = .ok (.getfield 108, 3) := by decide +kernel
theorem dX9_readLetter_35 : decode cX9_readLetter 35 = .ok (.ifCond .ne 17, 3) := by decide +kernel
theorem dX9_readLetter_38 : decode cX9_readLetter 38 = .ok (.aload_n 0, 1) := by decide +kernel
theorem dX9_readLetter_39 : decode cX9_readLetter 39 = .ok (.aload_n 0, 1) := by decide +kernel
theorem dX9_readLetter_40 : decode cX9_readLetter 40 = .ok (.getfield 111, 3) := by decide +kernel
theorem dX9_readLetter_43 : decode cX9_readLetter 43 = .ok (.invokevirtual 120, 3) := by decide +kernel
theorem dX9_readLetter_46 : decode cX9_readLetter 46 = .ok (.bipush 97, 2) := by decide +kernel
theorem dX9_readLetter_48 : decode cX9_readLetter 48 = .ok (.isub, 1) := by decide +kernel
theorem dX9_readLetter_49 : decode cX9_readLetter 49 = .ok (.goto 4, 3) := by decide +kernel
theorem dX9_readLetter_52 : decode cX9_readLetter 52 = .ok (.iconst 0, 1) := by decide +kernel
theorem dX9_readLetter_53 : decode cX9_readLetter 53 = .ok (.istore_n 2, 1) := by decide +kernel
theorem dX9_readLetter_54 : decode cX9_readLetter 54 = .ok (.aload_n 0, 1) := by decide +kernel
theorem dX9_readLetter_55 : decode cX9_readLetter 55 = .ok (.getfield 108, 3) := by decide +kernel
theorem dX9_readLetter_58 : decode cX9_readLetter 58 = .ok (.ifCond .ne 23, 3) := by decide +kernel
theorem dX9_readLetter_61 : decode cX9_readLetter 61 = .ok (.aload_n 0, 1) := by decide +kernel
theorem dX9_readLetter_62 : decode cX9_readLetter 62 = .ok (.aload_n 0, 1) := by decide +kernel
theorem dX9_readLetter_63 : decode cX9_readLetter 63 = .ok (.getfield 22, 3) := by decide +kernel
theorem dX9_readLetter_66 : decode cX9_readLetter 66 = .ok (.iload_n 2, 1) := by decide +kernel
theorem dX9_readLetter_67 : decode cX9_readLetter 67 = .ok (.iaload, 1) := by decide +kernel
theorem dX9_readLetter_68 : decode cX9_readLetter 68 = .ok (.iconst (-1), 1) := by decide +kernel
theorem dX9_readLetter_69 : decode cX9_readLetter 69 = .ok (.if_icmp .ne 7, 3) := by decide +kernel
theorem dX9_readLetter_72 : decode cX9_readLetter 72 = .ok (.iconst 1, 1) := by decide +kernel
theorem dX9_readLetter_73 : decode cX9_readLetter 73 = .ok (.goto 4, 3) := by decide +kernel
theorem dX9_readLetter_76 : decode cX9_readLetter 76 = .ok (.iconst 0, 1) := by decide +kernel
theorem dX9_readLetter_77 : decode cX9_readLetter 77 = .ok (.iconst 4, 1) := by decide +kernel
theorem dX9_readLetter_78 : decode cX9_readLetter 78 = .ok (.invokevirtual 138, 3) := by decide +kernel
theorem dX9_readLetter_81 : decode cX9_readLetter 81 = .ok (.aload_n 0, 1) := by decide +kernel
theorem dX9_readLetter_82 : decode cX9_readLetter 82 = .ok (.invokevirtual 146, 3) := by decide +kernel
theorem dX9_readLetter_85 : decode cX9_readLetter 85 = .ok (.iload_n 1, 1) := by decide +kernel
theorem dX9_readLetter_86 : decode cX9_readLetter 86 = .ok (.iconst 2, 1) := by decide +kernel
theorem dX9_readLetter_87 : decode cX9_readLetter 87 = .ok (.if_icmp .ne 8, 3) := by decide +kernel
theorem dX9_readLetter_90 : decode cX9_readLetter 90 = .ok (.bipush 20, 2) := by decide +kernel
theorem dX9_readLetter_92 : decode cX9_readLetter 92 = .ok (.goto 5, 3) := by decide +kernel
theorem dX9_readLetter_95 : decode cX9_readLetter 95 = .ok (.bipush 30, 2) := by decide +kernel
theorem dX9_readLetter_97 : decode cX9_readLetter 97 = .ok (.istore_n 3, 1) := by decide +kernel
theorem dX9_readLetter_98 : decode cX9_readLetter 98 = .ok (.iload_n 1, 1) := by decide +kernel
theorem dX9_readLetter_99 : decode cX9_readLetter 99 = .ok (.ifCond .eq 8, 3) := by decide +kernel
theorem dX9_readLetter_102 : decode cX9_readLetter 102 = .ok (.iload_n 1, 1) := by decide +kernel
theorem dX9_readLetter_103 : decode cX9_readLetter 103 = .ok (.iconst 1, 1) := by decide +kernel
theorem dX9_readLetter_104 : decode cX9_readLetter 104 = .ok (.if_icmp .ne 78, 3) := by decide +kernel
theorem dX9_readLetter_107 : decode cX9_readLetter 107 = .ok (.aload_n 0, 1) := by decide +kernel
theorem dX9_readLetter_108 : decode cX9_readLetter 108 = .ok (.aload_n 0, 1) := by decide +kernel
theorem dX9_readLetter_109 : decode cX9_readLetter 109 = .ok (.getfield 124, 3) := by decide +kernel
theorem dX9_readLetter_112 : decode cX9_readLetter 112 = .ok (.iconst 2, 1) := by decide +kernel
theorem dX9_readLetter_113 : decode cX9_readLetter 113 = .ok (.if_icmp .ne 7, 3) := by decide +kernel
theorem dX9_readLetter_116 : decode cX9_readLetter 116 = .ok (.iconst 1, 1) := by decide +kernel
theorem dX9_readLetter_117 : decode cX9_readLetter 117 = .ok (.goto 4, 3) := by decide +kernel
theorem dX9_readLetter_120 : decode cX9_readLetter 120 = .ok (.iconst 0, 1) := by decide +kernel
theorem dX9_readLetter_121 : decode cX9_readLetter 121 = .ok (.iconst 2, 1) := by decide +kernel
theorem dX9_readLetter_122 : decode cX9_readLetter 122 = .ok (.invokevirtual 138, 3) := by decide +kernel
theorem dX9_readLetter_125 : decode cX9_readLetter 125 = .ok (.aload_n 0, 1) := by decide +kernel
theorem dX9_readLetter_126 : decode cX9_readLetter 126 = .ok (.getfield 108, 3) := by decide +kernel
theorem dX9_readLetter_129 : decode cX9_readLetter 129 = .ok (.ifCond .ne 30, 3) := by decide +kernel
theorem dX9_readLetter_132 : decode cX9_readLetter 132 = .ok (.aload_n 0, 1) := by decide +kernel
theorem dX9_readLetter_133 : decode cX9_readLetter 133 = .ok (.aload_n 0, 1) := by decide +kernel
theorem dX9_readLetter_134 : decode cX9_readLetter 134 = .ok (.getfield 135, 3) := by decide +kernel
theorem dX9_readLetter_137 : decode cX9_readLetter 137 = .ok (.i2l, 1) := by decide +kernel
theorem dX9_readLetter_138 : decode cX9_readLetter 138 = .ok (.lconst 0, 1) := by decide +kernel
theorem dX9_readLetter_139 : decode cX9_readLetter 139 = .ok (.iload_n 1, 1) := by decide +kernel
theorem dX9_readLetter_140 : decode cX9_readLetter 140 = .ok (.ifCond .ne 9, 3) := by decide +kernel
theorem dX9_readLetter_143 : decode cX9_readLetter 143 = .ok (.ldc2_w 149, 3) := by decide +kernel
theorem dX9_readLetter_146 : decode cX9_readLetter 146 = .ok (.goto 6, 3) := by decide +kernel
theorem dX9_readLetter_149 : decode cX9_readLetter 149 = .ok (.ldc2_w 151, 3) := by decide +kernel
theorem dX9_readLetter_152 : decode cX9_readLetter 152 = .ok (.invokestatic 104, 3) := by decide +kernel
theorem dX9_readLetter_155 : decode cX9_readLetter 155 = .ok (.iconst 3, 1) := by decide +kernel
theorem dX9_readLetter_156 : decode cX9_readLetter 156 = .ok (.invokevirtual 138, 3) := by decide +kernel
theorem dX9_readLetter_159 : decode cX9_readLetter 159 = .ok (.iload_n 1, 1) := by decide +kernel
theorem dX9_readLetter_160 : decode cX9_readLetter 160 = .ok (.ifCond .ne 10, 3) := by decide +kernel
theorem dX9_readLetter_163 : decode cX9_readLetter 163 = .ok (.aload_n 0, 1) := by decide +kernel
theorem dX9_readLetter_164 : decode cX9_readLetter 164 = .ok (.getfield 135, 3) := by decide +kernel
theorem dX9_readLetter_167 : decode cX9_readLetter 167 = .ok (.goto 10, 3) := by decide +kernel
theorem dX9_readLetter_170 : decode cX9_readLetter 170 = .ok (.bipush 16, 2) := by decide +kernel
theorem dX9_readLetter_172 : decode cX9_readLetter 172 = .ok (.aload_n 0, 1) := by decide +kernel
theorem dX9_readLetter_173 : decode cX9_readLetter 173 = .ok (.getfield 135, 3) := by decide +kernel
theorem dX9_readLetter_176 : decode cX9_readLetter 176 = .ok (.iadd, 1) := by decide +kernel
theorem dX9_readLetter_177 : decode cX9_readLetter 177 = .ok (.istore_n 3, 1) := by decide +kernel
theorem dX9_readLetter_178 : decode cX9_readLetter 178 = .ok (.aload_n 0, 1) := by decide +kernel
theorem dX9_readLetter_179 : decode cX9_readLetter 179 = .ok (.invokevirtual 146, 3) := by decide +kernel
theorem dX9_readLetter_182 : decode cX9_readLetter 182 = .ok (.aload_n 0, 1) := by decide +kernel
theorem dX9_readLetter_183 : decode cX9_readLetter 183 = .ok (.getfield 108, 3) := by decide +kernel
theorem dX9_readLetter_186 : decode cX9_readLetter 186 = .ok (.ifCond .ne 10, 3) := by decide +kernel
theorem dX9_readLetter_189 : decode cX9_readLetter 189 = .ok (.aload_n 0, 1) := by decide +kernel
theorem dX9_readLetter_190 : decode cX9_readLetter 190 = .ok (.getfield 22, 3) := by decide +kernel
theorem dX9_readLetter_193 : decode cX9_readLetter 193 = .ok (.iload_n 2, 1) := by decide +kernel
theorem dX9_readLetter_194 : decode cX9_readLetter 194 = .ok (.iload_n 3, 1) := by decide +kernel
theorem dX9_readLetter_195 : decode cX9_readLetter 195 = .ok (.iastore, 1) := by decide +kernel
theorem dX9_readLetter_196 : decode cX9_readLetter 196 = .ok (.return_, 1) := by decide +kernel
set_option maxRecDepth 20000 in
theorem ggX9_isSameWord_X9_look : GoodIn wsX9_isSameWord wsX9_look := goodIn_r _ [9, 10, 11, 12, 13, 14, 15, 16, 17, 18, 19, 20, 21, 22, 23, 24, 25, 26, 27, 28, 29, 30, 31, 32, 33, 34, 35, 36, 37, 38, 39, 40, 41, 42, 43, 44, 45, 46, 47, 48, 49, 50, 51, 52, 53, 54, 55, 56, 57] (by decide +kernel) (by decide +kernel)
set_option maxRecDepth 20000 in
theorem gX9_isSameWord_X9_look : GoodIn wsX9_isSameWord (wsV RX9 120 RX9 yX9_look wsX9_look) := goodIn_app (goodIn_of _ (by decide +kernel)) ggX9_isSameWord_X9_look
theorem dX9_isSameWord_0 : decode cX9_isSameWord 0 = .ok (.aload_n 0, 1) := by decide +kernel
theorem dX9_isSameWord_1 : decode cX9_isSameWord 1 = .ok (.getfield 25, 3) := by decide +kernel
theorem dX9_isSameWord_4 : decode cX9_isSameWord 4 = .ok (.iload_n 1, 1) := by decide +kernel
theorem dX9_isSameWord_5 : decode cX9_isSameWord 5 = .ok (.iaload, 1) := by decide +kernel
theorem dX9_isSameWord_6 : decode cX9_isSameWord 6 = .ok (.aload_n 0, 1) := by decide +kernel
theorem dX9_isSameWord_7 : decode cX9_isSameWord 7 = .ok (.getfield 117, 3) := by decide +kernel
theorem dX9_isSameWord_10 : decode cX9_isSameWord 10 = .ok (.aload_n 0, 1) := by decide +kernel
theorem dX9_isSameWord_11 : decode cX9_isSameWord 11 = .ok (.getfield 111, 3) := by decide +kernel
theorem dX9_isSameWord_14 : decode cX9_isSameWord 14 = .ok (.isub, 1) := by decide +kernel
theorem dX9_isSameWord_15 : decode cX9_isSameWord 15 = .ok (.if_icmp .ne 7, 3) := by decide +kernel
theorem dX9_isSameWord_18 : decode cX9_isSameWord 18 = .ok (.iconst 1, 1) := by decide +kernel
theorem dX9_isSameWord_19 : decode cX9_isSameWord 19 = .ok (.goto 4, 3) := by decide +kernel
theorem dX9_isSameWord_22 : decode cX9_isSameWord 22 = .ok (.iconst 0, 1) := by decide +kernel
theorem dX9_isSameWord_23 : decode cX9_isSameWord 23 = .ok (.istore_n 2, 1) := by decide +kernel
theorem dX9_isSameWord_24 : decode cX9_isSameWord 24 = .ok (.iconst 0, 1) := by decide +kernel
theorem dX9_isSameWord_25 : decode cX9_isSameWord 25 = .ok (.istore_n 3, 1) := by decide +kernel
theorem dX9_isSameWord_26 : decode cX9_isSameWord 26 = .ok (.iload_n 3, 1) := by decide +kernel
theorem dX9_isSameWord_27 : decode cX9_isSameWord 27 = .ok (.aload_n 0, 1) := by decide +kernel
theorem dX9_isSameWord_28 : decode cX9_isSameWord 28 = .ok (.getfield 25, 3) := by decide +kernel
theorem dX9_isSameWord_31 : decode cX9_isSameWord 31 = .ok (.iload_n 1, 1) := by decide +kernel
theorem dX9_isSameWord_32 : decode cX9_isSameWord 32 = .ok (.iaload, 1) := by decide +kernel
theorem dX9_isSameWord_33 : decode cX9_isSameWord 33 = .ok (.if_icmp .ge 46, 3) := by decide +kernel
theorem dX9_isSameWord_36 : decode cX9_isSameWord 36 = .ok (.iload_n 2, 1) := by decide +kernel
theorem dX9_isSameWord_37 : decode cX9_isSameWord 37 = .ok (.ifCond .eq 42, 3) := by decide +kernel
theorem dX9_isSameWord_40 : decode cX9_isSameWord 40 = .ok (.aload_n 0, 1) := by decide +kernel
theorem dX9_isSameWord_41 : decode cX9_isSameWord 41 = .ok (.getfield 28, 3) := by decide +kernel
theorem dX9_isSameWord_44 : decode cX9_isSameWord 44 = .ok (.bipush 8, 2) := by decide +kernel
theorem dX9_isSameWord_46 : decode cX9_isSameWord 46 = .ok (.iload_n 1, 1) := by decide +kernel
theorem dX9_isSameWord_47 : decode cX9_isSameWord 47 = .ok (.imul, 1) := by decide +kernel
theorem dX9_isSameWord_48 : decode cX9_isSameWord 48 = .ok (.iload_n 3, 1) := by decide +kernel
theorem dX9_isSameWord_49 : decode cX9_isSameWord 49 = .ok (.iadd, 1) := by decide +kernel
theorem dX9_isSameWord_50 : decode cX9_isSameWord 50 = .ok (.iaload, 1) := by decide +kernel
theorem dX9_isSameWord_51 : decode cX9_isSameWord 51 = .ok (.aload_n 0, 1) := by decide +kernel
theorem dX9_isSameWord_52 : decode cX9_isSameWord 52 = .ok (.aload_n 0, 1) := by decide +kernel
theorem dX9_isSameWord_53 : decode cX9_isSameWord 53 = .ok (.getfield 111, 3) := by decide +kernel
theorem dX9_isSameWord_56 : decode cX9_isSameWord 56 = .ok (.iload_n 3, 1) := by decide +kernel
theorem dX9_isSameWord_57 : decode cX9_isSameWord 57 = .ok (.iadd, 1) := by decide +kernel
theorem dX9_isSameWord_58 : decode cX9_isSameWord 58 = .ok (.invokevirtual 120, 3) := by decide +kernel
theorem dX9_isSameWord_61 : decode cX9_isSameWord 61 = .ok (.bipush 97, 2) := by decide +kernel
theorem dX9_isSameWord_63 : decode cX9_isSameWord 63 = .ok (.isub, 1) := by decide +kernel
theorem dX9_isSameWord_64 : decode cX9_isSameWord 64 = .ok (.if_icmp .ne 7, 3) := by decide +kernel
theorem dX9_isSameWord_67 : decode cX9_isSameWord 67 = .ok (.iconst 1, 1) := by decide +kernel
theorem dX9_isSameWord_68 : decode cX9_isSameWord 68 = .ok (.goto 4, 3) := by decide +kernel
theorem dX9_isSameWord_71 : decode cX9_isSameWord 71 = .ok (.iconst 0, 1) := by decide +kernel
theorem dX9_isSameWord_72 : decode cX9_isSameWord 72 = .ok (.istore_n 2, 1) := by decide +kernel
theorem dX9_isSameWord_73 : decode cX9_isSameWord 73 = .ok (.iinc 3 1, 3) := by decide +kernel
theorem dX9_isSameWord_76 : decode cX9_isSameWord 76 = .ok (.goto (-50), 3) := by decide +kernel
theorem dX9_isSameWord_79 : decode cX9_isSameWord 79 = .ok (.iload_n 2, 1) := by decide +kernel
theorem dX9_isSameWord_80 : decode cX9_isSameWord 80 = .ok (.ireturn, 1) := by decide +kernel
set_option maxRecDepth 20000 in
theorem ggX9_readWord_X9_wants : GoodIn wsX9_readWord wsX9_wants := goodIn_r _ [13, 4, 3, 14, 37, 38, 39, 40, 41, 42, 43, 44, 45, 46, 47, 48, 49, 50, 51, 52, 53, 54, 55, 56, 57, 58, 59, 60, 61, 62, 63, 64, 65, 66, 67, 68, 69, 70, 71, 72, 73, 74, 75, 76, 77, 78, 79, 80, 81, 82] (by decide +kernel) (by decide +kernel)
set_option maxRecDepth 20000 in
theorem gX9_readWord_X9_wants : GoodIn wsX9_readWord (wsV RX9 138 RX9 yX9_wants wsX9_wants) := goodIn_app (goodIn_of _ (by decide +kernel)) ggX9_readWord_X9_wants
set_option maxRecDepth 20000 in
theorem ggX9_readWord_X9_look : GoodIn wsX9_readWord wsX9_look := goodIn_r _ [18, 19, 20, 37, 38, 39, 40, 41, 42, 43, 44, 45, 46, 47, 48, 49, 50, 51, 52, 53, 54, 55, 56, 57, 58, 59, 60, 61, 62, 63, 64, 65, 66, 67, 68, 69, 70, 71, 72, 73, 74, 75, 76, 77, 78, 79, 80, 81, 82] (by decide +kernel) (by decide +kernel)
set_option maxRecDepth 20000 in
theorem gX9_readWord_X9_look : GoodIn wsX9_readWord (wsV RX9 120 RX9 yX9_look wsX9_look) := goodIn_app (goodIn_of _ (by decide +kernel)) ggX9_readWord_X9_look
set_option maxRecDepth 20000 in
theorem ggX9_readWord_X9_isSameWord : GoodIn wsX9_readWord wsX9_isSameWord := goodIn_r _ [24, 8, 2, 3, 7, 15, 16, 17, 12, 18, 19, 20, 37, 38, 39, 40, 41, 42, 43, 44, 45, 46, 47, 48, 49, 50, 51, 52, 53, 54, 55, 56, 57, 58, 59, 60, 61, 62, 63, 64, 65, 66, 67, 68, 69, 70, 71, 72, 73, 74, 75, 76, 77, 78, 79, 80, 81, 82] (by decide +kernel) (by decide +kernel)
set_option maxRecDepth 20000 in
theorem gX9_readWord_X9_isSameWord : GoodIn wsX9_readWord (wsV RX9 156 RX9 yX9_isSameWord wsX9_isSameWord) := goodIn_app (goodIn_of _ (by decide +kernel)) ggX9_readWord_X9_isSameWord
set_option maxRecDepth 20000 in
theorem ggX9_readWord_X9_next : GoodIn wsX9_readWord wsX9_next := goodIn_r _ [28, 4, 2, 3, 1, 29, 30, 31, 32, 33, 15, 16, 17, 12, 18, 19, 20, 34, 35, 36, 9, 10, 11, 13, 14, 37, 38, 39, 40, 41, 42, 43, 44, 45, 46, 47, 48, 49, 50, 51, 52, 53, 54, 55, 56, 57, 58, 59, 60, 61, 62, 63, 64, 65, 66, 67, 68, 69, 70, 71, 72, 73, 74, 75, 76, 77, 78, 79, 80, 81, 82] (by decide +kernel) (by decide +kernel)
set_option maxRecDepth 20000 in
theorem gX9_readWord_X9_next : GoodIn wsX9_readWord (wsV RX9 146 RX9 yX9_next wsX9_next) := goodIn_app (goodIn_of _ (by decide +kernel)) ggX9_readWord_X9_next
theorem dX9_readWord_0 : decode cX9_readWord 0 = .ok (.aload_n 0, 1) := by decide +kernel
theorem dX9_readWord_1 : decode cX9_readWord 1 = .ok (.aload_n 0, 1) := by decide +kernel
theorem dX9_readWord_2 : decode cX9_readWord 2 = .ok (.getfield 124, 3) := by decide +kernel
theorem dX9_readWord_5 : decode cX9_readWord 5 = .ok (.iconst 1, 1) := by decide +kernel
theorem dX9_readWord_6 : decode cX9_readWord 6 = .ok (.if_icmp .ne 7, 3) := by decide +kernel
theorem dX9_readWord_9 : decode cX9_readWord 9 = .ok (.iconst 1, 1) := by decide +kernel
theorem dX9_readWord_10 : decode cX9_readWord 10 = .ok (.goto 4, 3) := by decide +kernel
theorem dX9_readWord_13 : decode cX9_readWord 13 = .ok (.iconst 0, 1) := by decide +kernel
theorem dX9_readWord_14 : decode cX9_readWord 14 = .ok (.iconst 2, 1) := by decide +kernel
theorem dX9_readWord_15 : decode cX9_readWord 15 = .ok (.invokevirtual 138, 3) := by decide +kernel
theorem dX9_readWord_18 : decode cX9_readWord 18 = .ok (.aload_n 0, 1) := by decide +kernel
theorem dX9_readWord_19 : decode cX9_readWord 19 = .ok (.getfield 117, 3) := by decide +kernel
theorem dX9_readWord_22 : decode cX9_readWord 22 = .ok (.aload_n 0, 1) := by decide +kernel
theorem dX9_readWord_23 : decode cX9_readWord 23 = .ok (.getfield 111, 3) := by decide +kernel
theorem dX9_readWord_26 : decode cX9_readWord 26 = .ok (.isub, 1) := by decide +kernel
theorem dX9_readWord_27 : decode cX9_readWord 27 = .ok (.istore_n 1, 1) := by decide +kernel
theorem dX9_readWord_28 : decode cX9_readWord 28 = .ok (.aload_n 0, 1) := by decide +kernel
theorem dX9_readWord_29 : decode cX9_readWord 29 = .ok (.getfield 108, 3) := by decide +kernel
theorem dX9_readWord_32 : decode cX9_readWord 32 = .ok (.ifCond .ne 19, 3) := by decide +kernel
theorem dX9_readWord_35 : decode cX9_readWord 35 = .ok (.aload_n 0, 1) := by decide +kernel
theorem dX9_readWord_36 : decode cX9_readWord 36 = .ok (.iload_n 1, 1) := by decide +kernel
theorem dX9_readWord_37 : decode cX9_readWord 37 = .ok (.bipush 8, 2) := by decide +kernel
theorem dX9_readWord_39 : decode cX9_readWord 39 = .ok (.if_icmp .gt 7, 3) := by decide +kernel
theorem dX9_readWord_42 : decode cX9_readWord 42 = .ok (.iconst 1, 1) := by decide +kernel
theorem dX9_readWord_43 : decode cX9_readWord 43 = .ok (.goto 4, 3) := by decide +kernel
theorem dX9_readWord_46 : decode cX9_readWord 46 = .ok (.iconst 0, 1) := by decide +kernel
theorem dX9_readWord_47 : decode cX9_readWord 47 = .ok (.iconst 5, 1) := by decide +kernel
theorem dX9_readWord_48 : decode cX9_readWord 48 = .ok (.invokevirtual 138, 3) := by decide +kernel
theorem dX9_readWord_51 : decode cX9_readWord 51 = .ok (.iconst 0, 1) := by decide +kernel
theorem dX9_readWord_52 : decode cX9_readWord 52 = .ok (.istore_n 2, 1) := by decide +kernel
theorem dX9_readWord_53 : decode cX9_readWord 53 = .ok (.iload_n 2, 1) := by decide +kernel
theorem dX9_readWord_54 : decode cX9_readWord 54 = .ok (.iload_n 1, 1) := by decide +kernel
theorem dX9_readWord_55 : decode cX9_readWord 55 = .ok (.if_icmp .ge 48, 3) := by decide +kernel
theorem dX9_readWord_58 : decode cX9_readWord 58 = .ok (.aload_n 0, 1) := by decide +kernel
theorem dX9_readWord_59 : decode cX9_readWord 59 = .ok (.getfield 108, 3) := by decide +kernel
theorem dX9_readWord_62 : decode cX9_readWord 62 = .ok (.ifCond .ne 41, 3) := by decide +kernel
theorem dX9_readWord_65 : decode cX9_readWord 65 = .ok (.aload_n 0, 1) := by decide +kernel
theorem dX9_readWord_66 : decode cX9_readWord 66 = .ok (.aload_n 0, 1) := by decide +kernel
theorem dX9_readWord_67 : decode cX9_readWord 67 = .ok (.getfield 22, 3) := by decide +kernel
theorem dX9_readWord_70 : decode cX9_readWord 70 = .ok (.aload_n 0, 1) := by decide +kernel
theorem dX9_readWord_71 : decode cX9_readWord 71 = .ok (.aload_n 0, 1) := by decide +kernel
theorem dX9_readWord_72 : decode cX9_readWord 72 = .ok (.getfield 111, 3) := by decide +kernel
theorem dX9_readWord_75 : decode cX9_readWord 75 = .ok (.iload_n 2, 1) := by decide +kernel
theorem dX9_readWord_76 : decode cX9_readWord 76 = .ok (.iadd, 1) := by decide +kernel
theorem dX9_readWord_77 : decode cX9_readWord 77 = .ok (.invokevirtual 120, 3) := by decide +kernel
theorem dX9_readWord_80 : decode cX9_readWord 80 = .ok (.bipush 97, 2) := by decide +kernel
theorem dX9_readWord_82 : decode cX9_readWord 82 = .ok (.isub, 1) := by decide +kernel
theorem dX9_readWord_83 : decode cX9_readWord 83 = .ok (.iaload, 1) := by decide +kernel
theorem dX9_readWord_84 : decode cX9_readWord 84 = .ok (.iconst (-1), 1) := by decide +kernel
theorem dX9_readWord_85 : decode cX9_readWord 85 = .ok (.if_icmp .eq 7, 3) := by decide +kernel
theorem dX9_readWord_88 : decode cX9_readWord 88 = .ok (.iconst 1, 1) := by decide +kernel
theorem dX9_readWord_89 : decode cX9_readWord 89 = .ok (.goto 4, 3) := by decide +kernel
theorem dX9_readWord_92 : decode cX9_readWord 92 = .ok (.iconst 0, 1) := by decide +kernel
theorem dX9_readWord_93 : decode cX9_readWord 93 = .ok (.iconst 5, 1) := by decide +kernel
theorem dX9_readWord_94 : decode cX9_readWord 94 = .ok (.invokevirtual 138, 3) := by decide +kernel
theorem dX9_readWord_97 : decode cX9_readWord 97 = .ok (.iinc 2 1, 3) := by decide +kernel
theorem dX9_readWord_100 : decode cX9_readWord 100 = .ok (.goto (-47), 3) := by decide +kernel
theorem dX9_readWord_103 : decode cX9_readWord 103 = .ok (.iconst 0, 1) := by decide +kernel
theorem dX9_readWord_104 : decode cX9_readWord 104 = .ok (.istore_n 2, 1) := by decide +kernel
theorem dX9_readWord_105 : decode cX9_readWord 105 = .ok (.iload_n 2, 1) := by decide +kernel
theorem dX9_readWord_106 : decode cX9_readWord 106 = .ok (.aload_n 0, 1) := by decide +kernel
theorem dX9_readWord_107 : decode cX9_readWord 107 = .ok (.getfield 153, 3) := by decide +kernel
theorem dX9_readWord_110 : decode cX9_readWord 110 = .ok (.if_icmp .ge 34, 3) := by decide +kernel
theorem dX9_readWord_113 : decode cX9_readWord 113 = .ok (.aload_n 0, 1) := by decide +kernel
theorem dX9_readWord_114 : decode cX9_readWord 114 = .ok (.getfield 108, 3) := by decide +kernel
theorem dX9_readWord_117 : decode cX9_readWord 117 = .ok (.ifCond .ne 27, 3) := by decide +kernel
theorem dX9_readWord_120 : decode cX9_readWord 120 = .ok (.aload_n 0, 1) := by decide +kernel
theorem dX9_readWord_121 : decode cX9_readWord 121 = .ok (.aload_n 0, 1) := by decide +kernel
theorem dX9_readWord_122 : decode cX9_readWord 122 = .ok (.iload_n 2, 1) := by decide +kernel
theorem dX9_readWord_123 : decode cX9_readWord 123 = .ok (.invokevirtual 156, 3) := by decide +kernel
theorem dX9_readWord_126 : decode cX9_readWord 126 = .ok (.ifCond .ne 7, 3) := by decide +kernel
theorem dX9_readWord_129 : decode cX9_readWord 129 = .ok (.iconst 1, 1) := by decide +kernel
theorem dX9_readWord_130 : decode cX9_readWord 130 = .ok (.goto 4, 3) := by decide +kernel
theorem dX9_readWord_133 : decode cX9_readWord 133 = .ok (.iconst 0, 1) := by decide +kernel
theorem dX9_readWord_134 : decode cX9_readWord 134 = .ok (.iconst 4, 1) := by decide +kernel
theorem dX9_readWord_135 : decode cX9_readWord 135 = .ok (.invokevirtual 138, 3) := by decide +kernel
theorem dX9_readWord_138 : decode cX9_readWord 138 = .ok (.iinc 2 1, 3) := by decide +kernel
theorem dX9_readWord_141 : decode cX9_readWord 141 = .ok (.goto (-36), 3) := by decide +kernel
theorem dX9_readWord_144 : decode cX9_readWord 144 = .ok (.aload_n 0, 1) := by decide +kernel
theorem dX9_readWord_145 : decode cX9_readWord 145 = .ok (.getfield 108, 3) := by decide +kernel
theorem dX9_readWord_148 : decode cX9_readWord 148 = .ok (.ifCond .ne 63, 3) := by decide +kernel
theorem dX9_readWord_151 : decode cX9_readWord 151 = .ok (.iconst 0, 1) := by decide +kernel
theorem dX9_readWord_152 : decode cX9_readWord 152 = .ok (.istore_n 2, 1) := by decide +kernel
theorem dX9_readWord_153 : decode cX9_readWord 153 = .ok (.iload_n 2, 1) := by decide +kernel
theorem dX9_readWord_154 : decode cX9_readWord 154 = .ok (.iload_n 1, 1) := by decide +kernel
theorem dX9_readWord_155 : decode cX9_readWord 155 = .ok (.if_icmp .ge 36, 3) := by decide +kernel
theorem dX9_readWord_158 : decode cX9_readWord 158 = .ok (.aload_n 0, 1) := by decide +kernel
theorem dX9_readWord_159 : decode cX9_readWord 159 = .ok (.getfield 28, 3) := by decide +kernel
theorem dX9_readWord_162 : decode cX9_readWord 162 = .ok (.bipush 8, 2) := by decide +kernel
theorem dX9_readWord_164 : decode cX9_readWord 164 = .ok (.aload_n 0, 1) := by decide +kernel
theorem dX9_readWord_165 : decode cX9_readWord 165 = .ok (.getfield 153, 3) := by decide +kernel
theorem dX9_readWord_168 : decode cX9_readWord 168 = .ok (.imul, 1) := by decide +kernel
theorem dX9_readWord_169 : decode cX9_readWord 169 = .ok (.iload_n 2, 1) := by decide +kernel
theorem dX9_readWord_170 : decode cX9_readWord 170 = .ok (.iadd, 1) := by decide +kernel
theorem dX9_readWord_171 : decode cX9_readWord 171 = .ok (.aload_n 0, 1) := by decide +kernel
theorem dX9_readWord_172 : decode cX9_readWord 172 = .ok (.aload_n 0, 1) := by decide +kernel
theorem dX9_readWord_173 : decode cX9_readWord 173 = .ok (.getfield 111, 3) := by decide +kernel
theorem dX9_readWord_176 : decode cX9_readWord 176 = .ok (.iload_n 2, 1) := by decide +kernel
theorem dX9_readWord_177 : decode cX9_readWord 177 = .ok (.iadd, 1) := by decide +kernel
theorem dX9_readWord_178 : decode cX9_readWord 178 = .ok (.invokevirtual 120, 3) := by decide +kernel
theorem dX9_readWord_181 : decode cX9_readWord 181 = .ok (.bipush 97, 2) := by decide +kernel
theorem dX9_readWord_183 : decode cX9_readWord 183 = .ok (.isub, 1) := by decide +kernel
theorem dX9_readWord_184 : decode cX9_readWord 184 = .ok (.iastore, 1) := by decide +kernel
theorem dX9_readWord_185 : decode cX9_readWord 185 = .ok (.iinc 2 1, 3) := by decide +kernel
theorem dX9_readWord_188 : decode cX9_readWord 188 = .ok (.goto (-35), 3) := by decide +kernel
theorem dX9_readWord_191 : decode cX9_readWord 191 = .ok (.aload_n 0, 1) := by decide +kernel
theorem dX9_readWord_192 : decode cX9_readWord 192 = .ok (.getfield 25, 3) := by decide +kernel
theorem dX9_readWord_195 : decode cX9_readWord 195 = .ok (.aload_n 0, 1) := by decide +kernel
theorem dX9_readWord_196 : decode cX9_readWord 196 = .ok (.getfield 153, 3) := by decide +kernel
theorem dX9_readWord_199 : decode cX9_readWord 199 = .ok (.iload_n 1, 1) := by decide +kernel
theorem dX9_readWord_200 : decode cX9_readWord 200 = .ok (.iastore, 1) := by decide +kernel
theorem dX9_readWord_201 : decode cX9_readWord 201 = .ok (.aload_n 0, 1) := by decide +kernel
theorem dX9_readWord_202 : decode cX9_readWord 202 = .ok (.dup, 1) := by decide +kernel
theorem dX9_readWord_203 : decode cX9_readWord 203 = .ok (.getfield 153, 3) := by decide +kernel
theorem dX9_readWord_206 : decode cX9_readWord 206 = .ok (.iconst 1, 1) := by decide +kernel
theorem dX9_readWord_207 : decode cX9_readWord 207 = .ok (.iadd, 1) := by decide +kernel
theorem dX9_readWord_208 : decode cX9_readWord 208 = .ok (.putfield 153, 3) := by decide +kernel
theorem dX9_readWord_211 : decode cX9_readWord 211 = .ok (.aload_n 0, 1) := by decide +kernel
theorem dX9_readWord_212 : decode cX9_readWord 212 = .ok (.invokevirtual 146, 3) := by decide +kernel
theorem dX9_readWord_215 : decode cX9_readWord 215 = .ok (.return_, 1) := by decide +kernel
set_option maxRecDepth 20000 in
theorem ggX9_readAsk_X9_wants : GoodIn wsX9_readAsk wsX9_wants := goodIn_r _ [11, 1, 12, 13, 32, 33, 34, 35, 36, 37, 38, 39, 40, 41, 42, 43, 44, 45, 46, 47, 48, 49, 50, 51, 52, 53, 54, 55, 56, 57, 58, 59, 60, 61, 62, 63, 64, 65, 66, 67, 68, 69, 70, 71, 72, 73, 74, 75, 76, 77] (by decide +kernel) (by decide +kernel)
set_option maxRecDepth 20000 in
theorem gX9_readAsk_X9_wants : GoodIn wsX9_readAsk (wsV RX9 138 RX9 yX9_wants wsX9_wants) := goodIn_app (goodIn_of _ (by decide +kernel)) ggX9_readAsk_X9_wants
set_option maxRecDepth 20000 in
theorem ggX9_readAsk_X9_next : GoodIn wsX9_readAsk wsX9_next := goodIn_r _ [17, 1, 18, 12, 2, 19, 20, 21, 22, 3, 23, 24, 25, 10, 26, 27, 28, 29, 30, 31, 7, 8, 9, 11, 13, 32, 33, 34, 35, 36, 37, 38, 39, 40, 41, 42, 43, 44, 45, 46, 47, 48, 49, 50, 51, 52, 53, 54, 55, 56, 57, 58, 59, 60, 61, 62, 63, 64, 65, 66, 67, 68, 69, 70, 71, 72, 73, 74, 75, 76, 77] (by decide +kernel) (by decide +kernel)
set_option maxRecDepth 20000 in
theorem gX9_readAsk_X9_next : GoodIn wsX9_readAsk (wsV RX9 146 RX9 yX9_next wsX9_next) := goodIn_app (goodIn_of _ (by decide +kernel)) ggX9_readAsk_X9_next
theorem dX9_readAsk_0 : decode cX9_readAsk 0 = .ok (.iconst 0, 1) := by decide +kernel
theorem dX9_readAsk_1 : decode cX9_readAsk 1 = .ok (.istore_n 1, 1) := by decide +kernel
theorem dX9_readAsk_2 : decode cX9_readAsk 2 = .ok (.iconst 1, 1) := by decide +kernel
theorem dX9_readAsk_3 : decode cX9_readAsk 3 = .ok (.istore_n 2, 1) := by decide +kernel
theorem dX9_readAsk_4 : decode cX9_readAsk 4 = .ok (.iload_n 2, 1) := by decide +kernel
theorem dX9_readAsk_5 : decode cX9_readAsk 5 = .ok (.ifCond .eq 116, 3) := by decide +kernel
theorem dX9_readAsk_8 : decode cX9_readAsk 8 = .ok (.aload_n 0, 1) := by decide +kernel
theorem dX9_readAsk_9 : decode cX9_readAsk 9 = .ok (.getfield 108, 3) := by decide +kernel
theorem dX9_readAsk_12 : decode cX9_readAsk 12 = .ok (.ifCond .ne 109, 3) := by decide +kernel
theorem dX9_readAsk_15 : decode cX9_readAsk 15 = .ok (.aload_n 0, 1) := by decide +kernel
theorem dX9_readAsk_16 : decode cX9_readAsk 16 = .ok (.aload_n 0, 1) := by decide +kernel
theorem dX9_readAsk_17 : decode cX9_readAsk 17 = .ok (.getfield 124, 3) := by decide +kernel
theorem dX9_readAsk_20 : decode cX9_readAsk 20 = .ok (.iconst 2, 1) := by decide +kernel
theorem dX9_readAsk_21 : decode cX9_readAsk 21 = .ok (.if_icmp .ne 7, 3) := by decide +kernel
theorem dX9_readAsk_24 : decode cX9_readAsk 24 = .ok (.iconst 1, 1) := by decide +kernel
theorem dX9_readAsk_25 : decode cX9_readAsk 25 = .ok (.goto 4, 3) := by decide +kernel
theorem dX9_readAsk_28 : decode cX9_readAsk 28 = .ok (.iconst 0, 1) := by decide +kernel
theorem dX9_readAsk_29 : decode cX9_readAsk 29 = .ok (.iconst 2, 1) := by decide +kernel
theorem dX9_readAsk_30 : decode cX9_readAsk 30 = .ok (.invokevirtual 138, 3) := by decide +kernel
theorem dX9_readAsk_33 : decode cX9_readAsk 33 = .ok (.aload_n 0, 1) := by decide +kernel
theorem dX9_readAsk_34 : decode cX9_readAsk 34 = .ok (.getfield 108, 3) := by decide +kernel
theorem dX9_readAsk_37 : decode cX9_readAsk 37 = .ok (.ifCond .ne 35, 3) := by decide +kernel
theorem dX9_readAsk_40 : decode cX9_readAsk 40 = .ok (.aload_n 0, 1) := by decide +kernel
theorem dX9_readAsk_41 : decode cX9_readAsk 41 = .ok (.aload_n 0, 1) := by decide +kernel
theorem dX9_readAsk_42 : decode cX9_readAsk 42 = .ok (.getfield 135, 3) := by decide +kernel
theorem dX9_readAsk_45 : decode cX9_readAsk 45 = .ok (.aload_n 0, 1) := by decide +kernel
theorem dX9_readAsk_46 : decode cX9_readAsk 46 = .ok (.getfield 153, 3) := by decide +kernel
theorem dX9_readAsk_49 : decode cX9_readAsk 49 = .ok (.if_icmp .ge 18, 3) := by decide +kernel
theorem dX9_readAsk_52 : decode cX9_readAsk 52 = .ok (.iload_n 1, 1) := by decide +kernel
theorem dX9_readAsk_53 : decode cX9_readAsk 53 = .ok (.aload_n 0, 1) := by decide +kernel
theorem dX9_readAsk_54 : decode cX9_readAsk 54 = .ok (.getfield 135, 3) := by decide +kernel
theorem dX9_readAsk_57 : decode cX9_readAsk 57 = .ok (.ishr, 1) := by decide +kernel
theorem dX9_readAsk_58 : decode cX9_readAsk 58 = .ok (.iconst 1, 1) := by decide +kernel
theorem dX9_readAsk_59 : decode cX9_readAsk 59 = .ok (.iand, 1) := by decide +kernel
theorem dX9_readAsk_60 : decode cX9_readAsk 60 = .ok (.ifCond .ne 7, 3) := by decide +kernel
theorem dX9_readAsk_63 : decode cX9_readAsk 63 = .ok (.iconst 1, 1) := by decide +kernel
theorem dX9_readAsk_64 : decode cX9_readAsk 64 = .ok (.goto 4, 3) := by decide +kernel
theorem dX9_readAsk_67 : decode cX9_readAsk 67 = .ok (.iconst 0, 1) := by decide +kernel
theorem dX9_readAsk_68 : decode cX9_readAsk 68 = .ok (.iconst 3, 1) := by decide +kernel
theorem dX9_readAsk_69 : decode cX9_readAsk 69 = .ok (.invokevirtual 138, 3) := by decide +kernel
theorem dX9_readAsk_72 : decode cX9_readAsk 72 = .ok (.iload_n 1, 1) := by decide +kernel
theorem dX9_readAsk_73 : decode cX9_readAsk 73 = .ok (.aload_n 0, 1) := by decide +kernel
theorem dX9_readAsk_74 : decode cX9_readAsk 74 = .ok (.getfield 108, 3) := by decide +kernel
theorem dX9_readAsk_77 : decode cX9_readAsk 77 = .ok (.ifCond .ne 12, 3) := by decide +kernel
theorem dX9_readAsk_80 : decode cX9_readAsk 80 = .ok (.iconst 1, 1) := by decide +kernel
theorem dX9_readAsk_81 : decode cX9_readAsk 81 = .ok (.aload_n 0, 1) := by decide +kernel
theorem dX9_readAsk_82 : decode cX9_readAsk 82 = .ok (.getfield 135, 3) := by decide +kernel
theorem dX9_readAsk_85 : decode cX9_readAsk 85 = .ok (.ishl, 1) := by decide +kernel
theorem dX9_readAsk_86 : decode cX9_readAsk 86 = .ok (.goto 4, 3) := by decide +kernel
theorem dX9_readAsk_89 : decode cX9_readAsk 89 = .ok (.iconst 0, 1) := by decide +kernel
theorem dX9_readAsk_90 : decode cX9_readAsk 90 = .ok (.ior, 1) := by decide +kernel
theorem dX9_readAsk_91 : decode cX9_readAsk 91 = .ok (.istore_n 1, 1) := by decide +kernel
theorem dX9_readAsk_92 : decode cX9_readAsk 92 = .ok (.aload_n 0, 1) := by decide +kernel
theorem dX9_readAsk_93 : decode cX9_readAsk 93 = .ok (.invokevirtual 146, 3) := by decide +kernel
theorem dX9_readAsk_96 : decode cX9_readAsk 96 = .ok (.aload_n 0, 1) := by decide +kernel
theorem dX9_readAsk_97 : decode cX9_readAsk 97 = .ok (.getfield 124, 3) := by decide +kernel
theorem dX9_readAsk_100 : decode cX9_readAsk 100 = .ok (.iconst 4, 1) := by decide +kernel
theorem dX9_readAsk_101 : decode cX9_readAsk 101 = .ok (.if_icmp .ne 7, 3) := by decide +kernel
theorem dX9_readAsk_104 : decode cX9_readAsk 104 = .ok (.iconst 1, 1) := by decide +kernel
theorem dX9_readAsk_105 : decode cX9_readAsk 105 = .ok (.goto 4, 3) := by decide +kernel
theorem dX9_readAsk_108 : decode cX9_readAsk 108 = .ok (.iconst 0, 1) := by decide +kernel
theorem dX9_readAsk_109 : decode cX9_readAsk 109 = .ok (.istore_n 2, 1) := by decide +kernel
theorem dX9_readAsk_110 : decode cX9_readAsk 110 = .ok (.iload_n 2, 1) := by decide +kernel
theorem dX9_readAsk_111 : decode cX9_readAsk 111 = .ok (.ifCond .eq (-107), 3) := by decide +kernel
theorem dX9_readAsk_114 : decode cX9_readAsk 114 = .ok (.aload_n 0, 1) := by decide +kernel
theorem dX9_readAsk_115 : decode cX9_readAsk 115 = .ok (.invokevirtual 146, 3) := by decide +kernel
theorem dX9_readAsk_118 : decode cX9_readAsk 118 = .ok (.goto (-114), 3) := by decide +kernel
theorem dX9_readAsk_121 : decode cX9_readAsk 121 = .ok (.aload_n 0, 1) := by decide +kernel
theorem dX9_readAsk_122 : decode cX9_readAsk 122 = .ok (.getfield 108, 3) := by decide +kernel
theorem dX9_readAsk_125 : decode cX9_readAsk 125 = .ok (.ifCond .ne 23, 3) := by decide +kernel
theorem dX9_readAsk_128 : decode cX9_readAsk 128 = .ok (.aload_n 0, 1) := by decide +kernel
theorem dX9_readAsk_129 : decode cX9_readAsk 129 = .ok (.getfield 31, 3) := by decide +kernel
theorem dX9_readAsk_132 : decode cX9_readAsk 132 = .ok (.aload_n 0, 1) := by decide +kernel
theorem dX9_readAsk_133 : decode cX9_readAsk 133 = .ok (.getfield 160, 3) := by decide +kernel
theorem dX9_readAsk_136 : decode cX9_readAsk 136 = .ok (.iload_n 1, 1) := by decide +kernel
theorem dX9_readAsk_137 : decode cX9_readAsk 137 = .ok (.iastore, 1) := by decide +kernel
theorem dX9_readAsk_138 : decode cX9_readAsk 138 = .ok (.aload_n 0, 1) := by decide +kernel
theorem dX9_readAsk_139 : decode cX9_readAsk 139 = .ok (.dup, 1) := by decide +kernel
theorem dX9_readAsk_140 : decode cX9_readAsk 140 = .ok (.getfield 160, 3) := by decide +kernel
theorem dX9_readAsk_143 : decode cX9_readAsk 143 = .ok (.iconst 1, 1) := by decide +kernel
theorem dX9_readAsk_144 : decode cX9_readAsk 144 = .ok (.iadd, 1) := by decide +kernel
theorem dX9_readAsk_145 : decode cX9_readAsk 145 = .ok (.putfield 160, 3) := by decide +kernel
theorem dX9_readAsk_148 : decode cX9_readAsk 148 = .ok (.return_, 1) := by decide +kernel
set_option maxRecDepth 20000 in
theorem ggX9_readLine_X9_lineNow : GoodIn wsX9_readLine wsX9_lineNow := goodIn_r _ [9, 10, 11, 12, 13, 8, 14, 1, 15, 16, 17, 18, 19, 20, 21, 61, 62, 63, 64, 65, 66, 67, 68, 69, 70, 71, 72, 73, 74, 75, 76, 77, 78, 79, 80, 81, 82, 83, 84, 85, 86, 87, 88, 89, 90, 91, 92, 93, 94, 95, 96, 97, 98, 99, 100, 101, 102, 103, 104, 105, 106] (by decide +kernel) (by decide +kernel)
set_option maxRecDepth 20000 in
theorem gX9_readLine_X9_lineNow : GoodIn wsX9_readLine (wsV RX9 163 RX9 yX9_lineNow wsX9_lineNow) := goodIn_app (goodIn_of _ (by decide +kernel)) ggX9_readLine_X9_lineNow
set_option maxRecDepth 20000 in
theorem ggX9_readLine_X9_wants : GoodIn wsX9_readLine wsX9_wants := goodIn_r _ [25, 4, 10, 26, 61, 62, 63, 64, 65, 66, 67, 68, 69, 70, 71, 72, 73, 74, 75, 76, 77, 78, 79, 80, 81, 82, 83, 84, 85, 86, 87, 88, 89, 90, 91, 92, 93, 94, 95, 96, 97, 98, 99, 100, 101, 102, 103, 104, 105, 106] (by decide +kernel) (by decide +kernel)
set_option maxRecDepth 20000 in
theorem gX9_readLine_X9_wants : GoodIn wsX9_readLine (wsV RX9 138 RX9 yX9_wants wsX9_wants) := goodIn_app (goodIn_of _ (by decide +kernel)) ggX9_readLine_X9_wants
set_option maxRecDepth 20000 in
theorem ggX9_readLine_X9_next : GoodIn wsX9_readLine wsX9_next := goodIn_r _ [30, 4, 15, 10, 1, 31, 32, 33, 34, 35, 16, 17, 18, 8, 19, 20, 21, 36, 37, 38, 22, 23, 24, 25, 26, 61, 62, 63, 64, 65, 66, 67, 68, 69, 70, 71, 72, 73, 74, 75, 76, 77, 78, 79, 80, 81, 82, 83, 84, 85, 86, 87, 88, 89, 90, 91, 92, 93, 94, 95, 96, 97, 98, 99, 100, 101, 102, 103, 104, 105, 106] (by decide +kernel) (by decide +kernel)
set_option maxRecDepth 20000 in
theorem gX9_readLine_X9_next : GoodIn wsX9_readLine (wsV RX9 146 RX9 yX9_next wsX9_next) := goodIn_app (goodIn_of _ (by decide +kernel)) ggX9_readLine_X9_next
set_option maxRecDepth 20000 in
theorem ggX9_readLine_X9_readLetter : GoodIn wsX9_readLine wsX9_readLetter := goodIn_r _ [42, 1, 15, 10, 4, 43, 35, 44, 45, 22, 23, 24, 8, 25, 26, 16, 17, 18, 19, 20, 21, 27, 28, 29, 30, 31, 32, 33, 34, 36, 37, 38, 61, 62, 63, 64, 65, 66, 67, 68, 69, 70, 71, 72, 73, 74, 75, 76, 77, 78, 79, 80, 81, 82, 83, 84, 85, 86, 87, 88, 89, 90, 91, 92, 93, 94, 95, 96, 97, 98, 99, 100, 101, 102, 103, 104, 105, 106] (by decide +kernel) (by decide +kernel)
set_option maxRecDepth 20000 in
theorem gX9_readLine_X9_readLetter : GoodIn wsX9_readLine (wsV RX9 167 RX9 yX9_readLetter wsX9_readLetter) := goodIn_app (goodIn_of _ (by decide +kernel)) ggX9_readLine_X9_readLetter
set_option maxRecDepth 20000 in
theorem ggX9_readLine_X9_readWord : GoodIn wsX9_readLine wsX9_readWord := goodIn_r _ [49, 1, 15, 10, 4, 43, 2, 50, 51, 22, 23, 24, 8, 25, 26, 16, 17, 18, 19, 20, 21, 52, 53, 54, 55, 27, 28, 29, 30, 31, 32, 33, 34, 35, 36, 37, 38, 61, 62, 63, 64, 65, 66, 67, 68, 69, 70, 71, 72, 73, 74, 75, 76, 77, 78, 79, 80, 81, 82, 83, 84, 85, 86, 87, 88, 89, 90, 91, 92, 93, 94, 95, 96, 97, 98, 99, 100, 101, 102, 103, 104, 105, 106] (by decide +kernel) (by decide +kernel)
set_option maxRecDepth 20000 in
theorem gX9_readLine_X9_readWord : GoodIn wsX9_readLine (wsV RX9 171 RX9 yX9_readWord wsX9_readWord) := goodIn_app (goodIn_of _ (by decide +kernel)) ggX9_readLine_X9_readWord
set_option maxRecDepth 20000 in
theorem ggX9_readLine_X9_readAsk : GoodIn wsX9_readLine wsX9_readAsk := goodIn_r _ [59, 4, 1, 35, 2, 60, 3, 22, 23, 24, 8, 25, 10, 26, 27, 28, 29, 30, 15, 31, 32, 33, 34, 16, 17, 18, 19, 20, 21, 36, 37, 38, 61, 62, 63, 64, 65, 66, 67, 68, 69, 70, 71, 72, 73, 74, 75, 76, 77, 78, 79, 80, 81, 82, 83, 84, 85, 86, 87, 88, 89, 90, 91, 92, 93, 94, 95, 96, 97, 98, 99, 100, 101, 102, 103, 104, 105, 106] (by decide +kernel) (by decide +kernel)
set_option maxRecDepth 20000 in
theorem gX9_readLine_X9_readAsk : GoodIn wsX9_readLine (wsV RX9 174 RX9 yX9_readAsk wsX9_readAsk) := goodIn_app (goodIn_of _ (by decide +kernel)) ggX9_readLine_X9_readAsk
theorem dX9_readLine_0 : decode cX9_readLine 0 = .ok (.aload_n 0, 1) := by decide +kernel
theorem dX9_readLine_1 : decode cX9_readLine 1 = .ok (.getfield 124, 3) := by decide +kernel
theorem dX9_readLine_4 : decode cX9_readLine 4 = .ok (.iconst 1, 1) := by decide +kernel
theorem dX9_readLine_5 : decode cX9_readLine 5 = .ok (.if_icmp .ne 10, 3) := by decide +kernel
theorem dX9_readLine_8 : decode cX9_readLine 8 = .ok (.aload_n 0, 1) := by decide +kernel
theorem dX9_readLine_9 : decode cX9_readLine 9 = .ok (.invokevirtual 163, 3) := by decide +kernel
theorem dX9_readLine_12 : decode cX9_readLine 12 = .ok (.goto 5, 3) := by decide +kernel
theorem dX9_readLine_15 : decode cX9_readLine 15 = .ok (.bipush (-4), 2) := by decide +kernel
theorem dX9_readLine_17 : decode cX9_readLine 17 = .ok (.istore_n 1, 1) := by decide +kernel
theorem dX9_readLine_18 : decode cX9_readLine 18 = .ok (.aload_n 0, 1) := by decide +kernel
theorem dX9_readLine_19 : decode cX9_readLine 19 = .ok (.iload_n 1, 1) := by decide +kernel
theorem dX9_readLine_20 : decode cX9_readLine 20 = .ok (.bipush (-4), 2) := by decide +kernel
theorem dX9_readLine_22 : decode cX9_readLine 22 = .ok (.if_icmp .eq 7, 3) := by decide +kernel
theorem dX9_readLine_25 : decode cX9_readLine 25 = .ok (.iconst 1, 1) := by decide +kernel
theorem dX9_readLine_26 : decode cX9_readLine 26 = .ok (.goto 4, 3) := by decide +kernel
theorem dX9_readLine_29 : decode cX9_readLine 29 = .ok (.iconst 0, 1) := by decide +kernel
theorem dX9_readLine_30 : decode cX9_readLine 30 = .ok (.iconst 2, 1) := by decide +kernel
theorem dX9_readLine_31 : decode cX9_readLine 31 = .ok (.invokevirtual 138, 3) := by decide +kernel
theorem dX9_readLine_34 : decode cX9_readLine 34 = .ok (.aload_n 0, 1) := by decide +kernel
theorem dX9_readLine_35 : decode cX9_readLine 35 = .ok (.iload_n 1, 1) := by decide +kernel
theorem dX9_readLine_36 : decode cX9_readLine 36 = .ok (.iconst 4, 1) := by decide +kernel
theorem dX9_readLine_37 : decode cX9_readLine 37 = .ok (.if_icmp .ne 12, 3) := by decide +kernel
theorem dX9_readLine_40 : decode cX9_readLine 40 = .ok (.aload_n 0, 1) := by decide +kernel
theorem dX9_readLine_41 : decode cX9_readLine 41 = .ok (.getfield 153, 3) := by decide +kernel
theorem dX9_readLine_44 : decode cX9_readLine 44 = .ok (.bipush 16, 2) := by decide +kernel
theorem dX9_readLine_46 : decode cX9_readLine 46 = .ok (.if_icmp .ge 7, 3) := by decide +kernel
theorem dX9_readLine_49 : decode cX9_readLine 49 = .ok (.iconst 1, 1) := by decide +kernel
theorem dX9_readLine_50 : decode cX9_readLine 50 = .ok (.goto 4, 3) := by decide +kernel
theorem dX9_readLine_53 : decode cX9_readLine 53 = .ok (.iconst 0, 1) := by decide +kernel
theorem dX9_readLine_54 : decode cX9_readLine 54 = .ok (.bipush 6, 2) := by decide +kernel
theorem dX9_readLine_56 : decode cX9_readLine 56 = .ok (.invokevirtual 138, 3) := by decide +kernel
theorem dX9_readLine_59 : decode cX9_readLine 59 = .ok (.aload_n 0, 1) := by decide +kernel
theorem dX9_readLine_60 : decode cX9_readLine 60 = .ok (.iload_n 1, 1) := by decide +kernel
theorem dX9_readLine_61 : decode cX9_readLine 61 = .ok (.iconst 5, 1) := by decide +kernel
theorem dX9_readLine_62 : decode cX9_readLine 62 = .ok (.if_icmp .ne 12, 3) := by decide +kernel
theorem dX9_readLine_65 : decode cX9_readLine 65 = .ok (.aload_n 0, 1) := by decide +kernel
theorem dX9_readLine_66 : decode cX9_readLine 66 = .ok (.getfield 160, 3) := by decide +kernel
theorem dX9_readLine_69 : decode cX9_readLine 69 = .ok (.bipush 6, 2) := by decide +kernel
theorem dX9_readLine_71 : decode cX9_readLine 71 = .ok (.if_icmp .ge 7, 3) := by decide +kernel
theorem dX9_readLine_74 : decode cX9_readLine 74 = .ok (.iconst 1, 1) := by decide +kernel
theorem dX9_readLine_75 : decode cX9_readLine 75 = .ok (.goto 4, 3) := by decide +kernel
theorem dX9_readLine_78 : decode cX9_readLine 78 = .ok (.iconst 0, 1) := by decide +kernel
theorem dX9_readLine_79 : decode cX9_readLine 79 = .ok (.bipush 6, 2) := by decide +kernel
theorem dX9_readLine_81 : decode cX9_readLine 81 = .ok (.invokevirtual 138, 3) := by decide +kernel
theorem dX9_readLine_84 : decode cX9_readLine 84 = .ok (.aload_n 0, 1) := by decide +kernel
theorem dX9_readLine_85 : decode cX9_readLine 85 = .ok (.invokevirtual 146, 3) := by decide +kernel
theorem dX9_readLine_88 : decode cX9_readLine 88 = .ok (.aload_n 0, 1) := by decide +kernel
theorem dX9_readLine_89 : decode cX9_readLine 89 = .ok (.getfield 108, 3) := by decide +kernel
theorem dX9_readLine_92 : decode cX9_readLine 92 = .ok (.ifCond .ne 16, 3) := by decide +kernel
theorem dX9_readLine_95 : decode cX9_readLine 95 = .ok (.iload_n 1, 1) := by decide +kernel
theorem dX9_readLine_96 : decode cX9_readLine 96 = .ok (.iconst 3, 1) := by decide +kernel
theorem dX9_readLine_97 : decode cX9_readLine 97 = .ok (.if_icmp .gt 11, 3) := by decide +kernel
theorem dX9_readLine_100 : decode cX9_readLine 100 = .ok (.aload_n 0, 1) := by decide +kernel
theorem dX9_readLine_101 : decode cX9_readLine 101 = .ok (.iload_n 1, 1) := by decide +kernel
theorem dX9_readLine_102 : decode cX9_readLine 102 = .ok (.invokevirtual 167, 3) := by decide +kernel
theorem dX9_readLine_105 : decode cX9_readLine 105 = .ok (.goto 33, 3) := by decide +kernel
theorem dX9_readLine_108 : decode cX9_readLine 108 = .ok (.aload_n 0, 1) := by decide +kernel
theorem dX9_readLine_109 : decode cX9_readLine 109 = .ok (.getfield 108, 3) := by decide +kernel
theorem dX9_readLine_112 : decode cX9_readLine 112 = .ok (.ifCond .ne 15, 3) := by decide +kernel
theorem dX9_readLine_115 : decode cX9_readLine 115 = .ok (.iload_n 1, 1) := by decide +kernel
theorem dX9_readLine_116 : decode cX9_readLine 116 = .ok (.iconst 4, 1) := by decide +kernel
theorem dX9_readLine_117 : decode cX9_readLine 117 = .ok (.if_icmp .ne 10, 3) := by decide +kernel
theorem dX9_readLine_120 : decode cX9_readLine 120 = .ok (.aload_n 0, 1) := by decide +kernel
theorem dX9_readLine_121 : decode cX9_readLine 121 = .ok (.invokevirtual 171, 3) := by decide +kernel
theorem dX9_readLine_124 : decode cX9_readLine 124 = .ok (.goto 14, 3) := by decide +kernel
theorem dX9_readLine_127 : decode cX9_readLine 127 = .ok (.aload_n 0, 1) := by decide +kernel
theorem dX9_readLine_128 : decode cX9_readLine 128 = .ok (.getfield 108, 3) := by decide +kernel
theorem dX9_readLine_131 : decode cX9_readLine 131 = .ok (.ifCond .ne 7, 3) := by decide +kernel
theorem dX9_readLine_134 : decode cX9_readLine 134 = .ok (.aload_n 0, 1) := by decide +kernel
theorem dX9_readLine_135 : decode cX9_readLine 135 = .ok (.invokevirtual 174, 3) := by decide +kernel
theorem dX9_readLine_138 : decode cX9_readLine 138 = .ok (.aload_n 0, 1) := by decide +kernel
theorem dX9_readLine_139 : decode cX9_readLine 139 = .ok (.getfield 108, 3) := by decide +kernel
theorem dX9_readLine_142 : decode cX9_readLine 142 = .ok (.ifCond .ne 21, 3) := by decide +kernel
theorem dX9_readLine_145 : decode cX9_readLine 145 = .ok (.aload_n 0, 1) := by decide +kernel
theorem dX9_readLine_146 : decode cX9_readLine 146 = .ok (.aload_n 0, 1) := by decide +kernel
theorem dX9_readLine_147 : decode cX9_readLine 147 = .ok (.getfield 124, 3) := by decide +kernel
theorem dX9_readLine_150 : decode cX9_readLine 150 = .ok (.iconst 3, 1) := by decide +kernel
theorem dX9_readLine_151 : decode cX9_readLine 151 = .ok (.if_icmp .ne 7, 3) := by decide +kernel
theorem dX9_readLine_154 : decode cX9_readLine 154 = .ok (.iconst 1, 1) := by decide +kernel
theorem dX9_readLine_155 : decode cX9_readLine 155 = .ok (.goto 4, 3) := by decide +kernel
theorem dX9_readLine_158 : decode cX9_readLine 158 = .ok (.iconst 0, 1) := by decide +kernel
theorem dX9_readLine_159 : decode cX9_readLine 159 = .ok (.iconst 2, 1) := by decide +kernel
theorem dX9_readLine_160 : decode cX9_readLine 160 = .ok (.invokevirtual 138, 3) := by decide +kernel
theorem dX9_readLine_163 : decode cX9_readLine 163 = .ok (.aload_n 0, 1) := by decide +kernel
theorem dX9_readLine_164 : decode cX9_readLine 164 = .ok (.invokevirtual 146, 3) := by decide +kernel
theorem dX9_readLine_167 : decode cX9_readLine 167 = .ok (.return_, 1) := by decide +kernel
set_option maxRecDepth 20000 in
theorem ggX9_tongue_X9_next : GoodIn wsX9_tongue wsX9_next := goodIn_r _ [24, 3, 4, 25, 8, 26, 27, 28, 29, 30, 31, 32, 33, 23, 34, 9, 35, 36, 37, 38, 39, 40, 41, 42, 10, 73, 74, 75, 76, 77, 78, 79, 80, 81, 82, 83, 84, 85, 86, 87, 88, 89, 90, 91, 92, 93, 94, 95, 96, 97, 98, 99, 100, 101, 102, 103, 104, 105, 106, 107, 108, 109, 110, 111, 112, 113, 114, 115, 116, 117, 118] (by decide +kernel) (by decide +kernel)
set_option maxRecDepth 20000 in
theorem gX9_tongue_X9_next : GoodIn wsX9_tongue (wsV RX9 146 RX9 yX9_next wsX9_next) := goodIn_app (goodIn_of _ (by decide +kernel)) ggX9_tongue_X9_next
set_option maxRecDepth 20000 in
theorem ggX9_tongue_X9_readLine : GoodIn wsX9_tongue wsX9_readLine := goodIn_r _ [46, 8, 5, 6, 3, 47, 48, 49, 23, 50, 25, 51, 52, 53, 54, 4, 31, 32, 33, 34, 9, 35, 39, 40, 41, 42, 10, 20, 21, 22, 24, 26, 27, 28, 29, 30, 36, 37, 38, 55, 56, 57, 58, 7, 59, 60, 61, 62, 63, 64, 17, 15, 65, 66, 67, 68, 69, 70, 71, 72, 19, 73, 74, 75, 76, 77, 78, 79, 80, 81, 82, 83, 84, 85, 86, 87, 88, 89, 90, 91, 92, 93, 94, 95, 96, 97, 98, 99, 100, 101, 102, 103, 104, 105, 106, 107, 108, 109, 110, 111, 112, 113, 114, 115, 116, 117, 118] (by decide +kernel) (by decide +kernel)
set_option maxRecDepth 20000 in
theorem gX9_tongue_X9_readLine : GoodIn wsX9_tongue (wsV RX9 183 RX9 yX9_readLine wsX9_readLine) := goodIn_app (goodIn_of _ (by decide +kernel)) ggX9_tongue_X9_readLine
theorem dX9_tongue_0 : decode cX9_tongue 0 = .ok (.aload_n 0, 1) := by decide +kernel
theorem dX9_tongue_1 : decode cX9_tongue 1 = .ok (.getfield 177, 3) := by decide +kernel
theorem dX9_tongue_4 : decode cX9_tongue 4 = .ok (.ifCond .gt 10, 3) := by decide +kernel
theorem dX9_tongue_7 : decode cX9_tongue 7 = .ok (.aload_n 0, 1) := by decide +kernel
theorem dX9_tongue_8 : decode cX9_tongue 8 = .ok (.getfield 180, 3) := by decide +kernel
theorem dX9_tongue_11 : decode cX9_tongue 11 = .ok (.ifCond .le 6, 3) := by decide +kernel
theorem dX9_tongue_14 : decode cX9_tongue 14 = .ok (.bipush (-2), 2) := by decide +kernel
theorem dX9_tongue_16 : decode cX9_tongue 16 = .ok (.ireturn, 1) := by decide +kernel
theorem dX9_tongue_17 : decode cX9_tongue 17 = .ok (.aload_n 0, 1) := by decide +kernel
theorem dX9_tongue_18 : decode cX9_tongue 18 = .ok (.iconst 0, 1) := by decide +kernel
theorem dX9_tongue_19 : decode cX9_tongue 19 = .ok (.putfield 108, 3) := by decide +kernel
theorem dX9_tongue_22 : decode cX9_tongue 22 = .ok (.aload_n 0, 1) := by decide +kernel
theorem dX9_tongue_23 : decode cX9_tongue 23 = .ok (.iconst 0, 1) := by decide +kernel
theorem dX9_tongue_24 : decode cX9_tongue 24 = .ok (.putfield 117, 3) := by decide +kernel
theorem dX9_tongue_27 : decode cX9_tongue 27 = .ok (.aload_n 0, 1) := by decide +kernel
theorem dX9_tongue_28 : decode cX9_tongue 28 = .ok (.iconst 0, 1) := by decide +kernel
theorem dX9_tongue_29 : decode cX9_tongue 29 = .ok (.putfield 153, 3) := by decide +kernel
theorem dX9_tongue_32 : decode cX9_tongue 32 = .ok (.aload_n 0, 1) := by decide +kernel
theorem dX9_tongue_33 : decode cX9_tongue 33 = .ok (.iconst 0, 1) := by decide +kernel
theorem dX9_tongue_34 : decode cX9_tongue 34 = .ok (.putfield 160, 3) := by decide +kernel
theorem dX9_tongue_37 : decode cX9_tongue 37 = .ok (.iconst 0, 1) := by decide +kernel
theorem dX9_tongue_38 : decode cX9_tongue 38 = .ok (.istore_n 1, 1) := by decide +kernel
theorem dX9_tongue_39 : decode cX9_tongue 39 = .ok (.iload_n 1, 1) := by decide +kernel
theorem dX9_tongue_40 : decode cX9_tongue 40 = .ok (.bipush 26, 2) := by decide +kernel
theorem dX9_tongue_42 : decode cX9_tongue 42 = .ok (.if_icmp .ge 16, 3) := by decide +kernel
theorem dX9_tongue_45 : decode cX9_tongue 45 = .ok (.aload_n 0, 1) := by decide +kernel
theorem dX9_tongue_46 : decode cX9_tongue 46 = .ok (.getfield 22, 3) := by decide +kernel
theorem dX9_tongue_49 : decode cX9_tongue 49 = .ok (.iload_n 1, 1) := by decide +kernel
theorem dX9_tongue_50 : decode cX9_tongue 50 = .ok (.iconst (-1), 1) := by decide +kernel
theorem dX9_tongue_51 : decode cX9_tongue 51 = .ok (.iastore, 1) := by decide +kernel
theorem dX9_tongue_52 : decode cX9_tongue 52 = .ok (.iinc 1 1, 3) := by decide +kernel
theorem dX9_tongue_55 : decode cX9_tongue 55 = .ok (.goto (-16), 3) := by decide +kernel
theorem dX9_tongue_58 : decode cX9_tongue 58 = .ok (.aload_n 0, 1) := by decide +kernel
theorem dX9_tongue_59 : decode cX9_tongue 59 = .ok (.invokevirtual 146, 3) := by decide +kernel
theorem dX9_tongue_62 : decode cX9_tongue 62 = .ok (.aload_n 0, 1) := by decide +kernel
theorem dX9_tongue_63 : decode cX9_tongue 63 = .ok (.getfield 108, 3) := by decide +kernel
theorem dX9_tongue_66 : decode cX9_tongue 66 = .ok (.ifCond .ne 17, 3) := by decide +kernel
theorem dX9_tongue_69 : decode cX9_tongue 69 = .ok (.aload_n 0, 1) := by decide +kernel
theorem dX9_tongue_70 : decode cX9_tongue 70 = .ok (.getfield 124, 3) := by decide +kernel
theorem dX9_tongue_73 : decode cX9_tongue 73 = .ok (.ifCond .eq 10, 3) := by decide +kernel
theorem dX9_tongue_76 : decode cX9_tongue 76 = .ok (.aload_n 0, 1) := by decide +kernel
theorem dX9_tongue_77 : decode cX9_tongue 77 = .ok (.invokevirtual 183, 3) := by decide +kernel
theorem dX9_tongue_80 : decode cX9_tongue 80 = .ok (.goto (-18), 3) := by decide +kernel
theorem dX9_tongue_83 : decode cX9_tongue 83 = .ok (.aload_n 0, 1) := by decide +kernel
theorem dX9_tongue_84 : decode cX9_tongue 84 = .ok (.iconst 0, 1) := by decide +kernel
theorem dX9_tongue_85 : decode cX9_tongue 85 = .ok (.putfield 98, 3) := by decide +kernel
theorem dX9_tongue_88 : decode cX9_tongue 88 = .ok (.aload_n 0, 1) := by decide +kernel
theorem dX9_tongue_89 : decode cX9_tongue 89 = .ok (.getfield 108, 3) := by decide +kernel
theorem dX9_tongue_92 : decode cX9_tongue 92 = .ok (.ifCond .le 11, 3) := by decide +kernel
theorem dX9_tongue_95 : decode cX9_tongue 95 = .ok (.bipush (-10), 2) := by decide +kernel
theorem dX9_tongue_97 : decode cX9_tongue 97 = .ok (.aload_n 0, 1) := by decide +kernel
theorem dX9_tongue_98 : decode cX9_tongue 98 = .ok (.getfield 114, 3) := by decide +kernel
theorem dX9_tongue_101 : decode cX9_tongue 101 = .ok (.isub, 1) := by decide +kernel
theorem dX9_tongue_102 : decode cX9_tongue 102 = .ok (.ireturn, 1) := by decide +kernel
theorem dX9_tongue_103 : decode cX9_tongue 103 = .ok (.aload_n 0, 1) := by decide +kernel
theorem dX9_tongue_104 : decode cX9_tongue 104 = .ok (.aload_n 0, 1) := by decide +kernel
theorem dX9_tongue_105 : decode cX9_tongue 105 = .ok (.getfield 153, 3) := by decide +kernel
theorem dX9_tongue_108 : decode cX9_tongue 108 = .ok (.putfield 186, 3) := by decide +kernel
theorem dX9_tongue_111 : decode cX9_tongue 111 = .ok (.aload_n 0, 1) := by decide +kernel
theorem dX9_tongue_112 : decode cX9_tongue 112 = .ok (.aload_n 0, 1) := by decide +kernel
theorem dX9_tongue_113 : decode cX9_tongue 113 = .ok (.getfield 160, 3) := by decide +kernel
theorem dX9_tongue_116 : decode cX9_tongue 116 = .ok (.putfield 189, 3) := by decide +kernel
theorem dX9_tongue_119 : decode cX9_tongue 119 = .ok (.iconst 0, 1) := by decide +kernel
theorem dX9_tongue_120 : decode cX9_tongue 120 = .ok (.istore_n 1, 1) := by decide +kernel
theorem dX9_tongue_121 : decode cX9_tongue 121 = .ok (.iload_n 1, 1) := by decide +kernel
theorem dX9_tongue_122 : decode cX9_tongue 122 = .ok (.bipush 26, 2) := by decide +kernel
theorem dX9_tongue_124 : decode cX9_tongue 124 = .ok (.if_icmp .ge 21, 3) := by decide +kernel
theorem dX9_tongue_127 : decode cX9_tongue 127 = .ok (.aload_n 0, 1) := by decide +kernel
theorem dX9_tongue_128 : decode cX9_tongue 128 = .ok (.getfield 7, 3) := by decide +kernel
theorem dX9_tongue_131 : decode cX9_tongue 131 = .ok (.iload_n 1, 1) := by decide +kernel
theorem dX9_tongue_132 : decode cX9_tongue 132 = .ok (.aload_n 0, 1) := by decide +kernel
theorem dX9_tongue_133 : decode cX9_tongue 133 = .ok (.getfield 22, 3) := by decide +kernel
theorem dX9_tongue_136 : decode cX9_tongue 136 = .ok (.iload_n 1, 1) := by decide +kernel
theorem dX9_tongue_137 : decode cX9_tongue 137 = .ok (.iaload, 1) := by decide +kernel
theorem dX9_tongue_138 : decode cX9_tongue 138 = .ok (.iastore, 1) := by decide +kernel
theorem dX9_tongue_139 : decode cX9_tongue 139 = .ok (.iinc 1 1, 3) := by decide +kernel
theorem dX9_tongue_142 : decode cX9_tongue 142 = .ok (.goto (-21), 3) := by decide +kernel
theorem dX9_tongue_145 : decode cX9_tongue 145 = .ok (.iconst 0, 1) := by decide +kernel
theorem dX9_tongue_146 : decode cX9_tongue 146 = .ok (.istore_n 1, 1) := by decide +kernel
theorem dX9_tongue_147 : decode cX9_tongue 147 = .ok (.iload_n 1, 1) := by decide +kernel
theorem dX9_tongue_148 : decode cX9_tongue 148 = .ok (.bipush 16, 2) := by decide +kernel
theorem dX9_tongue_150 : decode cX9_tongue 150 = .ok (.if_icmp .ge 21, 3) := by decide +kernel
theorem dX9_tongue_153 : decode cX9_tongue 153 = .ok (.aload_n 0, 1) := by decide +kernel
theorem dX9_tongue_154 : decode cX9_tongue 154 = .ok (.getfield 13, 3) := by decide +kernel
theorem dX9_tongue_157 : decode cX9_tongue 157 = .ok (.iload_n 1, 1) := by decide +kernel
theorem dX9_tongue_158 : decode cX9_tongue 158 = .ok (.aload_n 0, 1) := by decide +kernel
theorem dX9_tongue_159 : decode cX9_tongue 159 = .ok (.getfield 25, 3) := by decide +kernel
theorem dX9_tongue_162 : decode cX9_tongue 162 = .ok (.iload_n 1, 1) := by decide +kernel
theorem dX9_tongue_163 : decode cX9_tongue 163 = .ok (.iaload, 1) := by decide +kernel
theorem dX9_tongue_164 : decode cX9_tongue 164 = .ok (.iastore, 1) := by decide +kernel
theorem dX9_tongue_165 : decode cX9_tongue 165 = .ok (.iinc 1 1, 3) := by decide +kernel
theorem dX9_tongue_168 : decode cX9_tongue 168 = .ok (.goto (-21), 3) := by decide +kernel
theorem dX9_tongue_171 : decode cX9_tongue 171 = .ok (.iconst 0, 1) := by decide +kernel
theorem dX9_tongue_172 : decode cX9_tongue 172 = .ok (.istore_n 1, 1) := by decide +kernel
theorem dX9_tongue_173 : decode cX9_tongue 173 = .ok (.iload_n 1, 1) := by decide +kernel
theorem dX9_tongue_174 : decode cX9_tongue 174 = .ok (.sipush 128, 3) := by decide +kernel
theorem dX9_tongue_177 : decode cX9_tongue 177 = .ok (.if_icmp .ge 21, 3) := by decide +kernel
theorem dX9_tongue_180 : decode cX9_tongue 180 = .ok (.aload_n 0, 1) := by decide +kernel
theorem dX9_tongue_181 : decode cX9_tongue 181 = .ok (.getfield 16, 3) := by decide +kernel
theorem dX9_tongue_184 : decode cX9_tongue 184 = .ok (.iload_n 1, 1) := by decide +kernel
theorem dX9_tongue_185 : decode cX9_tongue 185 = .ok (.aload_n 0, 1) := by decide +kernel
theorem dX9_tongue_186 : decode cX9_tongue 186 = .ok (.getfield 28, 3) := by decide +kernel
theorem dX9_tongue_189 : decode cX9_tongue 189 = .ok (.iload_n 1, 1) := by decide +kernel
theorem dX9_tongue_190 : decode cX9_tongue 190 = .ok (.iaload, 1) := by decide +kernel
theorem dX9_tongue_191 : decode cX9_tongue 191 = .ok (.iastore, 1) := by decide +kernel
theorem dX9_tongue_192 : decode cX9_tongue 192 = .ok (.iinc 1 1, 3) := by decide +kernel
theorem dX9_tongue_195 : decode cX9_tongue 195 = .ok (.goto (-22), 3) := by decide +kernel
theorem dX9_tongue_198 : decode cX9_tongue 198 = .ok (.iconst 0, 1) := by decide +kernel
theorem dX9_tongue_199 : decode cX9_tongue 199 = .ok (.istore_n 1, 1) := by decide +kernel
theorem dX9_tongue_200 : decode cX9_tongue 200 = .ok (.iload_n 1, 1) := by decide +kernel
theorem dX9_tongue_201 : decode cX9_tongue 201 = .ok (.bipush 6, 2) := by decide +kernel
theorem dX9_tongue_203 : decode cX9_tongue 203 = .ok (.if_icmp .ge 21, 3) := by decide +kernel
theorem dX9_tongue_206 : decode cX9_tongue 206 = .ok (.aload_n 0, 1) := by decide +kernel
theorem dX9_tongue_207 : decode cX9_tongue 207 = .ok (.getfield 19, 3) := by decide +kernel
theorem dX9_tongue_210 : decode cX9_tongue 210 = .ok (.iload_n 1, 1) := by decide +kernel
theorem dX9_tongue_211 : decode cX9_tongue 211 = .ok (.aload_n 0, 1) := by decide +kernel
theorem dX9_tongue_212 : decode cX9_tongue 212 = .ok (.getfield 31, 3) := by decide +kernel
theorem dX9_tongue_215 : decode cX9_tongue 215 = .ok (.iload_n 1, 1) := by decide +kernel
theorem dX9_tongue_216 : decode cX9_tongue 216 = .ok (.iaload, 1) := by decide +kernel
theorem dX9_tongue_217 : decode cX9_tongue 217 = .ok (.iastore, 1) := by decide +kernel
theorem dX9_tongue_218 : decode cX9_tongue 218 = .ok (.iinc 1 1, 3) := by decide +kernel
theorem dX9_tongue_221 : decode cX9_tongue 221 = .ok (.goto (-21), 3) := by decide +kernel
theorem dX9_tongue_224 : decode cX9_tongue 224 = .ok (.aload_n 0, 1) := by decide +kernel
theorem dX9_tongue_225 : decode cX9_tongue 225 = .ok (.getfield 186, 3) := by decide +kernel
theorem dX9_tongue_228 : decode cX9_tongue 228 = .ok (.ireturn, 1) := by decide +kernel
theorem dX9_fault_0 : decode cX9_fault 0 = .ok (.aload_n 0, 1) := by decide +kernel
theorem dX9_fault_1 : decode cX9_fault 1 = .ok (.getfield 108, 3) := by decide +kernel
theorem dX9_fault_4 : decode cX9_fault 4 = .ok (.ireturn, 1) := by decide +kernel
set_option maxRecDepth 20000 in
theorem ggX9_isWord_X9_in : GoodIn wsX9_isWord wsX9_in := goodIn_r _ [5] (by decide +kernel) (by decide +kernel)
set_option maxRecDepth 20000 in
theorem gX9_isWord_X9_in : GoodIn wsX9_isWord (va_wsS RX9 104 yX9_in wsX9_in) := goodIn_app (goodIn_of _ (by decide +kernel)) ggX9_isWord_X9_in
theorem dX9_isWord_0 : decode cX9_isWord 0 = .ok (.iload_n 1, 1) := by decide +kernel
theorem dX9_isWord_1 : decode cX9_isWord 1 = .ok (.i2l, 1) := by decide +kernel
theorem dX9_isWord_2 : decode cX9_isWord 2 = .ok (.lconst 0, 1) := by decide +kernel
theorem dX9_isWord_3 : decode cX9_isWord 3 = .ok (.aload_n 0, 1) := by decide +kernel
theorem dX9_isWord_4 : decode cX9_isWord 4 = .ok (.getfield 186, 3) := by decide +kernel
theorem dX9_isWord_7 : decode cX9_isWord 7 = .ok (.iconst 1, 1) := by decide +kernel
theorem dX9_isWord_8 : decode cX9_isWord 8 = .ok (.isub, 1) := by decide +kernel
theorem dX9_isWord_9 : decode cX9_isWord 9 = .ok (.i2l, 1) := by decide +kernel
theorem dX9_isWord_10 : decode cX9_isWord 10 = .ok (.invokestatic 104, 3) := by decide +kernel
theorem dX9_isWord_13 : decode cX9_isWord 13 = .ok (.ireturn, 1) := by decide +kernel
set_option maxRecDepth 20000 in
theorem ggX9_isAsk_X9_in : GoodIn wsX9_isAsk wsX9_in := goodIn_r _ [5] (by decide +kernel) (by decide +kernel)
set_option maxRecDepth 20000 in
theorem gX9_isAsk_X9_in : GoodIn wsX9_isAsk (va_wsS RX9 104 yX9_in wsX9_in) := goodIn_app (goodIn_of _ (by decide +kernel)) ggX9_isAsk_X9_in
theorem dX9_isAsk_0 : decode cX9_isAsk 0 = .ok (.iload_n 1, 1) := by decide +kernel
theorem dX9_isAsk_1 : decode cX9_isAsk 1 = .ok (.i2l, 1) := by decide +kernel
theorem dX9_isAsk_2 : decode cX9_isAsk 2 = .ok (.lconst 0, 1) := by decide +kernel
theorem dX9_isAsk_3 : decode cX9_isAsk 3 = .ok (.aload_n 0, 1) := by decide +kernel
theorem dX9_isAsk_4 : decode cX9_isAsk 4 = .ok (.getfield 189, 3) := by decide +kernel
theorem dX9_isAsk_7 : decode cX9_isAsk 7 = .ok (.iconst 1, 1) := by decide +kernel
theorem dX9_isAsk_8 : decode cX9_isAsk 8 = .ok (.isub, 1) := by decide +kernel
theorem dX9_isAsk_9 : decode cX9_isAsk 9 = .ok (.i2l, 1) := by decide +kernel
theorem dX9_isAsk_10 : decode cX9_isAsk 10 = .ok (.invokestatic 104, 3) := by decide +kernel
theorem dX9_isAsk_13 : decode cX9_isAsk 13 = .ok (.ireturn, 1) := by decide +kernel
set_option maxRecDepth 20000 in
theorem ggX9_isBlur_X9_in : GoodIn wsX9_isBlur wsX9_in := goodIn_r _ [5] (by decide +kernel) (by decide +kernel)
set_option maxRecDepth 20000 in
theorem gX9_isBlur_X9_in : GoodIn wsX9_isBlur (va_wsS RX9 104 yX9_in wsX9_in) := goodIn_app (goodIn_of _ (by decide +kernel)) ggX9_isBlur_X9_in
theorem dX9_isBlur_0 : decode cX9_isBlur 0 = .ok (.iload_n 0, 1) := by decide +kernel
theorem dX9_isBlur_1 : decode cX9_isBlur 1 = .ok (.i2l, 1) := by decide +kernel
theorem dX9_isBlur_2 : decode cX9_isBlur 2 = .ok (.lconst 0, 1) := by decide +kernel
theorem dX9_isBlur_3 : decode cX9_isBlur 3 = .ok (.ldc2_w 192, 3) := by decide +kernel
theorem dX9_isBlur_6 : decode cX9_isBlur 6 = .ok (.invokestatic 104, 3) := by decide +kernel
theorem dX9_isBlur_9 : decode cX9_isBlur 9 = .ok (.ireturn, 1) := by decide +kernel
set_option maxRecDepth 20000 in
theorem ggX9_isTime_X9_in : GoodIn wsX9_isTime wsX9_in := goodIn_r _ [6] (by decide +kernel) (by decide +kernel)
set_option maxRecDepth 20000 in
theorem gX9_isTime_X9_in : GoodIn wsX9_isTime (va_wsS RX9 104 yX9_in wsX9_in) := goodIn_app (goodIn_of _ (by decide +kernel)) ggX9_isTime_X9_in
theorem dX9_isTime_0 : decode cX9_isTime 0 = .ok (.iload_n 0, 1) := by decide +kernel
theorem dX9_isTime_1 : decode cX9_isTime 1 = .ok (.i2l, 1) := by decide +kernel
theorem dX9_isTime_2 : decode cX9_isTime 2 = .ok (.lconst 0, 1) := by decide +kernel
theorem dX9_isTime_3 : decode cX9_isTime 3 = .ok (.ldc2_w 194, 3) := by decide +kernel
theorem dX9_isTime_6 : decode cX9_isTime 6 = .ok (.invokestatic 104, 3) := by decide +kernel
theorem dX9_isTime_9 : decode cX9_isTime 9 = .ok (.ifCond .eq 19, 3) := by decide +kernel
theorem dX9_isTime_12 : decode cX9_isTime 12 = .ok (.iload_n 1, 1) := by decide +kernel
theorem dX9_isTime_13 : decode cX9_isTime 13 = .ok (.i2l, 1) := by decide +kernel
theorem dX9_isTime_14 : decode cX9_isTime 14 = .ok (.lconst 0, 1) := by decide +kernel
theorem dX9_isTime_15 : decode cX9_isTime 15 = .ok (.ldc2_w 196, 3) := by decide +kernel
theorem dX9_isTime_18 : decode cX9_isTime 18 = .ok (.invokestatic 104, 3) := by decide +kernel
theorem dX9_isTime_21 : decode cX9_isTime 21 = .ok (.ifCond .eq 7, 3) := by decide +kernel
theorem dX9_isTime_24 : decode cX9_isTime 24 = .ok (.iconst 1, 1) := by decide +kernel
theorem dX9_isTime_25 : decode cX9_isTime 25 = .ok (.goto 4, 3) := by decide +kernel
theorem dX9_isTime_28 : decode cX9_isTime 28 = .ok (.iconst 0, 1) := by decide +kernel
theorem dX9_isTime_29 : decode cX9_isTime 29 = .ok (.ireturn, 1) := by decide +kernel
theorem dX9_markAt_0 : decode cX9_markAt 0 = .ok (.iload_n 0, 1) := by decide +kernel
theorem dX9_markAt_1 : decode cX9_markAt 1 = .ok (.bipush 16, 2) := by decide +kernel
theorem dX9_markAt_3 : decode cX9_markAt 3 = .ok (.if_icmp .ge 7, 3) := by decide +kernel
theorem dX9_markAt_6 : decode cX9_markAt 6 = .ok (.iload_n 0, 1) := by decide +kernel
theorem dX9_markAt_7 : decode cX9_markAt 7 = .ok (.iload_n 1, 1) := by decide +kernel
theorem dX9_markAt_8 : decode cX9_markAt 8 = .ok (.ishr, 1) := by decide +kernel
theorem dX9_markAt_9 : decode cX9_markAt 9 = .ok (.ireturn, 1) := by decide +kernel
theorem dX9_markAt_10 : decode cX9_markAt 10 = .ok (.iload_n 0, 1) := by decide +kernel
theorem dX9_markAt_11 : decode cX9_markAt 11 = .ok (.bipush 20, 2) := by decide +kernel
theorem dX9_markAt_13 : decode cX9_markAt 13 = .ok (.if_icmp .ge 24, 3) := by decide +kernel
theorem dX9_markAt_16 : decode cX9_markAt 16 = .ok (.iload_n 1, 1) := by decide +kernel
theorem dX9_markAt_17 : decode cX9_markAt 17 = .ok (.iconst 2, 1) := by decide +kernel
theorem dX9_markAt_18 : decode cX9_markAt 18 = .ok (.if_icmp .ge 7, 3) := by decide +kernel
theorem dX9_markAt_21 : decode cX9_markAt 21 = .ok (.iload_n 0, 1) := by decide +kernel
theorem dX9_markAt_22 : decode cX9_markAt 22 = .ok (.goto 14, 3) := by decide +kernel
theorem dX9_markAt_25 : decode cX9_markAt 25 = .ok (.iload_n 1, 1) := by decide +kernel
theorem dX9_markAt_26 : decode cX9_markAt 26 = .ok (.iconst 4, 1) := by decide +kernel
theorem dX9_markAt_27 : decode cX9_markAt 27 = .ok (.if_icmp .ge 8, 3) := by decide +kernel
theorem dX9_markAt_30 : decode cX9_markAt 30 = .ok (.bipush 16, 2) := by decide +kernel
theorem dX9_markAt_32 : decode cX9_markAt 32 = .ok (.goto 4, 3) := by decide +kernel
theorem dX9_markAt_35 : decode cX9_markAt 35 = .ok (.iconst (-1), 1) := by decide +kernel
theorem dX9_markAt_36 : decode cX9_markAt 36 = .ok (.ireturn, 1) := by decide +kernel
theorem dX9_markAt_37 : decode cX9_markAt 37 = .ok (.iload_n 0, 1) := by decide +kernel
theorem dX9_markAt_38 : decode cX9_markAt 38 = .ok (.bipush 30, 2) := by decide +kernel
theorem dX9_markAt_40 : decode cX9_markAt 40 = .ok (.if_icmp .ne 7, 3) := by decide +kernel
theorem dX9_markAt_43 : decode cX9_markAt 43 = .ok (.iconst (-1), 1) := by decide +kernel
theorem dX9_markAt_44 : decode cX9_markAt 44 = .ok (.goto 24, 3) := by decide +kernel
theorem dX9_markAt_47 : decode cX9_markAt 47 = .ok (.iload_n 1, 1) := by decide +kernel
theorem dX9_markAt_48 : decode cX9_markAt 48 = .ok (.iconst 3, 1) := by decide +kernel
theorem dX9_markAt_49 : decode cX9_markAt 49 = .ok (.if_icmp .ge 8, 3) := by decide +kernel
theorem dX9_markAt_52 : decode cX9_markAt 52 = .ok (.bipush 20, 2) := by decide +kernel
theorem dX9_markAt_54 : decode cX9_markAt 54 = .ok (.goto 14, 3) := by decide +kernel
theorem dX9_markAt_57 : decode cX9_markAt 57 = .ok (.iload_n 1, 1) := by decide +kernel
theorem dX9_markAt_58 : decode cX9_markAt 58 = .ok (.iconst 3, 1) := by decide +kernel
theorem dX9_markAt_59 : decode cX9_markAt 59 = .ok (.if_icmp .ne 8, 3) := by decide +kernel
theorem dX9_markAt_62 : decode cX9_markAt 62 = .ok (.bipush 16, 2) := by decide +kernel
theorem dX9_markAt_64 : decode cX9_markAt 64 = .ok (.goto 4, 3) := by decide +kernel
theorem dX9_markAt_67 : decode cX9_markAt 67 = .ok (.iconst (-1), 1) := by decide +kernel
theorem dX9_markAt_68 : decode cX9_markAt 68 = .ok (.ireturn, 1) := by decide +kernel
set_option maxRecDepth 20000 in
theorem ggX9_rowOf_X9_markAt : GoodIn wsX9_rowOf wsX9_markAt := goodIn_r _ [7] (by decide +kernel) (by decide +kernel)
set_option maxRecDepth 20000 in
theorem gX9_rowOf_X9_markAt : GoodIn wsX9_rowOf (va_wsS RX9 198 yX9_markAt wsX9_markAt) := goodIn_app (goodIn_of _ (by decide +kernel)) ggX9_rowOf_X9_markAt
theorem dX9_rowOf_0 : decode cX9_rowOf 0 = .ok (.iconst 0, 1) := by decide +kernel
theorem dX9_rowOf_1 : decode cX9_rowOf 1 = .ok (.istore 4, 2) := by decide +kernel
theorem dX9_rowOf_3 : decode cX9_rowOf 3 = .ok (.iconst 0, 1) := by decide +kernel
theorem dX9_rowOf_4 : decode cX9_rowOf 4 = .ok (.istore 5, 2) := by decide +kernel
theorem dX9_rowOf_6 : decode cX9_rowOf 6 = .ok (.iload 5, 2) := by decide +kernel
theorem dX9_rowOf_8 : decode cX9_rowOf 8 = .ok (.aload_n 0, 1) := by decide +kernel
theorem dX9_rowOf_9 : decode cX9_rowOf 9 = .ok (.getfield 13, 3) := by decide +kernel
theorem dX9_rowOf_12 : decode cX9_rowOf 12 = .ok (.iload_n 1, 1) := by decide +kernel
theorem dX9_rowOf_13 : decode cX9_rowOf 13 = .ok (.iaload, 1) := by decide +kernel
theorem dX9_rowOf_14 : decode cX9_rowOf 14 = .ok (.if_icmp .ge 67, 3) := by decide +kernel
theorem dX9_rowOf_17 : decode cX9_rowOf 17 = .ok (.aload_n 0, 1) := by decide +kernel
theorem dX9_rowOf_18 : decode cX9_rowOf 18 = .ok (.getfield 7, 3) := by decide +kernel
theorem dX9_rowOf_21 : decode cX9_rowOf 21 = .ok (.aload_n 0, 1) := by decide +kernel
theorem dX9_rowOf_22 : decode cX9_rowOf 22 = .ok (.getfield 16, 3) := by decide +kernel
theorem dX9_rowOf_25 : decode cX9_rowOf 25 = .ok (.bipush 8, 2) := by decide +kernel
theorem dX9_rowOf_27 : decode cX9_rowOf 27 = .ok (.iload_n 1, 1) := by decide +kernel
theorem dX9_rowOf_28 : decode cX9_rowOf 28 = .ok (.imul, 1) := by decide +kernel
theorem dX9_rowOf_29 : decode cX9_rowOf 29 = .ok (.iload 5, 2) := by decide +kernel
theorem dX9_rowOf_31 : decode cX9_rowOf 31 = .ok (.iadd, 1) := by decide +kernel
theorem dX9_rowOf_32 : decode cX9_rowOf 32 = .ok (.iaload, 1) := by decide +kernel
theorem dX9_rowOf_33 : decode cX9_rowOf 33 = .ok (.iaload, 1) := by decide +kernel
theorem dX9_rowOf_34 : decode cX9_rowOf 34 = .ok (.iload_n 2, 1) := by decide +kernel
theorem dX9_rowOf_35 : decode cX9_rowOf 35 = .ok (.invokestatic 198, 3) := by decide +kernel
theorem dX9_rowOf_38 : decode cX9_rowOf 38 = .ok (.istore 6, 2) := by decide +kernel
theorem dX9_rowOf_40 : decode cX9_rowOf 40 = .ok (.iload 6, 2) := by decide +kernel
theorem dX9_rowOf_42 : decode cX9_rowOf 42 = .ok (.ifCond .lt 33, 3) := by decide +kernel
theorem dX9_rowOf_45 : decode cX9_rowOf 45 = .ok (.iload_n 2, 1) := by decide +kernel
theorem dX9_rowOf_46 : decode cX9_rowOf 46 = .ok (.iconst 3, 1) := by decide +kernel
theorem dX9_rowOf_47 : decode cX9_rowOf 47 = .ok (.if_icmp .lt 19, 3) := by decide +kernel
theorem dX9_rowOf_50 : decode cX9_rowOf 50 = .ok (.iload 4, 2) := by decide +kernel
theorem dX9_rowOf_52 : decode cX9_rowOf 52 = .ok (.ifCond .le 14, 3) := by decide +kernel
theorem dX9_rowOf_55 : decode cX9_rowOf 55 = .ok (.aload_n 3, 1) := by decide +kernel
theorem dX9_rowOf_56 : decode cX9_rowOf 56 = .ok (.iload 4, 2) := by decide +kernel
theorem dX9_rowOf_58 : decode cX9_rowOf 58 = .ok (.iconst 1, 1) := by decide +kernel
theorem dX9_rowOf_59 : decode cX9_rowOf 59 = .ok (.isub, 1) := by decide +kernel
theorem dX9_rowOf_60 : decode cX9_rowOf 60 = .ok (.iaload, 1) := by decide +kernel
theorem dX9_rowOf_61 : decode cX9_rowOf 61 = .ok (.iload 6, 2) := by decide +kernel
theorem dX9_rowOf_63 : decode cX9_rowOf 63 = .ok (.if_icmp .eq 12, 3) := by decide +kernel
theorem dX9_rowOf_66 : decode cX9_rowOf 66 = .ok (.aload_n 3, 1) := by decide +kernel
theorem dX9_rowOf_67 : decode cX9_rowOf 67 = .ok (.iload 4, 2) := by decide +kernel
theorem dX9_rowOf_69 : decode cX9_rowOf 69 = .ok (.iload 6, 2) := by decide +kernel
theorem dX9_rowOf_71 : decode cX9_rowOf 71 = .ok (.iastore, 1) := by decide +kernel
theorem dX9_rowOf_72 : decode cX9_rowOf 72 = .ok (.iinc 4 1, 3) := by decide +kernel
theorem dX9_rowOf_75 : decode cX9_rowOf 75 = .ok (.iinc 5 1, 3) := by decide +kernel
theorem dX9_rowOf_78 : decode cX9_rowOf 78 = .ok (.goto (-72), 3) := by decide +kernel
theorem dX9_rowOf_81 : decode cX9_rowOf 81 = .ok (.iload 4, 2) := by decide +kernel
theorem dX9_rowOf_83 : decode cX9_rowOf 83 = .ok (.ireturn, 1) := by decide +kernel
set_option maxRecDepth 20000 in
theorem ggX9_areOne_X9_rowOf : GoodIn wsX9_areOne wsX9_rowOf := goodIn_r _ [9, 10, 11, 12, 13, 14, 8, 15, 16, 17, 18, 19, 20, 21, 22, 23, 24, 25, 26, 27, 28, 29, 30, 31, 32, 33, 34, 35, 36, 37, 38, 39, 40, 41, 42, 43, 44, 45, 46, 47, 48, 49, 50, 51, 52, 53, 54, 55, 56, 57, 58, 59, 60, 61] (by decide +kernel) (by decide +kernel)
set_option maxRecDepth 20000 in
theorem gX9_areOne_X9_rowOf : GoodIn wsX9_areOne (wsV RX9 202 RX9 yX9_rowOf wsX9_rowOf) := goodIn_app (goodIn_of _ (by decide +kernel)) ggX9_areOne_X9_rowOf
theorem dX9_areOne_0 : decode cX9_areOne 0 = .ok (.aload_n 0, 1) := by decide +kernel
theorem dX9_areOne_1 : decode cX9_areOne 1 = .ok (.aload_n 0, 1) := by decide +kernel
theorem dX9_areOne_2 : decode cX9_areOne 2 = .ok (.iload_n 1, 1) := by decide +kernel
theorem dX9_areOne_3 : decode cX9_areOne 3 = .ok (.iload_n 3, 1) := by decide +kernel
theorem dX9_areOne_4 : decode cX9_areOne 4 = .ok (.aload_n 0, 1) := by decide +kernel
theorem dX9_areOne_5 : decode cX9_areOne 5 = .ok (.getfield 37, 3) := by decide +kernel
theorem dX9_areOne_8 : decode cX9_areOne 8 = .ok (.invokevirtual 202, 3) := by decide +kernel
theorem dX9_areOne_11 : decode cX9_areOne 11 = .ok (.putfield 206, 3) := by decide +kernel
theorem dX9_areOne_14 : decode cX9_areOne 14 = .ok (.aload_n 0, 1) := by decide +kernel
theorem dX9_areOne_15 : decode cX9_areOne 15 = .ok (.aload_n 0, 1) := by decide +kernel
theorem dX9_areOne_16 : decode cX9_areOne 16 = .ok (.iload_n 2, 1) := by decide +kernel
theorem dX9_areOne_17 : decode cX9_areOne 17 = .ok (.iload_n 3, 1) := by decide +kernel
theorem dX9_areOne_18 : decode cX9_areOne 18 = .ok (.aload_n 0, 1) := by decide +kernel
theorem dX9_areOne_19 : decode cX9_areOne 19 = .ok (.getfield 40, 3) := by decide +kernel
theorem dX9_areOne_22 : decode cX9_areOne 22 = .ok (.invokevirtual 202, 3) := by decide +kernel
theorem dX9_areOne_25 : decode cX9_areOne 25 = .ok (.putfield 209, 3) := by decide +kernel
theorem dX9_areOne_28 : decode cX9_areOne 28 = .ok (.aload_n 0, 1) := by decide +kernel
theorem dX9_areOne_29 : decode cX9_areOne 29 = .ok (.getfield 206, 3) := by decide +kernel
theorem dX9_areOne_32 : decode cX9_areOne 32 = .ok (.aload_n 0, 1) := by decide +kernel
theorem dX9_areOne_33 : decode cX9_areOne 33 = .ok (.getfield 209, 3) := by decide +kernel
theorem dX9_areOne_36 : decode cX9_areOne 36 = .ok (.if_icmp .ne 7, 3) := by decide +kernel
theorem dX9_areOne_39 : decode cX9_areOne 39 = .ok (.iconst 1, 1) := by decide +kernel
theorem dX9_areOne_40 : decode cX9_areOne 40 = .ok (.goto 4, 3) := by decide +kernel
theorem dX9_areOne_43 : decode cX9_areOne 43 = .ok (.iconst 0, 1) := by decide +kernel
theorem dX9_areOne_44 : decode cX9_areOne 44 = .ok (.istore 4, 2) := by decide +kernel
theorem dX9_areOne_46 : decode cX9_areOne 46 = .ok (.iconst 0, 1) := by decide +kernel
theorem dX9_areOne_47 : decode cX9_areOne 47 = .ok (.istore 5, 2) := by decide +kernel
theorem dX9_areOne_49 : decode cX9_areOne 49 = .ok (.iload 5, 2) := by decide +kernel
theorem dX9_areOne_51 : decode cX9_areOne 51 = .ok (.aload_n 0, 1) := by decide +kernel
theorem dX9_areOne_52 : decode cX9_areOne 52 = .ok (.getfield 206, 3) := by decide +kernel
theorem dX9_areOne_55 : decode cX9_areOne 55 = .ok (.if_icmp .ge 38, 3) := by decide +kernel
theorem dX9_areOne_58 : decode cX9_areOne 58 = .ok (.iload 4, 2) := by decide +kernel
theorem dX9_areOne_60 : decode cX9_areOne 60 = .ok (.ifCond .eq 33, 3) := by decide +kernel
theorem dX9_areOne_63 : decode cX9_areOne 63 = .ok (.aload_n 0, 1) := by decide +kernel
theorem dX9_areOne_64 : decode cX9_areOne 64 = .ok (.getfield 37, 3) := by decide +kernel
theorem dX9_areOne_67 : decode cX9_areOne 67 = .ok (.iload 5, 2) := by decide +kernel
theorem dX9_areOne_69 : decode cX9_areOne 69 = .ok (.iaload, 1) := by decide +kernel
theorem dX9_areOne_70 : decode cX9_areOne 70 = .ok (.aload_n 0, 1) := by decide +kernel
theorem dX9_areOne_71 : decode cX9_areOne 71 = .ok (.getfield 40, 3) := by decide +kernel
theorem dX9_areOne_74 : decode cX9_areOne 74 = .ok (.iload 5, 2) := by decide +kernel
theorem dX9_areOne_76 : decode cX9_areOne 76 = .ok (.iaload, 1) := by decide +kernel
theorem dX9_areOne_77 : decode cX9_areOne 77 = .ok (.if_icmp .ne 7, 3) := by decide +kernel
theorem dX9_areOne_80 : decode cX9_areOne 80 = .ok (.iconst 1, 1) := by decide +kernel
theorem dX9_areOne_81 : decode cX9_areOne 81 = .ok (.goto 4, 3) := by decide +kernel
theorem dX9_areOne_84 : decode cX9_areOne 84 = .ok (.iconst 0, 1) := by decide +kernel
theorem dX9_areOne_85 : decode cX9_areOne 85 = .ok (.istore 4, 2) := by decide +kernel
theorem dX9_areOne_87 : decode cX9_areOne 87 = .ok (.iinc 5 1, 3) := by decide +kernel
theorem dX9_areOne_90 : decode cX9_areOne 90 = .ok (.goto (-41), 3) := by decide +kernel
theorem dX9_areOne_93 : decode cX9_areOne 93 = .ok (.iload 4, 2) := by decide +kernel
theorem dX9_areOne_95 : decode cX9_areOne 95 = .ok (.ireturn, 1) := by decide +kernel
set_option maxRecDepth 20000 in
theorem ggX9_word_X9_isWord : GoodIn wsX9_word wsX9_isWord := goodIn_r _ [11, 12, 13, 14, 10, 15, 25, 26, 27, 28, 29, 30, 31, 32, 33, 34, 35, 36, 37, 38, 39, 40, 41, 42, 43, 44, 45, 46, 47, 48, 49, 50, 51, 52, 53, 54, 55, 56, 57, 58, 59, 60, 61, 62, 63, 64, 65, 66, 67, 68, 69, 70] (by decide +kernel) (by decide +kernel)
set_option maxRecDepth 20000 in
theorem gX9_word_X9_isWord : GoodIn wsX9_word (wsV RX9 212 RX9 yX9_isWord wsX9_isWord) := goodIn_app (goodIn_of _ (by decide +kernel)) ggX9_word_X9_isWord
set_option maxRecDepth 20000 in
theorem ggX9_word_X9_rowOf : GoodIn wsX9_word wsX9_rowOf := goodIn_r _ [19, 6, 20, 21, 22, 23, 10, 24, 25, 26, 27, 28, 29, 30, 31, 32, 33, 34, 35, 36, 37, 38, 39, 40, 41, 42, 43, 44, 45, 46, 47, 48, 49, 50, 51, 52, 53, 54, 55, 56, 57, 58, 59, 60, 61, 62, 63, 64, 65, 66, 67, 68, 69, 70] (by decide +kernel) (by decide +kernel)
set_option maxRecDepth 20000 in
theorem gX9_word_X9_rowOf : GoodIn wsX9_word (wsV RX9 202 RX9 yX9_rowOf wsX9_rowOf) := goodIn_app (goodIn_of _ (by decide +kernel)) ggX9_word_X9_rowOf
set_option maxRecDepth 20000 in
theorem ggX9_word_X9_in : GoodIn wsX9_word wsX9_in := goodIn_r _ [15] (by decide +kernel) (by decide +kernel)
set_option maxRecDepth 20000 in
theorem gX9_word_X9_in : GoodIn wsX9_word (va_wsS RX9 104 yX9_in wsX9_in) := goodIn_app (goodIn_of _ (by decide +kernel)) ggX9_word_X9_in
theorem dX9_word_0 : decode cX9_word 0 = .ok (.aload_n 0, 1) := by decide +kernel
theorem dX9_word_1 : decode cX9_word 1 = .ok (.iload_n 1, 1) := by decide +kernel
theorem dX9_word_2 : decode cX9_word 2 = .ok (.invokevirtual 212, 3) := by decide +kernel
theorem dX9_word_5 : decode cX9_word 5 = .ok (.ifCond .ne 5, 3) := by decide +kernel
theorem dX9_word_8 : decode cX9_word 8 = .ok (.iconst (-1), 1) := by decide +kernel
theorem dX9_word_9 : decode cX9_word 9 = .ok (.ireturn, 1) := by decide +kernel
theorem dX9_word_10 : decode cX9_word 10 = .ok (.aload_n 0, 1) := by decide +kernel
theorem dX9_word_11 : decode cX9_word 11 = .ok (.aload_n 0, 1) := by decide +kernel
theorem dX9_word_12 : decode cX9_word 12 = .ok (.iload_n 1, 1) := by decide +kernel
theorem dX9_word_13 : decode cX9_word 13 = .ok (.iconst 0, 1) := by decide +kernel
theorem dX9_word_14 : decode cX9_word 14 = .ok (.aload_n 0, 1) := by decide +kernel
theorem dX9_word_15 : decode cX9_word 15 = .ok (.getfield 37, 3) := by decide +kernel
theorem dX9_word_18 : decode cX9_word 18 = .ok (.invokevirtual 202, 3) := by decide +kernel
theorem dX9_word_21 : decode cX9_word 21 = .ok (.putfield 206, 3) := by decide +kernel
theorem dX9_word_24 : decode cX9_word 24 = .ok (.iload_n 2, 1) := by decide +kernel
theorem dX9_word_25 : decode cX9_word 25 = .ok (.i2l, 1) := by decide +kernel
theorem dX9_word_26 : decode cX9_word 26 = .ok (.ldc2_w 215, 3) := by decide +kernel
theorem dX9_word_29 : decode cX9_word 29 = .ok (.bipush 9, 2) := by decide +kernel
theorem dX9_word_31 : decode cX9_word 31 = .ok (.aload_n 0, 1) := by decide +kernel
theorem dX9_word_32 : decode cX9_word 32 = .ok (.getfield 206, 3) := by decide +kernel
theorem dX9_word_35 : decode cX9_word 35 = .ok (.iadd, 1) := by decide +kernel
theorem dX9_word_36 : decode cX9_word 36 = .ok (.i2l, 1) := by decide +kernel
theorem dX9_word_37 : decode cX9_word 37 = .ok (.invokestatic 104, 3) := by decide +kernel
theorem dX9_word_40 : decode cX9_word 40 = .ok (.ifCond .eq 13, 3) := by decide +kernel
theorem dX9_word_43 : decode cX9_word 43 = .ok (.aload_n 0, 1) := by decide +kernel
theorem dX9_word_44 : decode cX9_word 44 = .ok (.getfield 37, 3) := by decide +kernel
theorem dX9_word_47 : decode cX9_word 47 = .ok (.iload_n 2, 1) := by decide +kernel
theorem dX9_word_48 : decode cX9_word 48 = .ok (.bipush 10, 2) := by decide +kernel
theorem dX9_word_50 : decode cX9_word 50 = .ok (.isub, 1) := by decide +kernel
theorem dX9_word_51 : decode cX9_word 51 = .ok (.iaload, 1) := by decide +kernel
theorem dX9_word_52 : decode cX9_word 52 = .ok (.ireturn, 1) := by decide +kernel
theorem dX9_word_53 : decode cX9_word 53 = .ok (.iconst 0, 1) := by decide +kernel
theorem dX9_word_54 : decode cX9_word 54 = .ok (.istore_n 3, 1) := by decide +kernel
theorem dX9_word_55 : decode cX9_word 55 = .ok (.iconst 0, 1) := by decide +kernel
theorem dX9_word_56 : decode cX9_word 56 = .ok (.istore 4, 2) := by decide +kernel
theorem dX9_word_58 : decode cX9_word 58 = .ok (.iload 4, 2) := by decide +kernel
theorem dX9_word_60 : decode cX9_word 60 = .ok (.aload_n 0, 1) := by decide +kernel
theorem dX9_word_61 : decode cX9_word 61 = .ok (.getfield 206, 3) := by decide +kernel
theorem dX9_word_64 : decode cX9_word 64 = .ok (.if_icmp .ge 29, 3) := by decide +kernel
theorem dX9_word_67 : decode cX9_word 67 = .ok (.iload_n 3, 1) := by decide +kernel
theorem dX9_word_68 : decode cX9_word 68 = .ok (.aload_n 0, 1) := by decide +kernel
theorem dX9_word_69 : decode cX9_word 69 = .ok (.getfield 37, 3) := by decide +kernel
theorem dX9_word_72 : decode cX9_word 72 = .ok (.iload 4, 2) := by decide +kernel
theorem dX9_word_74 : decode cX9_word 74 = .ok (.iaload, 1) := by decide +kernel
theorem dX9_word_75 : decode cX9_word 75 = .ok (.bipush 16, 2) := by decide +kernel
theorem dX9_word_77 : decode cX9_word 77 = .ok (.if_icmp .ge 7, 3) := by decide +kernel
theorem dX9_word_80 : decode cX9_word 80 = .ok (.iconst 1, 1) := by decide +kernel
theorem dX9_word_81 : decode cX9_word 81 = .ok (.goto 4, 3) := by decide +kernel
theorem dX9_word_84 : decode cX9_word 84 = .ok (.iconst 0, 1) := by decide +kernel
theorem dX9_word_85 : decode cX9_word 85 = .ok (.iadd, 1) := by decide +kernel
theorem dX9_word_86 : decode cX9_word 86 = .ok (.istore_n 3, 1) := by decide +kernel
theorem dX9_word_87 : decode cX9_word 87 = .ok (.iinc 4 1, 3) := by decide +kernel
theorem dX9_word_90 : decode cX9_word 90 = .ok (.goto (-32), 3) := by decide +kernel
theorem dX9_word_93 : decode cX9_word 93 = .ok (.iconst 0, 1) := by decide +kernel
theorem dX9_word_94 : decode cX9_word 94 = .ok (.istore 4, 2) := by decide +kernel
theorem dX9_word_96 : decode cX9_word 96 = .ok (.iconst 0, 1) := by decide +kernel
theorem dX9_word_97 : decode cX9_word 97 = .ok (.istore 5, 2) := by decide +kernel
theorem dX9_word_99 : decode cX9_word 99 = .ok (.iload 5, 2) := by decide +kernel
theorem dX9_word_101 : decode cX9_word 101 = .ok (.aload_n 0, 1) := by decide +kernel
theorem dX9_word_102 : decode cX9_word 102 = .ok (.getfield 189, 3) := by decide +kernel
theorem dX9_word_105 : decode cX9_word 105 = .ok (.if_icmp .ge 25, 3) := by decide +kernel
theorem dX9_word_108 : decode cX9_word 108 = .ok (.iload 4, 2) := by decide +kernel
theorem dX9_word_110 : decode cX9_word 110 = .ok (.aload_n 0, 1) := by decide +kernel
theorem dX9_word_111 : decode cX9_word 111 = .ok (.getfield 19, 3) := by decide +kernel
theorem dX9_word_114 : decode cX9_word 114 = .ok (.iload 5, 2) := by decide +kernel
theorem dX9_word_116 : decode cX9_word 116 = .ok (.iaload, 1) := by decide +kernel
theorem dX9_word_117 : decode cX9_word 117 = .ok (.iload_n 1, 1) := by decide +kernel
theorem dX9_word_118 : decode cX9_word 118 = .ok (.ishr, 1) := by decide +kernel
theorem dX9_word_119 : decode cX9_word 119 = .ok (.iconst 1, 1) := by decide +kernel
theorem dX9_word_120 : decode cX9_word 120 = .ok (.iand, 1) := by decide +kernel
theorem dX9_word_121 : decode cX9_word 121 = .ok (.iadd, 1) := by decide +kernel
theorem dX9_word_122 : decode cX9_word 122 = .ok (.istore 4, 2) := by decide +kernel
theorem dX9_word_124 : decode cX9_word 124 = .ok (.iinc 5 1, 3) := by decide +kernel
theorem dX9_word_127 : decode cX9_word 127 = .ok (.goto (-28), 3) := by decide +kernel
theorem dX9_word_130 : decode cX9_word 130 = .ok (.iload_n 2, 1) := by decide +kernel
theorem dX9_word_131 : decode cX9_word 131 = .ok (.ifCond .ne 12, 3) := by decide +kernel
theorem dX9_word_134 : decode cX9_word 134 = .ok (.aload_n 0, 1) := by decide +kernel
theorem dX9_word_135 : decode cX9_word 135 = .ok (.getfield 13, 3) := by decide +kernel
theorem dX9_word_138 : decode cX9_word 138 = .ok (.iload_n 1, 1) := by decide +kernel
theorem dX9_word_139 : decode cX9_word 139 = .ok (.iaload, 1) := by decide +kernel
theorem dX9_word_140 : decode cX9_word 140 = .ok (.goto 35, 3) := by decide +kernel
theorem dX9_word_143 : decode cX9_word 143 = .ok (.iload_n 2, 1) := by decide +kernel
theorem dX9_word_144 : decode cX9_word 144 = .ok (.iconst 1, 1) := by decide +kernel
theorem dX9_word_145 : decode cX9_word 145 = .ok (.if_icmp .ne 10, 3) := by decide +kernel
theorem dX9_word_148 : decode cX9_word 148 = .ok (.aload_n 0, 1) := by decide +kernel
theorem dX9_word_149 : decode cX9_word 149 = .ok (.getfield 206, 3) := by decide +kernel
theorem dX9_word_152 : decode cX9_word 152 = .ok (.goto 23, 3) := by decide +kernel
theorem dX9_word_155 : decode cX9_word 155 = .ok (.iload_n 2, 1) := by decide +kernel
theorem dX9_word_156 : decode cX9_word 156 = .ok (.iconst 2, 1) := by decide +kernel
theorem dX9_word_157 : decode cX9_word 157 = .ok (.if_icmp .ne 7, 3) := by decide +kernel
theorem dX9_word_160 : decode cX9_word 160 = .ok (.iload_n 3, 1) := by decide +kernel
theorem dX9_word_161 : decode cX9_word 161 = .ok (.goto 14, 3) := by decide +kernel
theorem dX9_word_164 : decode cX9_word 164 = .ok (.iload_n 2, 1) := by decide +kernel
theorem dX9_word_165 : decode cX9_word 165 = .ok (.iconst 3, 1) := by decide +kernel
theorem dX9_word_166 : decode cX9_word 166 = .ok (.if_icmp .ne 8, 3) := by decide +kernel
theorem dX9_word_169 : decode cX9_word 169 = .ok (.iload 4, 2) := by decide +kernel
theorem dX9_word_171 : decode cX9_word 171 = .ok (.goto 4, 3) := by decide +kernel
theorem dX9_word_174 : decode cX9_word 174 = .ok (.iconst (-1), 1) := by decide +kernel
theorem dX9_word_175 : decode cX9_word 175 = .ok (.ireturn, 1) := by decide +kernel
set_option maxRecDepth 20000 in
theorem ggX9_ask_X9_isAsk : GoodIn wsX9_ask wsX9_isAsk := goodIn_r _ [6, 7, 8, 9, 5, 10, 14, 15, 16, 17, 18, 19, 20, 21, 22, 23, 24, 25, 26, 27, 28, 29, 30, 31, 32, 33, 34, 35, 36, 37, 38, 39, 40, 41, 42, 43, 44, 45, 46, 47, 48, 49, 50, 51, 52, 53, 54, 55, 56, 57, 58, 59] (by decide +kernel) (by decide +kernel)
set_option maxRecDepth 20000 in
theorem gX9_ask_X9_isAsk : GoodIn wsX9_ask (wsV RX9 217 RX9 yX9_isAsk wsX9_isAsk) := goodIn_app (goodIn_of _ (by decide +kernel)) ggX9_ask_X9_isAsk
set_option maxRecDepth 20000 in
theorem ggX9_ask_X9_in : GoodIn wsX9_ask wsX9_in := goodIn_r _ [10] (by decide +kernel) (by decide +kernel)
set_option maxRecDepth 20000 in
theorem gX9_ask_X9_in : GoodIn wsX9_ask (va_wsS RX9 104 yX9_in wsX9_in) := goodIn_app (goodIn_of _ (by decide +kernel)) ggX9_ask_X9_in
set_option maxRecDepth 20000 in
theorem ggX9_ask_X9_bits : GoodIn wsX9_ask wsX9_bits := goodIn_r _ [13] (by decide +kernel) (by decide +kernel)
set_option maxRecDepth 20000 in
theorem gX9_ask_X9_bits : GoodIn wsX9_ask (va_wsS RX9 220 yX9_bits wsX9_bits) := goodIn_app (goodIn_of _ (by decide +kernel)) ggX9_ask_X9_bits
theorem dX9_ask_0 : decode cX9_ask 0 = .ok (.aload_n 0, 1) := by decide +kernel
theorem dX9_ask_1 : decode cX9_ask 1 = .ok (.iload_n 1, 1) := by decide +kernel
theorem dX9_ask_2 : decode cX9_ask 2 = .ok (.invokevirtual 217, 3) := by decide +kernel
theorem dX9_ask_5 : decode cX9_ask 5 = .ok (.ifCond .eq 13, 3) := by decide +kernel
theorem dX9_ask_8 : decode cX9_ask 8 = .ok (.iload_n 2, 1) := by decide +kernel
theorem dX9_ask_9 : decode cX9_ask 9 = .ok (.i2l, 1) := by decide +kernel
theorem dX9_ask_10 : decode cX9_ask 10 = .ok (.lconst 0, 1) := by decide +kernel
theorem dX9_ask_11 : decode cX9_ask 11 = .ok (.lconst 1, 1) := by decide +kernel
theorem dX9_ask_12 : decode cX9_ask 12 = .ok (.invokestatic 104, 3) := by decide +kernel
theorem dX9_ask_15 : decode cX9_ask 15 = .ok (.ifCond .ne 7, 3) := by decide +kernel
theorem dX9_ask_18 : decode cX9_ask 18 = .ok (.iconst (-1), 1) := by decide +kernel
theorem dX9_ask_19 : decode cX9_ask 19 = .ok (.goto 25, 3) := by decide +kernel
theorem dX9_ask_22 : decode cX9_ask 22 = .ok (.iload_n 2, 1) := by decide +kernel
theorem dX9_ask_23 : decode cX9_ask 23 = .ok (.ifCond .ne 15, 3) := by decide +kernel
theorem dX9_ask_26 : decode cX9_ask 26 = .ok (.aload_n 0, 1) := by decide +kernel
theorem dX9_ask_27 : decode cX9_ask 27 = .ok (.getfield 19, 3) := by decide +kernel
theorem dX9_ask_30 : decode cX9_ask 30 = .ok (.iload_n 1, 1) := by decide +kernel
theorem dX9_ask_31 : decode cX9_ask 31 = .ok (.iaload, 1) := by decide +kernel
theorem dX9_ask_32 : decode cX9_ask 32 = .ok (.invokestatic 220, 3) := by decide +kernel
theorem dX9_ask_35 : decode cX9_ask 35 = .ok (.goto 9, 3) := by decide +kernel
theorem dX9_ask_38 : decode cX9_ask 38 = .ok (.aload_n 0, 1) := by decide +kernel
theorem dX9_ask_39 : decode cX9_ask 39 = .ok (.getfield 19, 3) := by decide +kernel
theorem dX9_ask_42 : decode cX9_ask 42 = .ok (.iload_n 1, 1) := by decide +kernel
theorem dX9_ask_43 : decode cX9_ask 43 = .ok (.iaload, 1) := by decide +kernel
theorem dX9_ask_44 : decode cX9_ask 44 = .ok (.ireturn, 1) := by decide +kernel
set_option maxRecDepth 20000 in
theorem ggX9_blurred_X9_isWord : GoodIn wsX9_blurred wsX9_isWord := goodIn_r _ [7, 8, 9, 10, 6, 11, 26, 27, 28, 29, 30, 31, 32, 33, 34, 35, 36, 37, 38, 39, 40, 41, 42, 43, 44, 45, 46, 47, 48, 49, 50, 51, 52, 53, 54, 55, 56, 57, 58, 59, 60, 61, 62, 63, 64, 65, 66, 67, 68, 69, 70, 71] (by decide +kernel) (by decide +kernel)
set_option maxRecDepth 20000 in
theorem gX9_blurred_X9_isWord : GoodIn wsX9_blurred (wsV RX9 212 RX9 yX9_isWord wsX9_isWord) := goodIn_app (goodIn_of _ (by decide +kernel)) ggX9_blurred_X9_isWord
set_option maxRecDepth 20000 in
theorem ggX9_blurred_X9_isBlur : GoodIn wsX9_blurred wsX9_isBlur := goodIn_r _ [14, 15, 9, 10, 6, 11] (by decide +kernel) (by decide +kernel)
set_option maxRecDepth 20000 in
theorem gX9_blurred_X9_isBlur : GoodIn wsX9_blurred (va_wsS RX9 223 yX9_isBlur wsX9_isBlur) := goodIn_app (goodIn_of _ (by decide +kernel)) ggX9_blurred_X9_isBlur
set_option maxRecDepth 20000 in
theorem ggX9_blurred_X9_rowOf : GoodIn wsX9_blurred wsX9_rowOf := goodIn_r _ [19, 20, 21, 22, 23, 24, 6, 25, 26, 27, 28, 29, 30, 31, 32, 33, 34, 35, 36, 37, 38, 39, 40, 41, 42, 43, 44, 45, 46, 47, 48, 49, 50, 51, 52, 53, 54, 55, 56, 57, 58, 59, 60, 61, 62, 63, 64, 65, 66, 67, 68, 69, 70, 71] (by decide +kernel) (by decide +kernel)
set_option maxRecDepth 20000 in
theorem gX9_blurred_X9_rowOf : GoodIn wsX9_blurred (wsV RX9 202 RX9 yX9_rowOf wsX9_rowOf) := goodIn_app (goodIn_of _ (by decide +kernel)) ggX9_blurred_X9_rowOf
theorem dX9_blurred_0 : decode cX9_blurred 0 = .ok (.aload_n 0, 1) := by decide +kernel
theorem dX9_blurred_1 : decode cX9_blurred 1 = .ok (.iload_n 1, 1) := by decide +kernel
theorem dX9_blurred_2 : decode cX9_blurred 2 = .ok (.invokevirtual 212, 3) := by decide +kernel
theorem dX9_blurred_5 : decode cX9_blurred 5 = .ok (.ifCond .eq 14, 3) := by decide +kernel
theorem dX9_blurred_8 : decode cX9_blurred 8 = .ok (.iload_n 2, 1) := by decide +kernel
theorem dX9_blurred_9 : decode cX9_blurred 9 = .ok (.invokestatic 223, 3) := by decide +kernel
theorem dX9_blurred_12 : decode cX9_blurred 12 = .ok (.ifCond .eq 7, 3) := by decide +kernel
theorem dX9_blurred_15 : decode cX9_blurred 15 = .ok (.iload_n 3, 1) := by decide +kernel
theorem dX9_blurred_16 : decode cX9_blurred 16 = .ok (.ifCond .ge 5, 3) := by decide +kernel
theorem dX9_blurred_19 : decode cX9_blurred 19 = .ok (.iconst (-1), 1) := by decide +kernel
theorem dX9_blurred_20 : decode cX9_blurred 20 = .ok (.ireturn, 1) := by decide +kernel
theorem dX9_blurred_21 : decode cX9_blurred 21 = .ok (.aload_n 0, 1) := by decide +kernel
theorem dX9_blurred_22 : decode cX9_blurred 22 = .ok (.aload_n 0, 1) := by decide +kernel
theorem dX9_blurred_23 : decode cX9_blurred 23 = .ok (.iload_n 1, 1) := by decide +kernel
theorem dX9_blurred_24 : decode cX9_blurred 24 = .ok (.iload_n 2, 1) := by decide +kernel
theorem dX9_blurred_25 : decode cX9_blurred 25 = .ok (.aload_n 0, 1) := by decide +kernel
theorem dX9_blurred_26 : decode cX9_blurred 26 = .ok (.getfield 37, 3) := by decide +kernel
theorem dX9_blurred_29 : decode cX9_blurred 29 = .ok (.invokevirtual 202, 3) := by decide +kernel
theorem dX9_blurred_32 : decode cX9_blurred 32 = .ok (.putfield 206, 3) := by decide +kernel
theorem dX9_blurred_35 : decode cX9_blurred 35 = .ok (.iload_n 3, 1) := by decide +kernel
theorem dX9_blurred_36 : decode cX9_blurred 36 = .ok (.aload_n 0, 1) := by decide +kernel
theorem dX9_blurred_37 : decode cX9_blurred 37 = .ok (.getfield 206, 3) := by decide +kernel
theorem dX9_blurred_40 : decode cX9_blurred 40 = .ok (.if_icmp .ge 12, 3) := by decide +kernel
theorem dX9_blurred_43 : decode cX9_blurred 43 = .ok (.aload_n 0, 1) := by decide +kernel
theorem dX9_blurred_44 : decode cX9_blurred 44 = .ok (.getfield 37, 3) := by decide +kernel
theorem dX9_blurred_47 : decode cX9_blurred 47 = .ok (.iload_n 3, 1) := by decide +kernel
theorem dX9_blurred_48 : decode cX9_blurred 48 = .ok (.iaload, 1) := by decide +kernel
theorem dX9_blurred_49 : decode cX9_blurred 49 = .ok (.goto 5, 3) := by decide +kernel
theorem dX9_blurred_52 : decode cX9_blurred 52 = .ok (.bipush (-4), 2) := by decide +kernel
theorem dX9_blurred_54 : decode cX9_blurred 54 = .ok (.ireturn, 1) := by decide +kernel
set_option maxRecDepth 20000 in
theorem ggX9_apart_X9_isWord : GoodIn wsX9_apart wsX9_isWord := goodIn_r _ [5, 6, 7, 8, 4, 9, 32, 33, 34, 35, 36, 37, 38, 39, 40, 41, 42, 43, 44, 45, 46, 47, 48, 49, 50, 51, 52, 53, 54, 55, 56, 57, 58, 59, 60, 61, 62, 63, 64, 65, 66, 67, 68, 69, 70, 71, 72, 73, 74, 75, 76, 77] (by decide +kernel) (by decide +kernel)
set_option maxRecDepth 20000 in
theorem gX9_apart_X9_isWord : GoodIn wsX9_apart (wsV RX9 212 RX9 yX9_isWord wsX9_isWord) := goodIn_app (goodIn_of _ (by decide +kernel)) ggX9_apart_X9_isWord
set_option maxRecDepth 20000 in
theorem ggX9_apart_X9_isBlur : GoodIn wsX9_apart wsX9_isBlur := goodIn_r _ [12, 13, 7, 8, 4, 9] (by decide +kernel) (by decide +kernel)
set_option maxRecDepth 20000 in
theorem gX9_apart_X9_isBlur : GoodIn wsX9_apart (va_wsS RX9 223 yX9_isBlur wsX9_isBlur) := goodIn_app (goodIn_of _ (by decide +kernel)) ggX9_apart_X9_isBlur
set_option maxRecDepth 20000 in
theorem ggX9_apart_X9_areOne : GoodIn wsX9_apart wsX9_areOne := goodIn_r _ [17, 18, 19, 20, 21, 22, 23, 24, 4, 25, 26, 27, 28, 29, 30, 31, 32, 33, 34, 35, 36, 37, 38, 39, 40, 41, 42, 43, 44, 45, 46, 47, 48, 49, 50, 51, 52, 53, 54, 55, 56, 57, 58, 59, 60, 61, 62, 63, 64, 65, 66, 67, 68, 69, 70, 71, 72, 73, 74, 75, 76, 77] (by decide +kernel) (by decide +kernel)
set_option maxRecDepth 20000 in
theorem gX9_apart_X9_areOne : GoodIn wsX9_apart (wsV RX9 226 RX9 yX9_areOne wsX9_areOne) := goodIn_app (goodIn_of _ (by decide +kernel)) ggX9_apart_X9_areOne
theorem dX9_apart_0 : decode cX9_apart 0 = .ok (.aload_n 0, 1) := by decide +kernel
theorem dX9_apart_1 : decode cX9_apart 1 = .ok (.iload_n 1, 1) := by decide +kernel
theorem dX9_apart_2 : decode cX9_apart 2 = .ok (.invokevirtual 212, 3) := by decide +kernel
theorem dX9_apart_5 : decode cX9_apart 5 = .ok (.ifCond .eq 18, 3) := by decide +kernel
theorem dX9_apart_8 : decode cX9_apart 8 = .ok (.aload_n 0, 1) := by decide +kernel
theorem dX9_apart_9 : decode cX9_apart 9 = .ok (.iload_n 2, 1) := by decide +kernel
theorem dX9_apart_10 : decode cX9_apart 10 = .ok (.invokevirtual 212, 3) := by decide +kernel
theorem dX9_apart_13 : decode cX9_apart 13 = .ok (.ifCond .eq 10, 3) := by decide +kernel
theorem dX9_apart_16 : decode cX9_apart 16 = .ok (.iload_n 3, 1) := by decide +kernel
theorem dX9_apart_17 : decode cX9_apart 17 = .ok (.invokestatic 223, 3) := by decide +kernel
theorem dX9_apart_20 : decode cX9_apart 20 = .ok (.ifCond .ne 7, 3) := by decide +kernel
theorem dX9_apart_23 : decode cX9_apart 23 = .ok (.iconst (-1), 1) := by decide +kernel
theorem dX9_apart_24 : decode cX9_apart 24 = .ok (.goto 18, 3) := by decide +kernel
theorem dX9_apart_27 : decode cX9_apart 27 = .ok (.aload_n 0, 1) := by decide +kernel
theorem dX9_apart_28 : decode cX9_apart 28 = .ok (.iload_n 1, 1) := by decide +kernel
theorem dX9_apart_29 : decode cX9_apart 29 = .ok (.iload_n 2, 1) := by decide +kernel
theorem dX9_apart_30 : decode cX9_apart 30 = .ok (.iload_n 3, 1) := by decide +kernel
theorem dX9_apart_31 : decode cX9_apart 31 = .ok (.invokevirtual 226, 3) := by decide +kernel
theorem dX9_apart_34 : decode cX9_apart 34 = .ok (.ifCond .eq 7, 3) := by decide +kernel
theorem dX9_apart_37 : decode cX9_apart 37 = .ok (.iconst 0, 1) := by decide +kernel
theorem dX9_apart_38 : decode cX9_apart 38 = .ok (.goto 4, 3) := by decide +kernel
theorem dX9_apart_41 : decode cX9_apart 41 = .ok (.iconst 1, 1) := by decide +kernel
theorem dX9_apart_42 : decode cX9_apart 42 = .ok (.ireturn, 1) := by decide +kernel
set_option maxRecDepth 20000 in
theorem ggX9_until_X9_isWord : GoodIn wsX9_until wsX9_isWord := goodIn_r _ [5, 6, 7, 8, 4, 9, 28, 29, 30, 31, 32, 33, 34, 35, 36, 37, 38, 39, 40, 41, 42, 43, 44, 45, 46, 47, 48, 49, 50, 51, 52, 53, 54, 55, 56, 57, 58, 59, 60, 61, 62, 63, 64, 65, 66, 67, 68, 69, 70, 71, 72, 73] (by decide +kernel) (by decide +kernel)
set_option maxRecDepth 20000 in
theorem gX9_until_X9_isWord : GoodIn wsX9_until (wsV RX9 212 RX9 yX9_isWord wsX9_isWord) := goodIn_app (goodIn_of _ (by decide +kernel)) ggX9_until_X9_isWord
set_option maxRecDepth 20000 in
theorem ggX9_until_X9_areOne : GoodIn wsX9_until wsX9_areOne := goodIn_r _ [13, 14, 15, 16, 17, 18, 19, 20, 4, 21, 22, 23, 24, 25, 26, 27, 28, 29, 30, 31, 32, 33, 34, 35, 36, 37, 38, 39, 40, 41, 42, 43, 44, 45, 46, 47, 48, 49, 50, 51, 52, 53, 54, 55, 56, 57, 58, 59, 60, 61, 62, 63, 64, 65, 66, 67, 68, 69, 70, 71, 72, 73] (by decide +kernel) (by decide +kernel)
set_option maxRecDepth 20000 in
theorem gX9_until_X9_areOne : GoodIn wsX9_until (wsV RX9 226 RX9 yX9_areOne wsX9_areOne) := goodIn_app (goodIn_of _ (by decide +kernel)) ggX9_until_X9_areOne
theorem dX9_until_0 : decode cX9_until 0 = .ok (.aload_n 0, 1) := by decide +kernel
theorem dX9_until_1 : decode cX9_until 1 = .ok (.iload_n 1, 1) := by decide +kernel
theorem dX9_until_2 : decode cX9_until 2 = .ok (.invokevirtual 212, 3) := by decide +kernel
theorem dX9_until_5 : decode cX9_until 5 = .ok (.ifCond .eq 11, 3) := by decide +kernel
theorem dX9_until_8 : decode cX9_until 8 = .ok (.aload_n 0, 1) := by decide +kernel
theorem dX9_until_9 : decode cX9_until 9 = .ok (.iload_n 2, 1) := by decide +kernel
theorem dX9_until_10 : decode cX9_until 10 = .ok (.invokevirtual 212, 3) := by decide +kernel
theorem dX9_until_13 : decode cX9_until 13 = .ok (.ifCond .ne 5, 3) := by decide +kernel
theorem dX9_until_16 : decode cX9_until 16 = .ok (.iconst (-1), 1) := by decide +kernel
theorem dX9_until_17 : decode cX9_until 17 = .ok (.ireturn, 1) := by decide +kernel
theorem dX9_until_18 : decode cX9_until 18 = .ok (.iconst 0, 1) := by decide +kernel
theorem dX9_until_19 : decode cX9_until 19 = .ok (.istore_n 3, 1) := by decide +kernel
theorem dX9_until_20 : decode cX9_until 20 = .ok (.iload_n 3, 1) := by decide +kernel
theorem dX9_until_21 : decode cX9_until 21 = .ok (.iconst 5, 1) := by decide +kernel
theorem dX9_until_22 : decode cX9_until 22 = .ok (.if_icmp .gt 19, 3) := by decide +kernel
theorem dX9_until_25 : decode cX9_until 25 = .ok (.aload_n 0, 1) := by decide +kernel
theorem dX9_until_26 : decode cX9_until 26 = .ok (.iload_n 1, 1) := by decide +kernel
theorem dX9_until_27 : decode cX9_until 27 = .ok (.iload_n 2, 1) := by decide +kernel
theorem dX9_until_28 : decode cX9_until 28 = .ok (.iload_n 3, 1) := by decide +kernel
theorem dX9_until_29 : decode cX9_until 29 = .ok (.invokevirtual 226, 3) := by decide +kernel
theorem dX9_until_32 : decode cX9_until 32 = .ok (.ifCond .ne 9, 3) := by decide +kernel
theorem dX9_until_35 : decode cX9_until 35 = .ok (.iinc 3 1, 3) := by decide +kernel
theorem dX9_until_38 : decode cX9_until 38 = .ok (.goto (-18), 3) := by decide +kernel
theorem dX9_until_41 : decode cX9_until 41 = .ok (.iload_n 3, 1) := by decide +kernel
theorem dX9_until_42 : decode cX9_until 42 = .ok (.iconst 5, 1) := by decide +kernel
theorem dX9_until_43 : decode cX9_until 43 = .ok (.if_icmp .le 8, 3) := by decide +kernel
theorem dX9_until_46 : decode cX9_until 46 = .ok (.bipush (-4), 2) := by decide +kernel
theorem dX9_until_48 : decode cX9_until 48 = .ok (.goto 4, 3) := by decide +kernel
theorem dX9_until_51 : decode cX9_until 51 = .ok (.iload_n 3, 1) := by decide +kernel
theorem dX9_until_52 : decode cX9_until 52 = .ok (.ireturn, 1) := by decide +kernel
set_option maxRecDepth 20000 in
theorem ggX9_cut_X9_isAsk : GoodIn wsX9_cut wsX9_isAsk := goodIn_r _ [8, 9, 10, 11, 7, 12, 38, 39, 40, 41, 42, 43, 44, 45, 46, 47, 48, 49, 50, 51, 52, 53, 54, 55, 56, 57, 58, 59, 60, 61, 62, 63, 64, 65, 66, 67, 68, 69, 70, 71, 72, 73, 74, 75, 76, 77, 78, 79, 80, 81, 82, 83] (by decide +kernel) (by decide +kernel)
set_option maxRecDepth 20000 in
theorem gX9_cut_X9_isAsk : GoodIn wsX9_cut (wsV RX9 217 RX9 yX9_isAsk wsX9_isAsk) := goodIn_app (goodIn_of _ (by decide +kernel)) ggX9_cut_X9_isAsk
set_option maxRecDepth 20000 in
theorem ggX9_cut_X9_isBlur : GoodIn wsX9_cut wsX9_isBlur := goodIn_r _ [15, 16, 10, 11, 7, 12] (by decide +kernel) (by decide +kernel)
set_option maxRecDepth 20000 in
theorem gX9_cut_X9_isBlur : GoodIn wsX9_cut (va_wsS RX9 223 yX9_isBlur wsX9_isBlur) := goodIn_app (goodIn_of _ (by decide +kernel)) ggX9_cut_X9_isBlur
set_option maxRecDepth 20000 in
theorem ggX9_cut_X9_in : GoodIn wsX9_cut wsX9_in := goodIn_r _ [12] (by decide +kernel) (by decide +kernel)
set_option maxRecDepth 20000 in
theorem gX9_cut_X9_in : GoodIn wsX9_cut (va_wsS RX9 104 yX9_in wsX9_in) := goodIn_app (goodIn_of _ (by decide +kernel)) ggX9_cut_X9_in
set_option maxRecDepth 20000 in
theorem ggX9_cut_X9_areOne : GoodIn wsX9_cut wsX9_areOne := goodIn_r _ [20, 21, 22, 23, 24, 25, 26, 27, 7, 28, 29, 30, 31, 32, 33, 34, 38, 39, 40, 41, 42, 43, 44, 45, 46, 47, 48, 49, 50, 51, 52, 53, 54, 55, 56, 57, 58, 59, 60, 61, 62, 63, 64, 65, 66, 67, 68, 69, 70, 71, 72, 73, 74, 75, 76, 77, 78, 79, 80, 81, 82, 83] (by decide +kernel) (by decide +kernel)
set_option maxRecDepth 20000 in
theorem gX9_cut_X9_areOne : GoodIn wsX9_cut (wsV RX9 226 RX9 yX9_areOne wsX9_areOne) := goodIn_app (goodIn_of _ (by decide +kernel)) ggX9_cut_X9_areOne
set_option maxRecDepth 20000 in
theorem ggX9_cut_X9_bits : GoodIn wsX9_cut wsX9_bits := goodIn_r _ [37] (by decide +kernel) (by decide +kernel)
set_option maxRecDepth 20000 in
theorem gX9_cut_X9_bits : GoodIn wsX9_cut (va_wsS RX9 220 yX9_bits wsX9_bits) := goodIn_app (goodIn_of _ (by decide +kernel)) ggX9_cut_X9_bits
theorem dX9_cut_0 : decode cX9_cut 0 = .ok (.iload_n 1, 1) := by decide +kernel
theorem dX9_cut_1 : decode cX9_cut 1 = .ok (.bipush (-4), 2) := by decide +kernel
theorem dX9_cut_3 : decode cX9_cut 3 = .ok (.if_icmp .eq 11, 3) := by decide +kernel
theorem dX9_cut_6 : decode cX9_cut 6 = .ok (.aload_n 0, 1) := by decide +kernel
theorem dX9_cut_7 : decode cX9_cut 7 = .ok (.iload_n 1, 1) := by decide +kernel
theorem dX9_cut_8 : decode cX9_cut 8 = .ok (.invokevirtual 217, 3) := by decide +kernel
theorem dX9_cut_11 : decode cX9_cut 11 = .ok (.ifCond .eq 22, 3) := by decide +kernel
theorem dX9_cut_14 : decode cX9_cut 14 = .ok (.iload_n 2, 1) := by decide +kernel
theorem dX9_cut_15 : decode cX9_cut 15 = .ok (.invokestatic 223, 3) := by decide +kernel
theorem dX9_cut_18 : decode cX9_cut 18 = .ok (.ifCond .eq 15, 3) := by decide +kernel
theorem dX9_cut_21 : decode cX9_cut 21 = .ok (.iload_n 3, 1) := by decide +kernel
theorem dX9_cut_22 : decode cX9_cut 22 = .ok (.i2l, 1) := by decide +kernel
theorem dX9_cut_23 : decode cX9_cut 23 = .ok (.lconst 0, 1) := by decide +kernel
theorem dX9_cut_24 : decode cX9_cut 24 = .ok (.ldc2_w 230, 3) := by decide +kernel
theorem dX9_cut_27 : decode cX9_cut 27 = .ok (.invokestatic 104, 3) := by decide +kernel
theorem dX9_cut_30 : decode cX9_cut 30 = .ok (.ifCond .ne 5, 3) := by decide +kernel
theorem dX9_cut_33 : decode cX9_cut 33 = .ok (.iconst (-1), 1) := by decide +kernel
theorem dX9_cut_34 : decode cX9_cut 34 = .ok (.ireturn, 1) := by decide +kernel
theorem dX9_cut_35 : decode cX9_cut 35 = .ok (.iload_n 1, 1) := by decide +kernel
theorem dX9_cut_36 : decode cX9_cut 36 = .ok (.bipush (-4), 2) := by decide +kernel
theorem dX9_cut_38 : decode cX9_cut 38 = .ok (.if_icmp .ne 14, 3) := by decide +kernel
theorem dX9_cut_41 : decode cX9_cut 41 = .ok (.iconst 1, 1) := by decide +kernel
theorem dX9_cut_42 : decode cX9_cut 42 = .ok (.aload_n 0, 1) := by decide +kernel
theorem dX9_cut_43 : decode cX9_cut 43 = .ok (.getfield 186, 3) := by decide +kernel
theorem dX9_cut_46 : decode cX9_cut 46 = .ok (.ishl, 1) := by decide +kernel
theorem dX9_cut_47 : decode cX9_cut 47 = .ok (.iconst 1, 1) := by decide +kernel
theorem dX9_cut_48 : decode cX9_cut 48 = .ok (.isub, 1) := by decide +kernel
theorem dX9_cut_49 : decode cX9_cut 49 = .ok (.goto 9, 3) := by decide +kernel
theorem dX9_cut_52 : decode cX9_cut 52 = .ok (.aload_n 0, 1) := by decide +kernel
theorem dX9_cut_53 : decode cX9_cut 53 = .ok (.getfield 19, 3) := by decide +kernel
theorem dX9_cut_56 : decode cX9_cut 56 = .ok (.iload_n 1, 1) := by decide +kernel
theorem dX9_cut_57 : decode cX9_cut 57 = .ok (.iaload, 1) := by decide +kernel
theorem dX9_cut_58 : decode cX9_cut 58 = .ok (.istore 4, 2) := by decide +kernel
theorem dX9_cut_60 : decode cX9_cut 60 = .ok (.iconst 0, 1) := by decide +kernel
theorem dX9_cut_61 : decode cX9_cut 61 = .ok (.istore 5, 2) := by decide +kernel
theorem dX9_cut_63 : decode cX9_cut 63 = .ok (.iconst 0, 1) := by decide +kernel
theorem dX9_cut_64 : decode cX9_cut 64 = .ok (.istore 6, 2) := by decide +kernel
theorem dX9_cut_66 : decode cX9_cut 66 = .ok (.iconst 0, 1) := by decide +kernel
theorem dX9_cut_67 : decode cX9_cut 67 = .ok (.istore 7, 2) := by decide +kernel
theorem dX9_cut_69 : decode cX9_cut 69 = .ok (.iload 7, 2) := by decide +kernel
theorem dX9_cut_71 : decode cX9_cut 71 = .ok (.aload_n 0, 1) := by decide +kernel
theorem dX9_cut_72 : decode cX9_cut 72 = .ok (.getfield 186, 3) := by decide +kernel
theorem dX9_cut_75 : decode cX9_cut 75 = .ok (.if_icmp .ge 134, 3) := by decide +kernel
theorem dX9_cut_78 : decode cX9_cut 78 = .ok (.iload 4, 2) := by decide +kernel
theorem dX9_cut_80 : decode cX9_cut 80 = .ok (.iload 7, 2) := by decide +kernel
theorem dX9_cut_82 : decode cX9_cut 82 = .ok (.ishr, 1) := by decide +kernel
theorem dX9_cut_83 : decode cX9_cut 83 = .ok (.iconst 1, 1) := by decide +kernel
theorem dX9_cut_84 : decode cX9_cut 84 = .ok (.iand, 1) := by decide +kernel
theorem dX9_cut_85 : decode cX9_cut 85 = .ok (.iconst 1, 1) := by decide +kernel
theorem dX9_cut_86 : decode cX9_cut 86 = .ok (.if_icmp .ne 7, 3) := by decide +kernel
theorem dX9_cut_89 : decode cX9_cut 89 = .ok (.iconst 1, 1) := by decide +kernel
theorem dX9_cut_90 : decode cX9_cut 90 = .ok (.goto 4, 3) := by decide +kernel
theorem dX9_cut_93 : decode cX9_cut 93 = .ok (.iconst 0, 1) := by decide +kernel
theorem dX9_cut_94 : decode cX9_cut 94 = .ok (.istore 8, 2) := by decide +kernel
theorem dX9_cut_96 : decode cX9_cut 96 = .ok (.iconst 0, 1) := by decide +kernel
theorem dX9_cut_97 : decode cX9_cut 97 = .ok (.istore 9, 2) := by decide +kernel
theorem dX9_cut_99 : decode cX9_cut 99 = .ok (.iload 9, 2) := by decide +kernel
theorem dX9_cut_101 : decode cX9_cut 101 = .ok (.iload 7, 2) := by decide +kernel
theorem dX9_cut_103 : decode cX9_cut 103 = .ok (.if_icmp .ge 82, 3) := by decide +kernel
theorem dX9_cut_106 : decode cX9_cut 106 = .ok (.iload 4, 2) := by decide +kernel
theorem dX9_cut_108 : decode cX9_cut 108 = .ok (.iload 7, 2) := by decide +kernel
theorem dX9_cut_110 : decode cX9_cut 110 = .ok (.ishr, 1) := by decide +kernel
theorem dX9_cut_111 : decode cX9_cut 111 = .ok (.iconst 1, 1) := by decide +kernel
theorem dX9_cut_112 : decode cX9_cut 112 = .ok (.iand, 1) := by decide +kernel
theorem dX9_cut_113 : decode cX9_cut 113 = .ok (.iconst 1, 1) := by decide +kernel
theorem dX9_cut_114 : decode cX9_cut 114 = .ok (.if_icmp .ne 71, 3) := by decide +kernel
theorem dX9_cut_117 : decode cX9_cut 117 = .ok (.iload 4, 2) := by decide +kernel
theorem dX9_cut_119 : decode cX9_cut 119 = .ok (.iload 9, 2) := by decide +kernel
theorem dX9_cut_121 : decode cX9_cut 121 = .ok (.ishr, 1) := by decide +kernel
theorem dX9_cut_122 : decode cX9_cut 122 = .ok (.iconst 1, 1) := by decide +kernel
theorem dX9_cut_123 : decode cX9_cut 123 = .ok (.iand, 1) := by decide +kernel
theorem dX9_cut_124 : decode cX9_cut 124 = .ok (.iconst 1, 1) := by decide +kernel
theorem dX9_cut_125 : decode cX9_cut 125 = .ok (.if_icmp .ne 19, 3) := by decide +kernel
theorem dX9_cut_128 : decode cX9_cut 128 = .ok (.aload_n 0, 1) := by decide +kernel
theorem dX9_cut_129 : decode cX9_cut 129 = .ok (.iload 9, 2) := by decide +kernel
theorem dX9_cut_131 : decode cX9_cut 131 = .ok (.iload 7, 2) := by decide +kernel
theorem dX9_cut_133 : decode cX9_cut 133 = .ok (.iload_n 2, 1) := by decide +kernel
theorem dX9_cut_134 : decode cX9_cut 134 = .ok (.invokevirtual 226, 3) := by decide +kernel
theorem dX9_cut_137 : decode cX9_cut 137 = .ok (.ifCond .eq 7, 3) := by decide +kernel
theorem dX9_cut_140 : decode cX9_cut 140 = .ok (.iconst 1, 1) := by decide +kernel
theorem dX9_cut_141 : decode cX9_cut 141 = .ok (.goto 4, 3) := by decide +kernel
theorem dX9_cut_144 : decode cX9_cut 144 = .ok (.iconst 0, 1) := by decide +kernel
theorem dX9_cut_145 : decode cX9_cut 145 = .ok (.istore 10, 2) := by decide +kernel
theorem dX9_cut_147 : decode cX9_cut 147 = .ok (.iload 8, 2) := by decide +kernel
theorem dX9_cut_149 : decode cX9_cut 149 = .ok (.ifCond .eq 12, 3) := by decide +kernel
theorem dX9_cut_152 : decode cX9_cut 152 = .ok (.iload 10, 2) := by decide +kernel
theorem dX9_cut_154 : decode cX9_cut 154 = .ok (.ifCond .ne 7, 3) := by decide +kernel
theorem dX9_cut_157 : decode cX9_cut 157 = .ok (.iconst 1, 1) := by decide +kernel
theorem dX9_cut_158 : decode cX9_cut 158 = .ok (.goto 4, 3) := by decide +kernel
theorem dX9_cut_161 : decode cX9_cut 161 = .ok (.iconst 0, 1) := by decide +kernel
theorem dX9_cut_162 : decode cX9_cut 162 = .ok (.istore 8, 2) := by decide +kernel
theorem dX9_cut_164 : decode cX9_cut 164 = .ok (.iload 6, 2) := by decide +kernel
theorem dX9_cut_166 : decode cX9_cut 166 = .ok (.iload 10, 2) := by decide +kernel
theorem dX9_cut_168 : decode cX9_cut 168 = .ok (.ifCond .eq 7, 3) := by decide +kernel
theorem dX9_cut_171 : decode cX9_cut 171 = .ok (.iconst 1, 1) := by decide +kernel
theorem dX9_cut_172 : decode cX9_cut 172 = .ok (.goto 4, 3) := by decide +kernel
theorem dX9_cut_175 : decode cX9_cut 175 = .ok (.iconst 0, 1) := by decide +kernel
theorem dX9_cut_176 : decode cX9_cut 176 = .ok (.iadd, 1) := by decide +kernel
theorem dX9_cut_177 : decode cX9_cut 177 = .ok (.istore 6, 2) := by decide +kernel
theorem dX9_cut_179 : decode cX9_cut 179 = .ok (.iinc 9 1, 3) := by decide +kernel
theorem dX9_cut_182 : decode cX9_cut 182 = .ok (.goto (-83), 3) := by decide +kernel
theorem dX9_cut_185 : decode cX9_cut 185 = .ok (.iload 5, 2) := by decide +kernel
theorem dX9_cut_187 : decode cX9_cut 187 = .ok (.iload 8, 2) := by decide +kernel
theorem dX9_cut_189 : decode cX9_cut 189 = .ok (.ifCond .eq 10, 3) := by decide +kernel
theorem dX9_cut_192 : decode cX9_cut 192 = .ok (.iconst 1, 1) := by decide +kernel
theorem dX9_cut_193 : decode cX9_cut 193 = .ok (.iload 7, 2) := by decide +kernel
theorem dX9_cut_195 : decode cX9_cut 195 = .ok (.ishl, 1) := by decide +kernel
theorem dX9_cut_196 : decode cX9_cut 196 = .ok (.goto 4, 3) := by decide +kernel
theorem dX9_cut_199 : decode cX9_cut 199 = .ok (.iconst 0, 1) := by decide +kernel
theorem dX9_cut_200 : decode cX9_cut 200 = .ok (.ior, 1) := by decide +kernel
theorem dX9_cut_201 : decode cX9_cut 201 = .ok (.istore 5, 2) := by decide +kernel
theorem dX9_cut_203 : decode cX9_cut 203 = .ok (.iinc 7 1, 3) := by decide +kernel
theorem dX9_cut_206 : decode cX9_cut 206 = .ok (.goto (-137), 3) := by decide +kernel
theorem dX9_cut_209 : decode cX9_cut 209 = .ok (.iload_n 3, 1) := by decide +kernel
theorem dX9_cut_210 : decode cX9_cut 210 = .ok (.ifCond .ne 11, 3) := by decide +kernel
theorem dX9_cut_213 : decode cX9_cut 213 = .ok (.iload 5, 2) := by decide +kernel
theorem dX9_cut_215 : decode cX9_cut 215 = .ok (.invokestatic 220, 3) := by decide +kernel
theorem dX9_cut_218 : decode cX9_cut 218 = .ok (.goto 15, 3) := by decide +kernel
theorem dX9_cut_221 : decode cX9_cut 221 = .ok (.iload_n 3, 1) := by decide +kernel
theorem dX9_cut_222 : decode cX9_cut 222 = .ok (.iconst 1, 1) := by decide +kernel
theorem dX9_cut_223 : decode cX9_cut 223 = .ok (.if_icmp .ne 8, 3) := by decide +kernel
theorem dX9_cut_226 : decode cX9_cut 226 = .ok (.iload 5, 2) := by decide +kernel
theorem dX9_cut_228 : decode cX9_cut 228 = .ok (.goto 5, 3) := by decide +kernel
theorem dX9_cut_231 : decode cX9_cut 231 = .ok (.iload 6, 2) := by decide +kernel
theorem dX9_cut_233 : decode cX9_cut 233 = .ok (.ireturn, 1) := by decide +kernel
set_option maxRecDepth 20000 in
theorem ggX9_meaning_X9_areOne : GoodIn wsX9_meaning wsX9_areOne := goodIn_r _ [7, 8, 9, 10, 11, 12, 13, 14, 6, 15, 16, 17, 18, 19, 20, 21, 22, 23, 24, 25, 26, 27, 28, 29, 30, 31, 32, 33, 34, 35, 36, 37, 38, 39, 40, 41, 42, 43, 44, 45, 46, 47, 48, 49, 50, 51, 52, 53, 54, 55, 56, 57, 58, 59, 60, 61, 62, 63, 64, 65, 66, 67] (by decide +kernel) (by decide +kernel)
set_option maxRecDepth 20000 in
theorem gX9_meaning_X9_areOne : GoodIn wsX9_meaning (wsV RX9 226 RX9 yX9_areOne wsX9_areOne) := goodIn_app (goodIn_of _ (by decide +kernel)) ggX9_meaning_X9_areOne
theorem dX9_meaning_0 : decode cX9_meaning 0 = .ok (.iconst 0, 1) := by decide +kernel
theorem dX9_meaning_1 : decode cX9_meaning 1 = .ok (.istore 4, 2) := by decide +kernel
theorem dX9_meaning_3 : decode cX9_meaning 3 = .ok (.iconst 0, 1) := by decide +kernel
theorem dX9_meaning_4 : decode cX9_meaning 4 = .ok (.istore 5, 2) := by decide +kernel
theorem dX9_meaning_6 : decode cX9_meaning 6 = .ok (.iload 5, 2) := by decide +kernel
theorem dX9_meaning_8 : decode cX9_meaning 8 = .ok (.aload_n 0, 1) := by decide +kernel
theorem dX9_meaning_9 : decode cX9_meaning 9 = .ok (.getfield 186, 3) := by decide +kernel
theorem dX9_meaning_12 : decode cX9_meaning 12 = .ok (.if_icmp .ge 48, 3) := by decide +kernel
theorem dX9_meaning_15 : decode cX9_meaning 15 = .ok (.iload 4, 2) := by decide +kernel
theorem dX9_meaning_17 : decode cX9_meaning 17 = .ok (.aload_n 0, 1) := by decide +kernel
theorem dX9_meaning_18 : decode cX9_meaning 18 = .ok (.getfield 19, 3) := by decide +kernel
theorem dX9_meaning_21 : decode cX9_meaning 21 = .ok (.iload_n 1, 1) := by decide +kernel
theorem dX9_meaning_22 : decode cX9_meaning 22 = .ok (.iaload, 1) := by decide +kernel
theorem dX9_meaning_23 : decode cX9_meaning 23 = .ok (.iload 5, 2) := by decide +kernel
theorem dX9_meaning_25 : decode cX9_meaning 25 = .ok (.ishr, 1) := by decide +kernel
theorem dX9_meaning_26 : decode cX9_meaning 26 = .ok (.iconst 1, 1) := by decide +kernel
theorem dX9_meaning_27 : decode cX9_meaning 27 = .ok (.iand, 1) := by decide +kernel
theorem dX9_meaning_28 : decode cX9_meaning 28 = .ok (.iconst 1, 1) := by decide +kernel
theorem dX9_meaning_29 : decode cX9_meaning 29 = .ok (.if_icmp .ne 21, 3) := by decide +kernel
theorem dX9_meaning_32 : decode cX9_meaning 32 = .ok (.aload_n 0, 1) := by decide +kernel
theorem dX9_meaning_33 : decode cX9_meaning 33 = .ok (.iload 5, 2) := by decide +kernel
theorem dX9_meaning_35 : decode cX9_meaning 35 = .ok (.iload_n 2, 1) := by decide +kernel
theorem dX9_meaning_36 : decode cX9_meaning 36 = .ok (.iload_n 3, 1) := by decide +kernel
theorem dX9_meaning_37 : decode cX9_meaning 37 = .ok (.invokevirtual 226, 3) := by decide +kernel
theorem dX9_meaning_40 : decode cX9_meaning 40 = .ok (.ifCond .eq 10, 3) := by decide +kernel
theorem dX9_meaning_43 : decode cX9_meaning 43 = .ok (.iconst 1, 1) := by decide +kernel
theorem dX9_meaning_44 : decode cX9_meaning 44 = .ok (.iload 5, 2) := by decide +kernel
theorem dX9_meaning_46 : decode cX9_meaning 46 = .ok (.ishl, 1) := by decide +kernel
theorem dX9_meaning_47 : decode cX9_meaning 47 = .ok (.goto 4, 3) := by decide +kernel
theorem dX9_meaning_50 : decode cX9_meaning 50 = .ok (.iconst 0, 1) := by decide +kernel
theorem dX9_meaning_51 : decode cX9_meaning 51 = .ok (.ior, 1) := by decide +kernel
theorem dX9_meaning_52 : decode cX9_meaning 52 = .ok (.istore 4, 2) := by decide +kernel
theorem dX9_meaning_54 : decode cX9_meaning 54 = .ok (.iinc 5 1, 3) := by decide +kernel
theorem dX9_meaning_57 : decode cX9_meaning 57 = .ok (.goto (-51), 3) := by decide +kernel
theorem dX9_meaning_60 : decode cX9_meaning 60 = .ok (.iload 4, 2) := by decide +kernel
theorem dX9_meaning_62 : decode cX9_meaning 62 = .ok (.ireturn, 1) := by decide +kernel
set_option maxRecDepth 20000 in
theorem ggX9_fitsAsk_X9_isAsk : GoodIn wsX9_fitsAsk wsX9_isAsk := goodIn_r _ [6, 7, 8, 9, 5, 10, 16, 17, 18, 19, 20, 21, 22, 23, 24, 25, 26, 27, 28, 29, 30, 31, 32, 33, 34, 35, 36, 37, 38, 39, 40, 41, 42, 43, 44, 45, 46, 47, 48, 49, 50, 51, 52, 53, 54, 55, 56, 57, 58, 59, 60, 61] (by decide +kernel) (by decide +kernel)
set_option maxRecDepth 20000 in
theorem gX9_fitsAsk_X9_isAsk : GoodIn wsX9_fitsAsk (wsV RX9 217 RX9 yX9_isAsk wsX9_isAsk) := goodIn_app (goodIn_of _ (by decide +kernel)) ggX9_fitsAsk_X9_isAsk
set_option maxRecDepth 20000 in
theorem ggX9_fitsAsk_X9_isWord : GoodIn wsX9_fitsAsk wsX9_isWord := goodIn_r _ [14, 15, 8, 9, 5, 10, 16, 17, 18, 19, 20, 21, 22, 23, 24, 25, 26, 27, 28, 29, 30, 31, 32, 33, 34, 35, 36, 37, 38, 39, 40, 41, 42, 43, 44, 45, 46, 47, 48, 49, 50, 51, 52, 53, 54, 55, 56, 57, 58, 59, 60, 61] (by decide +kernel) (by decide +kernel)
set_option maxRecDepth 20000 in
theorem gX9_fitsAsk_X9_isWord : GoodIn wsX9_fitsAsk (wsV RX9 212 RX9 yX9_isWord wsX9_isWord) := goodIn_app (goodIn_of _ (by decide +kernel)) ggX9_fitsAsk_X9_isWord
theorem dX9_fitsAsk_0 : decode cX9_fitsAsk 0 = .ok (.aload_n 0, 1) := by decide +kernel
theorem dX9_fitsAsk_1 : decode cX9_fitsAsk 1 = .ok (.iload_n 1, 1) := by decide +kernel
theorem dX9_fitsAsk_2 : decode cX9_fitsAsk 2 = .ok (.invokevirtual 217, 3) := by decide +kernel
theorem dX9_fitsAsk_5 : decode cX9_fitsAsk 5 = .ok (.ifCond .eq 29, 3) := by decide +kernel
theorem dX9_fitsAsk_8 : decode cX9_fitsAsk 8 = .ok (.aload_n 0, 1) := by decide +kernel
theorem dX9_fitsAsk_9 : decode cX9_fitsAsk 9 = .ok (.iload_n 2, 1) := by decide +kernel
theorem dX9_fitsAsk_10 : decode cX9_fitsAsk 10 = .ok (.invokevirtual 212, 3) := by decide +kernel
theorem dX9_fitsAsk_13 : decode cX9_fitsAsk 13 = .ok (.ifCond .eq 21, 3) := by decide +kernel
theorem dX9_fitsAsk_16 : decode cX9_fitsAsk 16 = .ok (.aload_n 0, 1) := by decide +kernel
theorem dX9_fitsAsk_17 : decode cX9_fitsAsk 17 = .ok (.getfield 19, 3) := by decide +kernel
theorem dX9_fitsAsk_20 : decode cX9_fitsAsk 20 = .ok (.iload_n 1, 1) := by decide +kernel
theorem dX9_fitsAsk_21 : decode cX9_fitsAsk 21 = .ok (.iaload, 1) := by decide +kernel
theorem dX9_fitsAsk_22 : decode cX9_fitsAsk 22 = .ok (.iload_n 2, 1) := by decide +kernel
theorem dX9_fitsAsk_23 : decode cX9_fitsAsk 23 = .ok (.ishr, 1) := by decide +kernel
theorem dX9_fitsAsk_24 : decode cX9_fitsAsk 24 = .ok (.iconst 1, 1) := by decide +kernel
theorem dX9_fitsAsk_25 : decode cX9_fitsAsk 25 = .ok (.iand, 1) := by decide +kernel
theorem dX9_fitsAsk_26 : decode cX9_fitsAsk 26 = .ok (.iconst 1, 1) := by decide +kernel
theorem dX9_fitsAsk_27 : decode cX9_fitsAsk 27 = .ok (.if_icmp .ne 7, 3) := by decide +kernel
theorem dX9_fitsAsk_30 : decode cX9_fitsAsk 30 = .ok (.iconst 1, 1) := by decide +kernel
theorem dX9_fitsAsk_31 : decode cX9_fitsAsk 31 = .ok (.goto 4, 3) := by decide +kernel
theorem dX9_fitsAsk_34 : decode cX9_fitsAsk 34 = .ok (.iconst 0, 1) := by decide +kernel
theorem dX9_fitsAsk_35 : decode cX9_fitsAsk 35 = .ok (.ireturn, 1) := by decide +kernel
set_option maxRecDepth 20000 in
theorem ggX9_means_X9_isAsk : GoodIn wsX9_means wsX9_isAsk := goodIn_r _ [13, 14, 15, 16, 12, 17, 37, 38, 39, 40, 41, 42, 43, 44, 45, 46, 47, 48, 49, 50, 51, 52, 53, 54, 55, 56, 57, 58, 59, 60, 61, 62, 63, 64, 65, 66, 67, 68, 69, 70, 71, 72, 73, 74, 75, 76, 77, 78, 79, 80, 81, 82] (by decide +kernel) (by decide +kernel)
set_option maxRecDepth 20000 in
theorem gX9_means_X9_isAsk : GoodIn wsX9_means (wsV RX9 217 RX9 yX9_isAsk wsX9_isAsk) := goodIn_app (goodIn_of _ (by decide +kernel)) ggX9_means_X9_isAsk
set_option maxRecDepth 20000 in
theorem ggX9_means_X9_isBlur : GoodIn wsX9_means wsX9_isBlur := goodIn_r _ [20, 21, 15, 16, 12, 17] (by decide +kernel) (by decide +kernel)
set_option maxRecDepth 20000 in
theorem gX9_means_X9_isBlur : GoodIn wsX9_means (va_wsS RX9 223 yX9_isBlur wsX9_isBlur) := goodIn_app (goodIn_of _ (by decide +kernel)) ggX9_means_X9_isBlur
set_option maxRecDepth 20000 in
theorem ggX9_means_X9_isSheet : GoodIn wsX9_means wsX9_isSheet := goodIn_r _ [24, 25, 26, 15, 16, 12, 17] (by decide +kernel) (by decide +kernel)
set_option maxRecDepth 20000 in
theorem gX9_means_X9_isSheet : GoodIn wsX9_means (va_wsS RX9 232 yX9_isSheet wsX9_isSheet) := goodIn_app (goodIn_of _ (by decide +kernel)) ggX9_means_X9_isSheet
set_option maxRecDepth 20000 in
theorem ggX9_means_X9_in : GoodIn wsX9_means wsX9_in := goodIn_r _ [17] (by decide +kernel) (by decide +kernel)
set_option maxRecDepth 20000 in
theorem gX9_means_X9_in : GoodIn wsX9_means (va_wsS RX9 104 yX9_in wsX9_in) := goodIn_app (goodIn_of _ (by decide +kernel)) ggX9_means_X9_in
set_option maxRecDepth 20000 in
theorem ggX9_means_X9_rowOf : GoodIn wsX9_means wsX9_rowOf := goodIn_r _ [30, 31, 32, 33, 34, 35, 12, 36, 37, 38, 39, 40, 41, 42, 43, 44, 45, 46, 47, 48, 49, 50, 51, 52, 53, 54, 55, 56, 57, 58, 59, 60, 61, 62, 63, 64, 65, 66, 67, 68, 69, 70, 71, 72, 73, 74, 75, 76, 77, 78, 79, 80, 81, 82] (by decide +kernel) (by decide +kernel)
set_option maxRecDepth 20000 in
theorem gX9_means_X9_rowOf : GoodIn wsX9_means (wsV RX9 202 RX9 yX9_rowOf wsX9_rowOf) := goodIn_app (goodIn_of _ (by decide +kernel)) ggX9_means_X9_rowOf
theorem dX9_means_0 : decode cX9_means 0 = .ok (.aload_n 0, 1) := by decide +kernel
theorem dX9_means_1 : decode cX9_means 1 = .ok (.iload_n 1, 1) := by decide +kernel
theorem dX9_means_2 : decode cX9_means 2 = .ok (.invokevirtual 217, 3) := by decide +kernel
theorem dX9_means_5 : decode cX9_means 5 = .ok (.ifCond .eq 32, 3) := by decide +kernel
theorem dX9_means_8 : decode cX9_means 8 = .ok (.iload_n 2, 1) := by decide +kernel
theorem dX9_means_9 : decode cX9_means 9 = .ok (.invokestatic 223, 3) := by decide +kernel
theorem dX9_means_12 : decode cX9_means 12 = .ok (.ifCond .eq 25, 3) := by decide +kernel
theorem dX9_means_15 : decode cX9_means 15 = .ok (.iload_n 3, 1) := by decide +kernel
theorem dX9_means_16 : decode cX9_means 16 = .ok (.iload 4, 2) := by decide +kernel
theorem dX9_means_18 : decode cX9_means 18 = .ok (.invokestatic 232, 3) := by decide +kernel
theorem dX9_means_21 : decode cX9_means 21 = .ok (.ifCond .eq 16, 3) := by decide +kernel
theorem dX9_means_24 : decode cX9_means 24 = .ok (.iload 6, 2) := by decide +kernel
theorem dX9_means_26 : decode cX9_means 26 = .ok (.i2l, 1) := by decide +kernel
theorem dX9_means_27 : decode cX9_means 27 = .ok (.lconst 0, 1) := by decide +kernel
theorem dX9_means_28 : decode cX9_means 28 = .ok (.ldc2_w 236, 3) := by decide +kernel
theorem dX9_means_31 : decode cX9_means 31 = .ok (.invokestatic 104, 3) := by decide +kernel
theorem dX9_means_34 : decode cX9_means 34 = .ok (.ifCond .ne 5, 3) := by decide +kernel
theorem dX9_means_37 : decode cX9_means 37 = .ok (.iconst (-1), 1) := by decide +kernel
theorem dX9_means_38 : decode cX9_means 38 = .ok (.ireturn, 1) := by decide +kernel
theorem dX9_means_39 : decode cX9_means 39 = .ok (.aload_n 0, 1) := by decide +kernel
theorem dX9_means_40 : decode cX9_means 40 = .ok (.getfield 58, 3) := by decide +kernel
theorem dX9_means_43 : decode cX9_means 43 = .ok (.iload_n 3, 1) := by decide +kernel
theorem dX9_means_44 : decode cX9_means 44 = .ok (.iaload, 1) := by decide +kernel
theorem dX9_means_45 : decode cX9_means 45 = .ok (.iload 4, 2) := by decide +kernel
theorem dX9_means_47 : decode cX9_means 47 = .ok (.if_icmp .eq 22, 3) := by decide +kernel
theorem dX9_means_50 : decode cX9_means 50 = .ok (.aload_n 0, 1) := by decide +kernel
theorem dX9_means_51 : decode cX9_means 51 = .ok (.getfield 58, 3) := by decide +kernel
theorem dX9_means_54 : decode cX9_means 54 = .ok (.iload_n 3, 1) := by decide +kernel
theorem dX9_means_55 : decode cX9_means 55 = .ok (.iaload, 1) := by decide +kernel
theorem dX9_means_56 : decode cX9_means 56 = .ok (.bipush (-4), 2) := by decide +kernel
theorem dX9_means_58 : decode cX9_means 58 = .ok (.if_icmp .ne 8, 3) := by decide +kernel
theorem dX9_means_61 : decode cX9_means 61 = .ok (.bipush (-11), 2) := by decide +kernel
theorem dX9_means_63 : decode cX9_means 63 = .ok (.goto 5, 3) := by decide +kernel
theorem dX9_means_66 : decode cX9_means 66 = .ok (.bipush (-13), 2) := by decide +kernel
theorem dX9_means_68 : decode cX9_means 68 = .ok (.ireturn, 1) := by decide +kernel
theorem dX9_means_69 : decode cX9_means 69 = .ok (.iconst 0, 1) := by decide +kernel
theorem dX9_means_70 : decode cX9_means 70 = .ok (.istore 7, 2) := by decide +kernel
theorem dX9_means_72 : decode cX9_means 72 = .ok (.iload 7, 2) := by decide +kernel
theorem dX9_means_74 : decode cX9_means 74 = .ok (.iload 6, 2) := by decide +kernel
theorem dX9_means_76 : decode cX9_means 76 = .ok (.if_icmp .ge 35, 3) := by decide +kernel
theorem dX9_means_79 : decode cX9_means 79 = .ok (.iload 5, 2) := by decide +kernel
theorem dX9_means_81 : decode cX9_means 81 = .ok (.i2l, 1) := by decide +kernel
theorem dX9_means_82 : decode cX9_means 82 = .ok (.iload 7, 2) := by decide +kernel
theorem dX9_means_84 : decode cX9_means 84 = .ok (.i2l, 1) := by decide +kernel
theorem dX9_means_85 : decode cX9_means 85 = .ok (.ladd, 1) := by decide +kernel
theorem dX9_means_86 : decode cX9_means 86 = .ok (.lconst 0, 1) := by decide +kernel
theorem dX9_means_87 : decode cX9_means 87 = .ok (.aload_n 0, 1) := by decide +kernel
theorem dX9_means_88 : decode cX9_means 88 = .ok (.getfield 61, 3) := by decide +kernel
theorem dX9_means_91 : decode cX9_means 91 = .ok (.iload_n 3, 1) := by decide +kernel
theorem dX9_means_92 : decode cX9_means 92 = .ok (.iaload, 1) := by decide +kernel
theorem dX9_means_93 : decode cX9_means 93 = .ok (.iconst 1, 1) := by decide +kernel
theorem dX9_means_94 : decode cX9_means 94 = .ok (.isub, 1) := by decide +kernel
theorem dX9_means_95 : decode cX9_means 95 = .ok (.i2l, 1) := by decide +kernel
theorem dX9_means_96 : decode cX9_means 96 = .ok (.invokestatic 104, 3) := by decide +kernel
theorem dX9_means_99 : decode cX9_means 99 = .ok (.ifCond .ne 6, 3) := by decide +kernel
theorem dX9_means_102 : decode cX9_means 102 = .ok (.bipush (-12), 2) := by decide +kernel
theorem dX9_means_104 : decode cX9_means 104 = .ok (.ireturn, 1) := by decide +kernel
theorem dX9_means_105 : decode cX9_means 105 = .ok (.iinc 7 1, 3) := by decide +kernel
theorem dX9_means_108 : decode cX9_means 108 = .ok (.goto (-36), 3) := by decide +kernel
theorem dX9_means_111 : decode cX9_means 111 = .ok (.iconst 0, 1) := by decide +kernel
theorem dX9_means_112 : decode cX9_means 112 = .ok (.istore 7, 2) := by decide +kernel
theorem dX9_means_114 : decode cX9_means 114 = .ok (.iconst 0, 1) := by decide +kernel
theorem dX9_means_115 : decode cX9_means 115 = .ok (.istore 8, 2) := by decide +kernel
theorem dX9_means_117 : decode cX9_means 117 = .ok (.iload 8, 2) := by decide +kernel
theorem dX9_means_119 : decode cX9_means 119 = .ok (.aload_n 0, 1) := by decide +kernel
theorem dX9_means_120 : decode cX9_means 120 = .ok (.getfield 186, 3) := by decide +kernel
theorem dX9_means_123 : decode cX9_means 123 = .ok (.if_icmp .ge 126, 3) := by decide +kernel
theorem dX9_means_126 : decode cX9_means 126 = .ok (.aload_n 0, 1) := by decide +kernel
theorem dX9_means_127 : decode cX9_means 127 = .ok (.aload_n 0, 1) := by decide +kernel
theorem dX9_means_128 : decode cX9_means 128 = .ok (.iload 8, 2) := by decide +kernel
theorem dX9_means_130 : decode cX9_means 130 = .ok (.iload_n 2, 1) := by decide +kernel
theorem dX9_means_131 : decode cX9_means 131 = .ok (.aload_n 0, 1) := by decide +kernel
theorem dX9_means_132 : decode cX9_means 132 = .ok (.getfield 37, 3) := by decide +kernel
theorem dX9_means_135 : decode cX9_means 135 = .ok (.invokevirtual 202, 3) := by decide +kernel
theorem dX9_means_138 : decode cX9_means 138 = .ok (.putfield 206, 3) := by decide +kernel
theorem dX9_means_141 : decode cX9_means 141 = .ok (.aload_n 0, 1) := by decide +kernel
theorem dX9_means_142 : decode cX9_means 142 = .ok (.getfield 19, 3) := by decide +kernel
theorem dX9_means_145 : decode cX9_means 145 = .ok (.iload_n 1, 1) := by decide +kernel
theorem dX9_means_146 : decode cX9_means 146 = .ok (.iaload, 1) := by decide +kernel
theorem dX9_means_147 : decode cX9_means 147 = .ok (.iload 8, 2) := by decide +kernel
theorem dX9_means_149 : decode cX9_means 149 = .ok (.ishr, 1) := by decide +kernel
theorem dX9_means_150 : decode cX9_means 150 = .ok (.iconst 1, 1) := by decide +kernel
theorem dX9_means_151 : decode cX9_means 151 = .ok (.iand, 1) := by decide +kernel
theorem dX9_means_152 : decode cX9_means 152 = .ok (.iconst 1, 1) := by decide +kernel
theorem dX9_means_153 : decode cX9_means 153 = .ok (.if_icmp .ne 16, 3) := by decide +kernel
theorem dX9_means_156 : decode cX9_means 156 = .ok (.aload_n 0, 1) := by decide +kernel
theorem dX9_means_157 : decode cX9_means 157 = .ok (.getfield 206, 3) := by decide +kernel
theorem dX9_means_160 : decode cX9_means 160 = .ok (.iload 6, 2) := by decide +kernel
theorem dX9_means_162 : decode cX9_means 162 = .ok (.if_icmp .ne 7, 3) := by decide +kernel
theorem dX9_means_165 : decode cX9_means 165 = .ok (.iconst 1, 1) := by decide +kernel
theorem dX9_means_166 : decode cX9_means 166 = .ok (.goto 4, 3) := by decide +kernel
theorem dX9_means_169 : decode cX9_means 169 = .ok (.iconst 0, 1) := by decide +kernel
theorem dX9_means_170 : decode cX9_means 170 = .ok (.istore 9, 2) := by decide +kernel
theorem dX9_means_172 : decode cX9_means 172 = .ok (.iconst 0, 1) := by decide +kernel
theorem dX9_means_173 : decode cX9_means 173 = .ok (.istore 10, 2) := by decide +kernel
theorem dX9_means_175 : decode cX9_means 175 = .ok (.iload 10, 2) := by decide +kernel
theorem dX9_means_177 : decode cX9_means 177 = .ok (.iload 6, 2) := by decide +kernel
theorem dX9_means_179 : decode cX9_means 179 = .ok (.if_icmp .ge 46, 3) := by decide +kernel
theorem dX9_means_182 : decode cX9_means 182 = .ok (.iload 9, 2) := by decide +kernel
theorem dX9_means_184 : decode cX9_means 184 = .ok (.ifCond .eq 41, 3) := by decide +kernel
theorem dX9_means_187 : decode cX9_means 187 = .ok (.aload_n 0, 1) := by decide +kernel
theorem dX9_means_188 : decode cX9_means 188 = .ok (.getfield 37, 3) := by decide +kernel
theorem dX9_means_191 : decode cX9_means 191 = .ok (.iload 10, 2) := by decide +kernel
theorem dX9_means_193 : decode cX9_means 193 = .ok (.iaload, 1) := by decide +kernel
theorem dX9_means_194 : decode cX9_means 194 = .ok (.aload_n 0, 1) := by decide +kernel
theorem dX9_means_195 : decode cX9_means 195 = .ok (.getfield 64, 3) := by decide +kernel
theorem dX9_means_198 : decode cX9_means 198 = .ok (.bipush 60, 2) := by decide +kernel
theorem dX9_means_200 : decode cX9_means 200 = .ok (.iload_n 3, 1) := by decide +kernel
theorem dX9_means_201 : decode cX9_means 201 = .ok (.imul, 1) := by decide +kernel
theorem dX9_means_202 : decode cX9_means 202 = .ok (.iload 5, 2) := by decide +kernel
theorem dX9_means_204 : decode cX9_means 204 = .ok (.iadd, 1) := by decide +kernel
theorem dX9_means_205 : decode cX9_means 205 = .ok (.iload 10, 2) := by decide +kernel
theorem dX9_means_207 : decode cX9_means 207 = .ok (.iadd, 1) := by decide +kernel
theorem dX9_means_208 : decode cX9_means 208 = .ok (.iaload, 1) := by decide +kernel
theorem dX9_means_209 : decode cX9_means 209 = .ok (.if_icmp .ne 7, 3) := by decide +kernel
theorem dX9_means_212 : decode cX9_means 212 = .ok (.iconst 1, 1) := by decide +kernel
theorem dX9_means_213 : decode cX9_means 213 = .ok (.goto 4, 3) := by decide +kernel
theorem dX9_means_216 : decode cX9_means 216 = .ok (.iconst 0, 1) := by decide +kernel
theorem dX9_means_217 : decode cX9_means 217 = .ok (.istore 9, 2) := by decide +kernel
theorem dX9_means_219 : decode cX9_means 219 = .ok (.iinc 10 1, 3) := by decide +kernel
theorem dX9_means_222 : decode cX9_means 222 = .ok (.goto (-47), 3) := by decide +kernel
theorem dX9_means_225 : decode cX9_means 225 = .ok (.iload 7, 2) := by decide +kernel
theorem dX9_means_227 : decode cX9_means 227 = .ok (.iload 9, 2) := by decide +kernel
theorem dX9_means_229 : decode cX9_means 229 = .ok (.ifCond .eq 10, 3) := by decide +kernel
theorem dX9_means_232 : decode cX9_means 232 = .ok (.iconst 1, 1) := by decide +kernel
theorem dX9_means_233 : decode cX9_means 233 = .ok (.iload 8, 2) := by decide +kernel
theorem dX9_means_235 : decode cX9_means 235 = .ok (.ishl, 1) := by decide +kernel
theorem dX9_means_236 : decode cX9_means 236 = .ok (.goto 4, 3) := by decide +kernel
theorem dX9_means_239 : decode cX9_means 239 = .ok (.iconst 0, 1) := by decide +kernel
theorem dX9_means_240 : decode cX9_means 240 = .ok (.ior, 1) := by decide +kernel
theorem dX9_means_241 : decode cX9_means 241 = .ok (.istore 7, 2) := by decide +kernel
theorem dX9_means_243 : decode cX9_means 243 = .ok (.iinc 8 1, 3) := by decide +kernel
theorem dX9_means_246 : decode cX9_means 246 = .ok (.goto (-129), 3) := by decide +kernel
theorem dX9_means_249 : decode cX9_means 249 = .ok (.iload 7, 2) := by decide +kernel
theorem dX9_means_251 : decode cX9_means 251 = .ok (.ireturn, 1) := by decide +kernel
set_option maxRecDepth 20000 in
theorem ggX9_both_X9_fitsAsk : GoodIn wsX9_both wsX9_fitsAsk := goodIn_r _ [5, 6, 7, 8, 9, 4, 10, 11, 12, 13, 14, 15, 16, 17, 18, 19, 46, 47, 48, 49, 50, 51, 52, 53, 54, 55, 56, 57, 58, 59, 60, 61, 62, 63, 64, 65, 66, 67, 68, 69, 70, 71, 72, 73, 74, 75, 76, 77, 78, 79, 80, 81, 82, 83, 84, 85, 86, 87, 88, 89, 90, 91] (by decide +kernel) (by decide +kernel)
set_option maxRecDepth 20000 in
theorem gX9_both_X9_fitsAsk : GoodIn wsX9_both (wsV RX9 238 RX9 yX9_fitsAsk wsX9_fitsAsk) := goodIn_app (goodIn_of _ (by decide +kernel)) ggX9_both_X9_fitsAsk
set_option maxRecDepth 20000 in
theorem ggX9_both_X9_isBlur : GoodIn wsX9_both wsX9_isBlur := goodIn_r _ [22, 23, 12, 13, 4, 14] (by decide +kernel) (by decide +kernel)
set_option maxRecDepth 20000 in
theorem gX9_both_X9_isBlur : GoodIn wsX9_both (va_wsS RX9 223 yX9_isBlur wsX9_isBlur) := goodIn_app (goodIn_of _ (by decide +kernel)) ggX9_both_X9_isBlur
set_option maxRecDepth 20000 in
theorem ggX9_both_X9_meaning : GoodIn wsX9_both wsX9_meaning := goodIn_r _ [27, 19, 6, 28, 29, 30, 4, 31, 32, 33, 34, 35, 36, 37, 38, 39, 40, 41, 42, 43, 44, 45, 46, 47, 48, 49, 50, 51, 52, 53, 54, 55, 56, 57, 58, 59, 60, 61, 62, 63, 64, 65, 66, 67, 68, 69, 70, 71, 72, 73, 74, 75, 76, 77, 78, 79, 80, 81, 82, 83, 84, 85, 86, 87, 88, 89, 90, 91] (by decide +kernel) (by decide +kernel)
set_option maxRecDepth 20000 in
theorem gX9_both_X9_meaning : GoodIn wsX9_both (wsV RX9 241 RX9 yX9_meaning wsX9_meaning) := goodIn_app (goodIn_of _ (by decide +kernel)) ggX9_both_X9_meaning
theorem dX9_both_0 : decode cX9_both 0 = .ok (.aload_n 0, 1) := by decide +kernel
theorem dX9_both_1 : decode cX9_both 1 = .ok (.iload_n 1, 1) := by decide +kernel
theorem dX9_both_2 : decode cX9_both 2 = .ok (.iload_n 2, 1) := by decide +kernel
theorem dX9_both_3 : decode cX9_both 3 = .ok (.invokevirtual 238, 3) := by decide +kernel
theorem dX9_both_6 : decode cX9_both 6 = .ok (.ifCond .eq 37, 3) := by decide +kernel
theorem dX9_both_9 : decode cX9_both 9 = .ok (.iload_n 3, 1) := by decide +kernel
theorem dX9_both_10 : decode cX9_both 10 = .ok (.invokestatic 223, 3) := by decide +kernel
theorem dX9_both_13 : decode cX9_both 13 = .ok (.ifCond .eq 30, 3) := by decide +kernel
theorem dX9_both_16 : decode cX9_both 16 = .ok (.iload 4, 2) := by decide +kernel
theorem dX9_both_18 : decode cX9_both 18 = .ok (.invokestatic 223, 3) := by decide +kernel
theorem dX9_both_21 : decode cX9_both 21 = .ok (.ifCond .eq 22, 3) := by decide +kernel
theorem dX9_both_24 : decode cX9_both 24 = .ok (.aload_n 0, 1) := by decide +kernel
theorem dX9_both_25 : decode cX9_both 25 = .ok (.iload_n 1, 1) := by decide +kernel
theorem dX9_both_26 : decode cX9_both 26 = .ok (.iload_n 2, 1) := by decide +kernel
theorem dX9_both_27 : decode cX9_both 27 = .ok (.iload_n 3, 1) := by decide +kernel
theorem dX9_both_28 : decode cX9_both 28 = .ok (.invokevirtual 241, 3) := by decide +kernel
theorem dX9_both_31 : decode cX9_both 31 = .ok (.aload_n 0, 1) := by decide +kernel
theorem dX9_both_32 : decode cX9_both 32 = .ok (.iload_n 1, 1) := by decide +kernel
theorem dX9_both_33 : decode cX9_both 33 = .ok (.iload_n 2, 1) := by decide +kernel
theorem dX9_both_34 : decode cX9_both 34 = .ok (.iload 4, 2) := by decide +kernel
theorem dX9_both_36 : decode cX9_both 36 = .ok (.invokevirtual 241, 3) := by decide +kernel
theorem dX9_both_39 : decode cX9_both 39 = .ok (.iand, 1) := by decide +kernel
theorem dX9_both_40 : decode cX9_both 40 = .ok (.goto 4, 3) := by decide +kernel
theorem dX9_both_43 : decode cX9_both 43 = .ok (.iconst (-1), 1) := by decide +kernel
theorem dX9_both_44 : decode cX9_both 44 = .ok (.ireturn, 1) := by decide +kernel
set_option maxRecDepth 20000 in
theorem ggX9_sure_X9_fitsAsk : GoodIn wsX9_sure wsX9_fitsAsk := goodIn_r _ [5, 6, 7, 8, 9, 4, 10, 11, 12, 13, 14, 15, 16, 17, 18, 19, 42, 43, 44, 45, 46, 47, 48, 49, 50, 51, 52, 53, 54, 55, 56, 57, 58, 59, 60, 61, 62, 63, 64, 65, 66, 67, 68, 69, 70, 71, 72, 73, 74, 75, 76, 77, 78, 79, 80, 81, 82, 83, 84, 85, 86, 87] (by decide +kernel) (by decide +kernel)
set_option maxRecDepth 20000 in
theorem gX9_sure_X9_fitsAsk : GoodIn wsX9_sure (wsV RX9 238 RX9 yX9_fitsAsk wsX9_fitsAsk) := goodIn_app (goodIn_of _ (by decide +kernel)) ggX9_sure_X9_fitsAsk
set_option maxRecDepth 20000 in
theorem ggX9_sure_X9_meaning : GoodIn wsX9_sure wsX9_meaning := goodIn_r _ [23, 19, 6, 24, 25, 26, 4, 27, 28, 29, 30, 31, 32, 33, 34, 35, 36, 37, 38, 39, 40, 41, 42, 43, 44, 45, 46, 47, 48, 49, 50, 51, 52, 53, 54, 55, 56, 57, 58, 59, 60, 61, 62, 63, 64, 65, 66, 67, 68, 69, 70, 71, 72, 73, 74, 75, 76, 77, 78, 79, 80, 81, 82, 83, 84, 85, 86, 87] (by decide +kernel) (by decide +kernel)
set_option maxRecDepth 20000 in
theorem gX9_sure_X9_meaning : GoodIn wsX9_sure (wsV RX9 241 RX9 yX9_meaning wsX9_meaning) := goodIn_app (goodIn_of _ (by decide +kernel)) ggX9_sure_X9_meaning
theorem dX9_sure_0 : decode cX9_sure 0 = .ok (.aload_n 0, 1) := by decide +kernel
theorem dX9_sure_1 : decode cX9_sure 1 = .ok (.iload_n 1, 1) := by decide +kernel
theorem dX9_sure_2 : decode cX9_sure 2 = .ok (.iload_n 2, 1) := by decide +kernel
theorem dX9_sure_3 : decode cX9_sure 3 = .ok (.invokevirtual 238, 3) := by decide +kernel
theorem dX9_sure_6 : decode cX9_sure 6 = .ok (.ifCond .ne 5, 3) := by decide +kernel
theorem dX9_sure_9 : decode cX9_sure 9 = .ok (.iconst (-1), 1) := by decide +kernel
theorem dX9_sure_10 : decode cX9_sure 10 = .ok (.ireturn, 1) := by decide +kernel
theorem dX9_sure_11 : decode cX9_sure 11 = .ok (.bipush (-4), 2) := by decide +kernel
theorem dX9_sure_13 : decode cX9_sure 13 = .ok (.istore_n 3, 1) := by decide +kernel
theorem dX9_sure_14 : decode cX9_sure 14 = .ok (.iconst 0, 1) := by decide +kernel
theorem dX9_sure_15 : decode cX9_sure 15 = .ok (.istore 4, 2) := by decide +kernel
theorem dX9_sure_17 : decode cX9_sure 17 = .ok (.iload 4, 2) := by decide +kernel
theorem dX9_sure_19 : decode cX9_sure 19 = .ok (.iconst 5, 1) := by decide +kernel
theorem dX9_sure_20 : decode cX9_sure 20 = .ok (.if_icmp .gt 30, 3) := by decide +kernel
theorem dX9_sure_23 : decode cX9_sure 23 = .ok (.aload_n 0, 1) := by decide +kernel
theorem dX9_sure_24 : decode cX9_sure 24 = .ok (.iload_n 1, 1) := by decide +kernel
theorem dX9_sure_25 : decode cX9_sure 25 = .ok (.iload_n 2, 1) := by decide +kernel
theorem dX9_sure_26 : decode cX9_sure 26 = .ok (.iload 4, 2) := by decide +kernel
theorem dX9_sure_28 : decode cX9_sure 28 = .ok (.invokevirtual 241, 3) := by decide +kernel
theorem dX9_sure_31 : decode cX9_sure 31 = .ok (.iconst 1, 1) := by decide +kernel
theorem dX9_sure_32 : decode cX9_sure 32 = .ok (.iload_n 2, 1) := by decide +kernel
theorem dX9_sure_33 : decode cX9_sure 33 = .ok (.ishl, 1) := by decide +kernel
theorem dX9_sure_34 : decode cX9_sure 34 = .ok (.if_icmp .ne 8, 3) := by decide +kernel
theorem dX9_sure_37 : decode cX9_sure 37 = .ok (.iload 4, 2) := by decide +kernel
theorem dX9_sure_39 : decode cX9_sure 39 = .ok (.goto 4, 3) := by decide +kernel
theorem dX9_sure_42 : decode cX9_sure 42 = .ok (.iload_n 3, 1) := by decide +kernel
theorem dX9_sure_43 : decode cX9_sure 43 = .ok (.istore_n 3, 1) := by decide +kernel
theorem dX9_sure_44 : decode cX9_sure 44 = .ok (.iinc 4 1, 3) := by decide +kernel
theorem dX9_sure_47 : decode cX9_sure 47 = .ok (.goto (-30), 3) := by decide +kernel
theorem dX9_sure_50 : decode cX9_sure 50 = .ok (.iload_n 3, 1) := by decide +kernel
theorem dX9_sure_51 : decode cX9_sure 51 = .ok (.ireturn, 1) := by decide +kernel
set_option maxRecDepth 20000 in
theorem ggX9_isPlace_X9_in : GoodIn wsX9_isPlace wsX9_in := goodIn_r _ [5] (by decide +kernel) (by decide +kernel)
set_option maxRecDepth 20000 in
theorem gX9_isPlace_X9_in : GoodIn wsX9_isPlace (va_wsS RX9 104 yX9_in wsX9_in) := goodIn_app (goodIn_of _ (by decide +kernel)) ggX9_isPlace_X9_in
theorem dX9_isPlace_0 : decode cX9_isPlace 0 = .ok (.iload_n 1, 1) := by decide +kernel
theorem dX9_isPlace_1 : decode cX9_isPlace 1 = .ok (.i2l, 1) := by decide +kernel
theorem dX9_isPlace_2 : decode cX9_isPlace 2 = .ok (.lconst 0, 1) := by decide +kernel
theorem dX9_isPlace_3 : decode cX9_isPlace 3 = .ok (.aload_n 0, 1) := by decide +kernel
theorem dX9_isPlace_4 : decode cX9_isPlace 4 = .ok (.getfield 245, 3) := by decide +kernel
theorem dX9_isPlace_7 : decode cX9_isPlace 7 = .ok (.iconst 1, 1) := by decide +kernel
theorem dX9_isPlace_8 : decode cX9_isPlace 8 = .ok (.isub, 1) := by decide +kernel
theorem dX9_isPlace_9 : decode cX9_isPlace 9 = .ok (.i2l, 1) := by decide +kernel
theorem dX9_isPlace_10 : decode cX9_isPlace 10 = .ok (.invokestatic 104, 3) := by decide +kernel
theorem dX9_isPlace_13 : decode cX9_isPlace 13 = .ok (.ireturn, 1) := by decide +kernel
set_option maxRecDepth 20000 in
theorem ggX9_place_X9_in : GoodIn wsX9_place wsX9_in := goodIn_r _ [9] (by decide +kernel) (by decide +kernel)
set_option maxRecDepth 20000 in
theorem gX9_place_X9_in : GoodIn wsX9_place (va_wsS RX9 104 yX9_in wsX9_in) := goodIn_app (goodIn_of _ (by decide +kernel)) ggX9_place_X9_in
theorem dX9_place_0 : decode cX9_place 0 = .ok (.iload_n 1, 1) := by decide +kernel
theorem dX9_place_1 : decode cX9_place 1 = .ok (.i2l, 1) := by decide +kernel
theorem dX9_place_2 : decode cX9_place 2 = .ok (.lconst 0, 1) := by decide +kernel
theorem dX9_place_3 : decode cX9_place 3 = .ok (.ldc2_w 194, 3) := by decide +kernel
theorem dX9_place_6 : decode cX9_place 6 = .ok (.invokestatic 104, 3) := by decide +kernel
theorem dX9_place_9 : decode cX9_place 9 = .ok (.ifCond .eq 27, 3) := by decide +kernel
theorem dX9_place_12 : decode cX9_place 12 = .ok (.iload_n 2, 1) := by decide +kernel
theorem dX9_place_13 : decode cX9_place 13 = .ok (.i2l, 1) := by decide +kernel
theorem dX9_place_14 : decode cX9_place 14 = .ok (.lconst 0, 1) := by decide +kernel
theorem dX9_place_15 : decode cX9_place 15 = .ok (.ldc2_w 194, 3) := by decide +kernel
theorem dX9_place_18 : decode cX9_place 18 = .ok (.invokestatic 104, 3) := by decide +kernel
theorem dX9_place_21 : decode cX9_place 21 = .ok (.ifCond .eq 15, 3) := by decide +kernel
theorem dX9_place_24 : decode cX9_place 24 = .ok (.iload_n 3, 1) := by decide +kernel
theorem dX9_place_25 : decode cX9_place 25 = .ok (.i2l, 1) := by decide +kernel
theorem dX9_place_26 : decode cX9_place 26 = .ok (.lconst 0, 1) := by decide +kernel
theorem dX9_place_27 : decode cX9_place 27 = .ok (.ldc2_w 194, 3) := by decide +kernel
theorem dX9_place_30 : decode cX9_place 30 = .ok (.invokestatic 104, 3) := by decide +kernel
theorem dX9_place_33 : decode cX9_place 33 = .ok (.ifCond .ne 5, 3) := by decide +kernel
theorem dX9_place_36 : decode cX9_place 36 = .ok (.iconst (-1), 1) := by decide +kernel
theorem dX9_place_37 : decode cX9_place 37 = .ok (.ireturn, 1) := by decide +kernel
theorem dX9_place_38 : decode cX9_place 38 = .ok (.aload_n 0, 1) := by decide +kernel
theorem dX9_place_39 : decode cX9_place 39 = .ok (.getfield 245, 3) := by decide +kernel
theorem dX9_place_42 : decode cX9_place 42 = .ok (.bipush 10, 2) := by decide +kernel
theorem dX9_place_44 : decode cX9_place 44 = .ok (.if_icmp .ne 6, 3) := by decide +kernel
theorem dX9_place_47 : decode cX9_place 47 = .ok (.bipush (-3), 2) := by decide +kernel
theorem dX9_place_49 : decode cX9_place 49 = .ok (.ireturn, 1) := by decide +kernel
theorem dX9_place_50 : decode cX9_place 50 = .ok (.aload_n 0, 1) := by decide +kernel
theorem dX9_place_51 : decode cX9_place 51 = .ok (.getfield 43, 3) := by decide +kernel
theorem dX9_place_54 : decode cX9_place 54 = .ok (.aload_n 0, 1) := by decide +kernel
theorem dX9_place_55 : decode cX9_place 55 = .ok (.getfield 245, 3) := by decide +kernel
theorem dX9_place_58 : decode cX9_place 58 = .ok (.iload_n 1, 1) := by decide +kernel
theorem dX9_place_59 : decode cX9_place 59 = .ok (.iastore, 1) := by decide +kernel
theorem dX9_place_60 : decode cX9_place 60 = .ok (.aload_n 0, 1) := by decide +kernel
theorem dX9_place_61 : decode cX9_place 61 = .ok (.getfield 46, 3) := by decide +kernel
theorem dX9_place_64 : decode cX9_place 64 = .ok (.aload_n 0, 1) := by decide +kernel
theorem dX9_place_65 : decode cX9_place 65 = .ok (.getfield 245, 3) := by decide +kernel
theorem dX9_place_68 : decode cX9_place 68 = .ok (.iload_n 2, 1) := by decide +kernel
theorem dX9_place_69 : decode cX9_place 69 = .ok (.iastore, 1) := by decide +kernel
theorem dX9_place_70 : decode cX9_place 70 = .ok (.aload_n 0, 1) := by decide +kernel
theorem dX9_place_71 : decode cX9_place 71 = .ok (.getfield 49, 3) := by decide +kernel
theorem dX9_place_74 : decode cX9_place 74 = .ok (.aload_n 0, 1) := by decide +kernel
theorem dX9_place_75 : decode cX9_place 75 = .ok (.getfield 245, 3) := by decide +kernel
theorem dX9_place_78 : decode cX9_place 78 = .ok (.iload_n 3, 1) := by decide +kernel
theorem dX9_place_79 : decode cX9_place 79 = .ok (.iastore, 1) := by decide +kernel
theorem dX9_place_80 : decode cX9_place 80 = .ok (.aload_n 0, 1) := by decide +kernel
theorem dX9_place_81 : decode cX9_place 81 = .ok (.dup, 1) := by decide +kernel
theorem dX9_place_82 : decode cX9_place 82 = .ok (.getfield 245, 3) := by decide +kernel
theorem dX9_place_85 : decode cX9_place 85 = .ok (.iconst 1, 1) := by decide +kernel
theorem dX9_place_86 : decode cX9_place 86 = .ok (.iadd, 1) := by decide +kernel
theorem dX9_place_87 : decode cX9_place 87 = .ok (.putfield 245, 3) := by decide +kernel
theorem dX9_place_90 : decode cX9_place 90 = .ok (.aload_n 0, 1) := by decide +kernel
theorem dX9_place_91 : decode cX9_place 91 = .ok (.getfield 245, 3) := by decide +kernel
theorem dX9_place_94 : decode cX9_place 94 = .ok (.iconst 1, 1) := by decide +kernel
theorem dX9_place_95 : decode cX9_place 95 = .ok (.isub, 1) := by decide +kernel
theorem dX9_place_96 : decode cX9_place 96 = .ok (.ireturn, 1) := by decide +kernel
set_option maxRecDepth 20000 in
theorem ggX9_ridge_X9_in : GoodIn wsX9_ridge wsX9_in := goodIn_r _ [8] (by decide +kernel) (by decide +kernel)
set_option maxRecDepth 20000 in
theorem gX9_ridge_X9_in : GoodIn wsX9_ridge (va_wsS RX9 104 yX9_in wsX9_in) := goodIn_app (goodIn_of _ (by decide +kernel)) ggX9_ridge_X9_in
theorem dX9_ridge_0 : decode cX9_ridge 0 = .ok (.iload_n 1, 1) := by decide +kernel
theorem dX9_ridge_1 : decode cX9_ridge 1 = .ok (.i2l, 1) := by decide +kernel
theorem dX9_ridge_2 : decode cX9_ridge 2 = .ok (.lconst 0, 1) := by decide +kernel
theorem dX9_ridge_3 : decode cX9_ridge 3 = .ok (.ldc2_w 194, 3) := by decide +kernel
theorem dX9_ridge_6 : decode cX9_ridge 6 = .ok (.invokestatic 104, 3) := by decide +kernel
theorem dX9_ridge_9 : decode cX9_ridge 9 = .ok (.ifCond .eq 15, 3) := by decide +kernel
theorem dX9_ridge_12 : decode cX9_ridge 12 = .ok (.iload_n 2, 1) := by decide +kernel
theorem dX9_ridge_13 : decode cX9_ridge 13 = .ok (.i2l, 1) := by decide +kernel
theorem dX9_ridge_14 : decode cX9_ridge 14 = .ok (.lconst 0, 1) := by decide +kernel
theorem dX9_ridge_15 : decode cX9_ridge 15 = .ok (.ldc2_w 194, 3) := by decide +kernel
theorem dX9_ridge_18 : decode cX9_ridge 18 = .ok (.invokestatic 104, 3) := by decide +kernel
theorem dX9_ridge_21 : decode cX9_ridge 21 = .ok (.ifCond .ne 5, 3) := by decide +kernel
theorem dX9_ridge_24 : decode cX9_ridge 24 = .ok (.iconst (-1), 1) := by decide +kernel
theorem dX9_ridge_25 : decode cX9_ridge 25 = .ok (.ireturn, 1) := by decide +kernel
theorem dX9_ridge_26 : decode cX9_ridge 26 = .ok (.aload_n 0, 1) := by decide +kernel
theorem dX9_ridge_27 : decode cX9_ridge 27 = .ok (.getfield 248, 3) := by decide +kernel
theorem dX9_ridge_30 : decode cX9_ridge 30 = .ok (.bipush 6, 2) := by decide +kernel
theorem dX9_ridge_32 : decode cX9_ridge 32 = .ok (.if_icmp .ne 6, 3) := by decide +kernel
theorem dX9_ridge_35 : decode cX9_ridge 35 = .ok (.bipush (-3), 2) := by decide +kernel
theorem dX9_ridge_37 : decode cX9_ridge 37 = .ok (.ireturn, 1) := by decide +kernel
theorem dX9_ridge_38 : decode cX9_ridge 38 = .ok (.aload_n 0, 1) := by decide +kernel
theorem dX9_ridge_39 : decode cX9_ridge 39 = .ok (.getfield 52, 3) := by decide +kernel
theorem dX9_ridge_42 : decode cX9_ridge 42 = .ok (.aload_n 0, 1) := by decide +kernel
theorem dX9_ridge_43 : decode cX9_ridge 43 = .ok (.getfield 248, 3) := by decide +kernel
theorem dX9_ridge_46 : decode cX9_ridge 46 = .ok (.iload_n 1, 1) := by decide +kernel
theorem dX9_ridge_47 : decode cX9_ridge 47 = .ok (.iastore, 1) := by decide +kernel
theorem dX9_ridge_48 : decode cX9_ridge 48 = .ok (.aload_n 0, 1) := by decide +kernel
theorem dX9_ridge_49 : decode cX9_ridge 49 = .ok (.getfield 55, 3) := by decide +kernel
theorem dX9_ridge_52 : decode cX9_ridge 52 = .ok (.aload_n 0, 1) := by decide +kernel
theorem dX9_ridge_53 : decode cX9_ridge 53 = .ok (.getfield 248, 3) := by decide +kernel
theorem dX9_ridge_56 : decode cX9_ridge 56 = .ok (.iload_n 2, 1) := by decide +kernel
theorem dX9_ridge_57 : decode cX9_ridge 57 = .ok (.iastore, 1) := by decide +kernel
theorem dX9_ridge_58 : decode cX9_ridge 58 = .ok (.aload_n 0, 1) := by decide +kernel
theorem dX9_ridge_59 : decode cX9_ridge 59 = .ok (.dup, 1) := by decide +kernel
theorem dX9_ridge_60 : decode cX9_ridge 60 = .ok (.getfield 248, 3) := by decide +kernel
theorem dX9_ridge_63 : decode cX9_ridge 63 = .ok (.iconst 1, 1) := by decide +kernel
theorem dX9_ridge_64 : decode cX9_ridge 64 = .ok (.iadd, 1) := by decide +kernel
theorem dX9_ridge_65 : decode cX9_ridge 65 = .ok (.putfield 248, 3) := by decide +kernel
theorem dX9_ridge_68 : decode cX9_ridge 68 = .ok (.aload_n 0, 1) := by decide +kernel
theorem dX9_ridge_69 : decode cX9_ridge 69 = .ok (.getfield 248, 3) := by decide +kernel
theorem dX9_ridge_72 : decode cX9_ridge 72 = .ok (.ireturn, 1) := by decide +kernel
set_option maxRecDepth 20000 in
theorem ggX9_isSheet_X9_in : GoodIn wsX9_isSheet wsX9_in := goodIn_r _ [6] (by decide +kernel) (by decide +kernel)
set_option maxRecDepth 20000 in
theorem gX9_isSheet_X9_in : GoodIn wsX9_isSheet (va_wsS RX9 104 yX9_in wsX9_in) := goodIn_app (goodIn_of _ (by decide +kernel)) ggX9_isSheet_X9_in
theorem dX9_isSheet_0 : decode cX9_isSheet 0 = .ok (.iload_n 0, 1) := by decide +kernel
theorem dX9_isSheet_1 : decode cX9_isSheet 1 = .ok (.i2l, 1) := by decide +kernel
theorem dX9_isSheet_2 : decode cX9_isSheet 2 = .ok (.lconst 0, 1) := by decide +kernel
theorem dX9_isSheet_3 : decode cX9_isSheet 3 = .ok (.ldc2_w 151, 3) := by decide +kernel
theorem dX9_isSheet_6 : decode cX9_isSheet 6 = .ok (.invokestatic 104, 3) := by decide +kernel
theorem dX9_isSheet_9 : decode cX9_isSheet 9 = .ok (.ifCond .eq 19, 3) := by decide +kernel
theorem dX9_isSheet_12 : decode cX9_isSheet 12 = .ok (.iload_n 1, 1) := by decide +kernel
theorem dX9_isSheet_13 : decode cX9_isSheet 13 = .ok (.i2l, 1) := by decide +kernel
theorem dX9_isSheet_14 : decode cX9_isSheet 14 = .ok (.lconst 0, 1) := by decide +kernel
theorem dX9_isSheet_15 : decode cX9_isSheet 15 = .ok (.ldc2_w 230, 3) := by decide +kernel
theorem dX9_isSheet_18 : decode cX9_isSheet 18 = .ok (.invokestatic 104, 3) := by decide +kernel
theorem dX9_isSheet_21 : decode cX9_isSheet 21 = .ok (.ifCond .eq 7, 3) := by decide +kernel
theorem dX9_isSheet_24 : decode cX9_isSheet 24 = .ok (.iconst 1, 1) := by decide +kernel
theorem dX9_isSheet_25 : decode cX9_isSheet 25 = .ok (.goto 4, 3) := by decide +kernel
theorem dX9_isSheet_28 : decode cX9_isSheet 28 = .ok (.iconst 0, 1) := by decide +kernel
theorem dX9_isSheet_29 : decode cX9_isSheet 29 = .ok (.ireturn, 1) := by decide +kernel
set_option maxRecDepth 20000 in
theorem ggX9_sheet_X9_isSheet : GoodIn wsX9_sheet wsX9_isSheet := goodIn_r _ [7, 8, 9, 10, 11, 6, 12] (by decide +kernel) (by decide +kernel)
set_option maxRecDepth 20000 in
theorem gX9_sheet_X9_isSheet : GoodIn wsX9_sheet (va_wsS RX9 232 yX9_isSheet wsX9_isSheet) := goodIn_app (goodIn_of _ (by decide +kernel)) ggX9_sheet_X9_isSheet
theorem dX9_sheet_0 : decode cX9_sheet 0 = .ok (.iload_n 1, 1) := by decide +kernel
theorem dX9_sheet_1 : decode cX9_sheet 1 = .ok (.iload_n 2, 1) := by decide +kernel
theorem dX9_sheet_2 : decode cX9_sheet 2 = .ok (.invokestatic 232, 3) := by decide +kernel
theorem dX9_sheet_5 : decode cX9_sheet 5 = .ok (.ifCond .eq 9, 3) := by decide +kernel
theorem dX9_sheet_8 : decode cX9_sheet 8 = .ok (.iload_n 3, 1) := by decide +kernel
theorem dX9_sheet_9 : decode cX9_sheet 9 = .ok (.bipush 60, 2) := by decide +kernel
theorem dX9_sheet_11 : decode cX9_sheet 11 = .ok (.if_icmp .le 5, 3) := by decide +kernel
theorem dX9_sheet_14 : decode cX9_sheet 14 = .ok (.iconst (-1), 1) := by decide +kernel
theorem dX9_sheet_15 : decode cX9_sheet 15 = .ok (.ireturn, 1) := by decide +kernel
theorem dX9_sheet_16 : decode cX9_sheet 16 = .ok (.iload_n 3, 1) := by decide +kernel
theorem dX9_sheet_17 : decode cX9_sheet 17 = .ok (.ifCond .ge 6, 3) := by decide +kernel
theorem dX9_sheet_20 : decode cX9_sheet 20 = .ok (.bipush (-14), 2) := by decide +kernel
theorem dX9_sheet_22 : decode cX9_sheet 22 = .ok (.ireturn, 1) := by decide +kernel
theorem dX9_sheet_23 : decode cX9_sheet 23 = .ok (.aload_n 0, 1) := by decide +kernel
theorem dX9_sheet_24 : decode cX9_sheet 24 = .ok (.getfield 58, 3) := by decide +kernel
theorem dX9_sheet_27 : decode cX9_sheet 27 = .ok (.iload_n 1, 1) := by decide +kernel
theorem dX9_sheet_28 : decode cX9_sheet 28 = .ok (.iload_n 2, 1) := by decide +kernel
theorem dX9_sheet_29 : decode cX9_sheet 29 = .ok (.iastore, 1) := by decide +kernel
theorem dX9_sheet_30 : decode cX9_sheet 30 = .ok (.aload_n 0, 1) := by decide +kernel
theorem dX9_sheet_31 : decode cX9_sheet 31 = .ok (.getfield 61, 3) := by decide +kernel
theorem dX9_sheet_34 : decode cX9_sheet 34 = .ok (.iload_n 1, 1) := by decide +kernel
theorem dX9_sheet_35 : decode cX9_sheet 35 = .ok (.iload_n 3, 1) := by decide +kernel
theorem dX9_sheet_36 : decode cX9_sheet 36 = .ok (.iastore, 1) := by decide +kernel
theorem dX9_sheet_37 : decode cX9_sheet 37 = .ok (.iconst 0, 1) := by decide +kernel
theorem dX9_sheet_38 : decode cX9_sheet 38 = .ok (.istore 4, 2) := by decide +kernel
theorem dX9_sheet_40 : decode cX9_sheet 40 = .ok (.iload 4, 2) := by decide +kernel
theorem dX9_sheet_42 : decode cX9_sheet 42 = .ok (.bipush 60, 2) := by decide +kernel
theorem dX9_sheet_44 : decode cX9_sheet 44 = .ok (.if_icmp .ge 22, 3) := by decide +kernel
theorem dX9_sheet_47 : decode cX9_sheet 47 = .ok (.aload_n 0, 1) := by decide +kernel
theorem dX9_sheet_48 : decode cX9_sheet 48 = .ok (.getfield 64, 3) := by decide +kernel
theorem dX9_sheet_51 : decode cX9_sheet 51 = .ok (.bipush 60, 2) := by decide +kernel
theorem dX9_sheet_53 : decode cX9_sheet 53 = .ok (.iload_n 1, 1) := by decide +kernel
theorem dX9_sheet_54 : decode cX9_sheet 54 = .ok (.imul, 1) := by decide +kernel
theorem dX9_sheet_55 : decode cX9_sheet 55 = .ok (.iload 4, 2) := by decide +kernel
theorem dX9_sheet_57 : decode cX9_sheet 57 = .ok (.iadd, 1) := by decide +kernel
theorem dX9_sheet_58 : decode cX9_sheet 58 = .ok (.iconst 0, 1) := by decide +kernel
theorem dX9_sheet_59 : decode cX9_sheet 59 = .ok (.iastore, 1) := by decide +kernel
theorem dX9_sheet_60 : decode cX9_sheet 60 = .ok (.iinc 4 1, 3) := by decide +kernel
theorem dX9_sheet_63 : decode cX9_sheet 63 = .ok (.goto (-23), 3) := by decide +kernel
theorem dX9_sheet_66 : decode cX9_sheet 66 = .ok (.iconst 1, 1) := by decide +kernel
theorem dX9_sheet_67 : decode cX9_sheet 67 = .ok (.ireturn, 1) := by decide +kernel
set_option maxRecDepth 20000 in
theorem ggX9_lay_X9_isSheet : GoodIn wsX9_lay wsX9_isSheet := goodIn_r _ [7, 8, 9, 10, 11, 6, 12] (by decide +kernel) (by decide +kernel)
set_option maxRecDepth 20000 in
theorem gX9_lay_X9_isSheet : GoodIn wsX9_lay (va_wsS RX9 232 yX9_isSheet wsX9_isSheet) := goodIn_app (goodIn_of _ (by decide +kernel)) ggX9_lay_X9_isSheet
set_option maxRecDepth 20000 in
theorem ggX9_lay_X9_in : GoodIn wsX9_lay wsX9_in := goodIn_r _ [12] (by decide +kernel) (by decide +kernel)
set_option maxRecDepth 20000 in
theorem gX9_lay_X9_in : GoodIn wsX9_lay (va_wsS RX9 104 yX9_in wsX9_in) := goodIn_app (goodIn_of _ (by decide +kernel)) ggX9_lay_X9_in
theorem dX9_lay_0 : decode cX9_lay 0 = .ok (.iload_n 1, 1) := by decide +kernel
theorem dX9_lay_1 : decode cX9_lay 1 = .ok (.iconst 0, 1) := by decide +kernel
theorem dX9_lay_2 : decode cX9_lay 2 = .ok (.invokestatic 232, 3) := by decide +kernel
theorem dX9_lay_5 : decode cX9_lay 5 = .ok (.ifCond .ne 5, 3) := by decide +kernel
theorem dX9_lay_8 : decode cX9_lay 8 = .ok (.iconst (-1), 1) := by decide +kernel
theorem dX9_lay_9 : decode cX9_lay 9 = .ok (.ireturn, 1) := by decide +kernel
theorem dX9_lay_10 : decode cX9_lay 10 = .ok (.aload_n 0, 1) := by decide +kernel
theorem dX9_lay_11 : decode cX9_lay 11 = .ok (.getfield 58, 3) := by decide +kernel
theorem dX9_lay_14 : decode cX9_lay 14 = .ok (.iload_n 1, 1) := by decide +kernel
theorem dX9_lay_15 : decode cX9_lay 15 = .ok (.iaload, 1) := by decide +kernel
theorem dX9_lay_16 : decode cX9_lay 16 = .ok (.bipush (-4), 2) := by decide +kernel
theorem dX9_lay_18 : decode cX9_lay 18 = .ok (.if_icmp .ne 6, 3) := by decide +kernel
theorem dX9_lay_21 : decode cX9_lay 21 = .ok (.bipush (-11), 2) := by decide +kernel
theorem dX9_lay_23 : decode cX9_lay 23 = .ok (.ireturn, 1) := by decide +kernel
theorem dX9_lay_24 : decode cX9_lay 24 = .ok (.iload_n 2, 1) := by decide +kernel
theorem dX9_lay_25 : decode cX9_lay 25 = .ok (.i2l, 1) := by decide +kernel
theorem dX9_lay_26 : decode cX9_lay 26 = .ok (.lconst 0, 1) := by decide +kernel
theorem dX9_lay_27 : decode cX9_lay 27 = .ok (.aload_n 0, 1) := by decide +kernel
theorem dX9_lay_28 : decode cX9_lay 28 = .ok (.getfield 61, 3) := by decide +kernel
theorem dX9_lay_31 : decode cX9_lay 31 = .ok (.iload_n 1, 1) := by decide +kernel
theorem dX9_lay_32 : decode cX9_lay 32 = .ok (.iaload, 1) := by decide +kernel
theorem dX9_lay_33 : decode cX9_lay 33 = .ok (.iconst 1, 1) := by decide +kernel
theorem dX9_lay_34 : decode cX9_lay 34 = .ok (.isub, 1) := by decide +kernel
theorem dX9_lay_35 : decode cX9_lay 35 = .ok (.i2l, 1) := by decide +kernel
theorem dX9_lay_36 : decode cX9_lay 36 = .ok (.invokestatic 104, 3) := by decide +kernel
theorem dX9_lay_39 : decode cX9_lay 39 = .ok (.ifCond .ne 6, 3) := by decide +kernel
theorem dX9_lay_42 : decode cX9_lay 42 = .ok (.bipush (-12), 2) := by decide +kernel
theorem dX9_lay_44 : decode cX9_lay 44 = .ok (.ireturn, 1) := by decide +kernel
theorem dX9_lay_45 : decode cX9_lay 45 = .ok (.aload_n 0, 1) := by decide +kernel
theorem dX9_lay_46 : decode cX9_lay 46 = .ok (.getfield 64, 3) := by decide +kernel
theorem dX9_lay_49 : decode cX9_lay 49 = .ok (.bipush 60, 2) := by decide +kernel
theorem dX9_lay_51 : decode cX9_lay 51 = .ok (.iload_n 1, 1) := by decide +kernel
theorem dX9_lay_52 : decode cX9_lay 52 = .ok (.imul, 1) := by decide +kernel
theorem dX9_lay_53 : decode cX9_lay 53 = .ok (.iload_n 2, 1) := by decide +kernel
theorem dX9_lay_54 : decode cX9_lay 54 = .ok (.iadd, 1) := by decide +kernel
theorem dX9_lay_55 : decode cX9_lay 55 = .ok (.aload_n 0, 1) := by decide +kernel
theorem dX9_lay_56 : decode cX9_lay 56 = .ok (.getfield 58, 3) := by decide +kernel
theorem dX9_lay_59 : decode cX9_lay 59 = .ok (.iload_n 1, 1) := by decide +kernel
theorem dX9_lay_60 : decode cX9_lay 60 = .ok (.iaload, 1) := by decide +kernel
theorem dX9_lay_61 : decode cX9_lay 61 = .ok (.ifCond .ne 8, 3) := by decide +kernel
theorem dX9_lay_64 : decode cX9_lay 64 = .ok (.iload_n 3, 1) := by decide +kernel
theorem dX9_lay_65 : decode cX9_lay 65 = .ok (.i2b, 1) := by decide +kernel
theorem dX9_lay_66 : decode cX9_lay 66 = .ok (.goto 19, 3) := by decide +kernel
theorem dX9_lay_69 : decode cX9_lay 69 = .ok (.aload_n 0, 1) := by decide +kernel
theorem dX9_lay_70 : decode cX9_lay 70 = .ok (.getfield 58, 3) := by decide +kernel
theorem dX9_lay_73 : decode cX9_lay 73 = .ok (.iload_n 1, 1) := by decide +kernel
theorem dX9_lay_74 : decode cX9_lay 74 = .ok (.iaload, 1) := by decide +kernel
theorem dX9_lay_75 : decode cX9_lay 75 = .ok (.iconst 1, 1) := by decide +kernel
theorem dX9_lay_76 : decode cX9_lay 76 = .ok (.if_icmp .ne 8, 3) := by decide +kernel
theorem dX9_lay_79 : decode cX9_lay 79 = .ok (.iload_n 3, 1) := by decide +kernel
theorem dX9_lay_80 : decode cX9_lay 80 = .ok (.i2s, 1) := by decide +kernel
theorem dX9_lay_81 : decode cX9_lay 81 = .ok (.goto 4, 3) := by decide +kernel
theorem dX9_lay_84 : decode cX9_lay 84 = .ok (.iload_n 3, 1) := by decide +kernel
theorem dX9_lay_85 : decode cX9_lay 85 = .ok (.iastore, 1) := by decide +kernel
theorem dX9_lay_86 : decode cX9_lay 86 = .ok (.iconst 1, 1) := by decide +kernel
theorem dX9_lay_87 : decode cX9_lay 87 = .ok (.ireturn, 1) := by decide +kernel
theorem dX9_windFault_0 : decode cX9_windFault 0 = .ok (.aload_n 0, 1) := by decide +kernel
theorem dX9_windFault_1 : decode cX9_windFault 1 = .ok (.getfield 58, 3) := by decide +kernel
theorem dX9_windFault_4 : decode cX9_windFault 4 = .ok (.iconst 0, 1) := by decide +kernel
theorem dX9_windFault_5 : decode cX9_windFault 5 = .ok (.iaload, 1) := by decide +kernel
theorem dX9_windFault_6 : decode cX9_windFault 6 = .ok (.bipush (-4), 2) := by decide +kernel
theorem dX9_windFault_8 : decode cX9_windFault 8 = .ok (.if_icmp .ne 7, 3) := by decide +kernel
theorem dX9_windFault_11 : decode cX9_windFault 11 = .ok (.iconst 1, 1) := by decide +kernel
theorem dX9_windFault_12 : decode cX9_windFault 12 = .ok (.goto 31, 3) := by decide +kernel
theorem dX9_windFault_15 : decode cX9_windFault 15 = .ok (.aload_n 0, 1) := by decide +kernel
theorem dX9_windFault_16 : decode cX9_windFault 16 = .ok (.getfield 58, 3) := by decide +kernel
theorem dX9_windFault_19 : decode cX9_windFault 19 = .ok (.iconst 0, 1) := by decide +kernel
theorem dX9_windFault_20 : decode cX9_windFault 20 = .ok (.iaload, 1) := by decide +kernel
theorem dX9_windFault_21 : decode cX9_windFault 21 = .ok (.ifCond .eq 7, 3) := by decide +kernel
theorem dX9_windFault_24 : decode cX9_windFault 24 = .ok (.iconst 3, 1) := by decide +kernel
theorem dX9_windFault_25 : decode cX9_windFault 25 = .ok (.goto 18, 3) := by decide +kernel
theorem dX9_windFault_28 : decode cX9_windFault 28 = .ok (.iload_n 1, 1) := by decide +kernel
theorem dX9_windFault_29 : decode cX9_windFault 29 = .ok (.aload_n 0, 1) := by decide +kernel
theorem dX9_windFault_30 : decode cX9_windFault 30 = .ok (.getfield 61, 3) := by decide +kernel
theorem dX9_windFault_33 : decode cX9_windFault 33 = .ok (.iconst 0, 1) := by decide +kernel
theorem dX9_windFault_34 : decode cX9_windFault 34 = .ok (.iaload, 1) := by decide +kernel
theorem dX9_windFault_35 : decode cX9_windFault 35 = .ok (.if_icmp .lt 7, 3) := by decide +kernel
theorem dX9_windFault_38 : decode cX9_windFault 38 = .ok (.iconst 2, 1) := by decide +kernel
theorem dX9_windFault_39 : decode cX9_windFault 39 = .ok (.goto 4, 3) := by decide +kernel
theorem dX9_windFault_42 : decode cX9_windFault 42 = .ok (.iconst 0, 1) := by decide +kernel
theorem dX9_windFault_43 : decode cX9_windFault 43 = .ok (.ireturn, 1) := by decide +kernel
set_option maxRecDepth 20000 in
theorem ggX9_windOf_X9_windFault : GoodIn wsX9_windOf wsX9_windFault := goodIn_r _ [6, 7, 8, 9, 10, 11, 12, 13, 14, 15, 16, 17, 18, 19, 20, 21, 22, 23, 24, 25, 26, 27, 28, 29, 30, 31, 32, 33, 34, 35, 36, 37, 38, 39, 40, 41, 42, 43, 44, 45, 46, 47, 48, 49, 50, 51, 52, 53, 54] (by decide +kernel) (by decide +kernel)
set_option maxRecDepth 20000 in
theorem gX9_windOf_X9_windFault : GoodIn wsX9_windOf (wsV RX9 251 RX9 yX9_windFault wsX9_windFault) := goodIn_app (goodIn_of _ (by decide +kernel)) ggX9_windOf_X9_windFault
theorem dX9_windOf_0 : decode cX9_windOf 0 = .ok (.aload_n 0, 1) := by decide +kernel
theorem dX9_windOf_1 : decode cX9_windOf 1 = .ok (.getfield 64, 3) := by decide +kernel
theorem dX9_windOf_4 : decode cX9_windOf 4 = .ok (.iload_n 1, 1) := by decide +kernel
theorem dX9_windOf_5 : decode cX9_windOf 5 = .ok (.iaload, 1) := by decide +kernel
theorem dX9_windOf_6 : decode cX9_windOf 6 = .ok (.istore_n 2, 1) := by decide +kernel
theorem dX9_windOf_7 : decode cX9_windOf 7 = .ok (.aload_n 0, 1) := by decide +kernel
theorem dX9_windOf_8 : decode cX9_windOf 8 = .ok (.iload_n 1, 1) := by decide +kernel
theorem dX9_windOf_9 : decode cX9_windOf 9 = .ok (.invokevirtual 251, 3) := by decide +kernel
theorem dX9_windOf_12 : decode cX9_windOf 12 = .ok (.ifCond .le 8, 3) := by decide +kernel
theorem dX9_windOf_15 : decode cX9_windOf 15 = .ok (.bipush 9, 2) := by decide +kernel
theorem dX9_windOf_17 : decode cX9_windOf 17 = .ok (.goto 24, 3) := by decide +kernel
theorem dX9_windOf_20 : decode cX9_windOf 20 = .ok (.iload_n 2, 1) := by decide +kernel
theorem dX9_windOf_21 : decode cX9_windOf 21 = .ok (.iconst 2, 1) := by decide +kernel
theorem dX9_windOf_22 : decode cX9_windOf 22 = .ok (.if_icmp .le 7, 3) := by decide +kernel
theorem dX9_windOf_25 : decode cX9_windOf 25 = .ok (.iconst 2, 1) := by decide +kernel
theorem dX9_windOf_26 : decode cX9_windOf 26 = .ok (.goto 15, 3) := by decide +kernel
theorem dX9_windOf_29 : decode cX9_windOf 29 = .ok (.iload_n 2, 1) := by decide +kernel
theorem dX9_windOf_30 : decode cX9_windOf 30 = .ok (.bipush (-2), 2) := by decide +kernel
theorem dX9_windOf_32 : decode cX9_windOf 32 = .ok (.if_icmp .ge 8, 3) := by decide +kernel
theorem dX9_windOf_35 : decode cX9_windOf 35 = .ok (.bipush (-2), 2) := by decide +kernel
theorem dX9_windOf_37 : decode cX9_windOf 37 = .ok (.goto 4, 3) := by decide +kernel
theorem dX9_windOf_40 : decode cX9_windOf 40 = .ok (.iload_n 2, 1) := by decide +kernel
theorem dX9_windOf_41 : decode cX9_windOf 41 = .ok (.ireturn, 1) := by decide +kernel
set_option maxRecDepth 20000 in
theorem ggX9_wind_X9_in : GoodIn wsX9_wind wsX9_in := goodIn_r _ [5] (by decide +kernel) (by decide +kernel)
set_option maxRecDepth 20000 in
theorem gX9_wind_X9_in : GoodIn wsX9_wind (va_wsS RX9 104 yX9_in wsX9_in) := goodIn_app (goodIn_of _ (by decide +kernel)) ggX9_wind_X9_in
set_option maxRecDepth 20000 in
theorem ggX9_wind_X9_windOf : GoodIn wsX9_wind wsX9_windOf := goodIn_r _ [9, 10, 11, 12, 13, 4, 14, 15, 16, 17, 18, 19, 20, 21, 22, 23, 24, 25, 26, 27, 28, 29, 30, 31, 32, 33, 34, 35, 36, 37, 38, 39, 40, 41, 42, 43, 44, 45, 46, 47, 48, 49, 50, 51, 52, 53, 54, 55, 56, 57, 58, 59, 60, 61, 62] (by decide +kernel) (by decide +kernel)
set_option maxRecDepth 20000 in
theorem gX9_wind_X9_windOf : GoodIn wsX9_wind (wsV RX9 254 RX9 yX9_windOf wsX9_windOf) := goodIn_app (goodIn_of _ (by decide +kernel)) ggX9_wind_X9_windOf
set_option maxRecDepth 20000 in
theorem ggX9_wind_X9_windFault : GoodIn wsX9_wind wsX9_windFault := goodIn_r _ [14, 15, 16, 17, 18, 19, 20, 21, 22, 23, 24, 25, 26, 27, 28, 29, 30, 31, 32, 33, 34, 35, 36, 37, 38, 39, 40, 41, 42, 43, 44, 45, 46, 47, 48, 49, 50, 51, 52, 53, 54, 55, 56, 57, 58, 59, 60, 61, 62] (by decide +kernel) (by decide +kernel)
set_option maxRecDepth 20000 in
theorem gX9_wind_X9_windFault : GoodIn wsX9_wind (wsV RX9 251 RX9 yX9_windFault wsX9_windFault) := goodIn_app (goodIn_of _ (by decide +kernel)) ggX9_wind_X9_windFault
theorem dX9_wind_0 : decode cX9_wind 0 = .ok (.iload_n 1, 1) := by decide +kernel
theorem dX9_wind_1 : decode cX9_wind 1 = .ok (.i2l, 1) := by decide +kernel
theorem dX9_wind_2 : decode cX9_wind 2 = .ok (.lconst 0, 1) := by decide +kernel
theorem dX9_wind_3 : decode cX9_wind 3 = .ok (.ldc2_w 196, 3) := by decide +kernel
theorem dX9_wind_6 : decode cX9_wind 6 = .ok (.invokestatic 104, 3) := by decide +kernel
theorem dX9_wind_9 : decode cX9_wind 9 = .ok (.ifCond .eq 13, 3) := by decide +kernel
theorem dX9_wind_12 : decode cX9_wind 12 = .ok (.iload_n 2, 1) := by decide +kernel
theorem dX9_wind_13 : decode cX9_wind 13 = .ok (.i2l, 1) := by decide +kernel
theorem dX9_wind_14 : decode cX9_wind 14 = .ok (.lconst 0, 1) := by decide +kernel
theorem dX9_wind_15 : decode cX9_wind 15 = .ok (.lconst 1, 1) := by decide +kernel
theorem dX9_wind_16 : decode cX9_wind 16 = .ok (.invokestatic 104, 3) := by decide +kernel
theorem dX9_wind_19 : decode cX9_wind 19 = .ok (.ifCond .ne 8, 3) := by decide +kernel
theorem dX9_wind_22 : decode cX9_wind 22 = .ok (.bipush (-10), 2) := by decide +kernel
theorem dX9_wind_24 : decode cX9_wind 24 = .ok (.goto 20, 3) := by decide +kernel
theorem dX9_wind_27 : decode cX9_wind 27 = .ok (.iload_n 2, 1) := by decide +kernel
theorem dX9_wind_28 : decode cX9_wind 28 = .ok (.ifCond .ne 11, 3) := by decide +kernel
theorem dX9_wind_31 : decode cX9_wind 31 = .ok (.aload_n 0, 1) := by decide +kernel
theorem dX9_wind_32 : decode cX9_wind 32 = .ok (.iload_n 1, 1) := by decide +kernel
theorem dX9_wind_33 : decode cX9_wind 33 = .ok (.invokevirtual 254, 3) := by decide +kernel
theorem dX9_wind_36 : decode cX9_wind 36 = .ok (.goto 8, 3) := by decide +kernel
theorem dX9_wind_39 : decode cX9_wind 39 = .ok (.aload_n 0, 1) := by decide +kernel
theorem dX9_wind_40 : decode cX9_wind 40 = .ok (.iload_n 1, 1) := by decide +kernel
theorem dX9_wind_41 : decode cX9_wind 41 = .ok (.invokevirtual 251, 3) := by decide +kernel
theorem dX9_wind_44 : decode cX9_wind 44 = .ok (.ireturn, 1) := by decide +kernel
theorem dX9_plain_0 : decode cX9_plain 0 = .ok (.iload_n 0, 1) := by decide +kernel
theorem dX9_plain_1 : decode cX9_plain 1 = .ok (.ifCond .ge 8, 3) := by decide +kernel
theorem dX9_plain_4 : decode cX9_plain 4 = .ok (.iload_n 0, 1) := by decide +kernel
theorem dX9_plain_5 : decode cX9_plain 5 = .ok (.ineg, 1) := by decide +kernel
theorem dX9_plain_6 : decode cX9_plain 6 = .ok (.goto 4, 3) := by decide +kernel
theorem dX9_plain_9 : decode cX9_plain 9 = .ok (.iload_n 0, 1) := by decide +kernel
theorem dX9_plain_10 : decode cX9_plain 10 = .ok (.ireturn, 1) := by decide +kernel
set_option maxRecDepth 20000 in
theorem ggX9_blurOf_X9_plain : GoodIn wsX9_blurOf wsX9_plain := goodIn_r _ [10] (by decide +kernel) (by decide +kernel)
set_option maxRecDepth 20000 in
theorem gX9_blurOf_X9_plain : GoodIn wsX9_blurOf (va_wsS RX9 257 yX9_plain wsX9_plain) := goodIn_app (goodIn_of _ (by decide +kernel)) ggX9_blurOf_X9_plain
set_option maxRecDepth 20000 in
theorem ggX9_blurOf_X9_windOf : GoodIn wsX9_blurOf wsX9_windOf := goodIn_r _ [14, 15, 16, 17, 18, 9, 19, 20, 21, 22, 23, 24, 25, 26, 27, 28, 29, 30, 31, 32, 33, 34, 35, 36, 37, 38, 39, 40, 41, 42, 43, 44, 45, 46, 47, 48, 49, 50, 51, 52, 53, 54, 55, 56, 57, 58, 59, 60, 61, 62, 63, 64, 65, 66, 67] (by decide +kernel) (by decide +kernel)
set_option maxRecDepth 20000 in
theorem gX9_blurOf_X9_windOf : GoodIn wsX9_blurOf (wsV RX9 254 RX9 yX9_windOf wsX9_windOf) := goodIn_app (goodIn_of _ (by decide +kernel)) ggX9_blurOf_X9_windOf
theorem dX9_blurOf_0 : decode cX9_blurOf 0 = .ok (.iload_n 1, 1) := by decide +kernel
theorem dX9_blurOf_1 : decode cX9_blurOf 1 = .ok (.iload_n 2, 1) := by decide +kernel
theorem dX9_blurOf_2 : decode cX9_blurOf 2 = .ok (.if_icmp .ne 5, 3) := by decide +kernel
theorem dX9_blurOf_5 : decode cX9_blurOf 5 = .ok (.iconst 0, 1) := by decide +kernel
theorem dX9_blurOf_6 : decode cX9_blurOf 6 = .ok (.ireturn, 1) := by decide +kernel
theorem dX9_blurOf_7 : decode cX9_blurOf 7 = .ok (.aload_n 0, 1) := by decide +kernel
theorem dX9_blurOf_8 : decode cX9_blurOf 8 = .ok (.getfield 43, 3) := by decide +kernel
theorem dX9_blurOf_11 : decode cX9_blurOf 11 = .ok (.iload_n 1, 1) := by decide +kernel
theorem dX9_blurOf_12 : decode cX9_blurOf 12 = .ok (.iaload, 1) := by decide +kernel
theorem dX9_blurOf_13 : decode cX9_blurOf 13 = .ok (.aload_n 0, 1) := by decide +kernel
theorem dX9_blurOf_14 : decode cX9_blurOf 14 = .ok (.getfield 43, 3) := by decide +kernel
theorem dX9_blurOf_17 : decode cX9_blurOf 17 = .ok (.iload_n 2, 1) := by decide +kernel
theorem dX9_blurOf_18 : decode cX9_blurOf 18 = .ok (.iaload, 1) := by decide +kernel
theorem dX9_blurOf_19 : decode cX9_blurOf 19 = .ok (.isub, 1) := by decide +kernel
theorem dX9_blurOf_20 : decode cX9_blurOf 20 = .ok (.invokestatic 257, 3) := by decide +kernel
theorem dX9_blurOf_23 : decode cX9_blurOf 23 = .ok (.aload_n 0, 1) := by decide +kernel
theorem dX9_blurOf_24 : decode cX9_blurOf 24 = .ok (.getfield 46, 3) := by decide +kernel
theorem dX9_blurOf_27 : decode cX9_blurOf 27 = .ok (.iload_n 1, 1) := by decide +kernel
theorem dX9_blurOf_28 : decode cX9_blurOf 28 = .ok (.iaload, 1) := by decide +kernel
theorem dX9_blurOf_29 : decode cX9_blurOf 29 = .ok (.aload_n 0, 1) := by decide +kernel
theorem dX9_blurOf_30 : decode cX9_blurOf 30 = .ok (.getfield 46, 3) := by decide +kernel
theorem dX9_blurOf_33 : decode cX9_blurOf 33 = .ok (.iload_n 2, 1) := by decide +kernel
theorem dX9_blurOf_34 : decode cX9_blurOf 34 = .ok (.iaload, 1) := by decide +kernel
theorem dX9_blurOf_35 : decode cX9_blurOf 35 = .ok (.isub, 1) := by decide +kernel
theorem dX9_blurOf_36 : decode cX9_blurOf 36 = .ok (.invokestatic 257, 3) := by decide +kernel
theorem dX9_blurOf_39 : decode cX9_blurOf 39 = .ok (.iadd, 1) := by decide +kernel
theorem dX9_blurOf_40 : decode cX9_blurOf 40 = .ok (.bipush 20, 2) := by decide +kernel
theorem dX9_blurOf_42 : decode cX9_blurOf 42 = .ok (.idiv, 1) := by decide +kernel
theorem dX9_blurOf_43 : decode cX9_blurOf 43 = .ok (.istore 4, 2) := by decide +kernel
theorem dX9_blurOf_45 : decode cX9_blurOf 45 = .ok (.aload_n 0, 1) := by decide +kernel
theorem dX9_blurOf_46 : decode cX9_blurOf 46 = .ok (.getfield 43, 3) := by decide +kernel
theorem dX9_blurOf_49 : decode cX9_blurOf 49 = .ok (.iload_n 1, 1) := by decide +kernel
theorem dX9_blurOf_50 : decode cX9_blurOf 50 = .ok (.iaload, 1) := by decide +kernel
theorem dX9_blurOf_51 : decode cX9_blurOf 51 = .ok (.aload_n 0, 1) := by decide +kernel
theorem dX9_blurOf_52 : decode cX9_blurOf 52 = .ok (.getfield 43, 3) := by decide +kernel
theorem dX9_blurOf_55 : decode cX9_blurOf 55 = .ok (.iload_n 2, 1) := by decide +kernel
theorem dX9_blurOf_56 : decode cX9_blurOf 56 = .ok (.iaload, 1) := by decide +kernel
theorem dX9_blurOf_57 : decode cX9_blurOf 57 = .ok (.if_icmp .ge 12, 3) := by decide +kernel
theorem dX9_blurOf_60 : decode cX9_blurOf 60 = .ok (.aload_n 0, 1) := by decide +kernel
theorem dX9_blurOf_61 : decode cX9_blurOf 61 = .ok (.getfield 43, 3) := by decide +kernel
theorem dX9_blurOf_64 : decode cX9_blurOf 64 = .ok (.iload_n 1, 1) := by decide +kernel
theorem dX9_blurOf_65 : decode cX9_blurOf 65 = .ok (.iaload, 1) := by decide +kernel
theorem dX9_blurOf_66 : decode cX9_blurOf 66 = .ok (.goto 9, 3) := by decide +kernel
theorem dX9_blurOf_69 : decode cX9_blurOf 69 = .ok (.aload_n 0, 1) := by decide +kernel
theorem dX9_blurOf_70 : decode cX9_blurOf 70 = .ok (.getfield 43, 3) := by decide +kernel
theorem dX9_blurOf_73 : decode cX9_blurOf 73 = .ok (.iload_n 2, 1) := by decide +kernel
theorem dX9_blurOf_74 : decode cX9_blurOf 74 = .ok (.iaload, 1) := by decide +kernel
theorem dX9_blurOf_75 : decode cX9_blurOf 75 = .ok (.istore 5, 2) := by decide +kernel
theorem dX9_blurOf_77 : decode cX9_blurOf 77 = .ok (.aload_n 0, 1) := by decide +kernel
theorem dX9_blurOf_78 : decode cX9_blurOf 78 = .ok (.getfield 43, 3) := by decide +kernel
theorem dX9_blurOf_81 : decode cX9_blurOf 81 = .ok (.iload_n 1, 1) := by decide +kernel
theorem dX9_blurOf_82 : decode cX9_blurOf 82 = .ok (.iaload, 1) := by decide +kernel
theorem dX9_blurOf_83 : decode cX9_blurOf 83 = .ok (.aload_n 0, 1) := by decide +kernel
theorem dX9_blurOf_84 : decode cX9_blurOf 84 = .ok (.getfield 43, 3) := by decide +kernel
theorem dX9_blurOf_87 : decode cX9_blurOf 87 = .ok (.iload_n 2, 1) := by decide +kernel
theorem dX9_blurOf_88 : decode cX9_blurOf 88 = .ok (.iaload, 1) := by decide +kernel
theorem dX9_blurOf_89 : decode cX9_blurOf 89 = .ok (.if_icmp .ge 12, 3) := by decide +kernel
theorem dX9_blurOf_92 : decode cX9_blurOf 92 = .ok (.aload_n 0, 1) := by decide +kernel
theorem dX9_blurOf_93 : decode cX9_blurOf 93 = .ok (.getfield 43, 3) := by decide +kernel
theorem dX9_blurOf_96 : decode cX9_blurOf 96 = .ok (.iload_n 2, 1) := by decide +kernel
theorem dX9_blurOf_97 : decode cX9_blurOf 97 = .ok (.iaload, 1) := by decide +kernel
theorem dX9_blurOf_98 : decode cX9_blurOf 98 = .ok (.goto 9, 3) := by decide +kernel
theorem dX9_blurOf_101 : decode cX9_blurOf 101 = .ok (.aload_n 0, 1) := by decide +kernel
theorem dX9_blurOf_102 : decode cX9_blurOf 102 = .ok (.getfield 43, 3) := by decide +kernel
theorem dX9_blurOf_105 : decode cX9_blurOf 105 = .ok (.iload_n 1, 1) := by decide +kernel
theorem dX9_blurOf_106 : decode cX9_blurOf 106 = .ok (.iaload, 1) := by decide +kernel
theorem dX9_blurOf_107 : decode cX9_blurOf 107 = .ok (.istore 6, 2) := by decide +kernel
theorem dX9_blurOf_109 : decode cX9_blurOf 109 = .ok (.iconst 0, 1) := by decide +kernel
theorem dX9_blurOf_110 : decode cX9_blurOf 110 = .ok (.istore 7, 2) := by decide +kernel
theorem dX9_blurOf_112 : decode cX9_blurOf 112 = .ok (.iload 7, 2) := by decide +kernel
theorem dX9_blurOf_114 : decode cX9_blurOf 114 = .ok (.aload_n 0, 1) := by decide +kernel
theorem dX9_blurOf_115 : decode cX9_blurOf 115 = .ok (.getfield 248, 3) := by decide +kernel
theorem dX9_blurOf_118 : decode cX9_blurOf 118 = .ok (.if_icmp .ge 81, 3) := by decide +kernel
theorem dX9_blurOf_121 : decode cX9_blurOf 121 = .ok (.aload_n 0, 1) := by decide +kernel
theorem dX9_blurOf_122 : decode cX9_blurOf 122 = .ok (.getfield 52, 3) := by decide +kernel
theorem dX9_blurOf_125 : decode cX9_blurOf 125 = .ok (.iload 7, 2) := by decide +kernel
theorem dX9_blurOf_127 : decode cX9_blurOf 127 = .ok (.iaload, 1) := by decide +kernel
theorem dX9_blurOf_128 : decode cX9_blurOf 128 = .ok (.iload 5, 2) := by decide +kernel
theorem dX9_blurOf_130 : decode cX9_blurOf 130 = .ok (.if_icmp .le 63, 3) := by decide +kernel
theorem dX9_blurOf_133 : decode cX9_blurOf 133 = .ok (.aload_n 0, 1) := by decide +kernel
theorem dX9_blurOf_134 : decode cX9_blurOf 134 = .ok (.getfield 52, 3) := by decide +kernel
theorem dX9_blurOf_137 : decode cX9_blurOf 137 = .ok (.iload 7, 2) := by decide +kernel
theorem dX9_blurOf_139 : decode cX9_blurOf 139 = .ok (.iaload, 1) := by decide +kernel
theorem dX9_blurOf_140 : decode cX9_blurOf 140 = .ok (.iload 6, 2) := by decide +kernel
theorem dX9_blurOf_142 : decode cX9_blurOf 142 = .ok (.if_icmp .gt 51, 3) := by decide +kernel
theorem dX9_blurOf_145 : decode cX9_blurOf 145 = .ok (.iload 4, 2) := by decide +kernel
theorem dX9_blurOf_147 : decode cX9_blurOf 147 = .ok (.aload_n 0, 1) := by decide +kernel
theorem dX9_blurOf_148 : decode cX9_blurOf 148 = .ok (.getfield 55, 3) := by decide +kernel
theorem dX9_blurOf_151 : decode cX9_blurOf 151 = .ok (.iload 7, 2) := by decide +kernel
theorem dX9_blurOf_153 : decode cX9_blurOf 153 = .ok (.iaload, 1) := by decide +kernel
theorem dX9_blurOf_154 : decode cX9_blurOf 154 = .ok (.aload_n 0, 1) := by decide +kernel
theorem dX9_blurOf_155 : decode cX9_blurOf 155 = .ok (.getfield 49, 3) := by decide +kernel
theorem dX9_blurOf_158 : decode cX9_blurOf 158 = .ok (.iload_n 1, 1) := by decide +kernel
theorem dX9_blurOf_159 : decode cX9_blurOf 159 = .ok (.iaload, 1) := by decide +kernel
theorem dX9_blurOf_160 : decode cX9_blurOf 160 = .ok (.if_icmp .le 7, 3) := by decide +kernel
theorem dX9_blurOf_163 : decode cX9_blurOf 163 = .ok (.iconst 1, 1) := by decide +kernel
theorem dX9_blurOf_164 : decode cX9_blurOf 164 = .ok (.goto 4, 3) := by decide +kernel
theorem dX9_blurOf_167 : decode cX9_blurOf 167 = .ok (.iconst 0, 1) := by decide +kernel
theorem dX9_blurOf_168 : decode cX9_blurOf 168 = .ok (.aload_n 0, 1) := by decide +kernel
theorem dX9_blurOf_169 : decode cX9_blurOf 169 = .ok (.getfield 55, 3) := by decide +kernel
theorem dX9_blurOf_172 : decode cX9_blurOf 172 = .ok (.iload 7, 2) := by decide +kernel
theorem dX9_blurOf_174 : decode cX9_blurOf 174 = .ok (.iaload, 1) := by decide +kernel
theorem dX9_blurOf_175 : decode cX9_blurOf 175 = .ok (.aload_n 0, 1) := by decide +kernel
theorem dX9_blurOf_176 : decode cX9_blurOf 176 = .ok (.getfield 49, 3) := by decide +kernel
theorem dX9_blurOf_179 : decode cX9_blurOf 179 = .ok (.iload_n 2, 1) := by decide +kernel
theorem dX9_blurOf_180 : decode cX9_blurOf 180 = .ok (.iaload, 1) := by decide +kernel
theorem dX9_blurOf_181 : decode cX9_blurOf 181 = .ok (.if_icmp .le 7, 3) := by decide +kernel
theorem dX9_blurOf_184 : decode cX9_blurOf 184 = .ok (.iconst 1, 1) := by decide +kernel
theorem dX9_blurOf_185 : decode cX9_blurOf 185 = .ok (.goto 4, 3) := by decide +kernel
theorem dX9_blurOf_188 : decode cX9_blurOf 188 = .ok (.iconst 0, 1) := by decide +kernel
theorem dX9_blurOf_189 : decode cX9_blurOf 189 = .ok (.iadd, 1) := by decide +kernel
theorem dX9_blurOf_190 : decode cX9_blurOf 190 = .ok (.iadd, 1) := by decide +kernel
theorem dX9_blurOf_191 : decode cX9_blurOf 191 = .ok (.istore 4, 2) := by decide +kernel
theorem dX9_blurOf_193 : decode cX9_blurOf 193 = .ok (.iinc 7 1, 3) := by decide +kernel
theorem dX9_blurOf_196 : decode cX9_blurOf 196 = .ok (.goto (-84), 3) := by decide +kernel
theorem dX9_blurOf_199 : decode cX9_blurOf 199 = .ok (.aload_n 0, 1) := by decide +kernel
theorem dX9_blurOf_200 : decode cX9_blurOf 200 = .ok (.iload_n 3, 1) := by decide +kernel
theorem dX9_blurOf_201 : decode cX9_blurOf 201 = .ok (.invokevirtual 254, 3) := by decide +kernel
theorem dX9_blurOf_204 : decode cX9_blurOf 204 = .ok (.istore 7, 2) := by decide +kernel
theorem dX9_blurOf_206 : decode cX9_blurOf 206 = .ok (.iload 7, 2) := by decide +kernel
theorem dX9_blurOf_208 : decode cX9_blurOf 208 = .ok (.bipush 9, 2) := by decide +kernel
theorem dX9_blurOf_210 : decode cX9_blurOf 210 = .ok (.if_icmp .ne 9, 3) := by decide +kernel
theorem dX9_blurOf_213 : decode cX9_blurOf 213 = .ok (.iinc 4 2, 3) := by decide +kernel
theorem dX9_blurOf_216 : decode cX9_blurOf 216 = .ok (.goto 46, 3) := by decide +kernel
theorem dX9_blurOf_219 : decode cX9_blurOf 219 = .ok (.aload_n 0, 1) := by decide +kernel
theorem dX9_blurOf_220 : decode cX9_blurOf 220 = .ok (.getfield 43, 3) := by decide +kernel
theorem dX9_blurOf_223 : decode cX9_blurOf 223 = .ok (.iload_n 1, 1) := by decide +kernel
theorem dX9_blurOf_224 : decode cX9_blurOf 224 = .ok (.iaload, 1) := by decide +kernel
theorem dX9_blurOf_225 : decode cX9_blurOf 225 = .ok (.aload_n 0, 1) := by decide +kernel
theorem dX9_blurOf_226 : decode cX9_blurOf 226 = .ok (.getfield 43, 3) := by decide +kernel
theorem dX9_blurOf_229 : decode cX9_blurOf 229 = .ok (.iload_n 2, 1) := by decide +kernel
theorem dX9_blurOf_230 : decode cX9_blurOf 230 = .ok (.iaload, 1) := by decide +kernel
theorem dX9_blurOf_231 : decode cX9_blurOf 231 = .ok (.if_icmp .eq 31, 3) := by decide +kernel
theorem dX9_blurOf_234 : decode cX9_blurOf 234 = .ok (.iload 4, 2) := by decide +kernel
theorem dX9_blurOf_236 : decode cX9_blurOf 236 = .ok (.aload_n 0, 1) := by decide +kernel
theorem dX9_blurOf_237 : decode cX9_blurOf 237 = .ok (.getfield 43, 3) := by decide +kernel
theorem dX9_blurOf_240 : decode cX9_blurOf 240 = .ok (.iload_n 2, 1) := by decide +kernel
theorem dX9_blurOf_241 : decode cX9_blurOf 241 = .ok (.iaload, 1) := by decide +kernel
theorem dX9_blurOf_242 : decode cX9_blurOf 242 = .ok (.aload_n 0, 1) := by decide +kernel
theorem dX9_blurOf_243 : decode cX9_blurOf 243 = .ok (.getfield 43, 3) := by decide +kernel
theorem dX9_blurOf_246 : decode cX9_blurOf 246 = .ok (.iload_n 1, 1) := by decide +kernel
theorem dX9_blurOf_247 : decode cX9_blurOf 247 = .ok (.iaload, 1) := by decide +kernel
theorem dX9_blurOf_248 : decode cX9_blurOf 248 = .ok (.if_icmp .le 9, 3) := by decide +kernel
theorem dX9_blurOf_251 : decode cX9_blurOf 251 = .ok (.iload 7, 2) := by decide +kernel
theorem dX9_blurOf_253 : decode cX9_blurOf 253 = .ok (.ineg, 1) := by decide +kernel
theorem dX9_blurOf_254 : decode cX9_blurOf 254 = .ok (.goto 5, 3) := by decide +kernel
theorem dX9_blurOf_257 : decode cX9_blurOf 257 = .ok (.iload 7, 2) := by decide +kernel
theorem dX9_blurOf_259 : decode cX9_blurOf 259 = .ok (.iadd, 1) := by decide +kernel
theorem dX9_blurOf_260 : decode cX9_blurOf 260 = .ok (.istore 4, 2) := by decide +kernel
theorem dX9_blurOf_262 : decode cX9_blurOf 262 = .ok (.iload 4, 2) := by decide +kernel
theorem dX9_blurOf_264 : decode cX9_blurOf 264 = .ok (.ifCond .ge 7, 3) := by decide +kernel
theorem dX9_blurOf_267 : decode cX9_blurOf 267 = .ok (.iconst 0, 1) := by decide +kernel
theorem dX9_blurOf_268 : decode cX9_blurOf 268 = .ok (.goto 5, 3) := by decide +kernel
theorem dX9_blurOf_271 : decode cX9_blurOf 271 = .ok (.iload 4, 2) := by decide +kernel
theorem dX9_blurOf_273 : decode cX9_blurOf 273 = .ok (.ireturn, 1) := by decide +kernel
set_option maxRecDepth 20000 in
theorem ggX9_blur_X9_isPlace : GoodIn wsX9_blur wsX9_isPlace := goodIn_r _ [6, 7, 8, 9, 5, 10, 35, 36, 37, 38, 39, 40, 41, 42, 43, 44, 45, 46, 47, 48, 49, 50, 51, 52, 53, 54, 55, 56, 57, 58, 59, 60, 61, 62, 63, 64, 65, 66, 67, 68, 69, 70, 71, 72, 73, 74, 75, 76, 77, 78, 79, 80] (by decide +kernel) (by decide +kernel)
set_option maxRecDepth 20000 in
theorem gX9_blur_X9_isPlace : GoodIn wsX9_blur (wsV RX9 260 RX9 yX9_isPlace wsX9_isPlace) := goodIn_app (goodIn_of _ (by decide +kernel)) ggX9_blur_X9_isPlace
set_option maxRecDepth 20000 in
theorem ggX9_blur_X9_in : GoodIn wsX9_blur wsX9_in := goodIn_r _ [10] (by decide +kernel) (by decide +kernel)
set_option maxRecDepth 20000 in
theorem gX9_blur_X9_in : GoodIn wsX9_blur (va_wsS RX9 104 yX9_in wsX9_in) := goodIn_app (goodIn_of _ (by decide +kernel)) ggX9_blur_X9_in
set_option maxRecDepth 20000 in
theorem ggX9_blur_X9_blurOf : GoodIn wsX9_blur wsX9_blurOf := goodIn_r _ [14, 15, 16, 17, 18, 19, 20, 21, 22, 5, 23, 24, 25, 26, 27, 28, 29, 30, 31, 32, 33, 34, 35, 36, 37, 38, 39, 40, 41, 42, 43, 44, 45, 46, 47, 48, 49, 50, 51, 52, 53, 54, 55, 56, 57, 58, 59, 60, 61, 62, 63, 64, 65, 66, 67, 68, 69, 70, 71, 72, 73, 74, 75, 76, 77, 78, 79, 80] (by decide +kernel) (by decide +kernel)
set_option maxRecDepth 20000 in
theorem gX9_blur_X9_blurOf : GoodIn wsX9_blur (wsV RX9 263 RX9 yX9_blurOf wsX9_blurOf) := goodIn_app (goodIn_of _ (by decide +kernel)) ggX9_blur_X9_blurOf
theorem dX9_blur_0 : decode cX9_blur 0 = .ok (.aload_n 0, 1) := by decide +kernel
theorem dX9_blur_1 : decode cX9_blur 1 = .ok (.iload_n 1, 1) := by decide +kernel
theorem dX9_blur_2 : decode cX9_blur 2 = .ok (.invokevirtual 260, 3) := by decide +kernel
theorem dX9_blur_5 : decode cX9_blur 5 = .ok (.ifCond .eq 33, 3) := by decide +kernel
theorem dX9_blur_8 : decode cX9_blur 8 = .ok (.aload_n 0, 1) := by decide +kernel
theorem dX9_blur_9 : decode cX9_blur 9 = .ok (.iload_n 2, 1) := by decide +kernel
theorem dX9_blur_10 : decode cX9_blur 10 = .ok (.invokevirtual 260, 3) := by decide +kernel
theorem dX9_blur_13 : decode cX9_blur 13 = .ok (.ifCond .eq 25, 3) := by decide +kernel
theorem dX9_blur_16 : decode cX9_blur 16 = .ok (.iload_n 3, 1) := by decide +kernel
theorem dX9_blur_17 : decode cX9_blur 17 = .ok (.i2l, 1) := by decide +kernel
theorem dX9_blur_18 : decode cX9_blur 18 = .ok (.lconst 0, 1) := by decide +kernel
theorem dX9_blur_19 : decode cX9_blur 19 = .ok (.ldc2_w 196, 3) := by decide +kernel
theorem dX9_blur_22 : decode cX9_blur 22 = .ok (.invokestatic 104, 3) := by decide +kernel
theorem dX9_blur_25 : decode cX9_blur 25 = .ok (.ifCond .eq 13, 3) := by decide +kernel
theorem dX9_blur_28 : decode cX9_blur 28 = .ok (.aload_n 0, 1) := by decide +kernel
theorem dX9_blur_29 : decode cX9_blur 29 = .ok (.iload_n 1, 1) := by decide +kernel
theorem dX9_blur_30 : decode cX9_blur 30 = .ok (.iload_n 2, 1) := by decide +kernel
theorem dX9_blur_31 : decode cX9_blur 31 = .ok (.iload_n 3, 1) := by decide +kernel
theorem dX9_blur_32 : decode cX9_blur 32 = .ok (.invokevirtual 263, 3) := by decide +kernel
theorem dX9_blur_35 : decode cX9_blur 35 = .ok (.goto 4, 3) := by decide +kernel
theorem dX9_blur_38 : decode cX9_blur 38 = .ok (.iconst (-1), 1) := by decide +kernel
theorem dX9_blur_39 : decode cX9_blur 39 = .ok (.ireturn, 1) := by decide +kernel
set_option maxRecDepth 20000 in
theorem ggX9_doesHear_X9_blurOf : GoodIn wsX9_doesHear wsX9_blurOf := goodIn_r _ [5, 6, 7, 8, 9, 10, 11, 12, 13, 4, 14, 15, 16, 17, 18, 19, 20, 21, 22, 23, 24, 25, 26, 27, 28, 29, 30, 31, 32, 33, 34, 35, 36, 37, 38, 39, 40, 41, 42, 43, 44, 45, 46, 47, 48, 49, 50, 51, 52, 53, 54, 55, 56, 57, 58, 59, 60, 61, 62, 63, 64, 65, 66, 67, 68, 69, 70, 71] (by decide +kernel) (by decide +kernel)
set_option maxRecDepth 20000 in
theorem gX9_doesHear_X9_blurOf : GoodIn wsX9_doesHear (wsV RX9 263 RX9 yX9_blurOf wsX9_blurOf) := goodIn_app (goodIn_of _ (by decide +kernel)) ggX9_doesHear_X9_blurOf
theorem dX9_doesHear_0 : decode cX9_doesHear 0 = .ok (.iload_n 1, 1) := by decide +kernel
theorem dX9_doesHear_1 : decode cX9_doesHear 1 = .ok (.iload_n 2, 1) := by decide +kernel
theorem dX9_doesHear_2 : decode cX9_doesHear 2 = .ok (.if_icmp .eq 18, 3) := by decide +kernel
theorem dX9_doesHear_5 : decode cX9_doesHear 5 = .ok (.aload_n 0, 1) := by decide +kernel
theorem dX9_doesHear_6 : decode cX9_doesHear 6 = .ok (.iload_n 1, 1) := by decide +kernel
theorem dX9_doesHear_7 : decode cX9_doesHear 7 = .ok (.iload_n 2, 1) := by decide +kernel
theorem dX9_doesHear_8 : decode cX9_doesHear 8 = .ok (.iload_n 3, 1) := by decide +kernel
theorem dX9_doesHear_9 : decode cX9_doesHear 9 = .ok (.invokevirtual 263, 3) := by decide +kernel
theorem dX9_doesHear_12 : decode cX9_doesHear 12 = .ok (.iconst 5, 1) := by decide +kernel
theorem dX9_doesHear_13 : decode cX9_doesHear 13 = .ok (.if_icmp .gt 7, 3) := by decide +kernel
theorem dX9_doesHear_16 : decode cX9_doesHear 16 = .ok (.iconst 1, 1) := by decide +kernel
theorem dX9_doesHear_17 : decode cX9_doesHear 17 = .ok (.goto 4, 3) := by decide +kernel
theorem dX9_doesHear_20 : decode cX9_doesHear 20 = .ok (.iconst 0, 1) := by decide +kernel
theorem dX9_doesHear_21 : decode cX9_doesHear 21 = .ok (.ireturn, 1) := by decide +kernel
set_option maxRecDepth 20000 in
theorem ggX9_hears_X9_isPlace : GoodIn wsX9_hears wsX9_isPlace := goodIn_r _ [8, 3, 9, 10, 7, 11, 43, 44, 45, 46, 47, 48, 49, 50, 51, 52, 53, 54, 55, 56, 57, 58, 59, 60, 61, 62, 63, 64, 65, 66, 67, 68, 69, 70, 71, 72, 73, 74, 75, 76, 77, 78, 79, 80, 81, 82, 83, 84, 85, 86, 87, 88] (by decide +kernel) (by decide +kernel)
set_option maxRecDepth 20000 in
theorem gX9_hears_X9_isPlace : GoodIn wsX9_hears (wsV RX9 260 RX9 yX9_isPlace wsX9_isPlace) := goodIn_app (goodIn_of _ (by decide +kernel)) ggX9_hears_X9_isPlace
set_option maxRecDepth 20000 in
theorem ggX9_hears_X9_in : GoodIn wsX9_hears wsX9_in := goodIn_r _ [11] (by decide +kernel) (by decide +kernel)
set_option maxRecDepth 20000 in
theorem gX9_hears_X9_in : GoodIn wsX9_hears (va_wsS RX9 104 yX9_in wsX9_in) := goodIn_app (goodIn_of _ (by decide +kernel)) ggX9_hears_X9_in
set_option maxRecDepth 20000 in
theorem ggX9_hears_X9_doesHear : GoodIn wsX9_hears wsX9_doesHear := goodIn_r _ [15, 16, 17, 18, 7, 19, 20, 21, 22, 23, 24, 25, 26, 27, 28, 29, 30, 31, 32, 33, 34, 35, 36, 37, 38, 39, 43, 44, 45, 46, 47, 48, 49, 50, 51, 52, 53, 54, 55, 56, 57, 58, 59, 60, 61, 62, 63, 64, 65, 66, 67, 68, 69, 70, 71, 72, 73, 74, 75, 76, 77, 78, 79, 80, 81, 82, 83, 84, 85, 86, 87, 88] (by decide +kernel) (by decide +kernel)
set_option maxRecDepth 20000 in
theorem gX9_hears_X9_doesHear : GoodIn wsX9_hears (wsV RX9 266 RX9 yX9_doesHear wsX9_doesHear) := goodIn_app (goodIn_of _ (by decide +kernel)) ggX9_hears_X9_doesHear
set_option maxRecDepth 20000 in
theorem ggX9_hears_X9_bits : GoodIn wsX9_hears wsX9_bits := goodIn_r _ [42] (by decide +kernel) (by decide +kernel)
set_option maxRecDepth 20000 in
theorem gX9_hears_X9_bits : GoodIn wsX9_hears (va_wsS RX9 220 yX9_bits wsX9_bits) := goodIn_app (goodIn_of _ (by decide +kernel)) ggX9_hears_X9_bits
theorem dX9_hears_0 : decode cX9_hears 0 = .ok (.aload_n 0, 1) := by decide +kernel
theorem dX9_hears_1 : decode cX9_hears 1 = .ok (.iload_n 1, 1) := by decide +kernel
theorem dX9_hears_2 : decode cX9_hears 2 = .ok (.invokevirtual 260, 3) := by decide +kernel
theorem dX9_hears_5 : decode cX9_hears 5 = .ok (.ifCond .eq 27, 3) := by decide +kernel
theorem dX9_hears_8 : decode cX9_hears 8 = .ok (.iload_n 2, 1) := by decide +kernel
theorem dX9_hears_9 : decode cX9_hears 9 = .ok (.i2l, 1) := by decide +kernel
theorem dX9_hears_10 : decode cX9_hears 10 = .ok (.lconst 0, 1) := by decide +kernel
theorem dX9_hears_11 : decode cX9_hears 11 = .ok (.ldc2_w 196, 3) := by decide +kernel
theorem dX9_hears_14 : decode cX9_hears 14 = .ok (.invokestatic 104, 3) := by decide +kernel
theorem dX9_hears_17 : decode cX9_hears 17 = .ok (.ifCond .eq 15, 3) := by decide +kernel
theorem dX9_hears_20 : decode cX9_hears 20 = .ok (.iload_n 3, 1) := by decide +kernel
theorem dX9_hears_21 : decode cX9_hears 21 = .ok (.i2l, 1) := by decide +kernel
theorem dX9_hears_22 : decode cX9_hears 22 = .ok (.lconst 0, 1) := by decide +kernel
theorem dX9_hears_23 : decode cX9_hears 23 = .ok (.ldc2_w 230, 3) := by decide +kernel
theorem dX9_hears_26 : decode cX9_hears 26 = .ok (.invokestatic 104, 3) := by decide +kernel
theorem dX9_hears_29 : decode cX9_hears 29 = .ok (.ifCond .ne 5, 3) := by decide +kernel
theorem dX9_hears_32 : decode cX9_hears 32 = .ok (.iconst (-1), 1) := by decide +kernel
theorem dX9_hears_33 : decode cX9_hears 33 = .ok (.ireturn, 1) := by decide +kernel
theorem dX9_hears_34 : decode cX9_hears 34 = .ok (.iconst 0, 1) := by decide +kernel
theorem dX9_hears_35 : decode cX9_hears 35 = .ok (.istore 4, 2) := by decide +kernel
theorem dX9_hears_37 : decode cX9_hears 37 = .ok (.iconst 0, 1) := by decide +kernel
theorem dX9_hears_38 : decode cX9_hears 38 = .ok (.istore 5, 2) := by decide +kernel
theorem dX9_hears_40 : decode cX9_hears 40 = .ok (.iconst 0, 1) := by decide +kernel
theorem dX9_hears_41 : decode cX9_hears 41 = .ok (.istore 6, 2) := by decide +kernel
theorem dX9_hears_43 : decode cX9_hears 43 = .ok (.iload 6, 2) := by decide +kernel
theorem dX9_hears_45 : decode cX9_hears 45 = .ok (.aload_n 0, 1) := by decide +kernel
theorem dX9_hears_46 : decode cX9_hears 46 = .ok (.getfield 245, 3) := by decide +kernel
theorem dX9_hears_49 : decode cX9_hears 49 = .ok (.if_icmp .ge 54, 3) := by decide +kernel
theorem dX9_hears_52 : decode cX9_hears 52 = .ok (.iload 4, 2) := by decide +kernel
theorem dX9_hears_54 : decode cX9_hears 54 = .ok (.aload_n 0, 1) := by decide +kernel
theorem dX9_hears_55 : decode cX9_hears 55 = .ok (.iload_n 1, 1) := by decide +kernel
theorem dX9_hears_56 : decode cX9_hears 56 = .ok (.iload 6, 2) := by decide +kernel
theorem dX9_hears_58 : decode cX9_hears 58 = .ok (.iload_n 2, 1) := by decide +kernel
theorem dX9_hears_59 : decode cX9_hears 59 = .ok (.invokevirtual 266, 3) := by decide +kernel
theorem dX9_hears_62 : decode cX9_hears 62 = .ok (.ifCond .eq 10, 3) := by decide +kernel
theorem dX9_hears_65 : decode cX9_hears 65 = .ok (.iconst 1, 1) := by decide +kernel
theorem dX9_hears_66 : decode cX9_hears 66 = .ok (.iload 6, 2) := by decide +kernel
theorem dX9_hears_68 : decode cX9_hears 68 = .ok (.ishl, 1) := by decide +kernel
theorem dX9_hears_69 : decode cX9_hears 69 = .ok (.goto 4, 3) := by decide +kernel
theorem dX9_hears_72 : decode cX9_hears 72 = .ok (.iconst 0, 1) := by decide +kernel
theorem dX9_hears_73 : decode cX9_hears 73 = .ok (.ior, 1) := by decide +kernel
theorem dX9_hears_74 : decode cX9_hears 74 = .ok (.istore 4, 2) := by decide +kernel
theorem dX9_hears_76 : decode cX9_hears 76 = .ok (.iload 5, 2) := by decide +kernel
theorem dX9_hears_78 : decode cX9_hears 78 = .ok (.aload_n 0, 1) := by decide +kernel
theorem dX9_hears_79 : decode cX9_hears 79 = .ok (.iload 6, 2) := by decide +kernel
theorem dX9_hears_81 : decode cX9_hears 81 = .ok (.iload_n 1, 1) := by decide +kernel
theorem dX9_hears_82 : decode cX9_hears 82 = .ok (.iload_n 2, 1) := by decide +kernel
theorem dX9_hears_83 : decode cX9_hears 83 = .ok (.invokevirtual 266, 3) := by decide +kernel
theorem dX9_hears_86 : decode cX9_hears 86 = .ok (.ifCond .eq 7, 3) := by decide +kernel
theorem dX9_hears_89 : decode cX9_hears 89 = .ok (.iconst 1, 1) := by decide +kernel
theorem dX9_hears_90 : decode cX9_hears 90 = .ok (.goto 4, 3) := by decide +kernel
theorem dX9_hears_93 : decode cX9_hears 93 = .ok (.iconst 0, 1) := by decide +kernel
theorem dX9_hears_94 : decode cX9_hears 94 = .ok (.iadd, 1) := by decide +kernel
theorem dX9_hears_95 : decode cX9_hears 95 = .ok (.istore 5, 2) := by decide +kernel
theorem dX9_hears_97 : decode cX9_hears 97 = .ok (.iinc 6 1, 3) := by decide +kernel
theorem dX9_hears_100 : decode cX9_hears 100 = .ok (.goto (-57), 3) := by decide +kernel
theorem dX9_hears_103 : decode cX9_hears 103 = .ok (.iload_n 3, 1) := by decide +kernel
theorem dX9_hears_104 : decode cX9_hears 104 = .ok (.ifCond .ne 11, 3) := by decide +kernel
theorem dX9_hears_107 : decode cX9_hears 107 = .ok (.iload 4, 2) := by decide +kernel
theorem dX9_hears_109 : decode cX9_hears 109 = .ok (.invokestatic 220, 3) := by decide +kernel
theorem dX9_hears_112 : decode cX9_hears 112 = .ok (.goto 15, 3) := by decide +kernel
theorem dX9_hears_115 : decode cX9_hears 115 = .ok (.iload_n 3, 1) := by decide +kernel
theorem dX9_hears_116 : decode cX9_hears 116 = .ok (.iconst 1, 1) := by decide +kernel
theorem dX9_hears_117 : decode cX9_hears 117 = .ok (.if_icmp .ne 8, 3) := by decide +kernel
theorem dX9_hears_120 : decode cX9_hears 120 = .ok (.iload 5, 2) := by decide +kernel
theorem dX9_hears_122 : decode cX9_hears 122 = .ok (.goto 5, 3) := by decide +kernel
theorem dX9_hears_125 : decode cX9_hears 125 = .ok (.iload 4, 2) := by decide +kernel
theorem dX9_hears_127 : decode cX9_hears 127 = .ok (.ireturn, 1) := by decide +kernel
set_option maxRecDepth 20000 in
theorem ggX9_findLeft_X9_blurOf : GoodIn wsX9_findLeft wsX9_blurOf := goodIn_r _ [7, 8, 9, 10, 11, 12, 13, 14, 15, 6, 16, 17, 18, 19, 20, 21, 22, 23, 24, 25, 26, 27, 28, 29, 30, 31, 32, 33, 34, 35, 36, 37, 38, 39, 40, 41, 42, 43, 44, 45, 46, 47, 48, 49, 50, 51, 52, 53, 54, 55, 56, 57, 58, 59, 60, 61, 62, 63, 64, 65, 66, 67, 68, 69, 70, 71, 72, 73] (by decide +kernel) (by decide +kernel)
set_option maxRecDepth 20000 in
theorem gX9_findLeft_X9_blurOf : GoodIn wsX9_findLeft (wsV RX9 263 RX9 yX9_blurOf wsX9_blurOf) := goodIn_app (goodIn_of _ (by decide +kernel)) ggX9_findLeft_X9_blurOf
theorem dX9_findLeft_0 : decode cX9_findLeft 0 = .ok (.iconst 0, 1) := by decide +kernel
theorem dX9_findLeft_1 : decode cX9_findLeft 1 = .ok (.istore 4, 2) := by decide +kernel
theorem dX9_findLeft_3 : decode cX9_findLeft 3 = .ok (.iload 4, 2) := by decide +kernel
theorem dX9_findLeft_5 : decode cX9_findLeft 5 = .ok (.bipush 10, 2) := by decide +kernel
theorem dX9_findLeft_7 : decode cX9_findLeft 7 = .ok (.if_icmp .ge 28, 3) := by decide +kernel
theorem dX9_findLeft_10 : decode cX9_findLeft 10 = .ok (.aload_n 0, 1) := by decide +kernel
theorem dX9_findLeft_11 : decode cX9_findLeft 11 = .ok (.getfield 67, 3) := by decide +kernel
theorem dX9_findLeft_14 : decode cX9_findLeft 14 = .ok (.iload 4, 2) := by decide +kernel
theorem dX9_findLeft_16 : decode cX9_findLeft 16 = .ok (.iload 4, 2) := by decide +kernel
theorem dX9_findLeft_18 : decode cX9_findLeft 18 = .ok (.iload_n 1, 1) := by decide +kernel
theorem dX9_findLeft_19 : decode cX9_findLeft 19 = .ok (.if_icmp .ne 7, 3) := by decide +kernel
theorem dX9_findLeft_22 : decode cX9_findLeft 22 = .ok (.iconst 0, 1) := by decide +kernel
theorem dX9_findLeft_23 : decode cX9_findLeft 23 = .ok (.goto 5, 3) := by decide +kernel
theorem dX9_findLeft_26 : decode cX9_findLeft 26 = .ok (.bipush 100, 2) := by decide +kernel
theorem dX9_findLeft_28 : decode cX9_findLeft 28 = .ok (.iastore, 1) := by decide +kernel
theorem dX9_findLeft_29 : decode cX9_findLeft 29 = .ok (.iinc 4 1, 3) := by decide +kernel
theorem dX9_findLeft_32 : decode cX9_findLeft 32 = .ok (.goto (-29), 3) := by decide +kernel
theorem dX9_findLeft_35 : decode cX9_findLeft 35 = .ok (.iconst 0, 1) := by decide +kernel
theorem dX9_findLeft_36 : decode cX9_findLeft 36 = .ok (.istore 4, 2) := by decide +kernel
theorem dX9_findLeft_38 : decode cX9_findLeft 38 = .ok (.iload 4, 2) := by decide +kernel
theorem dX9_findLeft_40 : decode cX9_findLeft 40 = .ok (.aload_n 0, 1) := by decide +kernel
theorem dX9_findLeft_41 : decode cX9_findLeft 41 = .ok (.getfield 245, 3) := by decide +kernel
theorem dX9_findLeft_44 : decode cX9_findLeft 44 = .ok (.if_icmp .ge 122, 3) := by decide +kernel
theorem dX9_findLeft_47 : decode cX9_findLeft 47 = .ok (.iconst 0, 1) := by decide +kernel
theorem dX9_findLeft_48 : decode cX9_findLeft 48 = .ok (.istore 5, 2) := by decide +kernel
theorem dX9_findLeft_50 : decode cX9_findLeft 50 = .ok (.iload 5, 2) := by decide +kernel
theorem dX9_findLeft_52 : decode cX9_findLeft 52 = .ok (.aload_n 0, 1) := by decide +kernel
theorem dX9_findLeft_53 : decode cX9_findLeft 53 = .ok (.getfield 245, 3) := by decide +kernel
theorem dX9_findLeft_56 : decode cX9_findLeft 56 = .ok (.if_icmp .ge 104, 3) := by decide +kernel
theorem dX9_findLeft_59 : decode cX9_findLeft 59 = .ok (.iconst 0, 1) := by decide +kernel
theorem dX9_findLeft_60 : decode cX9_findLeft 60 = .ok (.istore 6, 2) := by decide +kernel
theorem dX9_findLeft_62 : decode cX9_findLeft 62 = .ok (.iload 6, 2) := by decide +kernel
theorem dX9_findLeft_64 : decode cX9_findLeft 64 = .ok (.aload_n 0, 1) := by decide +kernel
theorem dX9_findLeft_65 : decode cX9_findLeft 65 = .ok (.getfield 245, 3) := by decide +kernel
theorem dX9_findLeft_68 : decode cX9_findLeft 68 = .ok (.if_icmp .ge 86, 3) := by decide +kernel
theorem dX9_findLeft_71 : decode cX9_findLeft 71 = .ok (.iload 5, 2) := by decide +kernel
theorem dX9_findLeft_73 : decode cX9_findLeft 73 = .ok (.iload 6, 2) := by decide +kernel
theorem dX9_findLeft_75 : decode cX9_findLeft 75 = .ok (.if_icmp .eq 20, 3) := by decide +kernel
theorem dX9_findLeft_78 : decode cX9_findLeft 78 = .ok (.aload_n 0, 1) := by decide +kernel
theorem dX9_findLeft_79 : decode cX9_findLeft 79 = .ok (.iload 5, 2) := by decide +kernel
theorem dX9_findLeft_81 : decode cX9_findLeft 81 = .ok (.iload 6, 2) := by decide +kernel
theorem dX9_findLeft_83 : decode cX9_findLeft 83 = .ok (.iload_n 2, 1) := by decide +kernel
theorem dX9_findLeft_84 : decode cX9_findLeft 84 = .ok (.invokevirtual 263, 3) := by decide +kernel
theorem dX9_findLeft_87 : decode cX9_findLeft 87 = .ok (.iload_n 3, 1) := by decide +kernel
theorem dX9_findLeft_88 : decode cX9_findLeft 88 = .ok (.if_icmp .gt 7, 3) := by decide +kernel
theorem dX9_findLeft_91 : decode cX9_findLeft 91 = .ok (.iconst 1, 1) := by decide +kernel
theorem dX9_findLeft_92 : decode cX9_findLeft 92 = .ok (.goto 4, 3) := by decide +kernel
theorem dX9_findLeft_95 : decode cX9_findLeft 95 = .ok (.iconst 0, 1) := by decide +kernel
theorem dX9_findLeft_96 : decode cX9_findLeft 96 = .ok (.istore 7, 2) := by decide +kernel
theorem dX9_findLeft_98 : decode cX9_findLeft 98 = .ok (.aload_n 0, 1) := by decide +kernel
theorem dX9_findLeft_99 : decode cX9_findLeft 99 = .ok (.getfield 67, 3) := by decide +kernel
theorem dX9_findLeft_102 : decode cX9_findLeft 102 = .ok (.iload 5, 2) := by decide +kernel
theorem dX9_findLeft_104 : decode cX9_findLeft 104 = .ok (.iload 7, 2) := by decide +kernel
theorem dX9_findLeft_106 : decode cX9_findLeft 106 = .ok (.ifCond .eq 34, 3) := by decide +kernel
theorem dX9_findLeft_109 : decode cX9_findLeft 109 = .ok (.aload_n 0, 1) := by decide +kernel
theorem dX9_findLeft_110 : decode cX9_findLeft 110 = .ok (.getfield 67, 3) := by decide +kernel
theorem dX9_findLeft_113 : decode cX9_findLeft 113 = .ok (.iload 6, 2) := by decide +kernel
theorem dX9_findLeft_115 : decode cX9_findLeft 115 = .ok (.iaload, 1) := by decide +kernel
theorem dX9_findLeft_116 : decode cX9_findLeft 116 = .ok (.iconst 1, 1) := by decide +kernel
theorem dX9_findLeft_117 : decode cX9_findLeft 117 = .ok (.iadd, 1) := by decide +kernel
theorem dX9_findLeft_118 : decode cX9_findLeft 118 = .ok (.aload_n 0, 1) := by decide +kernel
theorem dX9_findLeft_119 : decode cX9_findLeft 119 = .ok (.getfield 67, 3) := by decide +kernel
theorem dX9_findLeft_122 : decode cX9_findLeft 122 = .ok (.iload 5, 2) := by decide +kernel
theorem dX9_findLeft_124 : decode cX9_findLeft 124 = .ok (.iaload, 1) := by decide +kernel
theorem dX9_findLeft_125 : decode cX9_findLeft 125 = .ok (.if_icmp .ge 15, 3) := by decide +kernel
theorem dX9_findLeft_128 : decode cX9_findLeft 128 = .ok (.aload_n 0, 1) := by decide +kernel
theorem dX9_findLeft_129 : decode cX9_findLeft 129 = .ok (.getfield 67, 3) := by decide +kernel
theorem dX9_findLeft_132 : decode cX9_findLeft 132 = .ok (.iload 6, 2) := by decide +kernel
theorem dX9_findLeft_134 : decode cX9_findLeft 134 = .ok (.iaload, 1) := by decide +kernel
theorem dX9_findLeft_135 : decode cX9_findLeft 135 = .ok (.iconst 1, 1) := by decide +kernel
theorem dX9_findLeft_136 : decode cX9_findLeft 136 = .ok (.iadd, 1) := by decide +kernel
theorem dX9_findLeft_137 : decode cX9_findLeft 137 = .ok (.goto 10, 3) := by decide +kernel
theorem dX9_findLeft_140 : decode cX9_findLeft 140 = .ok (.aload_n 0, 1) := by decide +kernel
theorem dX9_findLeft_141 : decode cX9_findLeft 141 = .ok (.getfield 67, 3) := by decide +kernel
theorem dX9_findLeft_144 : decode cX9_findLeft 144 = .ok (.iload 5, 2) := by decide +kernel
theorem dX9_findLeft_146 : decode cX9_findLeft 146 = .ok (.iaload, 1) := by decide +kernel
theorem dX9_findLeft_147 : decode cX9_findLeft 147 = .ok (.iastore, 1) := by decide +kernel
theorem dX9_findLeft_148 : decode cX9_findLeft 148 = .ok (.iinc 6 1, 3) := by decide +kernel
theorem dX9_findLeft_151 : decode cX9_findLeft 151 = .ok (.goto (-89), 3) := by decide +kernel
theorem dX9_findLeft_154 : decode cX9_findLeft 154 = .ok (.iinc 5 1, 3) := by decide +kernel
theorem dX9_findLeft_157 : decode cX9_findLeft 157 = .ok (.goto (-107), 3) := by decide +kernel
theorem dX9_findLeft_160 : decode cX9_findLeft 160 = .ok (.iinc 4 1, 3) := by decide +kernel
theorem dX9_findLeft_163 : decode cX9_findLeft 163 = .ok (.goto (-125), 3) := by decide +kernel
theorem dX9_findLeft_166 : decode cX9_findLeft 166 = .ok (.return_, 1) := by decide +kernel
set_option maxRecDepth 20000 in
theorem ggX9_way_X9_isPlace : GoodIn wsX9_way wsX9_isPlace := goodIn_r _ [7, 8, 9, 10, 6, 11, 40, 41, 42, 43, 44, 45, 46, 47, 48, 49, 50, 51, 52, 53, 54, 55, 56, 57, 58, 59, 60, 61, 62, 63, 64, 65, 66, 67, 68, 69, 70, 71, 72, 73, 74, 75, 76, 77, 78, 79, 80, 81, 82, 83, 84, 85] (by decide +kernel) (by decide +kernel)
set_option maxRecDepth 20000 in
theorem gX9_way_X9_isPlace : GoodIn wsX9_way (wsV RX9 260 RX9 yX9_isPlace wsX9_isPlace) := goodIn_app (goodIn_of _ (by decide +kernel)) ggX9_way_X9_isPlace
set_option maxRecDepth 20000 in
theorem ggX9_way_X9_in : GoodIn wsX9_way wsX9_in := goodIn_r _ [11] (by decide +kernel) (by decide +kernel)
set_option maxRecDepth 20000 in
theorem gX9_way_X9_in : GoodIn wsX9_way (va_wsS RX9 104 yX9_in wsX9_in) := goodIn_app (goodIn_of _ (by decide +kernel)) ggX9_way_X9_in
set_option maxRecDepth 20000 in
theorem ggX9_way_X9_findLeft : GoodIn wsX9_way wsX9_findLeft := goodIn_r _ [15, 2, 8, 16, 17, 18, 6, 19, 20, 21, 22, 23, 24, 25, 26, 27, 28, 29, 30, 31, 32, 33, 34, 35, 36, 37, 38, 39, 40, 41, 42, 43, 44, 45, 46, 47, 48, 49, 50, 51, 52, 53, 54, 55, 56, 57, 58, 59, 60, 61, 62, 63, 64, 65, 66, 67, 68, 69, 70, 71, 72, 73, 74, 75, 76, 77, 78, 79, 80, 81, 82, 83, 84, 85] (by decide +kernel) (by decide +kernel)
set_option maxRecDepth 20000 in
theorem gX9_way_X9_findLeft : GoodIn wsX9_way (wsV RX9 269 RX9 yX9_findLeft wsX9_findLeft) := goodIn_app (goodIn_of _ (by decide +kernel)) ggX9_way_X9_findLeft
set_option maxRecDepth 20000 in
theorem ggX9_way_X9_blurOf : GoodIn wsX9_way wsX9_blurOf := goodIn_r _ [19, 20, 21, 22, 23, 24, 25, 26, 27, 6, 28, 29, 30, 31, 32, 33, 34, 35, 36, 37, 38, 39, 40, 41, 42, 43, 44, 45, 46, 47, 48, 49, 50, 51, 52, 53, 54, 55, 56, 57, 58, 59, 60, 61, 62, 63, 64, 65, 66, 67, 68, 69, 70, 71, 72, 73, 74, 75, 76, 77, 78, 79, 80, 81, 82, 83, 84, 85] (by decide +kernel) (by decide +kernel)
set_option maxRecDepth 20000 in
theorem gX9_way_X9_blurOf : GoodIn wsX9_way (wsV RX9 263 RX9 yX9_blurOf wsX9_blurOf) := goodIn_app (goodIn_of _ (by decide +kernel)) ggX9_way_X9_blurOf
theorem dX9_way_0 : decode cX9_way 0 = .ok (.aload_n 0, 1) := by decide +kernel
theorem dX9_way_1 : decode cX9_way 1 = .ok (.iload_n 1, 1) := by decide +kernel
theorem dX9_way_2 : decode cX9_way 2 = .ok (.invokevirtual 260, 3) := by decide +kernel
theorem dX9_way_5 : decode cX9_way 5 = .ok (.ifCond .eq 46, 3) := by decide +kernel
theorem dX9_way_8 : decode cX9_way 8 = .ok (.aload_n 0, 1) := by decide +kernel
theorem dX9_way_9 : decode cX9_way 9 = .ok (.iload_n 2, 1) := by decide +kernel
theorem dX9_way_10 : decode cX9_way 10 = .ok (.invokevirtual 260, 3) := by decide +kernel
theorem dX9_way_13 : decode cX9_way 13 = .ok (.ifCond .eq 38, 3) := by decide +kernel
theorem dX9_way_16 : decode cX9_way 16 = .ok (.iload_n 1, 1) := by decide +kernel
theorem dX9_way_17 : decode cX9_way 17 = .ok (.iload_n 2, 1) := by decide +kernel
theorem dX9_way_18 : decode cX9_way 18 = .ok (.if_icmp .eq 33, 3) := by decide +kernel
theorem dX9_way_21 : decode cX9_way 21 = .ok (.iload_n 3, 1) := by decide +kernel
theorem dX9_way_22 : decode cX9_way 22 = .ok (.i2l, 1) := by decide +kernel
theorem dX9_way_23 : decode cX9_way 23 = .ok (.lconst 0, 1) := by decide +kernel
theorem dX9_way_24 : decode cX9_way 24 = .ok (.ldc2_w 196, 3) := by decide +kernel
theorem dX9_way_27 : decode cX9_way 27 = .ok (.invokestatic 104, 3) := by decide +kernel
theorem dX9_way_30 : decode cX9_way 30 = .ok (.ifCond .eq 21, 3) := by decide +kernel
theorem dX9_way_33 : decode cX9_way 33 = .ok (.iload 4, 2) := by decide +kernel
theorem dX9_way_35 : decode cX9_way 35 = .ok (.i2l, 1) := by decide +kernel
theorem dX9_way_36 : decode cX9_way 36 = .ok (.lconst 0, 1) := by decide +kernel
theorem dX9_way_37 : decode cX9_way 37 = .ok (.lconst 1, 1) := by decide +kernel
theorem dX9_way_38 : decode cX9_way 38 = .ok (.invokestatic 104, 3) := by decide +kernel
theorem dX9_way_41 : decode cX9_way 41 = .ok (.ifCond .ne 12, 3) := by decide +kernel
theorem dX9_way_44 : decode cX9_way 44 = .ok (.iload 4, 2) := by decide +kernel
theorem dX9_way_46 : decode cX9_way 46 = .ok (.bipush 10, 2) := by decide +kernel
theorem dX9_way_48 : decode cX9_way 48 = .ok (.if_icmp .ge 5, 3) := by decide +kernel
theorem dX9_way_51 : decode cX9_way 51 = .ok (.iconst (-1), 1) := by decide +kernel
theorem dX9_way_52 : decode cX9_way 52 = .ok (.ireturn, 1) := by decide +kernel
theorem dX9_way_53 : decode cX9_way 53 = .ok (.iconst 0, 1) := by decide +kernel
theorem dX9_way_54 : decode cX9_way 54 = .ok (.istore 5, 2) := by decide +kernel
theorem dX9_way_56 : decode cX9_way 56 = .ok (.aload_n 0, 1) := by decide +kernel
theorem dX9_way_57 : decode cX9_way 57 = .ok (.iload_n 2, 1) := by decide +kernel
theorem dX9_way_58 : decode cX9_way 58 = .ok (.iload_n 3, 1) := by decide +kernel
theorem dX9_way_59 : decode cX9_way 59 = .ok (.iconst 0, 1) := by decide +kernel
theorem dX9_way_60 : decode cX9_way 60 = .ok (.invokevirtual 269, 3) := by decide +kernel
theorem dX9_way_63 : decode cX9_way 63 = .ok (.aload_n 0, 1) := by decide +kernel
theorem dX9_way_64 : decode cX9_way 64 = .ok (.getfield 67, 3) := by decide +kernel
theorem dX9_way_67 : decode cX9_way 67 = .ok (.iload_n 1, 1) := by decide +kernel
theorem dX9_way_68 : decode cX9_way 68 = .ok (.iaload, 1) := by decide +kernel
theorem dX9_way_69 : decode cX9_way 69 = .ok (.bipush 100, 2) := by decide +kernel
theorem dX9_way_71 : decode cX9_way 71 = .ok (.if_icmp .ne 23, 3) := by decide +kernel
theorem dX9_way_74 : decode cX9_way 74 = .ok (.iload 5, 2) := by decide +kernel
theorem dX9_way_76 : decode cX9_way 76 = .ok (.iconst 5, 1) := by decide +kernel
theorem dX9_way_77 : decode cX9_way 77 = .ok (.if_icmp .ge 17, 3) := by decide +kernel
theorem dX9_way_80 : decode cX9_way 80 = .ok (.iinc 5 1, 3) := by decide +kernel
theorem dX9_way_83 : decode cX9_way 83 = .ok (.aload_n 0, 1) := by decide +kernel
theorem dX9_way_84 : decode cX9_way 84 = .ok (.iload_n 2, 1) := by decide +kernel
theorem dX9_way_85 : decode cX9_way 85 = .ok (.iload_n 3, 1) := by decide +kernel
theorem dX9_way_86 : decode cX9_way 86 = .ok (.iload 5, 2) := by decide +kernel
theorem dX9_way_88 : decode cX9_way 88 = .ok (.invokevirtual 269, 3) := by decide +kernel
theorem dX9_way_91 : decode cX9_way 91 = .ok (.goto (-28), 3) := by decide +kernel
theorem dX9_way_94 : decode cX9_way 94 = .ok (.aload_n 0, 1) := by decide +kernel
theorem dX9_way_95 : decode cX9_way 95 = .ok (.getfield 67, 3) := by decide +kernel
theorem dX9_way_98 : decode cX9_way 98 = .ok (.iload_n 1, 1) := by decide +kernel
theorem dX9_way_99 : decode cX9_way 99 = .ok (.iaload, 1) := by decide +kernel
theorem dX9_way_100 : decode cX9_way 100 = .ok (.bipush 100, 2) := by decide +kernel
theorem dX9_way_102 : decode cX9_way 102 = .ok (.if_icmp .ne 6, 3) := by decide +kernel
theorem dX9_way_105 : decode cX9_way 105 = .ok (.bipush (-4), 2) := by decide +kernel
theorem dX9_way_107 : decode cX9_way 107 = .ok (.ireturn, 1) := by decide +kernel
theorem dX9_way_108 : decode cX9_way 108 = .ok (.iload 4, 2) := by decide +kernel
theorem dX9_way_110 : decode cX9_way 110 = .ok (.bipush 10, 2) := by decide +kernel
theorem dX9_way_112 : decode cX9_way 112 = .ok (.if_icmp .ge 22, 3) := by decide +kernel
theorem dX9_way_115 : decode cX9_way 115 = .ok (.iload 4, 2) := by decide +kernel
theorem dX9_way_117 : decode cX9_way 117 = .ok (.ifCond .ne 8, 3) := by decide +kernel
theorem dX9_way_120 : decode cX9_way 120 = .ok (.iload 5, 2) := by decide +kernel
theorem dX9_way_122 : decode cX9_way 122 = .ok (.goto 11, 3) := by decide +kernel
theorem dX9_way_125 : decode cX9_way 125 = .ok (.aload_n 0, 1) := by decide +kernel
theorem dX9_way_126 : decode cX9_way 126 = .ok (.getfield 67, 3) := by decide +kernel
theorem dX9_way_129 : decode cX9_way 129 = .ok (.iload_n 1, 1) := by decide +kernel
theorem dX9_way_130 : decode cX9_way 130 = .ok (.iaload, 1) := by decide +kernel
theorem dX9_way_131 : decode cX9_way 131 = .ok (.iconst 1, 1) := by decide +kernel
theorem dX9_way_132 : decode cX9_way 132 = .ok (.iadd, 1) := by decide +kernel
theorem dX9_way_133 : decode cX9_way 133 = .ok (.ireturn, 1) := by decide +kernel
theorem dX9_way_134 : decode cX9_way 134 = .ok (.iload 4, 2) := by decide +kernel
theorem dX9_way_136 : decode cX9_way 136 = .ok (.bipush 10, 2) := by decide +kernel
theorem dX9_way_138 : decode cX9_way 138 = .ok (.isub, 1) := by decide +kernel
theorem dX9_way_139 : decode cX9_way 139 = .ok (.aload_n 0, 1) := by decide +kernel
theorem dX9_way_140 : decode cX9_way 140 = .ok (.getfield 67, 3) := by decide +kernel
theorem dX9_way_143 : decode cX9_way 143 = .ok (.iload_n 1, 1) := by decide +kernel
theorem dX9_way_144 : decode cX9_way 144 = .ok (.iaload, 1) := by decide +kernel
theorem dX9_way_145 : decode cX9_way 145 = .ok (.if_icmp .le 6, 3) := by decide +kernel
theorem dX9_way_148 : decode cX9_way 148 = .ok (.bipush (-4), 2) := by decide +kernel
theorem dX9_way_150 : decode cX9_way 150 = .ok (.ireturn, 1) := by decide +kernel
theorem dX9_way_151 : decode cX9_way 151 = .ok (.iload_n 1, 1) := by decide +kernel
theorem dX9_way_152 : decode cX9_way 152 = .ok (.istore 6, 2) := by decide +kernel
theorem dX9_way_154 : decode cX9_way 154 = .ok (.iconst 0, 1) := by decide +kernel
theorem dX9_way_155 : decode cX9_way 155 = .ok (.istore 7, 2) := by decide +kernel
theorem dX9_way_157 : decode cX9_way 157 = .ok (.iload 7, 2) := by decide +kernel
theorem dX9_way_159 : decode cX9_way 159 = .ok (.iload 4, 2) := by decide +kernel
theorem dX9_way_161 : decode cX9_way 161 = .ok (.bipush 10, 2) := by decide +kernel
theorem dX9_way_163 : decode cX9_way 163 = .ok (.isub, 1) := by decide +kernel
theorem dX9_way_164 : decode cX9_way 164 = .ok (.if_icmp .ge 62, 3) := by decide +kernel
theorem dX9_way_167 : decode cX9_way 167 = .ok (.iconst 0, 1) := by decide +kernel
theorem dX9_way_168 : decode cX9_way 168 = .ok (.istore 8, 2) := by decide +kernel
theorem dX9_way_170 : decode cX9_way 170 = .ok (.iload 8, 2) := by decide +kernel
theorem dX9_way_172 : decode cX9_way 172 = .ok (.iload 6, 2) := by decide +kernel
theorem dX9_way_174 : decode cX9_way 174 = .ok (.if_icmp .eq 36, 3) := by decide +kernel
theorem dX9_way_177 : decode cX9_way 177 = .ok (.aload_n 0, 1) := by decide +kernel
theorem dX9_way_178 : decode cX9_way 178 = .ok (.iload 6, 2) := by decide +kernel
theorem dX9_way_180 : decode cX9_way 180 = .ok (.iload 8, 2) := by decide +kernel
theorem dX9_way_182 : decode cX9_way 182 = .ok (.iload_n 3, 1) := by decide +kernel
theorem dX9_way_183 : decode cX9_way 183 = .ok (.invokevirtual 263, 3) := by decide +kernel
theorem dX9_way_186 : decode cX9_way 186 = .ok (.iload 5, 2) := by decide +kernel
theorem dX9_way_188 : decode cX9_way 188 = .ok (.if_icmp .gt 22, 3) := by decide +kernel
theorem dX9_way_191 : decode cX9_way 191 = .ok (.aload_n 0, 1) := by decide +kernel
theorem dX9_way_192 : decode cX9_way 192 = .ok (.getfield 67, 3) := by decide +kernel
theorem dX9_way_195 : decode cX9_way 195 = .ok (.iload 8, 2) := by decide +kernel
theorem dX9_way_197 : decode cX9_way 197 = .ok (.iaload, 1) := by decide +kernel
theorem dX9_way_198 : decode cX9_way 198 = .ok (.aload_n 0, 1) := by decide +kernel
theorem dX9_way_199 : decode cX9_way 199 = .ok (.getfield 67, 3) := by decide +kernel
theorem dX9_way_202 : decode cX9_way 202 = .ok (.iload 6, 2) := by decide +kernel
theorem dX9_way_204 : decode cX9_way 204 = .ok (.iaload, 1) := by decide +kernel
theorem dX9_way_205 : decode cX9_way 205 = .ok (.iconst 1, 1) := by decide +kernel
theorem dX9_way_206 : decode cX9_way 206 = .ok (.isub, 1) := by decide +kernel
theorem dX9_way_207 : decode cX9_way 207 = .ok (.if_icmp .eq 9, 3) := by decide +kernel
theorem dX9_way_210 : decode cX9_way 210 = .ok (.iinc 8 1, 3) := by decide +kernel
theorem dX9_way_213 : decode cX9_way 213 = .ok (.goto (-43), 3) := by decide +kernel
theorem dX9_way_216 : decode cX9_way 216 = .ok (.iload 8, 2) := by decide +kernel
theorem dX9_way_218 : decode cX9_way 218 = .ok (.istore 6, 2) := by decide +kernel
theorem dX9_way_220 : decode cX9_way 220 = .ok (.iinc 7 1, 3) := by decide +kernel
theorem dX9_way_223 : decode cX9_way 223 = .ok (.goto (-66), 3) := by decide +kernel
theorem dX9_way_226 : decode cX9_way 226 = .ok (.iload 6, 2) := by decide +kernel
theorem dX9_way_228 : decode cX9_way 228 = .ok (.ireturn, 1) := by decide +kernel
set_option maxRecDepth 20000 in
theorem ggX9_isCall_X9_in : GoodIn wsX9_isCall wsX9_in := goodIn_r _ [5] (by decide +kernel) (by decide +kernel)
set_option maxRecDepth 20000 in
theorem gX9_isCall_X9_in : GoodIn wsX9_isCall (va_wsS RX9 104 yX9_in wsX9_in) := goodIn_app (goodIn_of _ (by decide +kernel)) ggX9_isCall_X9_in
theorem dX9_isCall_0 : decode cX9_isCall 0 = .ok (.iload_n 1, 1) := by decide +kernel
theorem dX9_isCall_1 : decode cX9_isCall 1 = .ok (.i2l, 1) := by decide +kernel
theorem dX9_isCall_2 : decode cX9_isCall 2 = .ok (.lconst 0, 1) := by decide +kernel
theorem dX9_isCall_3 : decode cX9_isCall 3 = .ok (.aload_n 0, 1) := by decide +kernel
theorem dX9_isCall_4 : decode cX9_isCall 4 = .ok (.getfield 177, 3) := by decide +kernel
theorem dX9_isCall_7 : decode cX9_isCall 7 = .ok (.iconst 1, 1) := by decide +kernel
theorem dX9_isCall_8 : decode cX9_isCall 8 = .ok (.isub, 1) := by decide +kernel
theorem dX9_isCall_9 : decode cX9_isCall 9 = .ok (.i2l, 1) := by decide +kernel
theorem dX9_isCall_10 : decode cX9_isCall 10 = .ok (.invokestatic 104, 3) := by decide +kernel
theorem dX9_isCall_13 : decode cX9_isCall 13 = .ok (.ireturn, 1) := by decide +kernel
set_option maxRecDepth 20000 in
theorem ggX9_isRepeatable_X9_isCall : GoodIn wsX9_isRepeatable wsX9_isCall := goodIn_r _ [9, 10, 11, 12, 8, 13, 14, 15, 16, 17, 18, 19, 20, 21, 22, 23, 24, 25, 26, 27, 28, 29, 30, 31, 32, 33, 34, 35, 36, 37, 38, 39, 40, 41, 42, 43, 44, 45, 46, 47, 48, 49, 50, 51, 52, 53, 54, 55, 56, 57, 58, 59] (by decide +kernel) (by decide +kernel)
set_option maxRecDepth 20000 in
theorem gX9_isRepeatable_X9_isCall : GoodIn wsX9_isRepeatable (wsV RX9 273 RX9 yX9_isCall wsX9_isCall) := goodIn_app (goodIn_of _ (by decide +kernel)) ggX9_isRepeatable_X9_isCall
theorem dX9_isRepeatable_0 : decode cX9_isRepeatable 0 = .ok (.aload_n 0, 1) := by decide +kernel
theorem dX9_isRepeatable_1 : decode cX9_isRepeatable 1 = .ok (.iload_n 1, 1) := by decide +kernel
theorem dX9_isRepeatable_2 : decode cX9_isRepeatable 2 = .ok (.invokevirtual 273, 3) := by decide +kernel
theorem dX9_isRepeatable_5 : decode cX9_isRepeatable 5 = .ok (.ifCond .eq 49, 3) := by decide +kernel
theorem dX9_isRepeatable_8 : decode cX9_isRepeatable 8 = .ok (.aload_n 0, 1) := by decide +kernel
theorem dX9_isRepeatable_9 : decode cX9_isRepeatable 9 = .ok (.getfield 85, 3) := by decide +kernel
theorem dX9_isRepeatable_12 : decode cX9_isRepeatable 12 = .ok (.iload_n 1, 1) := by decide +kernel
theorem dX9_isRepeatable_13 : decode cX9_isRepeatable 13 = .ok (.iaload, 1) := by decide +kernel
theorem dX9_isRepeatable_14 : decode cX9_isRepeatable 14 = .ok (.bipush (-4), 2) := by decide +kernel
theorem dX9_isRepeatable_16 : decode cX9_isRepeatable 16 = .ok (.if_icmp .ne 38, 3) := by decide +kernel
theorem dX9_isRepeatable_19 : decode cX9_isRepeatable 19 = .ok (.aload_n 0, 1) := by decide +kernel
theorem dX9_isRepeatable_20 : decode cX9_isRepeatable 20 = .ok (.getfield 76, 3) := by decide +kernel
theorem dX9_isRepeatable_23 : decode cX9_isRepeatable 23 = .ok (.iload_n 1, 1) := by decide +kernel
theorem dX9_isRepeatable_24 : decode cX9_isRepeatable 24 = .ok (.iaload, 1) := by decide +kernel
theorem dX9_isRepeatable_25 : decode cX9_isRepeatable 25 = .ok (.iload_n 2, 1) := by decide +kernel
theorem dX9_isRepeatable_26 : decode cX9_isRepeatable 26 = .ok (.if_icmp .ne 28, 3) := by decide +kernel
theorem dX9_isRepeatable_29 : decode cX9_isRepeatable 29 = .ok (.aload_n 0, 1) := by decide +kernel
theorem dX9_isRepeatable_30 : decode cX9_isRepeatable 30 = .ok (.getfield 79, 3) := by decide +kernel
theorem dX9_isRepeatable_33 : decode cX9_isRepeatable 33 = .ok (.iload_n 1, 1) := by decide +kernel
theorem dX9_isRepeatable_34 : decode cX9_isRepeatable 34 = .ok (.iaload, 1) := by decide +kernel
theorem dX9_isRepeatable_35 : decode cX9_isRepeatable 35 = .ok (.iload_n 3, 1) := by decide +kernel
theorem dX9_isRepeatable_36 : decode cX9_isRepeatable 36 = .ok (.if_icmp .ne 18, 3) := by decide +kernel
theorem dX9_isRepeatable_39 : decode cX9_isRepeatable 39 = .ok (.aload_n 0, 1) := by decide +kernel
theorem dX9_isRepeatable_40 : decode cX9_isRepeatable 40 = .ok (.getfield 82, 3) := by decide +kernel
theorem dX9_isRepeatable_43 : decode cX9_isRepeatable 43 = .ok (.iload_n 1, 1) := by decide +kernel
theorem dX9_isRepeatable_44 : decode cX9_isRepeatable 44 = .ok (.iaload, 1) := by decide +kernel
theorem dX9_isRepeatable_45 : decode cX9_isRepeatable 45 = .ok (.iload 4, 2) := by decide +kernel
theorem dX9_isRepeatable_47 : decode cX9_isRepeatable 47 = .ok (.if_icmp .ne 7, 3) := by decide +kernel
theorem dX9_isRepeatable_50 : decode cX9_isRepeatable 50 = .ok (.iconst 1, 1) := by decide +kernel
theorem dX9_isRepeatable_51 : decode cX9_isRepeatable 51 = .ok (.goto 4, 3) := by decide +kernel
theorem dX9_isRepeatable_54 : decode cX9_isRepeatable 54 = .ok (.iconst 0, 1) := by decide +kernel
theorem dX9_isRepeatable_55 : decode cX9_isRepeatable 55 = .ok (.ireturn, 1) := by decide +kernel
set_option maxRecDepth 20000 in
theorem ggX9_call_X9_isTime : GoodIn wsX9_call wsX9_isTime := goodIn_r _ [12, 13, 14, 15, 16, 11, 17] (by decide +kernel) (by decide +kernel)
set_option maxRecDepth 20000 in
theorem gX9_call_X9_isTime : GoodIn wsX9_call (va_wsS RX9 276 yX9_isTime wsX9_isTime) := goodIn_app (goodIn_of _ (by decide +kernel)) ggX9_call_X9_isTime
set_option maxRecDepth 20000 in
theorem ggX9_call_X9_isPlace : GoodIn wsX9_call wsX9_isPlace := goodIn_r _ [21, 22, 15, 16, 11, 17, 46, 47, 48, 49, 50, 51, 52, 53, 54, 55, 56, 57, 58, 59, 60, 61, 62, 63, 64, 65, 66, 67, 68, 69, 70, 71, 72, 73, 74, 75, 76, 77, 78, 79, 80, 81, 82, 83, 84, 85, 86, 87, 88, 89, 90, 91] (by decide +kernel) (by decide +kernel)
set_option maxRecDepth 20000 in
theorem gX9_call_X9_isPlace : GoodIn wsX9_call (wsV RX9 260 RX9 yX9_isPlace wsX9_isPlace) := goodIn_app (goodIn_of _ (by decide +kernel)) ggX9_call_X9_isPlace
set_option maxRecDepth 20000 in
theorem ggX9_call_X9_fitsAsk : GoodIn wsX9_call wsX9_fitsAsk := goodIn_r _ [26, 27, 28, 29, 30, 11, 31, 32, 15, 16, 17, 33, 34, 35, 36, 37, 46, 47, 48, 49, 50, 51, 52, 53, 54, 55, 56, 57, 58, 59, 60, 61, 62, 63, 64, 65, 66, 67, 68, 69, 70, 71, 72, 73, 74, 75, 76, 77, 78, 79, 80, 81, 82, 83, 84, 85, 86, 87, 88, 89, 90, 91] (by decide +kernel) (by decide +kernel)
set_option maxRecDepth 20000 in
theorem gX9_call_X9_fitsAsk : GoodIn wsX9_call (wsV RX9 238 RX9 yX9_fitsAsk wsX9_fitsAsk) := goodIn_app (goodIn_of _ (by decide +kernel)) ggX9_call_X9_fitsAsk
set_option maxRecDepth 20000 in
theorem ggX9_call_X9_isRepeatable : GoodIn wsX9_call wsX9_isRepeatable := goodIn_r _ [41, 7, 4, 5, 6, 42, 43, 44, 11, 45, 1, 15, 16, 17, 46, 47, 48, 49, 50, 51, 52, 53, 54, 55, 56, 57, 58, 59, 60, 61, 62, 63, 64, 65, 66, 67, 68, 69, 70, 71, 72, 73, 74, 75, 76, 77, 78, 79, 80, 81, 82, 83, 84, 85, 86, 87, 88, 89, 90, 91] (by decide +kernel) (by decide +kernel)
set_option maxRecDepth 20000 in
theorem gX9_call_X9_isRepeatable : GoodIn wsX9_call (wsV RX9 279 RX9 yX9_isRepeatable wsX9_isRepeatable) := goodIn_app (goodIn_of _ (by decide +kernel)) ggX9_call_X9_isRepeatable
theorem dX9_call_0 : decode cX9_call 0 = .ok (.iload_n 1, 1) := by decide +kernel
theorem dX9_call_1 : decode cX9_call 1 = .ok (.iload_n 2, 1) := by decide +kernel
theorem dX9_call_2 : decode cX9_call 2 = .ok (.invokestatic 276, 3) := by decide +kernel
theorem dX9_call_5 : decode cX9_call 5 = .ok (.ifCond .eq 43, 3) := by decide +kernel
theorem dX9_call_8 : decode cX9_call 8 = .ok (.aload_n 0, 1) := by decide +kernel
theorem dX9_call_9 : decode cX9_call 9 = .ok (.iload_n 3, 1) := by decide +kernel
theorem dX9_call_10 : decode cX9_call 10 = .ok (.invokevirtual 260, 3) := by decide +kernel
theorem dX9_call_13 : decode cX9_call 13 = .ok (.ifCond .eq 35, 3) := by decide +kernel
theorem dX9_call_16 : decode cX9_call 16 = .ok (.aload_n 0, 1) := by decide +kernel
theorem dX9_call_17 : decode cX9_call 17 = .ok (.iload 4, 2) := by decide +kernel
theorem dX9_call_19 : decode cX9_call 19 = .ok (.iload 5, 2) := by decide +kernel
theorem dX9_call_21 : decode cX9_call 21 = .ok (.invokevirtual 238, 3) := by decide +kernel
theorem dX9_call_24 : decode cX9_call 24 = .ok (.ifCond .eq 24, 3) := by decide +kernel
theorem dX9_call_27 : decode cX9_call 27 = .ok (.iload 6, 2) := by decide +kernel
theorem dX9_call_29 : decode cX9_call 29 = .ok (.bipush (-4), 2) := by decide +kernel
theorem dX9_call_31 : decode cX9_call 31 = .ok (.if_icmp .eq 19, 3) := by decide +kernel
theorem dX9_call_34 : decode cX9_call 34 = .ok (.aload_n 0, 1) := by decide +kernel
theorem dX9_call_35 : decode cX9_call 35 = .ok (.iload 6, 2) := by decide +kernel
theorem dX9_call_37 : decode cX9_call 37 = .ok (.iload_n 3, 1) := by decide +kernel
theorem dX9_call_38 : decode cX9_call 38 = .ok (.iload 4, 2) := by decide +kernel
theorem dX9_call_40 : decode cX9_call 40 = .ok (.iload 5, 2) := by decide +kernel
theorem dX9_call_42 : decode cX9_call 42 = .ok (.invokevirtual 279, 3) := by decide +kernel
theorem dX9_call_45 : decode cX9_call 45 = .ok (.ifCond .ne 5, 3) := by decide +kernel
theorem dX9_call_48 : decode cX9_call 48 = .ok (.iconst (-1), 1) := by decide +kernel
theorem dX9_call_49 : decode cX9_call 49 = .ok (.ireturn, 1) := by decide +kernel
theorem dX9_call_50 : decode cX9_call 50 = .ok (.aload_n 0, 1) := by decide +kernel
theorem dX9_call_51 : decode cX9_call 51 = .ok (.getfield 177, 3) := by decide +kernel
theorem dX9_call_54 : decode cX9_call 54 = .ok (.ifCond .le 41, 3) := by decide +kernel
theorem dX9_call_57 : decode cX9_call 57 = .ok (.bipush 24, 2) := by decide +kernel
theorem dX9_call_59 : decode cX9_call 59 = .ok (.iload_n 1, 1) := by decide +kernel
theorem dX9_call_60 : decode cX9_call 60 = .ok (.imul, 1) := by decide +kernel
theorem dX9_call_61 : decode cX9_call 61 = .ok (.iload_n 2, 1) := by decide +kernel
theorem dX9_call_62 : decode cX9_call 62 = .ok (.iadd, 1) := by decide +kernel
theorem dX9_call_63 : decode cX9_call 63 = .ok (.bipush 24, 2) := by decide +kernel
theorem dX9_call_65 : decode cX9_call 65 = .ok (.aload_n 0, 1) := by decide +kernel
theorem dX9_call_66 : decode cX9_call 66 = .ok (.getfield 70, 3) := by decide +kernel
theorem dX9_call_69 : decode cX9_call 69 = .ok (.aload_n 0, 1) := by decide +kernel
theorem dX9_call_70 : decode cX9_call 70 = .ok (.getfield 177, 3) := by decide +kernel
theorem dX9_call_73 : decode cX9_call 73 = .ok (.iconst 1, 1) := by decide +kernel
theorem dX9_call_74 : decode cX9_call 74 = .ok (.isub, 1) := by decide +kernel
theorem dX9_call_75 : decode cX9_call 75 = .ok (.iaload, 1) := by decide +kernel
theorem dX9_call_76 : decode cX9_call 76 = .ok (.imul, 1) := by decide +kernel
theorem dX9_call_77 : decode cX9_call 77 = .ok (.aload_n 0, 1) := by decide +kernel
theorem dX9_call_78 : decode cX9_call 78 = .ok (.getfield 73, 3) := by decide +kernel
theorem dX9_call_81 : decode cX9_call 81 = .ok (.aload_n 0, 1) := by decide +kernel
theorem dX9_call_82 : decode cX9_call 82 = .ok (.getfield 177, 3) := by decide +kernel
theorem dX9_call_85 : decode cX9_call 85 = .ok (.iconst 1, 1) := by decide +kernel
theorem dX9_call_86 : decode cX9_call 86 = .ok (.isub, 1) := by decide +kernel
theorem dX9_call_87 : decode cX9_call 87 = .ok (.iaload, 1) := by decide +kernel
theorem dX9_call_88 : decode cX9_call 88 = .ok (.iadd, 1) := by decide +kernel
theorem dX9_call_89 : decode cX9_call 89 = .ok (.if_icmp .ge 6, 3) := by decide +kernel
theorem dX9_call_92 : decode cX9_call 92 = .ok (.bipush (-2), 2) := by decide +kernel
theorem dX9_call_94 : decode cX9_call 94 = .ok (.ireturn, 1) := by decide +kernel
theorem dX9_call_95 : decode cX9_call 95 = .ok (.aload_n 0, 1) := by decide +kernel
theorem dX9_call_96 : decode cX9_call 96 = .ok (.getfield 177, 3) := by decide +kernel
theorem dX9_call_99 : decode cX9_call 99 = .ok (.bipush 30, 2) := by decide +kernel
theorem dX9_call_101 : decode cX9_call 101 = .ok (.if_icmp .ne 6, 3) := by decide +kernel
theorem dX9_call_104 : decode cX9_call 104 = .ok (.bipush (-3), 2) := by decide +kernel
theorem dX9_call_106 : decode cX9_call 106 = .ok (.ireturn, 1) := by decide +kernel
theorem dX9_call_107 : decode cX9_call 107 = .ok (.aload_n 0, 1) := by decide +kernel
theorem dX9_call_108 : decode cX9_call 108 = .ok (.getfield 70, 3) := by decide +kernel
theorem dX9_call_111 : decode cX9_call 111 = .ok (.aload_n 0, 1) := by decide +kernel
theorem dX9_call_112 : decode cX9_call 112 = .ok (.getfield 177, 3) := by decide +kernel
theorem dX9_call_115 : decode cX9_call 115 = .ok (.iload_n 1, 1) := by decide +kernel
theorem dX9_call_116 : decode cX9_call 116 = .ok (.iastore, 1) := by decide +kernel
theorem dX9_call_117 : decode cX9_call 117 = .ok (.aload_n 0, 1) := by decide +kernel
theorem dX9_call_118 : decode cX9_call 118 = .ok (.getfield 73, 3) := by decide +kernel
theorem dX9_call_121 : decode cX9_call 121 = .ok (.aload_n 0, 1) := by decide +kernel
theorem dX9_call_122 : decode cX9_call 122 = .ok (.getfield 177, 3) := by decide +kernel
theorem dX9_call_125 : decode cX9_call 125 = .ok (.iload_n 2, 1) := by decide +kernel
theorem dX9_call_126 : decode cX9_call 126 = .ok (.iastore, 1) := by decide +kernel
theorem dX9_call_127 : decode cX9_call 127 = .ok (.aload_n 0, 1) := by decide +kernel
theorem dX9_call_128 : decode cX9_call 128 = .ok (.getfield 76, 3) := by decide +kernel
theorem dX9_call_131 : decode cX9_call 131 = .ok (.aload_n 0, 1) := by decide +kernel
theorem dX9_call_132 : decode cX9_call 132 = .ok (.getfield 177, 3) := by decide +kernel
theorem dX9_call_135 : decode cX9_call 135 = .ok (.iload_n 3, 1) := by decide +kernel
theorem dX9_call_136 : decode cX9_call 136 = .ok (.iastore, 1) := by decide +kernel
theorem dX9_call_137 : decode cX9_call 137 = .ok (.aload_n 0, 1) := by decide +kernel
theorem dX9_call_138 : decode cX9_call 138 = .ok (.getfield 79, 3) := by decide +kernel
theorem dX9_call_141 : decode cX9_call 141 = .ok (.aload_n 0, 1) := by decide +kernel
theorem dX9_call_142 : decode cX9_call 142 = .ok (.getfield 177, 3) := by decide +kernel
theorem dX9_call_145 : decode cX9_call 145 = .ok (.iload 4, 2) := by decide +kernel
theorem dX9_call_147 : decode cX9_call 147 = .ok (.iastore, 1) := by decide +kernel
theorem dX9_call_148 : decode cX9_call 148 = .ok (.aload_n 0, 1) := by decide +kernel
theorem dX9_call_149 : decode cX9_call 149 = .ok (.getfield 82, 3) := by decide +kernel
theorem dX9_call_152 : decode cX9_call 152 = .ok (.aload_n 0, 1) := by decide +kernel
theorem dX9_call_153 : decode cX9_call 153 = .ok (.getfield 177, 3) := by decide +kernel
theorem dX9_call_156 : decode cX9_call 156 = .ok (.iload 5, 2) := by decide +kernel
theorem dX9_call_158 : decode cX9_call 158 = .ok (.iastore, 1) := by decide +kernel
theorem dX9_call_159 : decode cX9_call 159 = .ok (.aload_n 0, 1) := by decide +kernel
theorem dX9_call_160 : decode cX9_call 160 = .ok (.getfield 85, 3) := by decide +kernel
theorem dX9_call_163 : decode cX9_call 163 = .ok (.aload_n 0, 1) := by decide +kernel
theorem dX9_call_164 : decode cX9_call 164 = .ok (.getfield 177, 3) := by decide +kernel
theorem dX9_call_167 : decode cX9_call 167 = .ok (.iload 6, 2) := by decide +kernel
theorem dX9_call_169 : decode cX9_call 169 = .ok (.iastore, 1) := by decide +kernel
theorem dX9_call_170 : decode cX9_call 170 = .ok (.aload_n 0, 1) := by decide +kernel
theorem dX9_call_171 : decode cX9_call 171 = .ok (.getfield 88, 3) := by decide +kernel
theorem dX9_call_174 : decode cX9_call 174 = .ok (.aload_n 0, 1) := by decide +kernel
theorem dX9_call_175 : decode cX9_call 175 = .ok (.getfield 177, 3) := by decide +kernel
theorem dX9_call_178 : decode cX9_call 178 = .ok (.iconst 0, 1) := by decide +kernel
theorem dX9_call_179 : decode cX9_call 179 = .ok (.bastore, 1) := by decide +kernel
theorem dX9_call_180 : decode cX9_call 180 = .ok (.aload_n 0, 1) := by decide +kernel
theorem dX9_call_181 : decode cX9_call 181 = .ok (.dup, 1) := by decide +kernel
theorem dX9_call_182 : decode cX9_call 182 = .ok (.getfield 177, 3) := by decide +kernel
theorem dX9_call_185 : decode cX9_call 185 = .ok (.iconst 1, 1) := by decide +kernel
theorem dX9_call_186 : decode cX9_call 186 = .ok (.iadd, 1) := by decide +kernel
theorem dX9_call_187 : decode cX9_call 187 = .ok (.putfield 177, 3) := by decide +kernel
theorem dX9_call_190 : decode cX9_call 190 = .ok (.aload_n 0, 1) := by decide +kernel
theorem dX9_call_191 : decode cX9_call 191 = .ok (.getfield 177, 3) := by decide +kernel
theorem dX9_call_194 : decode cX9_call 194 = .ok (.iconst 1, 1) := by decide +kernel
theorem dX9_call_195 : decode cX9_call 195 = .ok (.isub, 1) := by decide +kernel
theorem dX9_call_196 : decode cX9_call 196 = .ok (.ireturn, 1) := by decide +kernel
theorem dX9_firstOf_0 : decode cX9_firstOf 0 = .ok (.aload_n 0, 1) := by decide +kernel
theorem dX9_firstOf_1 : decode cX9_firstOf 1 = .ok (.getfield 85, 3) := by decide +kernel
theorem dX9_firstOf_4 : decode cX9_firstOf 4 = .ok (.iload_n 1, 1) := by decide +kernel
theorem dX9_firstOf_5 : decode cX9_firstOf 5 = .ok (.iaload, 1) := by decide +kernel
theorem dX9_firstOf_6 : decode cX9_firstOf 6 = .ok (.bipush (-4), 2) := by decide +kernel
theorem dX9_firstOf_8 : decode cX9_firstOf 8 = .ok (.if_icmp .ne 7, 3) := by decide +kernel
theorem dX9_firstOf_11 : decode cX9_firstOf 11 = .ok (.iload_n 1, 1) := by decide +kernel
theorem dX9_firstOf_12 : decode cX9_firstOf 12 = .ok (.goto 9, 3) := by decide +kernel
theorem dX9_firstOf_15 : decode cX9_firstOf 15 = .ok (.aload_n 0, 1) := by decide +kernel
theorem dX9_firstOf_16 : decode cX9_firstOf 16 = .ok (.getfield 85, 3) := by decide +kernel
theorem dX9_firstOf_19 : decode cX9_firstOf 19 = .ok (.iload_n 1, 1) := by decide +kernel
theorem dX9_firstOf_20 : decode cX9_firstOf 20 = .ok (.iaload, 1) := by decide +kernel
theorem dX9_firstOf_21 : decode cX9_firstOf 21 = .ok (.ireturn, 1) := by decide +kernel
set_option maxRecDepth 20000 in
theorem ggX9_isFalse_X9_firstOf : GoodIn wsX9_isFalse wsX9_firstOf := goodIn_r _ [6, 7, 8, 9, 10, 11, 12, 13, 14, 15, 16, 17, 18, 19, 20, 21, 22, 23, 24, 25, 26, 27, 28, 29, 30, 31, 32, 33, 34, 35, 36, 37, 38, 39, 40, 41, 42, 43, 44, 45, 46, 47, 48, 49, 50, 51, 52, 53] (by decide +kernel) (by decide +kernel)
set_option maxRecDepth 20000 in
theorem gX9_isFalse_X9_firstOf : GoodIn wsX9_isFalse (wsV RX9 283 RX9 yX9_firstOf wsX9_firstOf) := goodIn_app (goodIn_of _ (by decide +kernel)) ggX9_isFalse_X9_firstOf
theorem dX9_isFalse_0 : decode cX9_isFalse 0 = .ok (.aload_n 0, 1) := by decide +kernel
theorem dX9_isFalse_1 : decode cX9_isFalse 1 = .ok (.getfield 88, 3) := by decide +kernel
theorem dX9_isFalse_4 : decode cX9_isFalse 4 = .ok (.aload_n 0, 1) := by decide +kernel
theorem dX9_isFalse_5 : decode cX9_isFalse 5 = .ok (.iload_n 1, 1) := by decide +kernel
theorem dX9_isFalse_6 : decode cX9_isFalse 6 = .ok (.invokevirtual 283, 3) := by decide +kernel
theorem dX9_isFalse_9 : decode cX9_isFalse 9 = .ok (.baload, 1) := by decide +kernel
theorem dX9_isFalse_10 : decode cX9_isFalse 10 = .ok (.ireturn, 1) := by decide +kernel
set_option maxRecDepth 20000 in
theorem ggX9_hasOne_X9_doesHear : GoodIn wsX9_hasOne wsX9_doesHear := goodIn_r _ [9, 10, 11, 12, 8, 13, 14, 15, 16, 17, 18, 19, 20, 21, 22, 23, 24, 25, 26, 27, 28, 29, 30, 31, 32, 33, 58, 59, 60, 61, 62, 63, 64, 65, 66, 67, 68, 69, 70, 71, 72, 73, 74, 75, 76, 77, 78, 79, 80, 81, 82, 83, 84, 85, 86, 87, 88, 89, 90, 91, 92, 93, 94, 95, 96, 97, 98, 99, 100, 101, 102, 103] (by decide +kernel) (by decide +kernel)
set_option maxRecDepth 20000 in
theorem gX9_hasOne_X9_doesHear : GoodIn wsX9_hasOne (wsV RX9 266 RX9 yX9_doesHear wsX9_doesHear) := goodIn_app (goodIn_of _ (by decide +kernel)) ggX9_hasOne_X9_doesHear
set_option maxRecDepth 20000 in
theorem ggX9_hasOne_X9_blurOf : GoodIn wsX9_hasOne wsX9_blurOf := goodIn_r _ [13, 14, 15, 16, 17, 18, 19, 20, 21, 8, 22, 23, 24, 25, 26, 27, 28, 29, 30, 31, 32, 33, 58, 59, 60, 61, 62, 63, 64, 65, 66, 67, 68, 69, 70, 71, 72, 73, 74, 75, 76, 77, 78, 79, 80, 81, 82, 83, 84, 85, 86, 87, 88, 89, 90, 91, 92, 93, 94, 95, 96, 97, 98, 99, 100, 101, 102, 103] (by decide +kernel) (by decide +kernel)
set_option maxRecDepth 20000 in
theorem gX9_hasOne_X9_blurOf : GoodIn wsX9_hasOne (wsV RX9 263 RX9 yX9_blurOf wsX9_blurOf) := goodIn_app (goodIn_of _ (by decide +kernel)) ggX9_hasOne_X9_blurOf
set_option maxRecDepth 20000 in
theorem ggX9_hasOne_X9_meaning : GoodIn wsX9_hasOne wsX9_meaning := goodIn_r _ [37, 38, 39, 40, 41, 42, 8, 43, 44, 45, 46, 47, 48, 49, 50, 51, 52, 53, 54, 55, 56, 57, 58, 59, 60, 61, 62, 63, 64, 65, 66, 67, 68, 69, 70, 71, 72, 73, 74, 75, 76, 77, 78, 79, 80, 81, 82, 83, 84, 85, 86, 87, 88, 89, 90, 91, 92, 93, 94, 95, 96, 97, 98, 99, 100, 101, 102, 103] (by decide +kernel) (by decide +kernel)
set_option maxRecDepth 20000 in
theorem gX9_hasOne_X9_meaning : GoodIn wsX9_hasOne (wsV RX9 241 RX9 yX9_meaning wsX9_meaning) := goodIn_app (goodIn_of _ (by decide +kernel)) ggX9_hasOne_X9_meaning
theorem dX9_hasOne_0 : decode cX9_hasOne 0 = .ok (.aload_n 0, 1) := by decide +kernel
theorem dX9_hasOne_1 : decode cX9_hasOne 1 = .ok (.aload_n 0, 1) := by decide +kernel
theorem dX9_hasOne_2 : decode cX9_hasOne 2 = .ok (.getfield 76, 3) := by decide +kernel
theorem dX9_hasOne_5 : decode cX9_hasOne 5 = .ok (.iload_n 2, 1) := by decide +kernel
theorem dX9_hasOne_6 : decode cX9_hasOne 6 = .ok (.iaload, 1) := by decide +kernel
theorem dX9_hasOne_7 : decode cX9_hasOne 7 = .ok (.iload_n 1, 1) := by decide +kernel
theorem dX9_hasOne_8 : decode cX9_hasOne 8 = .ok (.aload_n 0, 1) := by decide +kernel
theorem dX9_hasOne_9 : decode cX9_hasOne 9 = .ok (.getfield 73, 3) := by decide +kernel
theorem dX9_hasOne_12 : decode cX9_hasOne 12 = .ok (.iload_n 2, 1) := by decide +kernel
theorem dX9_hasOne_13 : decode cX9_hasOne 13 = .ok (.iaload, 1) := by decide +kernel
theorem dX9_hasOne_14 : decode cX9_hasOne 14 = .ok (.invokevirtual 266, 3) := by decide +kernel
theorem dX9_hasOne_17 : decode cX9_hasOne 17 = .ok (.ifCond .eq 39, 3) := by decide +kernel
theorem dX9_hasOne_20 : decode cX9_hasOne 20 = .ok (.aload_n 0, 1) := by decide +kernel
theorem dX9_hasOne_21 : decode cX9_hasOne 21 = .ok (.aload_n 0, 1) := by decide +kernel
theorem dX9_hasOne_22 : decode cX9_hasOne 22 = .ok (.getfield 79, 3) := by decide +kernel
theorem dX9_hasOne_25 : decode cX9_hasOne 25 = .ok (.iload_n 2, 1) := by decide +kernel
theorem dX9_hasOne_26 : decode cX9_hasOne 26 = .ok (.iaload, 1) := by decide +kernel
theorem dX9_hasOne_27 : decode cX9_hasOne 27 = .ok (.aload_n 0, 1) := by decide +kernel
theorem dX9_hasOne_28 : decode cX9_hasOne 28 = .ok (.getfield 82, 3) := by decide +kernel
theorem dX9_hasOne_31 : decode cX9_hasOne 31 = .ok (.iload_n 2, 1) := by decide +kernel
theorem dX9_hasOne_32 : decode cX9_hasOne 32 = .ok (.iaload, 1) := by decide +kernel
theorem dX9_hasOne_33 : decode cX9_hasOne 33 = .ok (.aload_n 0, 1) := by decide +kernel
theorem dX9_hasOne_34 : decode cX9_hasOne 34 = .ok (.aload_n 0, 1) := by decide +kernel
theorem dX9_hasOne_35 : decode cX9_hasOne 35 = .ok (.getfield 76, 3) := by decide +kernel
theorem dX9_hasOne_38 : decode cX9_hasOne 38 = .ok (.iload_n 2, 1) := by decide +kernel
theorem dX9_hasOne_39 : decode cX9_hasOne 39 = .ok (.iaload, 1) := by decide +kernel
theorem dX9_hasOne_40 : decode cX9_hasOne 40 = .ok (.iload_n 1, 1) := by decide +kernel
theorem dX9_hasOne_41 : decode cX9_hasOne 41 = .ok (.aload_n 0, 1) := by decide +kernel
theorem dX9_hasOne_42 : decode cX9_hasOne 42 = .ok (.getfield 73, 3) := by decide +kernel
theorem dX9_hasOne_45 : decode cX9_hasOne 45 = .ok (.iload_n 2, 1) := by decide +kernel
theorem dX9_hasOne_46 : decode cX9_hasOne 46 = .ok (.iaload, 1) := by decide +kernel
theorem dX9_hasOne_47 : decode cX9_hasOne 47 = .ok (.invokevirtual 263, 3) := by decide +kernel
theorem dX9_hasOne_50 : decode cX9_hasOne 50 = .ok (.invokevirtual 241, 3) := by decide +kernel
theorem dX9_hasOne_53 : decode cX9_hasOne 53 = .ok (.goto 5, 3) := by decide +kernel
theorem dX9_hasOne_56 : decode cX9_hasOne 56 = .ok (.bipush (-4), 2) := by decide +kernel
theorem dX9_hasOne_58 : decode cX9_hasOne 58 = .ok (.ireturn, 1) := by decide +kernel
set_option maxRecDepth 20000 in
theorem ggX9_callOf_X9_isCall : GoodIn wsX9_callOf wsX9_isCall := goodIn_r _ [13, 14, 15, 16, 12, 17, 86, 87, 88, 89, 90, 91, 92, 93, 94, 95, 96, 97, 98, 99, 100, 101, 102, 103, 104, 105, 106, 107, 108, 109, 110, 111, 112, 113, 114, 115, 116, 117, 118, 119, 120, 121, 122, 123, 124, 125, 126, 127, 128, 129, 130, 131] (by decide +kernel) (by decide +kernel)
set_option maxRecDepth 20000 in
theorem gX9_callOf_X9_isCall : GoodIn wsX9_callOf (wsV RX9 273 RX9 yX9_isCall wsX9_isCall) := goodIn_app (goodIn_of _ (by decide +kernel)) ggX9_callOf_X9_isCall
set_option maxRecDepth 20000 in
theorem ggX9_callOf_X9_in : GoodIn wsX9_callOf wsX9_in := goodIn_r _ [17] (by decide +kernel) (by decide +kernel)
set_option maxRecDepth 20000 in
theorem gX9_callOf_X9_in : GoodIn wsX9_callOf (va_wsS RX9 104 yX9_in wsX9_in) := goodIn_app (goodIn_of _ (by decide +kernel)) ggX9_callOf_X9_in
set_option maxRecDepth 20000 in
theorem ggX9_callOf_X9_hasOne : GoodIn wsX9_callOf wsX9_hasOne := goodIn_r _ [21, 5, 4, 6, 7, 22, 23, 24, 12, 25, 26, 27, 28, 29, 30, 31, 32, 33, 34, 35, 36, 37, 38, 39, 40, 41, 42, 43, 44, 45, 46, 47, 48, 49, 50, 51, 52, 53, 54, 55, 56, 57, 58, 59, 60, 61, 62, 63, 64, 65, 66, 67, 68, 69, 70, 71, 72, 73, 86, 87, 88, 89, 90, 91, 92, 93, 94, 95, 96, 97, 98, 99, 100, 101, 102, 103, 104, 105, 106, 107, 108, 109, 110, 111, 112, 113, 114, 115, 116, 117, 118, 119, 120, 121, 122, 123, 124, 125, 126, 127, 128, 129, 130, 131] (by decide +kernel) (by decide +kernel)
set_option maxRecDepth 20000 in
theorem gX9_callOf_X9_hasOne : GoodIn wsX9_callOf (wsV RX9 286 RX9 yX9_hasOne wsX9_hasOne) := goodIn_app (goodIn_of _ (by decide +kernel)) ggX9_callOf_X9_hasOne
set_option maxRecDepth 20000 in
theorem ggX9_callOf_X9_bits : GoodIn wsX9_callOf wsX9_bits := goodIn_r _ [76] (by decide +kernel) (by decide +kernel)
set_option maxRecDepth 20000 in
theorem gX9_callOf_X9_bits : GoodIn wsX9_callOf (va_wsS RX9 220 yX9_bits wsX9_bits) := goodIn_app (goodIn_of _ (by decide +kernel)) ggX9_callOf_X9_bits
set_option maxRecDepth 20000 in
theorem ggX9_callOf_X9_isFalse : GoodIn wsX9_callOf wsX9_isFalse := goodIn_r _ [80, 81, 82, 83, 84, 12, 85, 8, 86, 87, 88, 89, 90, 91, 92, 93, 94, 95, 96, 97, 98, 99, 100, 101, 102, 103, 104, 105, 106, 107, 108, 109, 110, 111, 112, 113, 114, 115, 116, 117, 118, 119, 120, 121, 122, 123, 124, 125, 126, 127, 128, 129, 130, 131] (by decide +kernel) (by decide +kernel)
set_option maxRecDepth 20000 in
theorem gX9_callOf_X9_isFalse : GoodIn wsX9_callOf (wsV RX9 289 RX9 yX9_isFalse wsX9_isFalse) := goodIn_app (goodIn_of _ (by decide +kernel)) ggX9_callOf_X9_isFalse
theorem dX9_callOf_0 : decode cX9_callOf 0 = .ok (.aload_n 0, 1) := by decide +kernel
theorem dX9_callOf_1 : decode cX9_callOf 1 = .ok (.iload_n 1, 1) := by decide +kernel
theorem dX9_callOf_2 : decode cX9_callOf 2 = .ok (.invokevirtual 273, 3) := by decide +kernel
theorem dX9_callOf_5 : decode cX9_callOf 5 = .ok (.ifCond .eq 15, 3) := by decide +kernel
theorem dX9_callOf_8 : decode cX9_callOf 8 = .ok (.iload_n 2, 1) := by decide +kernel
theorem dX9_callOf_9 : decode cX9_callOf 9 = .ok (.i2l, 1) := by decide +kernel
theorem dX9_callOf_10 : decode cX9_callOf 10 = .ok (.lconst 0, 1) := by decide +kernel
theorem dX9_callOf_11 : decode cX9_callOf 11 = .ok (.ldc2_w 236, 3) := by decide +kernel
theorem dX9_callOf_14 : decode cX9_callOf 14 = .ok (.invokestatic 104, 3) := by decide +kernel
theorem dX9_callOf_17 : decode cX9_callOf 17 = .ok (.ifCond .ne 5, 3) := by decide +kernel
theorem dX9_callOf_20 : decode cX9_callOf 20 = .ok (.iconst (-1), 1) := by decide +kernel
theorem dX9_callOf_21 : decode cX9_callOf 21 = .ok (.ireturn, 1) := by decide +kernel
theorem dX9_callOf_22 : decode cX9_callOf 22 = .ok (.iconst 0, 1) := by decide +kernel
theorem dX9_callOf_23 : decode cX9_callOf 23 = .ok (.istore_n 3, 1) := by decide +kernel
theorem dX9_callOf_24 : decode cX9_callOf 24 = .ok (.iconst 0, 1) := by decide +kernel
theorem dX9_callOf_25 : decode cX9_callOf 25 = .ok (.istore 4, 2) := by decide +kernel
theorem dX9_callOf_27 : decode cX9_callOf 27 = .ok (.iconst 0, 1) := by decide +kernel
theorem dX9_callOf_28 : decode cX9_callOf 28 = .ok (.istore 5, 2) := by decide +kernel
theorem dX9_callOf_30 : decode cX9_callOf 30 = .ok (.iload 5, 2) := by decide +kernel
theorem dX9_callOf_32 : decode cX9_callOf 32 = .ok (.aload_n 0, 1) := by decide +kernel
theorem dX9_callOf_33 : decode cX9_callOf 33 = .ok (.getfield 245, 3) := by decide +kernel
theorem dX9_callOf_36 : decode cX9_callOf 36 = .ok (.if_icmp .ge 59, 3) := by decide +kernel
theorem dX9_callOf_39 : decode cX9_callOf 39 = .ok (.aload_n 0, 1) := by decide +kernel
theorem dX9_callOf_40 : decode cX9_callOf 40 = .ok (.iload 5, 2) := by decide +kernel
theorem dX9_callOf_42 : decode cX9_callOf 42 = .ok (.iload_n 1, 1) := by decide +kernel
theorem dX9_callOf_43 : decode cX9_callOf 43 = .ok (.invokevirtual 286, 3) := by decide +kernel
theorem dX9_callOf_46 : decode cX9_callOf 46 = .ok (.istore 6, 2) := by decide +kernel
theorem dX9_callOf_48 : decode cX9_callOf 48 = .ok (.iload_n 3, 1) := by decide +kernel
theorem dX9_callOf_49 : decode cX9_callOf 49 = .ok (.iload 6, 2) := by decide +kernel
theorem dX9_callOf_51 : decode cX9_callOf 51 = .ok (.bipush (-4), 2) := by decide +kernel
theorem dX9_callOf_53 : decode cX9_callOf 53 = .ok (.if_icmp .ne 7, 3) := by decide +kernel
theorem dX9_callOf_56 : decode cX9_callOf 56 = .ok (.iconst 0, 1) := by decide +kernel
theorem dX9_callOf_57 : decode cX9_callOf 57 = .ok (.goto 4, 3) := by decide +kernel
theorem dX9_callOf_60 : decode cX9_callOf 60 = .ok (.iconst 1, 1) := by decide +kernel
theorem dX9_callOf_61 : decode cX9_callOf 61 = .ok (.iadd, 1) := by decide +kernel
theorem dX9_callOf_62 : decode cX9_callOf 62 = .ok (.istore_n 3, 1) := by decide +kernel
theorem dX9_callOf_63 : decode cX9_callOf 63 = .ok (.iload 4, 2) := by decide +kernel
theorem dX9_callOf_65 : decode cX9_callOf 65 = .ok (.iload 6, 2) := by decide +kernel
theorem dX9_callOf_67 : decode cX9_callOf 67 = .ok (.bipush (-4), 2) := by decide +kernel
theorem dX9_callOf_69 : decode cX9_callOf 69 = .ok (.if_icmp .eq 16, 3) := by decide +kernel
theorem dX9_callOf_72 : decode cX9_callOf 72 = .ok (.iload 6, 2) := by decide +kernel
theorem dX9_callOf_74 : decode cX9_callOf 74 = .ok (.invokestatic 220, 3) := by decide +kernel
theorem dX9_callOf_77 : decode cX9_callOf 77 = .ok (.iconst 1, 1) := by decide +kernel
theorem dX9_callOf_78 : decode cX9_callOf 78 = .ok (.if_icmp .ne 7, 3) := by decide +kernel
theorem dX9_callOf_81 : decode cX9_callOf 81 = .ok (.iconst 1, 1) := by decide +kernel
theorem dX9_callOf_82 : decode cX9_callOf 82 = .ok (.goto 4, 3) := by decide +kernel
theorem dX9_callOf_85 : decode cX9_callOf 85 = .ok (.iconst 0, 1) := by decide +kernel
theorem dX9_callOf_86 : decode cX9_callOf 86 = .ok (.iadd, 1) := by decide +kernel
theorem dX9_callOf_87 : decode cX9_callOf 87 = .ok (.istore 4, 2) := by decide +kernel
theorem dX9_callOf_89 : decode cX9_callOf 89 = .ok (.iinc 5 1, 3) := by decide +kernel
theorem dX9_callOf_92 : decode cX9_callOf 92 = .ok (.goto (-62), 3) := by decide +kernel
theorem dX9_callOf_95 : decode cX9_callOf 95 = .ok (.iload_n 2, 1) := by decide +kernel
theorem dX9_callOf_96 : decode cX9_callOf 96 = .ok (.tableswitch 106 0 7 #[48, 55, 62, 69, 76, 83, 90, 104], 48) := by decide +kernel
theorem dX9_callOf_144 : decode cX9_callOf 144 = .ok (.aload_n 0, 1) := by decide +kernel
theorem dX9_callOf_145 : decode cX9_callOf 145 = .ok (.getfield 70, 3) := by decide +kernel
theorem dX9_callOf_148 : decode cX9_callOf 148 = .ok (.iload_n 1, 1) := by decide +kernel
theorem dX9_callOf_149 : decode cX9_callOf 149 = .ok (.iaload, 1) := by decide +kernel
theorem dX9_callOf_150 : decode cX9_callOf 150 = .ok (.ireturn, 1) := by decide +kernel
theorem dX9_callOf_151 : decode cX9_callOf 151 = .ok (.aload_n 0, 1) := by decide +kernel
theorem dX9_callOf_152 : decode cX9_callOf 152 = .ok (.getfield 73, 3) := by decide +kernel
theorem dX9_callOf_155 : decode cX9_callOf 155 = .ok (.iload_n 1, 1) := by decide +kernel
theorem dX9_callOf_156 : decode cX9_callOf 156 = .ok (.iaload, 1) := by decide +kernel
theorem dX9_callOf_157 : decode cX9_callOf 157 = .ok (.ireturn, 1) := by decide +kernel
theorem dX9_callOf_158 : decode cX9_callOf 158 = .ok (.aload_n 0, 1) := by decide +kernel
theorem dX9_callOf_159 : decode cX9_callOf 159 = .ok (.getfield 76, 3) := by decide +kernel
theorem dX9_callOf_162 : decode cX9_callOf 162 = .ok (.iload_n 1, 1) := by decide +kernel
theorem dX9_callOf_163 : decode cX9_callOf 163 = .ok (.iaload, 1) := by decide +kernel
theorem dX9_callOf_164 : decode cX9_callOf 164 = .ok (.ireturn, 1) := by decide +kernel
theorem dX9_callOf_165 : decode cX9_callOf 165 = .ok (.aload_n 0, 1) := by decide +kernel
theorem dX9_callOf_166 : decode cX9_callOf 166 = .ok (.getfield 79, 3) := by decide +kernel
theorem dX9_callOf_169 : decode cX9_callOf 169 = .ok (.iload_n 1, 1) := by decide +kernel
theorem dX9_callOf_170 : decode cX9_callOf 170 = .ok (.iaload, 1) := by decide +kernel
theorem dX9_callOf_171 : decode cX9_callOf 171 = .ok (.ireturn, 1) := by decide +kernel
theorem dX9_callOf_172 : decode cX9_callOf 172 = .ok (.aload_n 0, 1) := by decide +kernel
theorem dX9_callOf_173 : decode cX9_callOf 173 = .ok (.getfield 82, 3) := by decide +kernel
theorem dX9_callOf_176 : decode cX9_callOf 176 = .ok (.iload_n 1, 1) := by decide +kernel
theorem dX9_callOf_177 : decode cX9_callOf 177 = .ok (.iaload, 1) := by decide +kernel
theorem dX9_callOf_178 : decode cX9_callOf 178 = .ok (.ireturn, 1) := by decide +kernel
theorem dX9_callOf_179 : decode cX9_callOf 179 = .ok (.aload_n 0, 1) := by decide +kernel
theorem dX9_callOf_180 : decode cX9_callOf 180 = .ok (.getfield 85, 3) := by decide +kernel
theorem dX9_callOf_183 : decode cX9_callOf 183 = .ok (.iload_n 1, 1) := by decide +kernel
theorem dX9_callOf_184 : decode cX9_callOf 184 = .ok (.iaload, 1) := by decide +kernel
theorem dX9_callOf_185 : decode cX9_callOf 185 = .ok (.ireturn, 1) := by decide +kernel
theorem dX9_callOf_186 : decode cX9_callOf 186 = .ok (.aload_n 0, 1) := by decide +kernel
theorem dX9_callOf_187 : decode cX9_callOf 187 = .ok (.iload_n 1, 1) := by decide +kernel
theorem dX9_callOf_188 : decode cX9_callOf 188 = .ok (.invokevirtual 289, 3) := by decide +kernel
theorem dX9_callOf_191 : decode cX9_callOf 191 = .ok (.ifCond .eq 7, 3) := by decide +kernel
theorem dX9_callOf_194 : decode cX9_callOf 194 = .ok (.iconst 1, 1) := by decide +kernel
theorem dX9_callOf_195 : decode cX9_callOf 195 = .ok (.goto 4, 3) := by decide +kernel
theorem dX9_callOf_198 : decode cX9_callOf 198 = .ok (.iconst 0, 1) := by decide +kernel
theorem dX9_callOf_199 : decode cX9_callOf 199 = .ok (.ireturn, 1) := by decide +kernel
theorem dX9_callOf_200 : decode cX9_callOf 200 = .ok (.iload_n 3, 1) := by decide +kernel
theorem dX9_callOf_201 : decode cX9_callOf 201 = .ok (.ireturn, 1) := by decide +kernel
theorem dX9_callOf_202 : decode cX9_callOf 202 = .ok (.iload 4, 2) := by decide +kernel
theorem dX9_callOf_204 : decode cX9_callOf 204 = .ok (.ireturn, 1) := by decide +kernel
set_option maxRecDepth 20000 in
theorem ggX9_lie_X9_isCall : GoodIn wsX9_lie wsX9_isCall := goodIn_r _ [7, 8, 9, 10, 6, 11, 12, 13, 14, 15, 16, 17, 18, 19, 20, 21, 22, 23, 24, 25, 26, 27, 28, 29, 30, 31, 32, 33, 34, 35, 36, 37, 38, 39, 40, 41, 42, 43, 44, 45, 46, 47, 48, 49, 50, 51, 52, 53, 54, 55, 56, 57] (by decide +kernel) (by decide +kernel)
set_option maxRecDepth 20000 in
theorem gX9_lie_X9_isCall : GoodIn wsX9_lie (wsV RX9 273 RX9 yX9_isCall wsX9_isCall) := goodIn_app (goodIn_of _ (by decide +kernel)) ggX9_lie_X9_isCall
theorem dX9_lie_0 : decode cX9_lie 0 = .ok (.aload_n 0, 1) := by decide +kernel
theorem dX9_lie_1 : decode cX9_lie 1 = .ok (.iload_n 1, 1) := by decide +kernel
theorem dX9_lie_2 : decode cX9_lie 2 = .ok (.invokevirtual 273, 3) := by decide +kernel
theorem dX9_lie_5 : decode cX9_lie 5 = .ok (.ifCond .ne 5, 3) := by decide +kernel
theorem dX9_lie_8 : decode cX9_lie 8 = .ok (.iconst (-1), 1) := by decide +kernel
theorem dX9_lie_9 : decode cX9_lie 9 = .ok (.ireturn, 1) := by decide +kernel
theorem dX9_lie_10 : decode cX9_lie 10 = .ok (.aload_n 0, 1) := by decide +kernel
theorem dX9_lie_11 : decode cX9_lie 11 = .ok (.getfield 85, 3) := by decide +kernel
theorem dX9_lie_14 : decode cX9_lie 14 = .ok (.iload_n 1, 1) := by decide +kernel
theorem dX9_lie_15 : decode cX9_lie 15 = .ok (.iaload, 1) := by decide +kernel
theorem dX9_lie_16 : decode cX9_lie 16 = .ok (.bipush (-4), 2) := by decide +kernel
theorem dX9_lie_18 : decode cX9_lie 18 = .ok (.if_icmp .eq 6, 3) := by decide +kernel
theorem dX9_lie_21 : decode cX9_lie 21 = .ok (.bipush (-2), 2) := by decide +kernel
theorem dX9_lie_23 : decode cX9_lie 23 = .ok (.ireturn, 1) := by decide +kernel
theorem dX9_lie_24 : decode cX9_lie 24 = .ok (.aload_n 0, 1) := by decide +kernel
theorem dX9_lie_25 : decode cX9_lie 25 = .ok (.getfield 88, 3) := by decide +kernel
theorem dX9_lie_28 : decode cX9_lie 28 = .ok (.iload_n 1, 1) := by decide +kernel
theorem dX9_lie_29 : decode cX9_lie 29 = .ok (.baload, 1) := by decide +kernel
theorem dX9_lie_30 : decode cX9_lie 30 = .ok (.ifCond .eq 7, 3) := by decide +kernel
theorem dX9_lie_33 : decode cX9_lie 33 = .ok (.iconst 1, 1) := by decide +kernel
theorem dX9_lie_34 : decode cX9_lie 34 = .ok (.goto 4, 3) := by decide +kernel
theorem dX9_lie_37 : decode cX9_lie 37 = .ok (.iconst 0, 1) := by decide +kernel
theorem dX9_lie_38 : decode cX9_lie 38 = .ok (.istore_n 3, 1) := by decide +kernel
theorem dX9_lie_39 : decode cX9_lie 39 = .ok (.aload_n 0, 1) := by decide +kernel
theorem dX9_lie_40 : decode cX9_lie 40 = .ok (.getfield 88, 3) := by decide +kernel
theorem dX9_lie_43 : decode cX9_lie 43 = .ok (.iload_n 1, 1) := by decide +kernel
theorem dX9_lie_44 : decode cX9_lie 44 = .ok (.iload_n 2, 1) := by decide +kernel
theorem dX9_lie_45 : decode cX9_lie 45 = .ok (.bastore, 1) := by decide +kernel
theorem dX9_lie_46 : decode cX9_lie 46 = .ok (.iload_n 3, 1) := by decide +kernel
theorem dX9_lie_47 : decode cX9_lie 47 = .ok (.ireturn, 1) := by decide +kernel
theorem dX9_upTo_0 : decode cX9_upTo 0 = .ok (.iconst 0, 1) := by decide +kernel
theorem dX9_upTo_1 : decode cX9_upTo 1 = .ok (.istore_n 3, 1) := by decide +kernel
theorem dX9_upTo_2 : decode cX9_upTo 2 = .ok (.iload_n 3, 1) := by decide +kernel
theorem dX9_upTo_3 : decode cX9_upTo 3 = .ok (.aload_n 0, 1) := by decide +kernel
theorem dX9_upTo_4 : decode cX9_upTo 4 = .ok (.getfield 177, 3) := by decide +kernel
theorem dX9_upTo_7 : decode cX9_upTo 7 = .ok (.if_icmp .ge 34, 3) := by decide +kernel
theorem dX9_upTo_10 : decode cX9_upTo 10 = .ok (.bipush 24, 2) := by decide +kernel
theorem dX9_upTo_12 : decode cX9_upTo 12 = .ok (.aload_n 0, 1) := by decide +kernel
theorem dX9_upTo_13 : decode cX9_upTo 13 = .ok (.getfield 70, 3) := by decide +kernel
theorem dX9_upTo_16 : decode cX9_upTo 16 = .ok (.iload_n 3, 1) := by decide +kernel
theorem dX9_upTo_17 : decode cX9_upTo 17 = .ok (.iaload, 1) := by decide +kernel
theorem dX9_upTo_18 : decode cX9_upTo 18 = .ok (.imul, 1) := by decide +kernel
theorem dX9_upTo_19 : decode cX9_upTo 19 = .ok (.aload_n 0, 1) := by decide +kernel
theorem dX9_upTo_20 : decode cX9_upTo 20 = .ok (.getfield 73, 3) := by decide +kernel
theorem dX9_upTo_23 : decode cX9_upTo 23 = .ok (.iload_n 3, 1) := by decide +kernel
theorem dX9_upTo_24 : decode cX9_upTo 24 = .ok (.iaload, 1) := by decide +kernel
theorem dX9_upTo_25 : decode cX9_upTo 25 = .ok (.iadd, 1) := by decide +kernel
theorem dX9_upTo_26 : decode cX9_upTo 26 = .ok (.bipush 24, 2) := by decide +kernel
theorem dX9_upTo_28 : decode cX9_upTo 28 = .ok (.iload_n 1, 1) := by decide +kernel
theorem dX9_upTo_29 : decode cX9_upTo 29 = .ok (.imul, 1) := by decide +kernel
theorem dX9_upTo_30 : decode cX9_upTo 30 = .ok (.iload_n 2, 1) := by decide +kernel
theorem dX9_upTo_31 : decode cX9_upTo 31 = .ok (.iadd, 1) := by decide +kernel
theorem dX9_upTo_32 : decode cX9_upTo 32 = .ok (.if_icmp .gt 9, 3) := by decide +kernel
theorem dX9_upTo_35 : decode cX9_upTo 35 = .ok (.iinc 3 1, 3) := by decide +kernel
theorem dX9_upTo_38 : decode cX9_upTo 38 = .ok (.goto (-36), 3) := by decide +kernel
theorem dX9_upTo_41 : decode cX9_upTo 41 = .ok (.iload_n 3, 1) := by decide +kernel
theorem dX9_upTo_42 : decode cX9_upTo 42 = .ok (.ireturn, 1) := by decide +kernel
set_option maxRecDepth 20000 in
theorem ggX9_hasAll_X9_firstOf : GoodIn wsX9_hasAll wsX9_firstOf := goodIn_r _ [5, 6, 67, 68, 69, 70, 71, 72, 73, 74, 75, 76, 77, 78, 79, 80, 81, 82, 83, 84, 85, 86, 87, 88, 89, 90, 91, 92, 93, 94, 95, 96, 97, 98, 99, 100, 101, 102, 103, 104, 105, 106, 107, 108, 109, 110, 111, 112] (by decide +kernel) (by decide +kernel)
set_option maxRecDepth 20000 in
theorem gX9_hasAll_X9_firstOf : GoodIn wsX9_hasAll (wsV RX9 283 RX9 yX9_firstOf wsX9_firstOf) := goodIn_app (goodIn_of _ (by decide +kernel)) ggX9_hasAll_X9_firstOf
set_option maxRecDepth 20000 in
theorem ggX9_hasAll_X9_hasOne : GoodIn wsX9_hasAll wsX9_hasOne := goodIn_r _ [10, 11, 12, 13, 14, 15, 16, 17, 4, 18, 19, 20, 21, 22, 23, 24, 25, 26, 27, 28, 29, 30, 31, 32, 33, 34, 35, 36, 37, 38, 39, 40, 41, 42, 43, 44, 45, 46, 47, 48, 49, 50, 51, 52, 53, 54, 55, 56, 57, 58, 59, 60, 61, 62, 63, 64, 65, 66, 67, 68, 69, 70, 71, 72, 73, 74, 75, 76, 77, 78, 79, 80, 81, 82, 83, 84, 85, 86, 87, 88, 89, 90, 91, 92, 93, 94, 95, 96, 97, 98, 99, 100, 101, 102, 103, 104, 105, 106, 107, 108, 109, 110, 111, 112] (by decide +kernel) (by decide +kernel)
set_option maxRecDepth 20000 in
theorem gX9_hasAll_X9_hasOne : GoodIn wsX9_hasAll (wsV RX9 286 RX9 yX9_hasOne wsX9_hasOne) := goodIn_app (goodIn_of _ (by decide +kernel)) ggX9_hasAll_X9_hasOne
theorem dX9_hasAll_0 : decode cX9_hasAll 0 = .ok (.bipush (-4), 2) := by decide +kernel
theorem dX9_hasAll_2 : decode cX9_hasAll 2 = .ok (.istore 4, 2) := by decide +kernel
theorem dX9_hasAll_4 : decode cX9_hasAll 4 = .ok (.iload_n 2, 1) := by decide +kernel
theorem dX9_hasAll_5 : decode cX9_hasAll 5 = .ok (.istore 5, 2) := by decide +kernel
theorem dX9_hasAll_7 : decode cX9_hasAll 7 = .ok (.iload 5, 2) := by decide +kernel
theorem dX9_hasAll_9 : decode cX9_hasAll 9 = .ok (.iload_n 3, 1) := by decide +kernel
theorem dX9_hasAll_10 : decode cX9_hasAll 10 = .ok (.if_icmp .ge 59, 3) := by decide +kernel
theorem dX9_hasAll_13 : decode cX9_hasAll 13 = .ok (.aload_n 0, 1) := by decide +kernel
theorem dX9_hasAll_14 : decode cX9_hasAll 14 = .ok (.iload 5, 2) := by decide +kernel
theorem dX9_hasAll_16 : decode cX9_hasAll 16 = .ok (.invokevirtual 283, 3) := by decide +kernel
theorem dX9_hasAll_19 : decode cX9_hasAll 19 = .ok (.iload_n 2, 1) := by decide +kernel
theorem dX9_hasAll_20 : decode cX9_hasAll 20 = .ok (.if_icmp .ne 43, 3) := by decide +kernel
theorem dX9_hasAll_23 : decode cX9_hasAll 23 = .ok (.aload_n 0, 1) := by decide +kernel
theorem dX9_hasAll_24 : decode cX9_hasAll 24 = .ok (.iload_n 1, 1) := by decide +kernel
theorem dX9_hasAll_25 : decode cX9_hasAll 25 = .ok (.iload 5, 2) := by decide +kernel
theorem dX9_hasAll_27 : decode cX9_hasAll 27 = .ok (.invokevirtual 286, 3) := by decide +kernel
theorem dX9_hasAll_30 : decode cX9_hasAll 30 = .ok (.istore 6, 2) := by decide +kernel
theorem dX9_hasAll_32 : decode cX9_hasAll 32 = .ok (.iload 6, 2) := by decide +kernel
theorem dX9_hasAll_34 : decode cX9_hasAll 34 = .ok (.bipush (-4), 2) := by decide +kernel
theorem dX9_hasAll_36 : decode cX9_hasAll 36 = .ok (.if_icmp .ne 8, 3) := by decide +kernel
theorem dX9_hasAll_39 : decode cX9_hasAll 39 = .ok (.iload 4, 2) := by decide +kernel
theorem dX9_hasAll_41 : decode cX9_hasAll 41 = .ok (.goto 20, 3) := by decide +kernel
theorem dX9_hasAll_44 : decode cX9_hasAll 44 = .ok (.iload 4, 2) := by decide +kernel
theorem dX9_hasAll_46 : decode cX9_hasAll 46 = .ok (.bipush (-4), 2) := by decide +kernel
theorem dX9_hasAll_48 : decode cX9_hasAll 48 = .ok (.if_icmp .ne 8, 3) := by decide +kernel
theorem dX9_hasAll_51 : decode cX9_hasAll 51 = .ok (.iload 6, 2) := by decide +kernel
theorem dX9_hasAll_53 : decode cX9_hasAll 53 = .ok (.goto 8, 3) := by decide +kernel
theorem dX9_hasAll_56 : decode cX9_hasAll 56 = .ok (.iload 4, 2) := by decide +kernel
theorem dX9_hasAll_58 : decode cX9_hasAll 58 = .ok (.iload 6, 2) := by decide +kernel
theorem dX9_hasAll_60 : decode cX9_hasAll 60 = .ok (.iand, 1) := by decide +kernel
theorem dX9_hasAll_61 : decode cX9_hasAll 61 = .ok (.istore 4, 2) := by decide +kernel
theorem dX9_hasAll_63 : decode cX9_hasAll 63 = .ok (.iinc 5 1, 3) := by decide +kernel
theorem dX9_hasAll_66 : decode cX9_hasAll 66 = .ok (.goto (-59), 3) := by decide +kernel
theorem dX9_hasAll_69 : decode cX9_hasAll 69 = .ok (.iload 4, 2) := by decide +kernel
theorem dX9_hasAll_71 : decode cX9_hasAll 71 = .ok (.ireturn, 1) := by decide +kernel
set_option maxRecDepth 20000 in
theorem ggX9_has_X9_isPlace : GoodIn wsX9_has wsX9_isPlace := goodIn_r _ [6, 7, 8, 9, 5, 10, 94, 95, 96, 97, 98, 99, 100, 101, 102, 103, 104, 105, 106, 107, 108, 109, 110, 111, 112, 113, 114, 115, 116, 117, 118, 119, 120, 121, 122, 123, 124, 125, 126, 127, 128, 129, 130, 131, 132, 133, 134, 135, 136, 137, 138, 139] (by decide +kernel) (by decide +kernel)
set_option maxRecDepth 20000 in
theorem gX9_has_X9_isPlace : GoodIn wsX9_has (wsV RX9 260 RX9 yX9_isPlace wsX9_isPlace) := goodIn_app (goodIn_of _ (by decide +kernel)) ggX9_has_X9_isPlace
set_option maxRecDepth 20000 in
theorem ggX9_has_X9_isCall : GoodIn wsX9_has wsX9_isCall := goodIn_r _ [14, 15, 8, 9, 5, 10, 94, 95, 96, 97, 98, 99, 100, 101, 102, 103, 104, 105, 106, 107, 108, 109, 110, 111, 112, 113, 114, 115, 116, 117, 118, 119, 120, 121, 122, 123, 124, 125, 126, 127, 128, 129, 130, 131, 132, 133, 134, 135, 136, 137, 138, 139] (by decide +kernel) (by decide +kernel)
set_option maxRecDepth 20000 in
theorem gX9_has_X9_isCall : GoodIn wsX9_has (wsV RX9 273 RX9 yX9_isCall wsX9_isCall) := goodIn_app (goodIn_of _ (by decide +kernel)) ggX9_has_X9_isCall
set_option maxRecDepth 20000 in
theorem ggX9_has_X9_isTime : GoodIn wsX9_has wsX9_isTime := goodIn_r _ [18, 19, 20, 8, 9, 5, 10] (by decide +kernel) (by decide +kernel)
set_option maxRecDepth 20000 in
theorem gX9_has_X9_isTime : GoodIn wsX9_has (va_wsS RX9 276 yX9_isTime wsX9_isTime) := goodIn_app (goodIn_of _ (by decide +kernel)) ggX9_has_X9_isTime
set_option maxRecDepth 20000 in
theorem ggX9_has_X9_upTo : GoodIn wsX9_has wsX9_upTo := goodIn_r _ [24, 15, 25, 26, 94, 95, 96, 97, 98, 99, 100, 101, 102, 103, 104, 105, 106, 107, 108, 109, 110, 111, 112, 113, 114, 115, 116, 117, 118, 119, 120, 121, 122, 123, 124, 125, 126, 127, 128, 129, 130, 131, 132, 133, 134, 135, 136, 137, 138, 139] (by decide +kernel) (by decide +kernel)
set_option maxRecDepth 20000 in
theorem gX9_has_X9_upTo : GoodIn wsX9_has (wsV RX9 292 RX9 yX9_upTo wsX9_upTo) := goodIn_app (goodIn_of _ (by decide +kernel)) ggX9_has_X9_upTo
set_option maxRecDepth 20000 in
theorem ggX9_has_X9_hasAll : GoodIn wsX9_has wsX9_hasAll := goodIn_r _ [30, 31, 32, 33, 5, 34, 1, 35, 36, 37, 38, 39, 26, 40, 41, 42, 43, 44, 45, 46, 47, 48, 49, 50, 51, 52, 53, 54, 55, 56, 57, 58, 59, 60, 61, 62, 63, 64, 65, 66, 67, 68, 69, 70, 71, 72, 73, 74, 75, 76, 77, 78, 79, 80, 81, 82, 83, 84, 85, 86, 87, 88, 89, 90, 91, 92, 93, 94, 95, 96, 97, 98, 99, 100, 101, 102, 103, 104, 105, 106, 107, 108, 109, 110, 111, 112, 113, 114, 115, 116, 117, 118, 119, 120, 121, 122, 123, 124, 125, 126, 127, 128, 129, 130, 131, 132, 133, 134, 135, 136, 137, 138, 139] (by decide +kernel) (by decide +kernel)
set_option maxRecDepth 20000 in
theorem gX9_has_X9_hasAll : GoodIn wsX9_has (wsV RX9 295 RX9 yX9_hasAll wsX9_hasAll) := goodIn_app (goodIn_of _ (by decide +kernel)) ggX9_has_X9_hasAll
theorem dX9_has_0 : decode cX9_has 0 = .ok (.aload_n 0, 1) := by decide +kernel
theorem dX9_has_1 : decode cX9_has 1 = .ok (.iload_n 1, 1) := by decide +kernel
theorem dX9_has_2 : decode cX9_has 2 = .ok (.invokevirtual 260, 3) := by decide +kernel
theorem dX9_has_5 : decode cX9_has 5 = .ok (.ifCond .eq 20, 3) := by decide +kernel
theorem dX9_has_8 : decode cX9_has 8 = .ok (.aload_n 0, 1) := by decide +kernel
theorem dX9_has_9 : decode cX9_has 9 = .ok (.iload_n 2, 1) := by decide +kernel
theorem dX9_has_10 : decode cX9_has 10 = .ok (.invokevirtual 273, 3) := by decide +kernel
theorem dX9_has_13 : decode cX9_has 13 = .ok (.ifCond .eq 12, 3) := by decide +kernel
theorem dX9_has_16 : decode cX9_has 16 = .ok (.iload_n 3, 1) := by decide +kernel
theorem dX9_has_17 : decode cX9_has 17 = .ok (.iload 4, 2) := by decide +kernel
theorem dX9_has_19 : decode cX9_has 19 = .ok (.invokestatic 276, 3) := by decide +kernel
theorem dX9_has_22 : decode cX9_has 22 = .ok (.ifCond .ne 5, 3) := by decide +kernel
theorem dX9_has_25 : decode cX9_has 25 = .ok (.iconst (-1), 1) := by decide +kernel
theorem dX9_has_26 : decode cX9_has 26 = .ok (.ireturn, 1) := by decide +kernel
theorem dX9_has_27 : decode cX9_has 27 = .ok (.aload_n 0, 1) := by decide +kernel
theorem dX9_has_28 : decode cX9_has 28 = .ok (.getfield 85, 3) := by decide +kernel
theorem dX9_has_31 : decode cX9_has 31 = .ok (.iload_n 2, 1) := by decide +kernel
theorem dX9_has_32 : decode cX9_has 32 = .ok (.iaload, 1) := by decide +kernel
theorem dX9_has_33 : decode cX9_has 33 = .ok (.bipush (-4), 2) := by decide +kernel
theorem dX9_has_35 : decode cX9_has 35 = .ok (.if_icmp .eq 8, 3) := by decide +kernel
theorem dX9_has_38 : decode cX9_has 38 = .ok (.bipush (-2), 2) := by decide +kernel
theorem dX9_has_40 : decode cX9_has 40 = .ok (.goto 16, 3) := by decide +kernel
theorem dX9_has_43 : decode cX9_has 43 = .ok (.aload_n 0, 1) := by decide +kernel
theorem dX9_has_44 : decode cX9_has 44 = .ok (.iload_n 1, 1) := by decide +kernel
theorem dX9_has_45 : decode cX9_has 45 = .ok (.iload_n 2, 1) := by decide +kernel
theorem dX9_has_46 : decode cX9_has 46 = .ok (.aload_n 0, 1) := by decide +kernel
theorem dX9_has_47 : decode cX9_has 47 = .ok (.iload_n 3, 1) := by decide +kernel
theorem dX9_has_48 : decode cX9_has 48 = .ok (.iload 4, 2) := by decide +kernel
theorem dX9_has_50 : decode cX9_has 50 = .ok (.invokevirtual 292, 3) := by decide +kernel
theorem dX9_has_53 : decode cX9_has 53 = .ok (.invokevirtual 295, 3) := by decide +kernel
theorem dX9_has_56 : decode cX9_has 56 = .ok (.ireturn, 1) := by decide +kernel
set_option maxRecDepth 20000 in
theorem ggX9_knowsBy_X9_isFalse : GoodIn wsX9_knowsBy wsX9_isFalse := goodIn_r _ [9, 10, 11, 12, 13, 8, 14, 2, 79, 80, 81, 82, 83, 84, 85, 86, 87, 88, 89, 90, 91, 92, 93, 94, 95, 96, 97, 98, 99, 100, 101, 102, 103, 104, 105, 106, 107, 108, 109, 110, 111, 112, 113, 114, 115, 116, 117, 118, 119, 120, 121, 122, 123, 124] (by decide +kernel) (by decide +kernel)
set_option maxRecDepth 20000 in
theorem gX9_knowsBy_X9_isFalse : GoodIn wsX9_knowsBy (wsV RX9 289 RX9 yX9_isFalse wsX9_isFalse) := goodIn_app (goodIn_of _ (by decide +kernel)) ggX9_knowsBy_X9_isFalse
set_option maxRecDepth 20000 in
theorem ggX9_knowsBy_X9_hasAll : GoodIn wsX9_knowsBy wsX9_hasAll := goodIn_r _ [18, 11, 12, 13, 8, 14, 2, 19, 20, 21, 22, 3, 23, 1, 4, 24, 25, 26, 27, 28, 29, 30, 31, 32, 33, 34, 35, 36, 37, 38, 39, 40, 41, 42, 43, 44, 45, 46, 47, 48, 49, 50, 51, 52, 53, 54, 55, 56, 57, 58, 59, 60, 61, 62, 63, 64, 65, 66, 67, 68, 69, 70, 71, 72, 73, 74, 75, 79, 80, 81, 82, 83, 84, 85, 86, 87, 88, 89, 90, 91, 92, 93, 94, 95, 96, 97, 98, 99, 100, 101, 102, 103, 104, 105, 106, 107, 108, 109, 110, 111, 112, 113, 114, 115, 116, 117, 118, 119, 120, 121, 122, 123, 124] (by decide +kernel) (by decide +kernel)
set_option maxRecDepth 20000 in
theorem gX9_knowsBy_X9_hasAll : GoodIn wsX9_knowsBy (wsV RX9 295 RX9 yX9_hasAll wsX9_hasAll) := goodIn_app (goodIn_of _ (by decide +kernel)) ggX9_knowsBy_X9_hasAll
set_option maxRecDepth 20000 in
theorem ggX9_knowsBy_X9_bits : GoodIn wsX9_knowsBy wsX9_bits := goodIn_r _ [78] (by decide +kernel) (by decide +kernel)
set_option maxRecDepth 20000 in
theorem gX9_knowsBy_X9_bits : GoodIn wsX9_knowsBy (va_wsS RX9 220 yX9_bits wsX9_bits) := goodIn_app (goodIn_of _ (by decide +kernel)) ggX9_knowsBy_X9_bits
theorem dX9_knowsBy_0 : decode cX9_knowsBy 0 = .ok (.iconst 0, 1) := by decide +kernel
theorem dX9_knowsBy_1 : decode cX9_knowsBy 1 = .ok (.istore 4, 2) := by decide +kernel
theorem dX9_knowsBy_3 : decode cX9_knowsBy 3 = .ok (.iconst 0, 1) := by decide +kernel
theorem dX9_knowsBy_4 : decode cX9_knowsBy 4 = .ok (.istore 5, 2) := by decide +kernel
theorem dX9_knowsBy_6 : decode cX9_knowsBy 6 = .ok (.iload 5, 2) := by decide +kernel
theorem dX9_knowsBy_8 : decode cX9_knowsBy 8 = .ok (.iload_n 3, 1) := by decide +kernel
theorem dX9_knowsBy_9 : decode cX9_knowsBy 9 = .ok (.if_icmp .ge 112, 3) := by decide +kernel
theorem dX9_knowsBy_12 : decode cX9_knowsBy 12 = .ok (.aload_n 0, 1) := by decide +kernel
theorem dX9_knowsBy_13 : decode cX9_knowsBy 13 = .ok (.getfield 79, 3) := by decide +kernel
theorem dX9_knowsBy_16 : decode cX9_knowsBy 16 = .ok (.iload 5, 2) := by decide +kernel
theorem dX9_knowsBy_18 : decode cX9_knowsBy 18 = .ok (.iaload, 1) := by decide +kernel
theorem dX9_knowsBy_19 : decode cX9_knowsBy 19 = .ok (.iload_n 2, 1) := by decide +kernel
theorem dX9_knowsBy_20 : decode cX9_knowsBy 20 = .ok (.if_icmp .ne 95, 3) := by decide +kernel
theorem dX9_knowsBy_23 : decode cX9_knowsBy 23 = .ok (.aload_n 0, 1) := by decide +kernel
theorem dX9_knowsBy_24 : decode cX9_knowsBy 24 = .ok (.iload 5, 2) := by decide +kernel
theorem dX9_knowsBy_26 : decode cX9_knowsBy 26 = .ok (.invokevirtual 289, 3) := by decide +kernel
theorem dX9_knowsBy_29 : decode cX9_knowsBy 29 = .ok (.ifCond .ne 86, 3) := by decide +kernel
theorem dX9_knowsBy_32 : decode cX9_knowsBy 32 = .ok (.aload_n 0, 1) := by decide +kernel
theorem dX9_knowsBy_33 : decode cX9_knowsBy 33 = .ok (.getfield 85, 3) := by decide +kernel
theorem dX9_knowsBy_36 : decode cX9_knowsBy 36 = .ok (.iload 5, 2) := by decide +kernel
theorem dX9_knowsBy_38 : decode cX9_knowsBy 38 = .ok (.iaload, 1) := by decide +kernel
theorem dX9_knowsBy_39 : decode cX9_knowsBy 39 = .ok (.bipush (-4), 2) := by decide +kernel
theorem dX9_knowsBy_41 : decode cX9_knowsBy 41 = .ok (.if_icmp .ne 14, 3) := by decide +kernel
theorem dX9_knowsBy_44 : decode cX9_knowsBy 44 = .ok (.aload_n 0, 1) := by decide +kernel
theorem dX9_knowsBy_45 : decode cX9_knowsBy 45 = .ok (.iload_n 1, 1) := by decide +kernel
theorem dX9_knowsBy_46 : decode cX9_knowsBy 46 = .ok (.iload 5, 2) := by decide +kernel
theorem dX9_knowsBy_48 : decode cX9_knowsBy 48 = .ok (.iload_n 3, 1) := by decide +kernel
theorem dX9_knowsBy_49 : decode cX9_knowsBy 49 = .ok (.invokevirtual 295, 3) := by decide +kernel
theorem dX9_knowsBy_52 : decode cX9_knowsBy 52 = .ok (.goto 5, 3) := by decide +kernel
theorem dX9_knowsBy_55 : decode cX9_knowsBy 55 = .ok (.bipush (-4), 2) := by decide +kernel
theorem dX9_knowsBy_57 : decode cX9_knowsBy 57 = .ok (.istore 6, 2) := by decide +kernel
theorem dX9_knowsBy_59 : decode cX9_knowsBy 59 = .ok (.iload 4, 2) := by decide +kernel
theorem dX9_knowsBy_61 : decode cX9_knowsBy 61 = .ok (.aload_n 0, 1) := by decide +kernel
theorem dX9_knowsBy_62 : decode cX9_knowsBy 62 = .ok (.getfield 76, 3) := by decide +kernel
theorem dX9_knowsBy_65 : decode cX9_knowsBy 65 = .ok (.iload 5, 2) := by decide +kernel
theorem dX9_knowsBy_67 : decode cX9_knowsBy 67 = .ok (.iaload, 1) := by decide +kernel
theorem dX9_knowsBy_68 : decode cX9_knowsBy 68 = .ok (.iload_n 1, 1) := by decide +kernel
theorem dX9_knowsBy_69 : decode cX9_knowsBy 69 = .ok (.if_icmp .ne 15, 3) := by decide +kernel
theorem dX9_knowsBy_72 : decode cX9_knowsBy 72 = .ok (.iconst 1, 1) := by decide +kernel
theorem dX9_knowsBy_73 : decode cX9_knowsBy 73 = .ok (.aload_n 0, 1) := by decide +kernel
theorem dX9_knowsBy_74 : decode cX9_knowsBy 74 = .ok (.getfield 82, 3) := by decide +kernel
theorem dX9_knowsBy_77 : decode cX9_knowsBy 77 = .ok (.iload 5, 2) := by decide +kernel
theorem dX9_knowsBy_79 : decode cX9_knowsBy 79 = .ok (.iaload, 1) := by decide +kernel
theorem dX9_knowsBy_80 : decode cX9_knowsBy 80 = .ok (.ishl, 1) := by decide +kernel
theorem dX9_knowsBy_81 : decode cX9_knowsBy 81 = .ok (.goto 4, 3) := by decide +kernel
theorem dX9_knowsBy_84 : decode cX9_knowsBy 84 = .ok (.iconst 0, 1) := by decide +kernel
theorem dX9_knowsBy_85 : decode cX9_knowsBy 85 = .ok (.ior, 1) := by decide +kernel
theorem dX9_knowsBy_86 : decode cX9_knowsBy 86 = .ok (.istore 4, 2) := by decide +kernel
theorem dX9_knowsBy_88 : decode cX9_knowsBy 88 = .ok (.iload 4, 2) := by decide +kernel
theorem dX9_knowsBy_90 : decode cX9_knowsBy 90 = .ok (.iload 6, 2) := by decide +kernel
theorem dX9_knowsBy_92 : decode cX9_knowsBy 92 = .ok (.bipush (-4), 2) := by decide +kernel
theorem dX9_knowsBy_94 : decode cX9_knowsBy 94 = .ok (.if_icmp .eq 17, 3) := by decide +kernel
theorem dX9_knowsBy_97 : decode cX9_knowsBy 97 = .ok (.iload 6, 2) := by decide +kernel
theorem dX9_knowsBy_99 : decode cX9_knowsBy 99 = .ok (.invokestatic 220, 3) := by decide +kernel
theorem dX9_knowsBy_102 : decode cX9_knowsBy 102 = .ok (.iconst 1, 1) := by decide +kernel
theorem dX9_knowsBy_103 : decode cX9_knowsBy 103 = .ok (.if_icmp .ne 8, 3) := by decide +kernel
theorem dX9_knowsBy_106 : decode cX9_knowsBy 106 = .ok (.iload 6, 2) := by decide +kernel
theorem dX9_knowsBy_108 : decode cX9_knowsBy 108 = .ok (.goto 4, 3) := by decide +kernel
theorem dX9_knowsBy_111 : decode cX9_knowsBy 111 = .ok (.iconst 0, 1) := by decide +kernel
theorem dX9_knowsBy_112 : decode cX9_knowsBy 112 = .ok (.ior, 1) := by decide +kernel
theorem dX9_knowsBy_113 : decode cX9_knowsBy 113 = .ok (.istore 4, 2) := by decide +kernel
theorem dX9_knowsBy_115 : decode cX9_knowsBy 115 = .ok (.iinc 5 1, 3) := by decide +kernel
theorem dX9_knowsBy_118 : decode cX9_knowsBy 118 = .ok (.goto (-112), 3) := by decide +kernel
theorem dX9_knowsBy_121 : decode cX9_knowsBy 121 = .ok (.iload 4, 2) := by decide +kernel
theorem dX9_knowsBy_123 : decode cX9_knowsBy 123 = .ok (.ireturn, 1) := by decide +kernel
set_option maxRecDepth 20000 in
theorem ggX9_knows_X9_isPlace : GoodIn wsX9_knows wsX9_isPlace := goodIn_r _ [5, 6, 7, 8, 4, 9, 107, 108, 109, 110, 111, 112, 113, 114, 115, 116, 117, 118, 119, 120, 121, 122, 123, 124, 125, 126, 127, 128, 129, 130, 131, 132, 133, 134, 135, 136, 137, 138, 139, 140, 141, 142, 143, 144, 145, 146, 147, 148, 149, 150, 151, 152] (by decide +kernel) (by decide +kernel)
set_option maxRecDepth 20000 in
theorem gX9_knows_X9_isPlace : GoodIn wsX9_knows (wsV RX9 260 RX9 yX9_isPlace wsX9_isPlace) := goodIn_app (goodIn_of _ (by decide +kernel)) ggX9_knows_X9_isPlace
set_option maxRecDepth 20000 in
theorem ggX9_knows_X9_isAsk : GoodIn wsX9_knows wsX9_isAsk := goodIn_r _ [13, 14, 7, 8, 4, 9, 107, 108, 109, 110, 111, 112, 113, 114, 115, 116, 117, 118, 119, 120, 121, 122, 123, 124, 125, 126, 127, 128, 129, 130, 131, 132, 133, 134, 135, 136, 137, 138, 139, 140, 141, 142, 143, 144, 145, 146, 147, 148, 149, 150, 151, 152] (by decide +kernel) (by decide +kernel)
set_option maxRecDepth 20000 in
theorem gX9_knows_X9_isAsk : GoodIn wsX9_knows (wsV RX9 217 RX9 yX9_isAsk wsX9_isAsk) := goodIn_app (goodIn_of _ (by decide +kernel)) ggX9_knows_X9_isAsk
set_option maxRecDepth 20000 in
theorem ggX9_knows_X9_isTime : GoodIn wsX9_knows wsX9_isTime := goodIn_r _ [17, 18, 19, 7, 8, 4, 9] (by decide +kernel) (by decide +kernel)
set_option maxRecDepth 20000 in
theorem gX9_knows_X9_isTime : GoodIn wsX9_knows (va_wsS RX9 276 yX9_isTime wsX9_isTime) := goodIn_app (goodIn_of _ (by decide +kernel)) ggX9_knows_X9_isTime
set_option maxRecDepth 20000 in
theorem ggX9_knows_X9_upTo : GoodIn wsX9_knows wsX9_upTo := goodIn_r _ [23, 24, 25, 26, 107, 108, 109, 110, 111, 112, 113, 114, 115, 116, 117, 118, 119, 120, 121, 122, 123, 124, 125, 126, 127, 128, 129, 130, 131, 132, 133, 134, 135, 136, 137, 138, 139, 140, 141, 142, 143, 144, 145, 146, 147, 148, 149, 150, 151, 152] (by decide +kernel) (by decide +kernel)
set_option maxRecDepth 20000 in
theorem gX9_knows_X9_upTo : GoodIn wsX9_knows (wsV RX9 292 RX9 yX9_upTo wsX9_upTo) := goodIn_app (goodIn_of _ (by decide +kernel)) ggX9_knows_X9_upTo
set_option maxRecDepth 20000 in
theorem ggX9_knows_X9_knowsBy : GoodIn wsX9_knows wsX9_knowsBy := goodIn_r _ [30, 31, 32, 33, 34, 35, 36, 37, 4, 38, 39, 40, 41, 42, 43, 44, 45, 46, 47, 48, 49, 50, 51, 26, 52, 53, 54, 55, 56, 57, 58, 59, 60, 61, 62, 63, 64, 65, 66, 67, 68, 69, 70, 71, 72, 73, 74, 75, 76, 77, 78, 79, 80, 81, 82, 83, 84, 85, 86, 87, 88, 89, 90, 91, 92, 93, 94, 95, 96, 97, 98, 99, 100, 101, 102, 103, 104, 105, 106, 107, 108, 109, 110, 111, 112, 113, 114, 115, 116, 117, 118, 119, 120, 121, 122, 123, 124, 125, 126, 127, 128, 129, 130, 131, 132, 133, 134, 135, 136, 137, 138, 139, 140, 141, 142, 143, 144, 145, 146, 147, 148, 149, 150, 151, 152] (by decide +kernel) (by decide +kernel)
set_option maxRecDepth 20000 in
theorem gX9_knows_X9_knowsBy : GoodIn wsX9_knows (wsV RX9 298 RX9 yX9_knowsBy wsX9_knowsBy) := goodIn_app (goodIn_of _ (by decide +kernel)) ggX9_knows_X9_knowsBy
theorem dX9_knows_0 : decode cX9_knows 0 = .ok (.aload_n 0, 1) := by decide +kernel
theorem dX9_knows_1 : decode cX9_knows 1 = .ok (.iload_n 1, 1) := by decide +kernel
theorem dX9_knows_2 : decode cX9_knows 2 = .ok (.invokevirtual 260, 3) := by decide +kernel
theorem dX9_knows_5 : decode cX9_knows 5 = .ok (.ifCond .eq 36, 3) := by decide +kernel
theorem dX9_knows_8 : decode cX9_knows 8 = .ok (.aload_n 0, 1) := by decide +kernel
theorem dX9_knows_9 : decode cX9_knows 9 = .ok (.iload_n 2, 1) := by decide +kernel
theorem dX9_knows_10 : decode cX9_knows 10 = .ok (.invokevirtual 217, 3) := by decide +kernel
theorem dX9_knows_13 : decode cX9_knows 13 = .ok (.ifCond .eq 28, 3) := by decide +kernel
theorem dX9_knows_16 : decode cX9_knows 16 = .ok (.iload_n 3, 1) := by decide +kernel
theorem dX9_knows_17 : decode cX9_knows 17 = .ok (.iload 4, 2) := by decide +kernel
theorem dX9_knows_19 : decode cX9_knows 19 = .ok (.invokestatic 276, 3) := by decide +kernel
theorem dX9_knows_22 : decode cX9_knows 22 = .ok (.ifCond .eq 19, 3) := by decide +kernel
theorem dX9_knows_25 : decode cX9_knows 25 = .ok (.aload_n 0, 1) := by decide +kernel
theorem dX9_knows_26 : decode cX9_knows 26 = .ok (.iload_n 1, 1) := by decide +kernel
theorem dX9_knows_27 : decode cX9_knows 27 = .ok (.iload_n 2, 1) := by decide +kernel
theorem dX9_knows_28 : decode cX9_knows 28 = .ok (.aload_n 0, 1) := by decide +kernel
theorem dX9_knows_29 : decode cX9_knows 29 = .ok (.iload_n 3, 1) := by decide +kernel
theorem dX9_knows_30 : decode cX9_knows 30 = .ok (.iload 4, 2) := by decide +kernel
theorem dX9_knows_32 : decode cX9_knows 32 = .ok (.invokevirtual 292, 3) := by decide +kernel
theorem dX9_knows_35 : decode cX9_knows 35 = .ok (.invokevirtual 298, 3) := by decide +kernel
theorem dX9_knows_38 : decode cX9_knows 38 = .ok (.goto 4, 3) := by decide +kernel
theorem dX9_knows_41 : decode cX9_knows 41 = .ok (.iconst (-1), 1) := by decide +kernel
theorem dX9_knows_42 : decode cX9_knows 42 = .ok (.ireturn, 1) := by decide +kernel
set_option maxRecDepth 20000 in
theorem ggX9_since_X9_isPlace : GoodIn wsX9_since wsX9_isPlace := goodIn_r _ [6, 7, 8, 9, 5, 10, 105, 106, 107, 108, 109, 110, 111, 112, 113, 114, 115, 116, 117, 118, 119, 120, 121, 122, 123, 124, 125, 126, 127, 128, 129, 130, 131, 132, 133, 134, 135, 136, 137, 138, 139, 140, 141, 142, 143, 144, 145, 146, 147, 148, 149, 150] (by decide +kernel) (by decide +kernel)
set_option maxRecDepth 20000 in
theorem gX9_since_X9_isPlace : GoodIn wsX9_since (wsV RX9 260 RX9 yX9_isPlace wsX9_isPlace) := goodIn_app (goodIn_of _ (by decide +kernel)) ggX9_since_X9_isPlace
set_option maxRecDepth 20000 in
theorem ggX9_since_X9_fitsAsk : GoodIn wsX9_since wsX9_fitsAsk := goodIn_r _ [14, 15, 16, 17, 18, 5, 19, 20, 8, 9, 10, 21, 22, 23, 24, 25, 105, 106, 107, 108, 109, 110, 111, 112, 113, 114, 115, 116, 117, 118, 119, 120, 121, 122, 123, 124, 125, 126, 127, 128, 129, 130, 131, 132, 133, 134, 135, 136, 137, 138, 139, 140, 141, 142, 143, 144, 145, 146, 147, 148, 149, 150] (by decide +kernel) (by decide +kernel)
set_option maxRecDepth 20000 in
theorem gX9_since_X9_fitsAsk : GoodIn wsX9_since (wsV RX9 238 RX9 yX9_fitsAsk wsX9_fitsAsk) := goodIn_app (goodIn_of _ (by decide +kernel)) ggX9_since_X9_fitsAsk
set_option maxRecDepth 20000 in
theorem ggX9_since_X9_knowsBy : GoodIn wsX9_since wsX9_knowsBy := goodIn_r _ [29, 30, 31, 32, 33, 34, 35, 36, 5, 37, 38, 39, 40, 41, 42, 43, 44, 45, 46, 47, 48, 49, 50, 51, 52, 53, 54, 55, 56, 57, 58, 59, 60, 61, 62, 63, 64, 65, 66, 67, 68, 69, 70, 71, 72, 73, 74, 75, 76, 77, 78, 79, 80, 81, 82, 83, 25, 15, 84, 85, 86, 87, 88, 89, 90, 91, 92, 93, 94, 95, 96, 97, 98, 99, 100, 101, 102, 103, 104, 105, 106, 107, 108, 109, 110, 111, 112, 113, 114, 115, 116, 117, 118, 119, 120, 121, 122, 123, 124, 125, 126, 127, 128, 129, 130, 131, 132, 133, 134, 135, 136, 137, 138, 139, 140, 141, 142, 143, 144, 145, 146, 147, 148, 149, 150] (by decide +kernel) (by decide +kernel)
set_option maxRecDepth 20000 in
theorem gX9_since_X9_knowsBy : GoodIn wsX9_since (wsV RX9 298 RX9 yX9_knowsBy wsX9_knowsBy) := goodIn_app (goodIn_of _ (by decide +kernel)) ggX9_since_X9_knowsBy
theorem dX9_since_0 : decode cX9_since 0 = .ok (.aload_n 0, 1) := by decide +kernel
theorem dX9_since_1 : decode cX9_since 1 = .ok (.iload_n 1, 1) := by decide +kernel
theorem dX9_since_2 : decode cX9_since 2 = .ok (.invokevirtual 260, 3) := by decide +kernel
theorem dX9_since_5 : decode cX9_since 5 = .ok (.ifCond .eq 12, 3) := by decide +kernel
theorem dX9_since_8 : decode cX9_since 8 = .ok (.aload_n 0, 1) := by decide +kernel
theorem dX9_since_9 : decode cX9_since 9 = .ok (.iload_n 2, 1) := by decide +kernel
theorem dX9_since_10 : decode cX9_since 10 = .ok (.iload_n 3, 1) := by decide +kernel
theorem dX9_since_11 : decode cX9_since 11 = .ok (.invokevirtual 238, 3) := by decide +kernel
theorem dX9_since_14 : decode cX9_since 14 = .ok (.ifCond .ne 5, 3) := by decide +kernel
theorem dX9_since_17 : decode cX9_since 17 = .ok (.iconst (-1), 1) := by decide +kernel
theorem dX9_since_18 : decode cX9_since 18 = .ok (.ireturn, 1) := by decide +kernel
theorem dX9_since_19 : decode cX9_since 19 = .ok (.iconst 0, 1) := by decide +kernel
theorem dX9_since_20 : decode cX9_since 20 = .ok (.istore 4, 2) := by decide +kernel
theorem dX9_since_22 : decode cX9_since 22 = .ok (.iload 4, 2) := by decide +kernel
theorem dX9_since_24 : decode cX9_since 24 = .ok (.aload_n 0, 1) := by decide +kernel
theorem dX9_since_25 : decode cX9_since 25 = .ok (.getfield 177, 3) := by decide +kernel
theorem dX9_since_28 : decode cX9_since 28 = .ok (.if_icmp .ge 30, 3) := by decide +kernel
theorem dX9_since_31 : decode cX9_since 31 = .ok (.aload_n 0, 1) := by decide +kernel
theorem dX9_since_32 : decode cX9_since 32 = .ok (.iload_n 1, 1) := by decide +kernel
theorem dX9_since_33 : decode cX9_since 33 = .ok (.iload_n 2, 1) := by decide +kernel
theorem dX9_since_34 : decode cX9_since 34 = .ok (.iload 4, 2) := by decide +kernel
theorem dX9_since_36 : decode cX9_since 36 = .ok (.iconst 1, 1) := by decide +kernel
theorem dX9_since_37 : decode cX9_since 37 = .ok (.iadd, 1) := by decide +kernel
theorem dX9_since_38 : decode cX9_since 38 = .ok (.invokevirtual 298, 3) := by decide +kernel
theorem dX9_since_41 : decode cX9_since 41 = .ok (.iload_n 3, 1) := by decide +kernel
theorem dX9_since_42 : decode cX9_since 42 = .ok (.ishr, 1) := by decide +kernel
theorem dX9_since_43 : decode cX9_since 43 = .ok (.iconst 1, 1) := by decide +kernel
theorem dX9_since_44 : decode cX9_since 44 = .ok (.iand, 1) := by decide +kernel
theorem dX9_since_45 : decode cX9_since 45 = .ok (.iconst 1, 1) := by decide +kernel
theorem dX9_since_46 : decode cX9_since 46 = .ok (.if_icmp .ne 6, 3) := by decide +kernel
theorem dX9_since_49 : decode cX9_since 49 = .ok (.iload 4, 2) := by decide +kernel
theorem dX9_since_51 : decode cX9_since 51 = .ok (.ireturn, 1) := by decide +kernel
theorem dX9_since_52 : decode cX9_since 52 = .ok (.iinc 4 1, 3) := by decide +kernel
theorem dX9_since_55 : decode cX9_since 55 = .ok (.goto (-33), 3) := by decide +kernel
theorem dX9_since_58 : decode cX9_since 58 = .ok (.bipush (-4), 2) := by decide +kernel
theorem dX9_since_60 : decode cX9_since 60 = .ok (.ireturn, 1) := by decide +kernel
set_option maxRecDepth 20000 in
theorem ggX9_spread_X9_fitsAsk : GoodIn wsX9_spread wsX9_fitsAsk := goodIn_r _ [6, 7, 8, 9, 10, 5, 11, 12, 13, 14, 15, 16, 17, 18, 19, 20, 111, 112, 113, 114, 115, 116, 117, 118, 119, 120, 121, 122, 123, 124, 125, 126, 127, 128, 129, 130, 131, 132, 133, 134, 135, 136, 137, 138, 139, 140, 141, 142, 143, 144, 145, 146, 147, 148, 149, 150, 151, 152, 153, 154, 155, 156] (by decide +kernel) (by decide +kernel)
set_option maxRecDepth 20000 in
theorem gX9_spread_X9_fitsAsk : GoodIn wsX9_spread (wsV RX9 238 RX9 yX9_fitsAsk wsX9_fitsAsk) := goodIn_app (goodIn_of _ (by decide +kernel)) ggX9_spread_X9_fitsAsk
set_option maxRecDepth 20000 in
theorem ggX9_spread_X9_isTime : GoodIn wsX9_spread wsX9_isTime := goodIn_r _ [23, 24, 25, 13, 14, 5, 15] (by decide +kernel) (by decide +kernel)
set_option maxRecDepth 20000 in
theorem gX9_spread_X9_isTime : GoodIn wsX9_spread (va_wsS RX9 276 yX9_isTime wsX9_isTime) := goodIn_app (goodIn_of _ (by decide +kernel)) ggX9_spread_X9_isTime
set_option maxRecDepth 20000 in
theorem ggX9_spread_X9_in : GoodIn wsX9_spread wsX9_in := goodIn_r _ [15] (by decide +kernel) (by decide +kernel)
set_option maxRecDepth 20000 in
theorem gX9_spread_X9_in : GoodIn wsX9_spread (va_wsS RX9 104 yX9_in wsX9_in) := goodIn_app (goodIn_of _ (by decide +kernel)) ggX9_spread_X9_in
set_option maxRecDepth 20000 in
theorem ggX9_spread_X9_upTo : GoodIn wsX9_spread wsX9_upTo := goodIn_r _ [29, 30, 31, 32, 111, 112, 113, 114, 115, 116, 117, 118, 119, 120, 121, 122, 123, 124, 125, 126, 127, 128, 129, 130, 131, 132, 133, 134, 135, 136, 137, 138, 139, 140, 141, 142, 143, 144, 145, 146, 147, 148, 149, 150, 151, 152, 153, 154, 155, 156] (by decide +kernel) (by decide +kernel)
set_option maxRecDepth 20000 in
theorem gX9_spread_X9_upTo : GoodIn wsX9_spread (wsV RX9 292 RX9 yX9_upTo wsX9_upTo) := goodIn_app (goodIn_of _ (by decide +kernel)) ggX9_spread_X9_upTo
set_option maxRecDepth 20000 in
theorem ggX9_spread_X9_knowsBy : GoodIn wsX9_spread wsX9_knowsBy := goodIn_r _ [36, 37, 38, 39, 40, 41, 42, 43, 5, 44, 45, 46, 47, 48, 49, 50, 51, 52, 53, 54, 55, 56, 57, 32, 58, 59, 60, 61, 62, 63, 64, 65, 66, 67, 68, 69, 70, 71, 72, 73, 74, 75, 76, 77, 78, 79, 80, 81, 82, 83, 84, 85, 86, 87, 88, 89, 20, 7, 90, 91, 92, 93, 94, 95, 96, 97, 98, 99, 100, 101, 102, 103, 104, 105, 106, 107, 108, 109, 110, 111, 112, 113, 114, 115, 116, 117, 118, 119, 120, 121, 122, 123, 124, 125, 126, 127, 128, 129, 130, 131, 132, 133, 134, 135, 136, 137, 138, 139, 140, 141, 142, 143, 144, 145, 146, 147, 148, 149, 150, 151, 152, 153, 154, 155, 156] (by decide +kernel) (by decide +kernel)
set_option maxRecDepth 20000 in
theorem gX9_spread_X9_knowsBy : GoodIn wsX9_spread (wsV RX9 298 RX9 yX9_knowsBy wsX9_knowsBy) := goodIn_app (goodIn_of _ (by decide +kernel)) ggX9_spread_X9_knowsBy
set_option maxRecDepth 20000 in
theorem ggX9_spread_X9_bits : GoodIn wsX9_spread wsX9_bits := goodIn_r _ [110] (by decide +kernel) (by decide +kernel)
set_option maxRecDepth 20000 in
theorem gX9_spread_X9_bits : GoodIn wsX9_spread (va_wsS RX9 220 yX9_bits wsX9_bits) := goodIn_app (goodIn_of _ (by decide +kernel)) ggX9_spread_X9_bits
theorem dX9_spread_0 : decode cX9_spread 0 = .ok (.aload_n 0, 1) := by decide +kernel
theorem dX9_spread_1 : decode cX9_spread 1 = .ok (.iload_n 1, 1) := by decide +kernel
theorem dX9_spread_2 : decode cX9_spread 2 = .ok (.iload_n 2, 1) := by decide +kernel
theorem dX9_spread_3 : decode cX9_spread 3 = .ok (.invokevirtual 238, 3) := by decide +kernel
theorem dX9_spread_6 : decode cX9_spread 6 = .ok (.ifCond .eq 23, 3) := by decide +kernel
theorem dX9_spread_9 : decode cX9_spread 9 = .ok (.iload_n 3, 1) := by decide +kernel
theorem dX9_spread_10 : decode cX9_spread 10 = .ok (.iload 4, 2) := by decide +kernel
theorem dX9_spread_12 : decode cX9_spread 12 = .ok (.invokestatic 276, 3) := by decide +kernel
theorem dX9_spread_15 : decode cX9_spread 15 = .ok (.ifCond .eq 14, 3) := by decide +kernel
theorem dX9_spread_18 : decode cX9_spread 18 = .ok (.iload 5, 2) := by decide +kernel
theorem dX9_spread_20 : decode cX9_spread 20 = .ok (.i2l, 1) := by decide +kernel
theorem dX9_spread_21 : decode cX9_spread 21 = .ok (.lconst 0, 1) := by decide +kernel
theorem dX9_spread_22 : decode cX9_spread 22 = .ok (.lconst 1, 1) := by decide +kernel
theorem dX9_spread_23 : decode cX9_spread 23 = .ok (.invokestatic 104, 3) := by decide +kernel
theorem dX9_spread_26 : decode cX9_spread 26 = .ok (.ifCond .ne 5, 3) := by decide +kernel
theorem dX9_spread_29 : decode cX9_spread 29 = .ok (.iconst (-1), 1) := by decide +kernel
theorem dX9_spread_30 : decode cX9_spread 30 = .ok (.ireturn, 1) := by decide +kernel
theorem dX9_spread_31 : decode cX9_spread 31 = .ok (.iconst 0, 1) := by decide +kernel
theorem dX9_spread_32 : decode cX9_spread 32 = .ok (.istore 6, 2) := by decide +kernel
theorem dX9_spread_34 : decode cX9_spread 34 = .ok (.iconst 0, 1) := by decide +kernel
theorem dX9_spread_35 : decode cX9_spread 35 = .ok (.istore 7, 2) := by decide +kernel
theorem dX9_spread_37 : decode cX9_spread 37 = .ok (.iload 7, 2) := by decide +kernel
theorem dX9_spread_39 : decode cX9_spread 39 = .ok (.aload_n 0, 1) := by decide +kernel
theorem dX9_spread_40 : decode cX9_spread 40 = .ok (.getfield 245, 3) := by decide +kernel
theorem dX9_spread_43 : decode cX9_spread 43 = .ok (.if_icmp .ge 44, 3) := by decide +kernel
theorem dX9_spread_46 : decode cX9_spread 46 = .ok (.iload 6, 2) := by decide +kernel
theorem dX9_spread_48 : decode cX9_spread 48 = .ok (.aload_n 0, 1) := by decide +kernel
theorem dX9_spread_49 : decode cX9_spread 49 = .ok (.iload 7, 2) := by decide +kernel
theorem dX9_spread_51 : decode cX9_spread 51 = .ok (.iload_n 1, 1) := by decide +kernel
theorem dX9_spread_52 : decode cX9_spread 52 = .ok (.aload_n 0, 1) := by decide +kernel
theorem dX9_spread_53 : decode cX9_spread 53 = .ok (.iload_n 3, 1) := by decide +kernel
theorem dX9_spread_54 : decode cX9_spread 54 = .ok (.iload 4, 2) := by decide +kernel
theorem dX9_spread_56 : decode cX9_spread 56 = .ok (.invokevirtual 292, 3) := by decide +kernel
theorem dX9_spread_59 : decode cX9_spread 59 = .ok (.invokevirtual 298, 3) := by decide +kernel
theorem dX9_spread_62 : decode cX9_spread 62 = .ok (.iload_n 2, 1) := by decide +kernel
theorem dX9_spread_63 : decode cX9_spread 63 = .ok (.ishr, 1) := by decide +kernel
theorem dX9_spread_64 : decode cX9_spread 64 = .ok (.iconst 1, 1) := by decide +kernel
theorem dX9_spread_65 : decode cX9_spread 65 = .ok (.iand, 1) := by decide +kernel
theorem dX9_spread_66 : decode cX9_spread 66 = .ok (.iconst 1, 1) := by decide +kernel
theorem dX9_spread_67 : decode cX9_spread 67 = .ok (.if_icmp .ne 10, 3) := by decide +kernel
theorem dX9_spread_70 : decode cX9_spread 70 = .ok (.iconst 1, 1) := by decide +kernel
theorem dX9_spread_71 : decode cX9_spread 71 = .ok (.iload 7, 2) := by decide +kernel
theorem dX9_spread_73 : decode cX9_spread 73 = .ok (.ishl, 1) := by decide +kernel
theorem dX9_spread_74 : decode cX9_spread 74 = .ok (.goto 4, 3) := by decide +kernel
theorem dX9_spread_77 : decode cX9_spread 77 = .ok (.iconst 0, 1) := by decide +kernel
theorem dX9_spread_78 : decode cX9_spread 78 = .ok (.ior, 1) := by decide +kernel
theorem dX9_spread_79 : decode cX9_spread 79 = .ok (.istore 6, 2) := by decide +kernel
theorem dX9_spread_81 : decode cX9_spread 81 = .ok (.iinc 7 1, 3) := by decide +kernel
theorem dX9_spread_84 : decode cX9_spread 84 = .ok (.goto (-47), 3) := by decide +kernel
theorem dX9_spread_87 : decode cX9_spread 87 = .ok (.iload 5, 2) := by decide +kernel
theorem dX9_spread_89 : decode cX9_spread 89 = .ok (.ifCond .ne 11, 3) := by decide +kernel
theorem dX9_spread_92 : decode cX9_spread 92 = .ok (.iload 6, 2) := by decide +kernel
theorem dX9_spread_94 : decode cX9_spread 94 = .ok (.invokestatic 220, 3) := by decide +kernel
theorem dX9_spread_97 : decode cX9_spread 97 = .ok (.goto 5, 3) := by decide +kernel
theorem dX9_spread_100 : decode cX9_spread 100 = .ok (.iload 6, 2) := by decide +kernel
theorem dX9_spread_102 : decode cX9_spread 102 = .ok (.ireturn, 1) := by decide +kernel
set_option maxRecDepth 20000 in
theorem ggX9_isChild_X9_in : GoodIn wsX9_isChild wsX9_in := goodIn_r _ [5] (by decide +kernel) (by decide +kernel)
set_option maxRecDepth 20000 in
theorem gX9_isChild_X9_in : GoodIn wsX9_isChild (va_wsS RX9 104 yX9_in wsX9_in) := goodIn_app (goodIn_of _ (by decide +kernel)) ggX9_isChild_X9_in
theorem dX9_isChild_0 : decode cX9_isChild 0 = .ok (.iload_n 1, 1) := by decide +kernel
theorem dX9_isChild_1 : decode cX9_isChild 1 = .ok (.i2l, 1) := by decide +kernel
theorem dX9_isChild_2 : decode cX9_isChild 2 = .ok (.lconst 0, 1) := by decide +kernel
theorem dX9_isChild_3 : decode cX9_isChild 3 = .ok (.aload_n 0, 1) := by decide +kernel
theorem dX9_isChild_4 : decode cX9_isChild 4 = .ok (.getfield 180, 3) := by decide +kernel
theorem dX9_isChild_7 : decode cX9_isChild 7 = .ok (.iconst 1, 1) := by decide +kernel
theorem dX9_isChild_8 : decode cX9_isChild 8 = .ok (.isub, 1) := by decide +kernel
theorem dX9_isChild_9 : decode cX9_isChild 9 = .ok (.i2l, 1) := by decide +kernel
theorem dX9_isChild_10 : decode cX9_isChild 10 = .ok (.invokestatic 104, 3) := by decide +kernel
theorem dX9_isChild_13 : decode cX9_isChild 13 = .ok (.ireturn, 1) := by decide +kernel
theorem dX9_child_0 : decode cX9_child 0 = .ok (.aload_n 0, 1) := by decide +kernel
theorem dX9_child_1 : decode cX9_child 1 = .ok (.getfield 180, 3) := by decide +kernel
theorem dX9_child_4 : decode cX9_child 4 = .ok (.iconst 4, 1) := by decide +kernel
theorem dX9_child_5 : decode cX9_child 5 = .ok (.if_icmp .ne 6, 3) := by decide +kernel
theorem dX9_child_8 : decode cX9_child 8 = .ok (.bipush (-3), 2) := by decide +kernel
theorem dX9_child_10 : decode cX9_child 10 = .ok (.ireturn, 1) := by decide +kernel
theorem dX9_child_11 : decode cX9_child 11 = .ok (.iconst 0, 1) := by decide +kernel
theorem dX9_child_12 : decode cX9_child 12 = .ok (.istore_n 1, 1) := by decide +kernel
theorem dX9_child_13 : decode cX9_child 13 = .ok (.iload_n 1, 1) := by decide +kernel
theorem dX9_child_14 : decode cX9_child 14 = .ok (.bipush 16, 2) := by decide +kernel
theorem dX9_child_16 : decode cX9_child 16 = .ok (.if_icmp .ge 24, 3) := by decide +kernel
theorem dX9_child_19 : decode cX9_child 19 = .ok (.aload_n 0, 1) := by decide +kernel
theorem dX9_child_20 : decode cX9_child 20 = .ok (.getfield 92, 3) := by decide +kernel
theorem dX9_child_23 : decode cX9_child 23 = .ok (.bipush 16, 2) := by decide +kernel
theorem dX9_child_25 : decode cX9_child 25 = .ok (.aload_n 0, 1) := by decide +kernel
theorem dX9_child_26 : decode cX9_child 26 = .ok (.getfield 180, 3) := by decide +kernel
theorem dX9_child_29 : decode cX9_child 29 = .ok (.imul, 1) := by decide +kernel
theorem dX9_child_30 : decode cX9_child 30 = .ok (.iload_n 1, 1) := by decide +kernel
theorem dX9_child_31 : decode cX9_child 31 = .ok (.iadd, 1) := by decide +kernel
theorem dX9_child_32 : decode cX9_child 32 = .ok (.iconst 0, 1) := by decide +kernel
theorem dX9_child_33 : decode cX9_child 33 = .ok (.iastore, 1) := by decide +kernel
theorem dX9_child_34 : decode cX9_child 34 = .ok (.iinc 1 1, 3) := by decide +kernel
theorem dX9_child_37 : decode cX9_child 37 = .ok (.goto (-24), 3) := by decide +kernel
theorem dX9_child_40 : decode cX9_child 40 = .ok (.aload_n 0, 1) := by decide +kernel
theorem dX9_child_41 : decode cX9_child 41 = .ok (.dup, 1) := by decide +kernel
theorem dX9_child_42 : decode cX9_child 42 = .ok (.getfield 180, 3) := by decide +kernel
theorem dX9_child_45 : decode cX9_child 45 = .ok (.iconst 1, 1) := by decide +kernel
theorem dX9_child_46 : decode cX9_child 46 = .ok (.iadd, 1) := by decide +kernel
theorem dX9_child_47 : decode cX9_child 47 = .ok (.putfield 180, 3) := by decide +kernel
theorem dX9_child_50 : decode cX9_child 50 = .ok (.aload_n 0, 1) := by decide +kernel
theorem dX9_child_51 : decode cX9_child 51 = .ok (.getfield 180, 3) := by decide +kernel
theorem dX9_child_54 : decode cX9_child 54 = .ok (.iconst 1, 1) := by decide +kernel
theorem dX9_child_55 : decode cX9_child 55 = .ok (.isub, 1) := by decide +kernel
theorem dX9_child_56 : decode cX9_child 56 = .ok (.ireturn, 1) := by decide +kernel
set_option maxRecDepth 20000 in
theorem ggX9_learn_X9_isChild : GoodIn wsX9_learn wsX9_isChild := goodIn_r _ [6, 7, 8, 9, 5, 10, 16, 17, 18, 19, 20, 21, 22, 23, 24, 25, 26, 27, 28, 29, 30, 31, 32, 33, 34, 35, 36, 37, 38, 39, 40, 41, 42, 43, 44, 45, 46, 47, 48, 49, 50, 51, 52, 53, 54, 55, 56, 57, 58, 59, 60, 61] (by decide +kernel) (by decide +kernel)
set_option maxRecDepth 20000 in
theorem gX9_learn_X9_isChild : GoodIn wsX9_learn (wsV RX9 301 RX9 yX9_isChild wsX9_isChild) := goodIn_app (goodIn_of _ (by decide +kernel)) ggX9_learn_X9_isChild
set_option maxRecDepth 20000 in
theorem ggX9_learn_X9_isWord : GoodIn wsX9_learn wsX9_isWord := goodIn_r _ [14, 15, 8, 9, 5, 10, 16, 17, 18, 19, 20, 21, 22, 23, 24, 25, 26, 27, 28, 29, 30, 31, 32, 33, 34, 35, 36, 37, 38, 39, 40, 41, 42, 43, 44, 45, 46, 47, 48, 49, 50, 51, 52, 53, 54, 55, 56, 57, 58, 59, 60, 61] (by decide +kernel) (by decide +kernel)
set_option maxRecDepth 20000 in
theorem gX9_learn_X9_isWord : GoodIn wsX9_learn (wsV RX9 212 RX9 yX9_isWord wsX9_isWord) := goodIn_app (goodIn_of _ (by decide +kernel)) ggX9_learn_X9_isWord
theorem dX9_learn_0 : decode cX9_learn 0 = .ok (.aload_n 0, 1) := by decide +kernel
theorem dX9_learn_1 : decode cX9_learn 1 = .ok (.iload_n 1, 1) := by decide +kernel
theorem dX9_learn_2 : decode cX9_learn 2 = .ok (.invokevirtual 301, 3) := by decide +kernel
theorem dX9_learn_5 : decode cX9_learn 5 = .ok (.ifCond .eq 24, 3) := by decide +kernel
theorem dX9_learn_8 : decode cX9_learn 8 = .ok (.aload_n 0, 1) := by decide +kernel
theorem dX9_learn_9 : decode cX9_learn 9 = .ok (.iload_n 2, 1) := by decide +kernel
theorem dX9_learn_10 : decode cX9_learn 10 = .ok (.invokevirtual 212, 3) := by decide +kernel
theorem dX9_learn_13 : decode cX9_learn 13 = .ok (.ifCond .eq 16, 3) := by decide +kernel
theorem dX9_learn_16 : decode cX9_learn 16 = .ok (.aload_n 0, 1) := by decide +kernel
theorem dX9_learn_17 : decode cX9_learn 17 = .ok (.iload_n 3, 1) := by decide +kernel
theorem dX9_learn_18 : decode cX9_learn 18 = .ok (.invokevirtual 212, 3) := by decide +kernel
theorem dX9_learn_21 : decode cX9_learn 21 = .ok (.ifCond .eq 8, 3) := by decide +kernel
theorem dX9_learn_24 : decode cX9_learn 24 = .ok (.iload_n 2, 1) := by decide +kernel
theorem dX9_learn_25 : decode cX9_learn 25 = .ok (.iload_n 3, 1) := by decide +kernel
theorem dX9_learn_26 : decode cX9_learn 26 = .ok (.if_icmp .ne 5, 3) := by decide +kernel
theorem dX9_learn_29 : decode cX9_learn 29 = .ok (.iconst (-1), 1) := by decide +kernel
theorem dX9_learn_30 : decode cX9_learn 30 = .ok (.ireturn, 1) := by decide +kernel
theorem dX9_learn_31 : decode cX9_learn 31 = .ok (.aload_n 0, 1) := by decide +kernel
theorem dX9_learn_32 : decode cX9_learn 32 = .ok (.getfield 92, 3) := by decide +kernel
theorem dX9_learn_35 : decode cX9_learn 35 = .ok (.bipush 16, 2) := by decide +kernel
theorem dX9_learn_37 : decode cX9_learn 37 = .ok (.iload_n 1, 1) := by decide +kernel
theorem dX9_learn_38 : decode cX9_learn 38 = .ok (.imul, 1) := by decide +kernel
theorem dX9_learn_39 : decode cX9_learn 39 = .ok (.iload_n 2, 1) := by decide +kernel
theorem dX9_learn_40 : decode cX9_learn 40 = .ok (.iadd, 1) := by decide +kernel
theorem dX9_learn_41 : decode cX9_learn 41 = .ok (.iaload, 1) := by decide +kernel
theorem dX9_learn_42 : decode cX9_learn 42 = .ok (.iload_n 3, 1) := by decide +kernel
theorem dX9_learn_43 : decode cX9_learn 43 = .ok (.ishr, 1) := by decide +kernel
theorem dX9_learn_44 : decode cX9_learn 44 = .ok (.iconst 1, 1) := by decide +kernel
theorem dX9_learn_45 : decode cX9_learn 45 = .ok (.iand, 1) := by decide +kernel
theorem dX9_learn_46 : decode cX9_learn 46 = .ok (.istore 4, 2) := by decide +kernel
theorem dX9_learn_48 : decode cX9_learn 48 = .ok (.aload_n 0, 1) := by decide +kernel
theorem dX9_learn_49 : decode cX9_learn 49 = .ok (.getfield 92, 3) := by decide +kernel
theorem dX9_learn_52 : decode cX9_learn 52 = .ok (.bipush 16, 2) := by decide +kernel
theorem dX9_learn_54 : decode cX9_learn 54 = .ok (.iload_n 1, 1) := by decide +kernel
theorem dX9_learn_55 : decode cX9_learn 55 = .ok (.imul, 1) := by decide +kernel
theorem dX9_learn_56 : decode cX9_learn 56 = .ok (.iload_n 2, 1) := by decide +kernel
theorem dX9_learn_57 : decode cX9_learn 57 = .ok (.iadd, 1) := by decide +kernel
theorem dX9_learn_58 : decode cX9_learn 58 = .ok (.dup2, 1) := by decide +kernel
theorem dX9_learn_59 : decode cX9_learn 59 = .ok (.iaload, 1) := by decide +kernel
theorem dX9_learn_60 : decode cX9_learn 60 = .ok (.iconst 1, 1) := by decide +kernel
theorem dX9_learn_61 : decode cX9_learn 61 = .ok (.iload_n 3, 1) := by decide +kernel
theorem dX9_learn_62 : decode cX9_learn 62 = .ok (.ishl, 1) := by decide +kernel
theorem dX9_learn_63 : decode cX9_learn 63 = .ok (.ior, 1) := by decide +kernel
theorem dX9_learn_64 : decode cX9_learn 64 = .ok (.iastore, 1) := by decide +kernel
theorem dX9_learn_65 : decode cX9_learn 65 = .ok (.aload_n 0, 1) := by decide +kernel
theorem dX9_learn_66 : decode cX9_learn 66 = .ok (.getfield 92, 3) := by decide +kernel
theorem dX9_learn_69 : decode cX9_learn 69 = .ok (.bipush 16, 2) := by decide +kernel
theorem dX9_learn_71 : decode cX9_learn 71 = .ok (.iload_n 1, 1) := by decide +kernel
theorem dX9_learn_72 : decode cX9_learn 72 = .ok (.imul, 1) := by decide +kernel
theorem dX9_learn_73 : decode cX9_learn 73 = .ok (.iload_n 3, 1) := by decide +kernel
theorem dX9_learn_74 : decode cX9_learn 74 = .ok (.iadd, 1) := by decide +kernel
theorem dX9_learn_75 : decode cX9_learn 75 = .ok (.dup2, 1) := by decide +kernel
theorem dX9_learn_76 : decode cX9_learn 76 = .ok (.iaload, 1) := by decide +kernel
theorem dX9_learn_77 : decode cX9_learn 77 = .ok (.iconst 1, 1) := by decide +kernel
theorem dX9_learn_78 : decode cX9_learn 78 = .ok (.iload_n 2, 1) := by decide +kernel
theorem dX9_learn_79 : decode cX9_learn 79 = .ok (.ishl, 1) := by decide +kernel
theorem dX9_learn_80 : decode cX9_learn 80 = .ok (.ior, 1) := by decide +kernel
theorem dX9_learn_81 : decode cX9_learn 81 = .ok (.iastore, 1) := by decide +kernel
theorem dX9_learn_82 : decode cX9_learn 82 = .ok (.iconst 1, 1) := by decide +kernel
theorem dX9_learn_83 : decode cX9_learn 83 = .ok (.iload 4, 2) := by decide +kernel
theorem dX9_learn_85 : decode cX9_learn 85 = .ok (.isub, 1) := by decide +kernel
theorem dX9_learn_86 : decode cX9_learn 86 = .ok (.ireturn, 1) := by decide +kernel
set_option maxRecDepth 20000 in
theorem ggX9_doesConfuse_X9_rowOf : GoodIn wsX9_doesConfuse wsX9_rowOf := goodIn_r _ [10, 11, 12, 13, 14, 15, 9, 16, 17, 18, 19, 20, 21, 22, 23, 24, 25, 26, 27, 28, 29, 30, 31, 32, 33, 34, 35, 36, 37, 38, 39, 40, 41, 42, 43, 44, 45, 46, 47, 48, 49, 50, 51, 52, 53, 54, 55, 56, 57, 58, 59, 60, 61, 62] (by decide +kernel) (by decide +kernel)
set_option maxRecDepth 20000 in
theorem gX9_doesConfuse_X9_rowOf : GoodIn wsX9_doesConfuse (wsV RX9 202 RX9 yX9_rowOf wsX9_rowOf) := goodIn_app (goodIn_of _ (by decide +kernel)) ggX9_doesConfuse_X9_rowOf
theorem dX9_doesConfuse_0 : decode cX9_doesConfuse 0 = .ok (.iload_n 2, 1) := by decide +kernel
theorem dX9_doesConfuse_1 : decode cX9_doesConfuse 1 = .ok (.iload_n 3, 1) := by decide +kernel
theorem dX9_doesConfuse_2 : decode cX9_doesConfuse 2 = .ok (.if_icmp .eq 22, 3) := by decide +kernel
theorem dX9_doesConfuse_5 : decode cX9_doesConfuse 5 = .ok (.aload_n 0, 1) := by decide +kernel
theorem dX9_doesConfuse_6 : decode cX9_doesConfuse 6 = .ok (.getfield 92, 3) := by decide +kernel
theorem dX9_doesConfuse_9 : decode cX9_doesConfuse 9 = .ok (.bipush 16, 2) := by decide +kernel
theorem dX9_doesConfuse_11 : decode cX9_doesConfuse 11 = .ok (.iload_n 1, 1) := by decide +kernel
theorem dX9_doesConfuse_12 : decode cX9_doesConfuse 12 = .ok (.imul, 1) := by decide +kernel
theorem dX9_doesConfuse_13 : decode cX9_doesConfuse 13 = .ok (.iload_n 2, 1) := by decide +kernel
theorem dX9_doesConfuse_14 : decode cX9_doesConfuse 14 = .ok (.iadd, 1) := by decide +kernel
theorem dX9_doesConfuse_15 : decode cX9_doesConfuse 15 = .ok (.iaload, 1) := by decide +kernel
theorem dX9_doesConfuse_16 : decode cX9_doesConfuse 16 = .ok (.iload_n 3, 1) := by decide +kernel
theorem dX9_doesConfuse_17 : decode cX9_doesConfuse 17 = .ok (.ishr, 1) := by decide +kernel
theorem dX9_doesConfuse_18 : decode cX9_doesConfuse 18 = .ok (.iconst 1, 1) := by decide +kernel
theorem dX9_doesConfuse_19 : decode cX9_doesConfuse 19 = .ok (.iand, 1) := by decide +kernel
theorem dX9_doesConfuse_20 : decode cX9_doesConfuse 20 = .ok (.iconst 1, 1) := by decide +kernel
theorem dX9_doesConfuse_21 : decode cX9_doesConfuse 21 = .ok (.if_icmp .ne 5, 3) := by decide +kernel
theorem dX9_doesConfuse_24 : decode cX9_doesConfuse 24 = .ok (.iconst 0, 1) := by decide +kernel
theorem dX9_doesConfuse_25 : decode cX9_doesConfuse 25 = .ok (.ireturn, 1) := by decide +kernel
theorem dX9_doesConfuse_26 : decode cX9_doesConfuse 26 = .ok (.aload_n 0, 1) := by decide +kernel
theorem dX9_doesConfuse_27 : decode cX9_doesConfuse 27 = .ok (.aload_n 0, 1) := by decide +kernel
theorem dX9_doesConfuse_28 : decode cX9_doesConfuse 28 = .ok (.iload_n 2, 1) := by decide +kernel
theorem dX9_doesConfuse_29 : decode cX9_doesConfuse 29 = .ok (.iconst 0, 1) := by decide +kernel
theorem dX9_doesConfuse_30 : decode cX9_doesConfuse 30 = .ok (.aload_n 0, 1) := by decide +kernel
theorem dX9_doesConfuse_31 : decode cX9_doesConfuse 31 = .ok (.getfield 37, 3) := by decide +kernel
theorem dX9_doesConfuse_34 : decode cX9_doesConfuse 34 = .ok (.invokevirtual 202, 3) := by decide +kernel
theorem dX9_doesConfuse_37 : decode cX9_doesConfuse 37 = .ok (.putfield 206, 3) := by decide +kernel
theorem dX9_doesConfuse_40 : decode cX9_doesConfuse 40 = .ok (.aload_n 0, 1) := by decide +kernel
theorem dX9_doesConfuse_41 : decode cX9_doesConfuse 41 = .ok (.aload_n 0, 1) := by decide +kernel
theorem dX9_doesConfuse_42 : decode cX9_doesConfuse 42 = .ok (.iload_n 3, 1) := by decide +kernel
theorem dX9_doesConfuse_43 : decode cX9_doesConfuse 43 = .ok (.iconst 0, 1) := by decide +kernel
theorem dX9_doesConfuse_44 : decode cX9_doesConfuse 44 = .ok (.aload_n 0, 1) := by decide +kernel
theorem dX9_doesConfuse_45 : decode cX9_doesConfuse 45 = .ok (.getfield 40, 3) := by decide +kernel
theorem dX9_doesConfuse_48 : decode cX9_doesConfuse 48 = .ok (.invokevirtual 202, 3) := by decide +kernel
theorem dX9_doesConfuse_51 : decode cX9_doesConfuse 51 = .ok (.putfield 209, 3) := by decide +kernel
theorem dX9_doesConfuse_54 : decode cX9_doesConfuse 54 = .ok (.iconst 0, 1) := by decide +kernel
theorem dX9_doesConfuse_55 : decode cX9_doesConfuse 55 = .ok (.istore 4, 2) := by decide +kernel
theorem dX9_doesConfuse_57 : decode cX9_doesConfuse 57 = .ok (.iconst 0, 1) := by decide +kernel
theorem dX9_doesConfuse_58 : decode cX9_doesConfuse 58 = .ok (.istore 5, 2) := by decide +kernel
theorem dX9_doesConfuse_60 : decode cX9_doesConfuse 60 = .ok (.iload 5, 2) := by decide +kernel
theorem dX9_doesConfuse_62 : decode cX9_doesConfuse 62 = .ok (.aload_n 0, 1) := by decide +kernel
theorem dX9_doesConfuse_63 : decode cX9_doesConfuse 63 = .ok (.getfield 206, 3) := by decide +kernel
theorem dX9_doesConfuse_66 : decode cX9_doesConfuse 66 = .ok (.if_icmp .ge 47, 3) := by decide +kernel
theorem dX9_doesConfuse_69 : decode cX9_doesConfuse 69 = .ok (.aload_n 0, 1) := by decide +kernel
theorem dX9_doesConfuse_70 : decode cX9_doesConfuse 70 = .ok (.getfield 206, 3) := by decide +kernel
theorem dX9_doesConfuse_73 : decode cX9_doesConfuse 73 = .ok (.aload_n 0, 1) := by decide +kernel
theorem dX9_doesConfuse_74 : decode cX9_doesConfuse 74 = .ok (.getfield 209, 3) := by decide +kernel
theorem dX9_doesConfuse_77 : decode cX9_doesConfuse 77 = .ok (.if_icmp .ne 36, 3) := by decide +kernel
theorem dX9_doesConfuse_80 : decode cX9_doesConfuse 80 = .ok (.iload 4, 2) := by decide +kernel
theorem dX9_doesConfuse_82 : decode cX9_doesConfuse 82 = .ok (.aload_n 0, 1) := by decide +kernel
theorem dX9_doesConfuse_83 : decode cX9_doesConfuse 83 = .ok (.getfield 37, 3) := by decide +kernel
theorem dX9_doesConfuse_86 : decode cX9_doesConfuse 86 = .ok (.iload 5, 2) := by decide +kernel
theorem dX9_doesConfuse_88 : decode cX9_doesConfuse 88 = .ok (.iaload, 1) := by decide +kernel
theorem dX9_doesConfuse_89 : decode cX9_doesConfuse 89 = .ok (.aload_n 0, 1) := by decide +kernel
theorem dX9_doesConfuse_90 : decode cX9_doesConfuse 90 = .ok (.getfield 40, 3) := by decide +kernel
theorem dX9_doesConfuse_93 : decode cX9_doesConfuse 93 = .ok (.iload 5, 2) := by decide +kernel
theorem dX9_doesConfuse_95 : decode cX9_doesConfuse 95 = .ok (.iaload, 1) := by decide +kernel
theorem dX9_doesConfuse_96 : decode cX9_doesConfuse 96 = .ok (.if_icmp .ne 7, 3) := by decide +kernel
theorem dX9_doesConfuse_99 : decode cX9_doesConfuse 99 = .ok (.iconst 0, 1) := by decide +kernel
theorem dX9_doesConfuse_100 : decode cX9_doesConfuse 100 = .ok (.goto 4, 3) := by decide +kernel
theorem dX9_doesConfuse_103 : decode cX9_doesConfuse 103 = .ok (.iconst 1, 1) := by decide +kernel
theorem dX9_doesConfuse_104 : decode cX9_doesConfuse 104 = .ok (.iadd, 1) := by decide +kernel
theorem dX9_doesConfuse_105 : decode cX9_doesConfuse 105 = .ok (.istore 4, 2) := by decide +kernel
theorem dX9_doesConfuse_107 : decode cX9_doesConfuse 107 = .ok (.iinc 5 1, 3) := by decide +kernel
theorem dX9_doesConfuse_110 : decode cX9_doesConfuse 110 = .ok (.goto (-50), 3) := by decide +kernel
theorem dX9_doesConfuse_113 : decode cX9_doesConfuse 113 = .ok (.iload 4, 2) := by decide +kernel
theorem dX9_doesConfuse_115 : decode cX9_doesConfuse 115 = .ok (.iconst 1, 1) := by decide +kernel
theorem dX9_doesConfuse_116 : decode cX9_doesConfuse 116 = .ok (.if_icmp .ne 7, 3) := by decide +kernel
theorem dX9_doesConfuse_119 : decode cX9_doesConfuse 119 = .ok (.iconst 1, 1) := by decide +kernel
theorem dX9_doesConfuse_120 : decode cX9_doesConfuse 120 = .ok (.goto 4, 3) := by decide +kernel
theorem dX9_doesConfuse_123 : decode cX9_doesConfuse 123 = .ok (.iconst 0, 1) := by decide +kernel
theorem dX9_doesConfuse_124 : decode cX9_doesConfuse 124 = .ok (.ireturn, 1) := by decide +kernel
set_option maxRecDepth 20000 in
theorem ggX9_findGroups_X9_doesConfuse : GoodIn wsX9_findGroups wsX9_doesConfuse := goodIn_r _ [7, 8, 9, 10, 11, 12, 13, 14, 15, 6, 16, 17, 18, 19, 20, 21, 22, 23, 24, 25, 26, 27, 28, 29, 30, 31, 32, 33, 34, 35, 36, 37, 38, 39, 40, 41, 42, 43, 44, 45, 46, 47, 48, 49, 50, 51, 52, 53, 54, 55, 56, 57, 58, 59, 60, 61, 62, 63, 64, 65, 66, 67, 68] (by decide +kernel) (by decide +kernel)
set_option maxRecDepth 20000 in
theorem gX9_findGroups_X9_doesConfuse : GoodIn wsX9_findGroups (wsV RX9 304 RX9 yX9_doesConfuse wsX9_doesConfuse) := goodIn_app (goodIn_of _ (by decide +kernel)) ggX9_findGroups_X9_doesConfuse
theorem dX9_findGroups_0 : decode cX9_findGroups 0 = .ok (.iconst 0, 1) := by decide +kernel
theorem dX9_findGroups_1 : decode cX9_findGroups 1 = .ok (.istore_n 2, 1) := by decide +kernel
theorem dX9_findGroups_2 : decode cX9_findGroups 2 = .ok (.iload_n 2, 1) := by decide +kernel
theorem dX9_findGroups_3 : decode cX9_findGroups 3 = .ok (.aload_n 0, 1) := by decide +kernel
theorem dX9_findGroups_4 : decode cX9_findGroups 4 = .ok (.getfield 186, 3) := by decide +kernel
theorem dX9_findGroups_7 : decode cX9_findGroups 7 = .ok (.if_icmp .ge 16, 3) := by decide +kernel
theorem dX9_findGroups_10 : decode cX9_findGroups 10 = .ok (.aload_n 0, 1) := by decide +kernel
theorem dX9_findGroups_11 : decode cX9_findGroups 11 = .ok (.getfield 95, 3) := by decide +kernel
theorem dX9_findGroups_14 : decode cX9_findGroups 14 = .ok (.iload_n 2, 1) := by decide +kernel
theorem dX9_findGroups_15 : decode cX9_findGroups 15 = .ok (.iload_n 2, 1) := by decide +kernel
theorem dX9_findGroups_16 : decode cX9_findGroups 16 = .ok (.iastore, 1) := by decide +kernel
theorem dX9_findGroups_17 : decode cX9_findGroups 17 = .ok (.iinc 2 1, 3) := by decide +kernel
theorem dX9_findGroups_20 : decode cX9_findGroups 20 = .ok (.goto (-18), 3) := by decide +kernel
theorem dX9_findGroups_23 : decode cX9_findGroups 23 = .ok (.iconst 0, 1) := by decide +kernel
theorem dX9_findGroups_24 : decode cX9_findGroups 24 = .ok (.istore_n 2, 1) := by decide +kernel
theorem dX9_findGroups_25 : decode cX9_findGroups 25 = .ok (.iload_n 2, 1) := by decide +kernel
theorem dX9_findGroups_26 : decode cX9_findGroups 26 = .ok (.aload_n 0, 1) := by decide +kernel
theorem dX9_findGroups_27 : decode cX9_findGroups 27 = .ok (.getfield 186, 3) := by decide +kernel
theorem dX9_findGroups_30 : decode cX9_findGroups 30 = .ok (.if_icmp .ge 146, 3) := by decide +kernel
theorem dX9_findGroups_33 : decode cX9_findGroups 33 = .ok (.iconst 0, 1) := by decide +kernel
theorem dX9_findGroups_34 : decode cX9_findGroups 34 = .ok (.istore_n 3, 1) := by decide +kernel
theorem dX9_findGroups_35 : decode cX9_findGroups 35 = .ok (.iload_n 3, 1) := by decide +kernel
theorem dX9_findGroups_36 : decode cX9_findGroups 36 = .ok (.iload_n 2, 1) := by decide +kernel
theorem dX9_findGroups_37 : decode cX9_findGroups 37 = .ok (.if_icmp .ge 133, 3) := by decide +kernel
theorem dX9_findGroups_40 : decode cX9_findGroups 40 = .ok (.aload_n 0, 1) := by decide +kernel
theorem dX9_findGroups_41 : decode cX9_findGroups 41 = .ok (.iload_n 1, 1) := by decide +kernel
theorem dX9_findGroups_42 : decode cX9_findGroups 42 = .ok (.iload_n 2, 1) := by decide +kernel
theorem dX9_findGroups_43 : decode cX9_findGroups 43 = .ok (.iload_n 3, 1) := by decide +kernel
theorem dX9_findGroups_44 : decode cX9_findGroups 44 = .ok (.invokevirtual 304, 3) := by decide +kernel
theorem dX9_findGroups_47 : decode cX9_findGroups 47 = .ok (.ifCond .eq 117, 3) := by decide +kernel
theorem dX9_findGroups_50 : decode cX9_findGroups 50 = .ok (.aload_n 0, 1) := by decide +kernel
theorem dX9_findGroups_51 : decode cX9_findGroups 51 = .ok (.getfield 95, 3) := by decide +kernel
theorem dX9_findGroups_54 : decode cX9_findGroups 54 = .ok (.iload_n 2, 1) := by decide +kernel
theorem dX9_findGroups_55 : decode cX9_findGroups 55 = .ok (.iaload, 1) := by decide +kernel
theorem dX9_findGroups_56 : decode cX9_findGroups 56 = .ok (.aload_n 0, 1) := by decide +kernel
theorem dX9_findGroups_57 : decode cX9_findGroups 57 = .ok (.getfield 95, 3) := by decide +kernel
theorem dX9_findGroups_60 : decode cX9_findGroups 60 = .ok (.iload_n 3, 1) := by decide +kernel
theorem dX9_findGroups_61 : decode cX9_findGroups 61 = .ok (.iaload, 1) := by decide +kernel
theorem dX9_findGroups_62 : decode cX9_findGroups 62 = .ok (.if_icmp .eq 102, 3) := by decide +kernel
theorem dX9_findGroups_65 : decode cX9_findGroups 65 = .ok (.aload_n 0, 1) := by decide +kernel
theorem dX9_findGroups_66 : decode cX9_findGroups 66 = .ok (.getfield 95, 3) := by decide +kernel
theorem dX9_findGroups_69 : decode cX9_findGroups 69 = .ok (.iload_n 2, 1) := by decide +kernel
theorem dX9_findGroups_70 : decode cX9_findGroups 70 = .ok (.iaload, 1) := by decide +kernel
theorem dX9_findGroups_71 : decode cX9_findGroups 71 = .ok (.aload_n 0, 1) := by decide +kernel
theorem dX9_findGroups_72 : decode cX9_findGroups 72 = .ok (.getfield 95, 3) := by decide +kernel
theorem dX9_findGroups_75 : decode cX9_findGroups 75 = .ok (.iload_n 3, 1) := by decide +kernel
theorem dX9_findGroups_76 : decode cX9_findGroups 76 = .ok (.iaload, 1) := by decide +kernel
theorem dX9_findGroups_77 : decode cX9_findGroups 77 = .ok (.if_icmp .ge 12, 3) := by decide +kernel
theorem dX9_findGroups_80 : decode cX9_findGroups 80 = .ok (.aload_n 0, 1) := by decide +kernel
theorem dX9_findGroups_81 : decode cX9_findGroups 81 = .ok (.getfield 95, 3) := by decide +kernel
theorem dX9_findGroups_84 : decode cX9_findGroups 84 = .ok (.iload_n 2, 1) := by decide +kernel
theorem dX9_findGroups_85 : decode cX9_findGroups 85 = .ok (.iaload, 1) := by decide +kernel
theorem dX9_findGroups_86 : decode cX9_findGroups 86 = .ok (.goto 9, 3) := by decide +kernel
theorem dX9_findGroups_89 : decode cX9_findGroups 89 = .ok (.aload_n 0, 1) := by decide +kernel
theorem dX9_findGroups_90 : decode cX9_findGroups 90 = .ok (.getfield 95, 3) := by decide +kernel
theorem dX9_findGroups_93 : decode cX9_findGroups 93 = .ok (.iload_n 3, 1) := by decide +kernel
theorem dX9_findGroups_94 : decode cX9_findGroups 94 = .ok (.iaload, 1) := by decide +kernel
theorem dX9_findGroups_95 : decode cX9_findGroups 95 = .ok (.istore 4, 2) := by decide +kernel
theorem dX9_findGroups_97 : decode cX9_findGroups 97 = .ok (.aload_n 0, 1) := by decide +kernel
theorem dX9_findGroups_98 : decode cX9_findGroups 98 = .ok (.getfield 95, 3) := by decide +kernel
theorem dX9_findGroups_101 : decode cX9_findGroups 101 = .ok (.iload_n 2, 1) := by decide +kernel
theorem dX9_findGroups_102 : decode cX9_findGroups 102 = .ok (.iaload, 1) := by decide +kernel
theorem dX9_findGroups_103 : decode cX9_findGroups 103 = .ok (.aload_n 0, 1) := by decide +kernel
theorem dX9_findGroups_104 : decode cX9_findGroups 104 = .ok (.getfield 95, 3) := by decide +kernel
theorem dX9_findGroups_107 : decode cX9_findGroups 107 = .ok (.iload_n 3, 1) := by decide +kernel
theorem dX9_findGroups_108 : decode cX9_findGroups 108 = .ok (.iaload, 1) := by decide +kernel
theorem dX9_findGroups_109 : decode cX9_findGroups 109 = .ok (.iadd, 1) := by decide +kernel
theorem dX9_findGroups_110 : decode cX9_findGroups 110 = .ok (.iload 4, 2) := by decide +kernel
theorem dX9_findGroups_112 : decode cX9_findGroups 112 = .ok (.isub, 1) := by decide +kernel
theorem dX9_findGroups_113 : decode cX9_findGroups 113 = .ok (.istore 5, 2) := by decide +kernel
theorem dX9_findGroups_115 : decode cX9_findGroups 115 = .ok (.iconst 0, 1) := by decide +kernel
theorem dX9_findGroups_116 : decode cX9_findGroups 116 = .ok (.istore 6, 2) := by decide +kernel
theorem dX9_findGroups_118 : decode cX9_findGroups 118 = .ok (.iload 6, 2) := by decide +kernel
theorem dX9_findGroups_120 : decode cX9_findGroups 120 = .ok (.aload_n 0, 1) := by decide +kernel
theorem dX9_findGroups_121 : decode cX9_findGroups 121 = .ok (.getfield 186, 3) := by decide +kernel
theorem dX9_findGroups_124 : decode cX9_findGroups 124 = .ok (.if_icmp .ge 40, 3) := by decide +kernel
theorem dX9_findGroups_127 : decode cX9_findGroups 127 = .ok (.aload_n 0, 1) := by decide +kernel
theorem dX9_findGroups_128 : decode cX9_findGroups 128 = .ok (.getfield 95, 3) := by decide +kernel
theorem dX9_findGroups_131 : decode cX9_findGroups 131 = .ok (.iload 6, 2) := by decide +kernel
theorem dX9_findGroups_133 : decode cX9_findGroups 133 = .ok (.aload_n 0, 1) := by decide +kernel
theorem dX9_findGroups_134 : decode cX9_findGroups 134 = .ok (.getfield 95, 3) := by decide +kernel
theorem dX9_findGroups_137 : decode cX9_findGroups 137 = .ok (.iload 6, 2) := by decide +kernel
theorem dX9_findGroups_139 : decode cX9_findGroups 139 = .ok (.iaload, 1) := by decide +kernel
theorem dX9_findGroups_140 : decode cX9_findGroups 140 = .ok (.iload 5, 2) := by decide +kernel
theorem dX9_findGroups_142 : decode cX9_findGroups 142 = .ok (.if_icmp .ne 8, 3) := by decide +kernel
theorem dX9_findGroups_145 : decode cX9_findGroups 145 = .ok (.iload 4, 2) := by decide +kernel
theorem dX9_findGroups_147 : decode cX9_findGroups 147 = .ok (.goto 10, 3) := by decide +kernel
theorem dX9_findGroups_150 : decode cX9_findGroups 150 = .ok (.aload_n 0, 1) := by decide +kernel
theorem dX9_findGroups_151 : decode cX9_findGroups 151 = .ok (.getfield 95, 3) := by decide +kernel
theorem dX9_findGroups_154 : decode cX9_findGroups 154 = .ok (.iload 6, 2) := by decide +kernel
theorem dX9_findGroups_156 : decode cX9_findGroups 156 = .ok (.iaload, 1) := by decide +kernel
theorem dX9_findGroups_157 : decode cX9_findGroups 157 = .ok (.iastore, 1) := by decide +kernel
theorem dX9_findGroups_158 : decode cX9_findGroups 158 = .ok (.iinc 6 1, 3) := by decide +kernel
theorem dX9_findGroups_161 : decode cX9_findGroups 161 = .ok (.goto (-43), 3) := by decide +kernel
theorem dX9_findGroups_164 : decode cX9_findGroups 164 = .ok (.iinc 3 1, 3) := by decide +kernel
theorem dX9_findGroups_167 : decode cX9_findGroups 167 = .ok (.goto (-132), 3) := by decide +kernel
theorem dX9_findGroups_170 : decode cX9_findGroups 170 = .ok (.iinc 2 1, 3) := by decide +kernel
theorem dX9_findGroups_173 : decode cX9_findGroups 173 = .ok (.goto (-148), 3) := by decide +kernel
theorem dX9_findGroups_176 : decode cX9_findGroups 176 = .ok (.return_, 1) := by decide +kernel
set_option maxRecDepth 20000 in
theorem ggX9_childOf_X9_isChild : GoodIn wsX9_childOf wsX9_isChild := goodIn_r _ [10, 11, 12, 13, 9, 14, 37, 38, 39, 40, 41, 42, 43, 44, 45, 46, 47, 48, 49, 50, 51, 52, 53, 54, 55, 56, 57, 58, 59, 60, 61, 62, 63, 64, 65, 66, 67, 68, 69, 70, 71, 72, 73, 74, 75, 76, 77, 78, 79, 80, 81, 82] (by decide +kernel) (by decide +kernel)
set_option maxRecDepth 20000 in
theorem gX9_childOf_X9_isChild : GoodIn wsX9_childOf (wsV RX9 301 RX9 yX9_isChild wsX9_isChild) := goodIn_app (goodIn_of _ (by decide +kernel)) ggX9_childOf_X9_isChild
set_option maxRecDepth 20000 in
theorem ggX9_childOf_X9_in : GoodIn wsX9_childOf wsX9_in := goodIn_r _ [14] (by decide +kernel) (by decide +kernel)
set_option maxRecDepth 20000 in
theorem gX9_childOf_X9_in : GoodIn wsX9_childOf (va_wsS RX9 104 yX9_in wsX9_in) := goodIn_app (goodIn_of _ (by decide +kernel)) ggX9_childOf_X9_in
set_option maxRecDepth 20000 in
theorem ggX9_childOf_X9_findGroups : GoodIn wsX9_childOf wsX9_findGroups := goodIn_r _ [18, 3, 4, 19, 20, 21, 9, 22, 5, 23, 24, 25, 26, 27, 28, 29, 30, 31, 32, 33, 34, 35, 36, 37, 38, 39, 40, 41, 42, 43, 44, 45, 46, 47, 48, 49, 50, 51, 52, 53, 54, 55, 56, 57, 58, 59, 60, 61, 62, 63, 64, 65, 66, 67, 68, 69, 70, 71, 72, 73, 74, 75, 76, 77, 78, 79, 80, 81, 82] (by decide +kernel) (by decide +kernel)
set_option maxRecDepth 20000 in
theorem gX9_childOf_X9_findGroups : GoodIn wsX9_childOf (wsV RX9 307 RX9 yX9_findGroups wsX9_findGroups) := goodIn_app (goodIn_of _ (by decide +kernel)) ggX9_childOf_X9_findGroups
set_option maxRecDepth 20000 in
theorem ggX9_childOf_X9_doesConfuse : GoodIn wsX9_childOf wsX9_doesConfuse := goodIn_r _ [22, 5, 23, 24, 25, 26, 27, 28, 29, 9, 30, 31, 32, 33, 34, 35, 36, 37, 38, 39, 40, 41, 42, 43, 44, 45, 46, 47, 48, 49, 50, 51, 52, 53, 54, 55, 56, 57, 58, 59, 60, 61, 62, 63, 64, 65, 66, 67, 68, 69, 70, 71, 72, 73, 74, 75, 76, 77, 78, 79, 80, 81, 82] (by decide +kernel) (by decide +kernel)
set_option maxRecDepth 20000 in
theorem gX9_childOf_X9_doesConfuse : GoodIn wsX9_childOf (wsV RX9 304 RX9 yX9_doesConfuse wsX9_doesConfuse) := goodIn_app (goodIn_of _ (by decide +kernel)) ggX9_childOf_X9_doesConfuse
theorem dX9_childOf_0 : decode cX9_childOf 0 = .ok (.aload_n 0, 1) := by decide +kernel
theorem dX9_childOf_1 : decode cX9_childOf 1 = .ok (.iload_n 1, 1) := by decide +kernel
theorem dX9_childOf_2 : decode cX9_childOf 2 = .ok (.invokevirtual 301, 3) := by decide +kernel
theorem dX9_childOf_5 : decode cX9_childOf 5 = .ok (.ifCond .eq 34, 3) := by decide +kernel
theorem dX9_childOf_8 : decode cX9_childOf 8 = .ok (.iload_n 2, 1) := by decide +kernel
theorem dX9_childOf_9 : decode cX9_childOf 9 = .ok (.i2l, 1) := by decide +kernel
theorem dX9_childOf_10 : decode cX9_childOf 10 = .ok (.lconst 0, 1) := by decide +kernel
theorem dX9_childOf_11 : decode cX9_childOf 11 = .ok (.ldc2_w 151, 3) := by decide +kernel
theorem dX9_childOf_14 : decode cX9_childOf 14 = .ok (.invokestatic 104, 3) := by decide +kernel
theorem dX9_childOf_17 : decode cX9_childOf 17 = .ok (.ifCond .ne 24, 3) := by decide +kernel
theorem dX9_childOf_20 : decode cX9_childOf 20 = .ok (.iload_n 2, 1) := by decide +kernel
theorem dX9_childOf_21 : decode cX9_childOf 21 = .ok (.i2l, 1) := by decide +kernel
theorem dX9_childOf_22 : decode cX9_childOf 22 = .ok (.ldc2_w 215, 3) := by decide +kernel
theorem dX9_childOf_25 : decode cX9_childOf 25 = .ok (.bipush 9, 2) := by decide +kernel
theorem dX9_childOf_27 : decode cX9_childOf 27 = .ok (.aload_n 0, 1) := by decide +kernel
theorem dX9_childOf_28 : decode cX9_childOf 28 = .ok (.getfield 186, 3) := by decide +kernel
theorem dX9_childOf_31 : decode cX9_childOf 31 = .ok (.iadd, 1) := by decide +kernel
theorem dX9_childOf_32 : decode cX9_childOf 32 = .ok (.i2l, 1) := by decide +kernel
theorem dX9_childOf_33 : decode cX9_childOf 33 = .ok (.invokestatic 104, 3) := by decide +kernel
theorem dX9_childOf_36 : decode cX9_childOf 36 = .ok (.ifCond .ne 5, 3) := by decide +kernel
theorem dX9_childOf_39 : decode cX9_childOf 39 = .ok (.iconst (-1), 1) := by decide +kernel
theorem dX9_childOf_40 : decode cX9_childOf 40 = .ok (.ireturn, 1) := by decide +kernel
theorem dX9_childOf_41 : decode cX9_childOf 41 = .ok (.aload_n 0, 1) := by decide +kernel
theorem dX9_childOf_42 : decode cX9_childOf 42 = .ok (.iload_n 1, 1) := by decide +kernel
theorem dX9_childOf_43 : decode cX9_childOf 43 = .ok (.invokevirtual 307, 3) := by decide +kernel
theorem dX9_childOf_46 : decode cX9_childOf 46 = .ok (.iconst 0, 1) := by decide +kernel
theorem dX9_childOf_47 : decode cX9_childOf 47 = .ok (.istore_n 3, 1) := by decide +kernel
theorem dX9_childOf_48 : decode cX9_childOf 48 = .ok (.iconst 0, 1) := by decide +kernel
theorem dX9_childOf_49 : decode cX9_childOf 49 = .ok (.istore 4, 2) := by decide +kernel
theorem dX9_childOf_51 : decode cX9_childOf 51 = .ok (.iconst 0, 1) := by decide +kernel
theorem dX9_childOf_52 : decode cX9_childOf 52 = .ok (.istore 5, 2) := by decide +kernel
theorem dX9_childOf_54 : decode cX9_childOf 54 = .ok (.iconst 0, 1) := by decide +kernel
theorem dX9_childOf_55 : decode cX9_childOf 55 = .ok (.istore 6, 2) := by decide +kernel
theorem dX9_childOf_57 : decode cX9_childOf 57 = .ok (.iconst 0, 1) := by decide +kernel
theorem dX9_childOf_58 : decode cX9_childOf 58 = .ok (.istore 7, 2) := by decide +kernel
theorem dX9_childOf_60 : decode cX9_childOf 60 = .ok (.iload 7, 2) := by decide +kernel
theorem dX9_childOf_62 : decode cX9_childOf 62 = .ok (.aload_n 0, 1) := by decide +kernel
theorem dX9_childOf_63 : decode cX9_childOf 63 = .ok (.getfield 186, 3) := by decide +kernel
theorem dX9_childOf_66 : decode cX9_childOf 66 = .ok (.if_icmp .ge 150, 3) := by decide +kernel
theorem dX9_childOf_69 : decode cX9_childOf 69 = .ok (.iconst 0, 1) := by decide +kernel
theorem dX9_childOf_70 : decode cX9_childOf 70 = .ok (.istore 8, 2) := by decide +kernel
theorem dX9_childOf_72 : decode cX9_childOf 72 = .ok (.iload 5, 2) := by decide +kernel
theorem dX9_childOf_74 : decode cX9_childOf 74 = .ok (.aload_n 0, 1) := by decide +kernel
theorem dX9_childOf_75 : decode cX9_childOf 75 = .ok (.getfield 95, 3) := by decide +kernel
theorem dX9_childOf_78 : decode cX9_childOf 78 = .ok (.iload 7, 2) := by decide +kernel
theorem dX9_childOf_80 : decode cX9_childOf 80 = .ok (.iaload, 1) := by decide +kernel
theorem dX9_childOf_81 : decode cX9_childOf 81 = .ok (.iload 7, 2) := by decide +kernel
theorem dX9_childOf_83 : decode cX9_childOf 83 = .ok (.if_icmp .ne 7, 3) := by decide +kernel
theorem dX9_childOf_86 : decode cX9_childOf 86 = .ok (.iconst 1, 1) := by decide +kernel
theorem dX9_childOf_87 : decode cX9_childOf 87 = .ok (.goto 4, 3) := by decide +kernel
theorem dX9_childOf_90 : decode cX9_childOf 90 = .ok (.iconst 0, 1) := by decide +kernel
theorem dX9_childOf_91 : decode cX9_childOf 91 = .ok (.iadd, 1) := by decide +kernel
theorem dX9_childOf_92 : decode cX9_childOf 92 = .ok (.istore 5, 2) := by decide +kernel
theorem dX9_childOf_94 : decode cX9_childOf 94 = .ok (.iconst 0, 1) := by decide +kernel
theorem dX9_childOf_95 : decode cX9_childOf 95 = .ok (.istore 9, 2) := by decide +kernel
theorem dX9_childOf_97 : decode cX9_childOf 97 = .ok (.iload 9, 2) := by decide +kernel
theorem dX9_childOf_99 : decode cX9_childOf 99 = .ok (.aload_n 0, 1) := by decide +kernel
theorem dX9_childOf_100 : decode cX9_childOf 100 = .ok (.getfield 186, 3) := by decide +kernel
theorem dX9_childOf_103 : decode cX9_childOf 103 = .ok (.if_icmp .ge 91, 3) := by decide +kernel
theorem dX9_childOf_106 : decode cX9_childOf 106 = .ok (.iload 8, 2) := by decide +kernel
theorem dX9_childOf_108 : decode cX9_childOf 108 = .ok (.aload_n 0, 1) := by decide +kernel
theorem dX9_childOf_109 : decode cX9_childOf 109 = .ok (.getfield 95, 3) := by decide +kernel
theorem dX9_childOf_112 : decode cX9_childOf 112 = .ok (.iload 9, 2) := by decide +kernel
theorem dX9_childOf_114 : decode cX9_childOf 114 = .ok (.iaload, 1) := by decide +kernel
theorem dX9_childOf_115 : decode cX9_childOf 115 = .ok (.iload 7, 2) := by decide +kernel
theorem dX9_childOf_117 : decode cX9_childOf 117 = .ok (.if_icmp .ne 7, 3) := by decide +kernel
theorem dX9_childOf_120 : decode cX9_childOf 120 = .ok (.iconst 1, 1) := by decide +kernel
theorem dX9_childOf_121 : decode cX9_childOf 121 = .ok (.goto 4, 3) := by decide +kernel
theorem dX9_childOf_124 : decode cX9_childOf 124 = .ok (.iconst 0, 1) := by decide +kernel
theorem dX9_childOf_125 : decode cX9_childOf 125 = .ok (.iadd, 1) := by decide +kernel
theorem dX9_childOf_126 : decode cX9_childOf 126 = .ok (.istore 8, 2) := by decide +kernel
theorem dX9_childOf_128 : decode cX9_childOf 128 = .ok (.iload_n 3, 1) := by decide +kernel
theorem dX9_childOf_129 : decode cX9_childOf 129 = .ok (.iload 9, 2) := by decide +kernel
theorem dX9_childOf_131 : decode cX9_childOf 131 = .ok (.iload 7, 2) := by decide +kernel
theorem dX9_childOf_133 : decode cX9_childOf 133 = .ok (.if_icmp .ge 23, 3) := by decide +kernel
theorem dX9_childOf_136 : decode cX9_childOf 136 = .ok (.aload_n 0, 1) := by decide +kernel
theorem dX9_childOf_137 : decode cX9_childOf 137 = .ok (.getfield 92, 3) := by decide +kernel
theorem dX9_childOf_140 : decode cX9_childOf 140 = .ok (.bipush 16, 2) := by decide +kernel
theorem dX9_childOf_142 : decode cX9_childOf 142 = .ok (.iload_n 1, 1) := by decide +kernel
theorem dX9_childOf_143 : decode cX9_childOf 143 = .ok (.imul, 1) := by decide +kernel
theorem dX9_childOf_144 : decode cX9_childOf 144 = .ok (.iload 7, 2) := by decide +kernel
theorem dX9_childOf_146 : decode cX9_childOf 146 = .ok (.iadd, 1) := by decide +kernel
theorem dX9_childOf_147 : decode cX9_childOf 147 = .ok (.iaload, 1) := by decide +kernel
theorem dX9_childOf_148 : decode cX9_childOf 148 = .ok (.iload 9, 2) := by decide +kernel
theorem dX9_childOf_150 : decode cX9_childOf 150 = .ok (.ishr, 1) := by decide +kernel
theorem dX9_childOf_151 : decode cX9_childOf 151 = .ok (.iconst 1, 1) := by decide +kernel
theorem dX9_childOf_152 : decode cX9_childOf 152 = .ok (.iand, 1) := by decide +kernel
theorem dX9_childOf_153 : decode cX9_childOf 153 = .ok (.goto 4, 3) := by decide +kernel
theorem dX9_childOf_156 : decode cX9_childOf 156 = .ok (.iconst 0, 1) := by decide +kernel
theorem dX9_childOf_157 : decode cX9_childOf 157 = .ok (.iadd, 1) := by decide +kernel
theorem dX9_childOf_158 : decode cX9_childOf 158 = .ok (.istore_n 3, 1) := by decide +kernel
theorem dX9_childOf_159 : decode cX9_childOf 159 = .ok (.iload 4, 2) := by decide +kernel
theorem dX9_childOf_161 : decode cX9_childOf 161 = .ok (.iload 9, 2) := by decide +kernel
theorem dX9_childOf_163 : decode cX9_childOf 163 = .ok (.iload 7, 2) := by decide +kernel
theorem dX9_childOf_165 : decode cX9_childOf 165 = .ok (.if_icmp .ge 19, 3) := by decide +kernel
theorem dX9_childOf_168 : decode cX9_childOf 168 = .ok (.aload_n 0, 1) := by decide +kernel
theorem dX9_childOf_169 : decode cX9_childOf 169 = .ok (.iload_n 1, 1) := by decide +kernel
theorem dX9_childOf_170 : decode cX9_childOf 170 = .ok (.iload 7, 2) := by decide +kernel
theorem dX9_childOf_172 : decode cX9_childOf 172 = .ok (.iload 9, 2) := by decide +kernel
theorem dX9_childOf_174 : decode cX9_childOf 174 = .ok (.invokevirtual 304, 3) := by decide +kernel
theorem dX9_childOf_177 : decode cX9_childOf 177 = .ok (.ifCond .eq 7, 3) := by decide +kernel
theorem dX9_childOf_180 : decode cX9_childOf 180 = .ok (.iconst 1, 1) := by decide +kernel
theorem dX9_childOf_181 : decode cX9_childOf 181 = .ok (.goto 4, 3) := by decide +kernel
theorem dX9_childOf_184 : decode cX9_childOf 184 = .ok (.iconst 0, 1) := by decide +kernel
theorem dX9_childOf_185 : decode cX9_childOf 185 = .ok (.iadd, 1) := by decide +kernel
theorem dX9_childOf_186 : decode cX9_childOf 186 = .ok (.istore 4, 2) := by decide +kernel
theorem dX9_childOf_188 : decode cX9_childOf 188 = .ok (.iinc 9 1, 3) := by decide +kernel
theorem dX9_childOf_191 : decode cX9_childOf 191 = .ok (.goto (-94), 3) := by decide +kernel
theorem dX9_childOf_194 : decode cX9_childOf 194 = .ok (.iload 8, 2) := by decide +kernel
theorem dX9_childOf_196 : decode cX9_childOf 196 = .ok (.iload 6, 2) := by decide +kernel
theorem dX9_childOf_198 : decode cX9_childOf 198 = .ok (.if_icmp .le 8, 3) := by decide +kernel
theorem dX9_childOf_201 : decode cX9_childOf 201 = .ok (.iload 8, 2) := by decide +kernel
theorem dX9_childOf_203 : decode cX9_childOf 203 = .ok (.goto 5, 3) := by decide +kernel
theorem dX9_childOf_206 : decode cX9_childOf 206 = .ok (.iload 6, 2) := by decide +kernel
theorem dX9_childOf_208 : decode cX9_childOf 208 = .ok (.istore 6, 2) := by decide +kernel
theorem dX9_childOf_210 : decode cX9_childOf 210 = .ok (.iinc 7 1, 3) := by decide +kernel
theorem dX9_childOf_213 : decode cX9_childOf 213 = .ok (.goto (-153), 3) := by decide +kernel
theorem dX9_childOf_216 : decode cX9_childOf 216 = .ok (.iload_n 2, 1) := by decide +kernel
theorem dX9_childOf_217 : decode cX9_childOf 217 = .ok (.ifCond .ne 7, 3) := by decide +kernel
theorem dX9_childOf_220 : decode cX9_childOf 220 = .ok (.iload_n 3, 1) := by decide +kernel
theorem dX9_childOf_221 : decode cX9_childOf 221 = .ok (.goto 42, 3) := by decide +kernel
theorem dX9_childOf_224 : decode cX9_childOf 224 = .ok (.iload_n 2, 1) := by decide +kernel
theorem dX9_childOf_225 : decode cX9_childOf 225 = .ok (.iconst 1, 1) := by decide +kernel
theorem dX9_childOf_226 : decode cX9_childOf 226 = .ok (.if_icmp .ne 8, 3) := by decide +kernel
theorem dX9_childOf_229 : decode cX9_childOf 229 = .ok (.iload 4, 2) := by decide +kernel
theorem dX9_childOf_231 : decode cX9_childOf 231 = .ok (.goto 32, 3) := by decide +kernel
theorem dX9_childOf_234 : decode cX9_childOf 234 = .ok (.iload_n 2, 1) := by decide +kernel
theorem dX9_childOf_235 : decode cX9_childOf 235 = .ok (.iconst 2, 1) := by decide +kernel
theorem dX9_childOf_236 : decode cX9_childOf 236 = .ok (.if_icmp .ne 8, 3) := by decide +kernel
theorem dX9_childOf_239 : decode cX9_childOf 239 = .ok (.iload 5, 2) := by decide +kernel
theorem dX9_childOf_241 : decode cX9_childOf 241 = .ok (.goto 22, 3) := by decide +kernel
theorem dX9_childOf_244 : decode cX9_childOf 244 = .ok (.iload_n 2, 1) := by decide +kernel
theorem dX9_childOf_245 : decode cX9_childOf 245 = .ok (.iconst 3, 1) := by decide +kernel
theorem dX9_childOf_246 : decode cX9_childOf 246 = .ok (.if_icmp .ne 8, 3) := by decide +kernel
theorem dX9_childOf_249 : decode cX9_childOf 249 = .ok (.iload 6, 2) := by decide +kernel
theorem dX9_childOf_251 : decode cX9_childOf 251 = .ok (.goto 12, 3) := by decide +kernel
theorem dX9_childOf_254 : decode cX9_childOf 254 = .ok (.aload_n 0, 1) := by decide +kernel
theorem dX9_childOf_255 : decode cX9_childOf 255 = .ok (.getfield 95, 3) := by decide +kernel
theorem dX9_childOf_258 : decode cX9_childOf 258 = .ok (.iload_n 2, 1) := by decide +kernel
theorem dX9_childOf_259 : decode cX9_childOf 259 = .ok (.bipush 10, 2) := by decide +kernel
theorem dX9_childOf_261 : decode cX9_childOf 261 = .ok (.isub, 1) := by decide +kernel
theorem dX9_childOf_262 : decode cX9_childOf 262 = .ok (.iaload, 1) := by decide +kernel
theorem dX9_childOf_263 : decode cX9_childOf 263 = .ok (.ireturn, 1) := by decide +kernel
set_option maxRecDepth 20000 in
theorem ggX9_lessons_X9_isChild : GoodIn wsX9_lessons wsX9_isChild := goodIn_r _ [7, 8, 9, 10, 6, 11, 36, 37, 38, 39, 40, 41, 42, 43, 44, 45, 46, 47, 48, 49, 50, 51, 52, 53, 54, 55, 56, 57, 58, 59, 60, 61, 62, 63, 64, 65, 66, 67, 68, 69, 70, 71, 72, 73, 74, 75, 76, 77, 78, 79, 80, 81] (by decide +kernel) (by decide +kernel)
set_option maxRecDepth 20000 in
theorem gX9_lessons_X9_isChild : GoodIn wsX9_lessons (wsV RX9 301 RX9 yX9_isChild wsX9_isChild) := goodIn_app (goodIn_of _ (by decide +kernel)) ggX9_lessons_X9_isChild
set_option maxRecDepth 20000 in
theorem ggX9_lessons_X9_isAsk : GoodIn wsX9_lessons wsX9_isAsk := goodIn_r _ [15, 16, 9, 10, 6, 11, 36, 37, 38, 39, 40, 41, 42, 43, 44, 45, 46, 47, 48, 49, 50, 51, 52, 53, 54, 55, 56, 57, 58, 59, 60, 61, 62, 63, 64, 65, 66, 67, 68, 69, 70, 71, 72, 73, 74, 75, 76, 77, 78, 79, 80, 81] (by decide +kernel) (by decide +kernel)
set_option maxRecDepth 20000 in
theorem gX9_lessons_X9_isAsk : GoodIn wsX9_lessons (wsV RX9 217 RX9 yX9_isAsk wsX9_isAsk) := goodIn_app (goodIn_of _ (by decide +kernel)) ggX9_lessons_X9_isAsk
set_option maxRecDepth 20000 in
theorem ggX9_lessons_X9_doesConfuse : GoodIn wsX9_lessons wsX9_doesConfuse := goodIn_r _ [20, 21, 22, 23, 24, 25, 26, 27, 28, 6, 29, 30, 31, 32, 33, 34, 35, 36, 37, 38, 39, 40, 41, 42, 43, 44, 45, 46, 47, 48, 49, 50, 51, 52, 53, 54, 55, 56, 57, 58, 59, 60, 61, 62, 63, 64, 65, 66, 67, 68, 69, 70, 71, 72, 73, 74, 75, 76, 77, 78, 79, 80, 81] (by decide +kernel) (by decide +kernel)
set_option maxRecDepth 20000 in
theorem gX9_lessons_X9_doesConfuse : GoodIn wsX9_lessons (wsV RX9 304 RX9 yX9_doesConfuse wsX9_doesConfuse) := goodIn_app (goodIn_of _ (by decide +kernel)) ggX9_lessons_X9_doesConfuse
theorem dX9_lessons_0 : decode cX9_lessons 0 = .ok (.aload_n 0, 1) := by decide +kernel
theorem dX9_lessons_1 : decode cX9_lessons 1 = .ok (.iload_n 1, 1) := by decide +kernel
theorem dX9_lessons_2 : decode cX9_lessons 2 = .ok (.invokevirtual 301, 3) := by decide +kernel
theorem dX9_lessons_5 : decode cX9_lessons 5 = .ok (.ifCond .eq 11, 3) := by decide +kernel
theorem dX9_lessons_8 : decode cX9_lessons 8 = .ok (.aload_n 0, 1) := by decide +kernel
theorem dX9_lessons_9 : decode cX9_lessons 9 = .ok (.iload_n 2, 1) := by decide +kernel
theorem dX9_lessons_10 : decode cX9_lessons 10 = .ok (.invokevirtual 217, 3) := by decide +kernel
theorem dX9_lessons_13 : decode cX9_lessons 13 = .ok (.ifCond .ne 5, 3) := by decide +kernel
theorem dX9_lessons_16 : decode cX9_lessons 16 = .ok (.iconst (-1), 1) := by decide +kernel
theorem dX9_lessons_17 : decode cX9_lessons 17 = .ok (.ireturn, 1) := by decide +kernel
theorem dX9_lessons_18 : decode cX9_lessons 18 = .ok (.iconst 0, 1) := by decide +kernel
theorem dX9_lessons_19 : decode cX9_lessons 19 = .ok (.istore_n 3, 1) := by decide +kernel
theorem dX9_lessons_20 : decode cX9_lessons 20 = .ok (.iconst 0, 1) := by decide +kernel
theorem dX9_lessons_21 : decode cX9_lessons 21 = .ok (.istore 4, 2) := by decide +kernel
theorem dX9_lessons_23 : decode cX9_lessons 23 = .ok (.iload 4, 2) := by decide +kernel
theorem dX9_lessons_25 : decode cX9_lessons 25 = .ok (.aload_n 0, 1) := by decide +kernel
theorem dX9_lessons_26 : decode cX9_lessons 26 = .ok (.getfield 186, 3) := by decide +kernel
theorem dX9_lessons_29 : decode cX9_lessons 29 = .ok (.if_icmp .ge 75, 3) := by decide +kernel
theorem dX9_lessons_32 : decode cX9_lessons 32 = .ok (.iconst 0, 1) := by decide +kernel
theorem dX9_lessons_33 : decode cX9_lessons 33 = .ok (.istore 5, 2) := by decide +kernel
theorem dX9_lessons_35 : decode cX9_lessons 35 = .ok (.iload 5, 2) := by decide +kernel
theorem dX9_lessons_37 : decode cX9_lessons 37 = .ok (.iload 4, 2) := by decide +kernel
theorem dX9_lessons_39 : decode cX9_lessons 39 = .ok (.if_icmp .ge 59, 3) := by decide +kernel
theorem dX9_lessons_42 : decode cX9_lessons 42 = .ok (.iload_n 3, 1) := by decide +kernel
theorem dX9_lessons_43 : decode cX9_lessons 43 = .ok (.aload_n 0, 1) := by decide +kernel
theorem dX9_lessons_44 : decode cX9_lessons 44 = .ok (.getfield 19, 3) := by decide +kernel
theorem dX9_lessons_47 : decode cX9_lessons 47 = .ok (.iload_n 2, 1) := by decide +kernel
theorem dX9_lessons_48 : decode cX9_lessons 48 = .ok (.iaload, 1) := by decide +kernel
theorem dX9_lessons_49 : decode cX9_lessons 49 = .ok (.iload 4, 2) := by decide +kernel
theorem dX9_lessons_51 : decode cX9_lessons 51 = .ok (.ishr, 1) := by decide +kernel
theorem dX9_lessons_52 : decode cX9_lessons 52 = .ok (.iconst 1, 1) := by decide +kernel
theorem dX9_lessons_53 : decode cX9_lessons 53 = .ok (.iand, 1) := by decide +kernel
theorem dX9_lessons_54 : decode cX9_lessons 54 = .ok (.iconst 1, 1) := by decide +kernel
theorem dX9_lessons_55 : decode cX9_lessons 55 = .ok (.if_icmp .ne 34, 3) := by decide +kernel
theorem dX9_lessons_58 : decode cX9_lessons 58 = .ok (.aload_n 0, 1) := by decide +kernel
theorem dX9_lessons_59 : decode cX9_lessons 59 = .ok (.getfield 19, 3) := by decide +kernel
theorem dX9_lessons_62 : decode cX9_lessons 62 = .ok (.iload_n 2, 1) := by decide +kernel
theorem dX9_lessons_63 : decode cX9_lessons 63 = .ok (.iaload, 1) := by decide +kernel
theorem dX9_lessons_64 : decode cX9_lessons 64 = .ok (.iload 5, 2) := by decide +kernel
theorem dX9_lessons_66 : decode cX9_lessons 66 = .ok (.ishr, 1) := by decide +kernel
theorem dX9_lessons_67 : decode cX9_lessons 67 = .ok (.iconst 1, 1) := by decide +kernel
theorem dX9_lessons_68 : decode cX9_lessons 68 = .ok (.iand, 1) := by decide +kernel
theorem dX9_lessons_69 : decode cX9_lessons 69 = .ok (.iconst 1, 1) := by decide +kernel
theorem dX9_lessons_70 : decode cX9_lessons 70 = .ok (.if_icmp .ne 19, 3) := by decide +kernel
theorem dX9_lessons_73 : decode cX9_lessons 73 = .ok (.aload_n 0, 1) := by decide +kernel
theorem dX9_lessons_74 : decode cX9_lessons 74 = .ok (.iload_n 1, 1) := by decide +kernel
theorem dX9_lessons_75 : decode cX9_lessons 75 = .ok (.iload 4, 2) := by decide +kernel
theorem dX9_lessons_77 : decode cX9_lessons 77 = .ok (.iload 5, 2) := by decide +kernel
theorem dX9_lessons_79 : decode cX9_lessons 79 = .ok (.invokevirtual 304, 3) := by decide +kernel
theorem dX9_lessons_82 : decode cX9_lessons 82 = .ok (.ifCond .eq 7, 3) := by decide +kernel
theorem dX9_lessons_85 : decode cX9_lessons 85 = .ok (.iconst 1, 1) := by decide +kernel
theorem dX9_lessons_86 : decode cX9_lessons 86 = .ok (.goto 4, 3) := by decide +kernel
theorem dX9_lessons_89 : decode cX9_lessons 89 = .ok (.iconst 0, 1) := by decide +kernel
theorem dX9_lessons_90 : decode cX9_lessons 90 = .ok (.iadd, 1) := by decide +kernel
theorem dX9_lessons_91 : decode cX9_lessons 91 = .ok (.istore_n 3, 1) := by decide +kernel
theorem dX9_lessons_92 : decode cX9_lessons 92 = .ok (.iinc 5 1, 3) := by decide +kernel
theorem dX9_lessons_95 : decode cX9_lessons 95 = .ok (.goto (-60), 3) := by decide +kernel
theorem dX9_lessons_98 : decode cX9_lessons 98 = .ok (.iinc 4 1, 3) := by decide +kernel
theorem dX9_lessons_101 : decode cX9_lessons 101 = .ok (.goto (-78), 3) := by decide +kernel
theorem dX9_lessons_104 : decode cX9_lessons 104 = .ok (.iload_n 3, 1) := by decide +kernel
theorem dX9_lessons_105 : decode cX9_lessons 105 = .ok (.ireturn, 1) := by decide +kernel
set_option maxRecDepth 20000 in
theorem ggX9_count_X9_isFalse : GoodIn wsX9_count wsX9_isFalse := goodIn_r _ [15, 16, 17, 18, 19, 14, 20, 21, 22, 23, 24, 25, 26, 27, 28, 29, 30, 31, 32, 33, 34, 35, 36, 37, 38, 39, 40, 41, 42, 43, 44, 45, 46, 47, 48, 49, 50, 51, 52, 53, 54, 55, 56, 57, 58, 59, 60, 61, 62, 63, 64, 65, 66, 67] (by decide +kernel) (by decide +kernel)
set_option maxRecDepth 20000 in
theorem gX9_count_X9_isFalse : GoodIn wsX9_count (wsV RX9 289 RX9 yX9_isFalse wsX9_isFalse) := goodIn_app (goodIn_of _ (by decide +kernel)) ggX9_count_X9_isFalse
theorem dX9_count_0 : decode cX9_count 0 = .ok (.iconst 0, 1) := by decide +kernel
theorem dX9_count_1 : decode cX9_count 1 = .ok (.istore_n 2, 1) := by decide +kernel
theorem dX9_count_2 : decode cX9_count 2 = .ok (.iconst 0, 1) := by decide +kernel
theorem dX9_count_3 : decode cX9_count 3 = .ok (.istore_n 3, 1) := by decide +kernel
theorem dX9_count_4 : decode cX9_count 4 = .ok (.iload_n 3, 1) := by decide +kernel
theorem dX9_count_5 : decode cX9_count 5 = .ok (.bipush 26, 2) := by decide +kernel
theorem dX9_count_7 : decode cX9_count 7 = .ok (.if_icmp .ge 27, 3) := by decide +kernel
theorem dX9_count_10 : decode cX9_count 10 = .ok (.iload_n 2, 1) := by decide +kernel
theorem dX9_count_11 : decode cX9_count 11 = .ok (.aload_n 0, 1) := by decide +kernel
theorem dX9_count_12 : decode cX9_count 12 = .ok (.getfield 7, 3) := by decide +kernel
theorem dX9_count_15 : decode cX9_count 15 = .ok (.iload_n 3, 1) := by decide +kernel
theorem dX9_count_16 : decode cX9_count 16 = .ok (.iaload, 1) := by decide +kernel
theorem dX9_count_17 : decode cX9_count 17 = .ok (.iconst (-1), 1) := by decide +kernel
theorem dX9_count_18 : decode cX9_count 18 = .ok (.if_icmp .ne 7, 3) := by decide +kernel
theorem dX9_count_21 : decode cX9_count 21 = .ok (.iconst 0, 1) := by decide +kernel
theorem dX9_count_22 : decode cX9_count 22 = .ok (.goto 4, 3) := by decide +kernel
theorem dX9_count_25 : decode cX9_count 25 = .ok (.iconst 1, 1) := by decide +kernel
theorem dX9_count_26 : decode cX9_count 26 = .ok (.iadd, 1) := by decide +kernel
theorem dX9_count_27 : decode cX9_count 27 = .ok (.istore_n 2, 1) := by decide +kernel
theorem dX9_count_28 : decode cX9_count 28 = .ok (.iinc 3 1, 3) := by decide +kernel
theorem dX9_count_31 : decode cX9_count 31 = .ok (.goto (-27), 3) := by decide +kernel
theorem dX9_count_34 : decode cX9_count 34 = .ok (.iconst 0, 1) := by decide +kernel
theorem dX9_count_35 : decode cX9_count 35 = .ok (.istore_n 3, 1) := by decide +kernel
theorem dX9_count_36 : decode cX9_count 36 = .ok (.iconst 0, 1) := by decide +kernel
theorem dX9_count_37 : decode cX9_count 37 = .ok (.istore 4, 2) := by decide +kernel
theorem dX9_count_39 : decode cX9_count 39 = .ok (.iload 4, 2) := by decide +kernel
theorem dX9_count_41 : decode cX9_count 41 = .ok (.aload_n 0, 1) := by decide +kernel
theorem dX9_count_42 : decode cX9_count 42 = .ok (.getfield 177, 3) := by decide +kernel
theorem dX9_count_45 : decode cX9_count 45 = .ok (.if_icmp .ge 26, 3) := by decide +kernel
theorem dX9_count_48 : decode cX9_count 48 = .ok (.iload_n 3, 1) := by decide +kernel
theorem dX9_count_49 : decode cX9_count 49 = .ok (.aload_n 0, 1) := by decide +kernel
theorem dX9_count_50 : decode cX9_count 50 = .ok (.iload 4, 2) := by decide +kernel
theorem dX9_count_52 : decode cX9_count 52 = .ok (.invokevirtual 289, 3) := by decide +kernel
theorem dX9_count_55 : decode cX9_count 55 = .ok (.ifCond .eq 7, 3) := by decide +kernel
theorem dX9_count_58 : decode cX9_count 58 = .ok (.iconst 1, 1) := by decide +kernel
theorem dX9_count_59 : decode cX9_count 59 = .ok (.goto 4, 3) := by decide +kernel
theorem dX9_count_62 : decode cX9_count 62 = .ok (.iconst 0, 1) := by decide +kernel
theorem dX9_count_63 : decode cX9_count 63 = .ok (.iadd, 1) := by decide +kernel
theorem dX9_count_64 : decode cX9_count 64 = .ok (.istore_n 3, 1) := by decide +kernel
theorem dX9_count_65 : decode cX9_count 65 = .ok (.iinc 4 1, 3) := by decide +kernel
theorem dX9_count_68 : decode cX9_count 68 = .ok (.goto (-29), 3) := by decide +kernel
theorem dX9_count_71 : decode cX9_count 71 = .ok (.iload_n 1, 1) := by decide +kernel
theorem dX9_count_72 : decode cX9_count 72 = .ok (.tableswitch 118 0 9 #[56, 61, 66, 68, 73, 78, 83, 85, 90, 95], 56) := by decide +kernel
theorem dX9_count_128 : decode cX9_count 128 = .ok (.aload_n 0, 1) := by decide +kernel
theorem dX9_count_129 : decode cX9_count 129 = .ok (.getfield 186, 3) := by decide +kernel
theorem dX9_count_132 : decode cX9_count 132 = .ok (.ireturn, 1) := by decide +kernel
theorem dX9_count_133 : decode cX9_count 133 = .ok (.aload_n 0, 1) := by decide +kernel
theorem dX9_count_134 : decode cX9_count 134 = .ok (.getfield 189, 3) := by decide +kernel
theorem dX9_count_137 : decode cX9_count 137 = .ok (.ireturn, 1) := by decide +kernel
theorem dX9_count_138 : decode cX9_count 138 = .ok (.iload_n 2, 1) := by decide +kernel
theorem dX9_count_139 : decode cX9_count 139 = .ok (.ireturn, 1) := by decide +kernel
theorem dX9_count_140 : decode cX9_count 140 = .ok (.aload_n 0, 1) := by decide +kernel
theorem dX9_count_141 : decode cX9_count 141 = .ok (.getfield 245, 3) := by decide +kernel
theorem dX9_count_144 : decode cX9_count 144 = .ok (.ireturn, 1) := by decide +kernel
theorem dX9_count_145 : decode cX9_count 145 = .ok (.aload_n 0, 1) := by decide +kernel
theorem dX9_count_146 : decode cX9_count 146 = .ok (.getfield 248, 3) := by decide +kernel
theorem dX9_count_149 : decode cX9_count 149 = .ok (.ireturn, 1) := by decide +kernel
theorem dX9_count_150 : decode cX9_count 150 = .ok (.aload_n 0, 1) := by decide +kernel
theorem dX9_count_151 : decode cX9_count 151 = .ok (.getfield 177, 3) := by decide +kernel
theorem dX9_count_154 : decode cX9_count 154 = .ok (.ireturn, 1) := by decide +kernel
theorem dX9_count_155 : decode cX9_count 155 = .ok (.iload_n 3, 1) := by decide +kernel
theorem dX9_count_156 : decode cX9_count 156 = .ok (.ireturn, 1) := by decide +kernel
theorem dX9_count_157 : decode cX9_count 157 = .ok (.aload_n 0, 1) := by decide +kernel
theorem dX9_count_158 : decode cX9_count 158 = .ok (.getfield 180, 3) := by decide +kernel
theorem dX9_count_161 : decode cX9_count 161 = .ok (.ireturn, 1) := by decide +kernel
theorem dX9_count_162 : decode cX9_count 162 = .ok (.aload_n 0, 1) := by decide +kernel
theorem dX9_count_163 : decode cX9_count 163 = .ok (.getfield 98, 3) := by decide +kernel
theorem dX9_count_166 : decode cX9_count 166 = .ok (.ireturn, 1) := by decide +kernel
theorem dX9_count_167 : decode cX9_count 167 = .ok (.aload_n 0, 1) := by decide +kernel
theorem dX9_count_168 : decode cX9_count 168 = .ok (.getfield 58, 3) := by decide +kernel
theorem dX9_count_171 : decode cX9_count 171 = .ok (.iconst 0, 1) := by decide +kernel
theorem dX9_count_172 : decode cX9_count 172 = .ok (.iaload, 1) := by decide +kernel
theorem dX9_count_173 : decode cX9_count 173 = .ok (.bipush (-4), 2) := by decide +kernel
theorem dX9_count_175 : decode cX9_count 175 = .ok (.if_icmp .ne 8, 3) := by decide +kernel
theorem dX9_count_178 : decode cX9_count 178 = .ok (.bipush (-4), 2) := by decide +kernel
theorem dX9_count_180 : decode cX9_count 180 = .ok (.goto 9, 3) := by decide +kernel
theorem dX9_count_183 : decode cX9_count 183 = .ok (.aload_n 0, 1) := by decide +kernel
theorem dX9_count_184 : decode cX9_count 184 = .ok (.getfield 61, 3) := by decide +kernel
theorem dX9_count_187 : decode cX9_count 187 = .ok (.iconst 0, 1) := by decide +kernel
theorem dX9_count_188 : decode cX9_count 188 = .ok (.iaload, 1) := by decide +kernel
theorem dX9_count_189 : decode cX9_count 189 = .ok (.ireturn, 1) := by decide +kernel
theorem dX9_count_190 : decode cX9_count 190 = .ok (.iconst (-1), 1) := by decide +kernel
theorem dX9_count_191 : decode cX9_count 191 = .ok (.ireturn, 1) := by decide +kernel
