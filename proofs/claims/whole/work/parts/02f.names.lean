theorem dX9_finds_22 : decode cX9_finds 22 = .ok (.putfield 167, 3) := by decide +kernel
theorem dX9_finds_25 : decode cX9_finds 25 = .ok (.aload_n 0, 1) := by decide +kernel
theorem dX9_finds_26 : decode cX9_finds 26 = .ok (.iconst 0, 1) := by decide +kernel
theorem dX9_finds_27 : decode cX9_finds 27 = .ok (.putfield 170, 3) := by decide +kernel
theorem dX9_finds_30 : decode cX9_finds 30 = .ok (.iconst 0, 1) := by decide +kernel
theorem dX9_finds_31 : decode cX9_finds 31 = .ok (.istore_n 3, 1) := by decide +kernel
theorem dX9_finds_32 : decode cX9_finds 32 = .ok (.iload_n 3, 1) := by decide +kernel
theorem dX9_finds_33 : decode cX9_finds 33 = .ok (.iload_n 2, 1) := by decide +kernel
theorem dX9_finds_34 : decode cX9_finds 34 = .ok (.if_icmp .ge 230, 3) := by decide +kernel
theorem dX9_finds_37 : decode cX9_finds 37 = .ok (.iload_n 3, 1) := by decide +kernel
theorem dX9_finds_38 : decode cX9_finds 38 = .ok (.istore 4, 2) := by decide +kernel
theorem dX9_finds_40 : decode cX9_finds 40 = .ok (.iconst 0, 1) := by decide +kernel
theorem dX9_finds_41 : decode cX9_finds 41 = .ok (.istore 5, 2) := by decide +kernel
theorem dX9_finds_43 : decode cX9_finds 43 = .ok (.iconst 0, 1) := by decide +kernel
theorem dX9_finds_44 : decode cX9_finds 44 = .ok (.istore 6, 2) := by decide +kernel
theorem dX9_finds_46 : decode cX9_finds 46 = .ok (.iconst 0, 1) := by decide +kernel
theorem dX9_finds_47 : decode cX9_finds 47 = .ok (.istore 7, 2) := by decide +kernel
theorem dX9_finds_49 : decode cX9_finds 49 = .ok (.iconst 1, 1) := by decide +kernel
theorem dX9_finds_50 : decode cX9_finds 50 = .ok (.istore 8, 2) := by decide +kernel
theorem dX9_finds_52 : decode cX9_finds 52 = .ok (.aload_n 0, 1) := by decide +kernel
theorem dX9_finds_53 : decode cX9_finds 53 = .ok (.getfield 16, 3) := by decide +kernel
theorem dX9_finds_56 : decode cX9_finds 56 = .ok (.iconst 1, 1) := by decide +kernel
theorem dX9_finds_57 : decode cX9_finds 57 = .ok (.iaload, 1) := by decide +kernel
theorem dX9_finds_58 : decode cX9_finds 58 = .ok (.iconst 1, 1) := by decide +kernel
theorem dX9_finds_59 : decode cX9_finds 59 = .ok (.isub, 1) := by decide +kernel
theorem dX9_finds_60 : decode cX9_finds 60 = .ok (.istore 9, 2) := by decide +kernel
theorem dX9_finds_62 : decode cX9_finds 62 = .ok (.iload 9, 2) := by decide +kernel
theorem dX9_finds_64 : decode cX9_finds 64 = .ok (.ifCond .lt 91, 3) := by decide +kernel
theorem dX9_finds_67 : decode cX9_finds 67 = .ok (.iload 8, 2) := by decide +kernel
theorem dX9_finds_69 : decode cX9_finds 69 = .ok (.ifCond .eq 86, 3) := by decide +kernel
theorem dX9_finds_72 : decode cX9_finds 72 = .ok (.iload 4, 2) := by decide +kernel
theorem dX9_finds_74 : decode cX9_finds 74 = .ok (.iload_n 1, 1) := by decide +kernel
theorem dX9_finds_75 : decode cX9_finds 75 = .ok (.irem, 1) := by decide +kernel
theorem dX9_finds_76 : decode cX9_finds 76 = .ok (.istore 10, 2) := by decide +kernel
theorem dX9_finds_78 : decode cX9_finds 78 = .ok (.iload 4, 2) := by decide +kernel
theorem dX9_finds_80 : decode cX9_finds 80 = .ok (.iload_n 1, 1) := by decide +kernel
theorem dX9_finds_81 : decode cX9_finds 81 = .ok (.idiv, 1) := by decide +kernel
theorem dX9_finds_82 : decode cX9_finds 82 = .ok (.istore 4, 2) := by decide +kernel
theorem dX9_finds_84 : decode cX9_finds 84 = .ok (.iload 10, 2) := by decide +kernel
theorem dX9_finds_86 : decode cX9_finds 86 = .ok (.aload_n 0, 1) := by decide +kernel
theorem dX9_finds_87 : decode cX9_finds 87 = .ok (.getfield 16, 3) := by decide +kernel
theorem dX9_finds_90 : decode cX9_finds 90 = .ok (.iconst 0, 1) := by decide +kernel
theorem dX9_finds_91 : decode cX9_finds 91 = .ok (.iaload, 1) := by decide +kernel
theorem dX9_finds_92 : decode cX9_finds 92 = .ok (.if_icmp .ge 57, 3) := by decide +kernel
theorem dX9_finds_95 : decode cX9_finds 95 = .ok (.iload 7, 2) := by decide +kernel
theorem dX9_finds_97 : decode cX9_finds 97 = .ok (.iload 10, 2) := by decide +kernel
theorem dX9_finds_99 : decode cX9_finds 99 = .ok (.ishr, 1) := by decide +kernel
theorem dX9_finds_100 : decode cX9_finds 100 = .ok (.iconst 1, 1) := by decide +kernel
theorem dX9_finds_101 : decode cX9_finds 101 = .ok (.iand, 1) := by decide +kernel
theorem dX9_finds_102 : decode cX9_finds 102 = .ok (.ifCond .ne 18, 3) := by decide +kernel
theorem dX9_finds_105 : decode cX9_finds 105 = .ok (.aload_n 0, 1) := by decide +kernel
theorem dX9_finds_106 : decode cX9_finds 106 = .ok (.iload 9, 2) := by decide +kernel
theorem dX9_finds_108 : decode cX9_finds 108 = .ok (.iload 10, 2) := by decide +kernel
theorem dX9_finds_110 : decode cX9_finds 110 = .ok (.invokevirtual 130, 3) := by decide +kernel
theorem dX9_finds_113 : decode cX9_finds 113 = .ok (.ifCond .lt 7, 3) := by decide +kernel
theorem dX9_finds_116 : decode cX9_finds 116 = .ok (.iconst 1, 1) := by decide +kernel
theorem dX9_finds_117 : decode cX9_finds 117 = .ok (.goto 4, 3) := by decide +kernel
theorem dX9_finds_120 : decode cX9_finds 120 = .ok (.iconst 0, 1) := by decide +kernel
theorem dX9_finds_121 : decode cX9_finds 121 = .ok (.istore 8, 2) := by decide +kernel
theorem dX9_finds_123 : decode cX9_finds 123 = .ok (.iload 7, 2) := by decide +kernel
theorem dX9_finds_125 : decode cX9_finds 125 = .ok (.iconst 1, 1) := by decide +kernel
theorem dX9_finds_126 : decode cX9_finds 126 = .ok (.iload 10, 2) := by decide +kernel
theorem dX9_finds_128 : decode cX9_finds 128 = .ok (.ishl, 1) := by decide +kernel
theorem dX9_finds_129 : decode cX9_finds 129 = .ok (.ior, 1) := by decide +kernel
theorem dX9_finds_130 : decode cX9_finds 130 = .ok (.istore 7, 2) := by decide +kernel
theorem dX9_finds_132 : decode cX9_finds 132 = .ok (.iinc 5 1, 3) := by decide +kernel
theorem dX9_finds_135 : decode cX9_finds 135 = .ok (.iload 6, 2) := by decide +kernel
theorem dX9_finds_137 : decode cX9_finds 137 = .ok (.aload_n 0, 1) := by decide +kernel
theorem dX9_finds_138 : decode cX9_finds 138 = .ok (.getfield 16, 3) := by decide +kernel
theorem dX9_finds_141 : decode cX9_finds 141 = .ok (.iconst 3, 1) := by decide +kernel
theorem dX9_finds_142 : decode cX9_finds 142 = .ok (.iload 10, 2) := by decide +kernel
theorem dX9_finds_144 : decode cX9_finds 144 = .ok (.iadd, 1) := by decide +kernel
theorem dX9_finds_145 : decode cX9_finds 145 = .ok (.iaload, 1) := by decide +kernel
theorem dX9_finds_146 : decode cX9_finds 146 = .ok (.iadd, 1) := by decide +kernel
theorem dX9_finds_147 : decode cX9_finds 147 = .ok (.istore 6, 2) := by decide +kernel
theorem dX9_finds_149 : decode cX9_finds 149 = .ok (.iinc 9 (-1), 3) := by decide +kernel
theorem dX9_finds_152 : decode cX9_finds 152 = .ok (.goto (-90), 3) := by decide +kernel
theorem dX9_finds_155 : decode cX9_finds 155 = .ok (.iload 8, 2) := by decide +kernel
theorem dX9_finds_157 : decode cX9_finds 157 = .ok (.ifCond .eq 101, 3) := by decide +kernel
theorem dX9_finds_160 : decode cX9_finds 160 = .ok (.iload 5, 2) := by decide +kernel
theorem dX9_finds_162 : decode cX9_finds 162 = .ok (.aload_n 0, 1) := by decide +kernel
theorem dX9_finds_163 : decode cX9_finds 163 = .ok (.getfield 167, 3) := by decide +kernel
theorem dX9_finds_166 : decode cX9_finds 166 = .ok (.if_icmp .gt 21, 3) := by decide +kernel
theorem dX9_finds_169 : decode cX9_finds 169 = .ok (.iload 5, 2) := by decide +kernel
theorem dX9_finds_171 : decode cX9_finds 171 = .ok (.aload_n 0, 1) := by decide +kernel
theorem dX9_finds_172 : decode cX9_finds 172 = .ok (.getfield 167, 3) := by decide +kernel
theorem dX9_finds_175 : decode cX9_finds 175 = .ok (.if_icmp .ne 83, 3) := by decide +kernel
theorem dX9_finds_178 : decode cX9_finds 178 = .ok (.iload 6, 2) := by decide +kernel
theorem dX9_finds_180 : decode cX9_finds 180 = .ok (.aload_n 0, 1) := by decide +kernel
theorem dX9_finds_181 : decode cX9_finds 181 = .ok (.getfield 170, 3) := by decide +kernel
theorem dX9_finds_184 : decode cX9_finds 184 = .ok (.if_icmp .le 74, 3) := by decide +kernel
theorem dX9_finds_187 : decode cX9_finds 187 = .ok (.aload_n 0, 1) := by decide +kernel
theorem dX9_finds_188 : decode cX9_finds 188 = .ok (.iload 5, 2) := by decide +kernel
theorem dX9_finds_190 : decode cX9_finds 190 = .ok (.putfield 167, 3) := by decide +kernel
theorem dX9_finds_193 : decode cX9_finds 193 = .ok (.aload_n 0, 1) := by decide +kernel
theorem dX9_finds_194 : decode cX9_finds 194 = .ok (.iload 6, 2) := by decide +kernel
theorem dX9_finds_196 : decode cX9_finds 196 = .ok (.putfield 170, 3) := by decide +kernel
theorem dX9_finds_199 : decode cX9_finds 199 = .ok (.iload_n 3, 1) := by decide +kernel
theorem dX9_finds_200 : decode cX9_finds 200 = .ok (.istore 4, 2) := by decide +kernel
theorem dX9_finds_202 : decode cX9_finds 202 = .ok (.aload_n 0, 1) := by decide +kernel
theorem dX9_finds_203 : decode cX9_finds 203 = .ok (.getfield 16, 3) := by decide +kernel
theorem dX9_finds_206 : decode cX9_finds 206 = .ok (.iconst 1, 1) := by decide +kernel
theorem dX9_finds_207 : decode cX9_finds 207 = .ok (.iaload, 1) := by decide +kernel
theorem dX9_finds_208 : decode cX9_finds 208 = .ok (.iconst 1, 1) := by decide +kernel
theorem dX9_finds_209 : decode cX9_finds 209 = .ok (.isub, 1) := by decide +kernel
theorem dX9_finds_210 : decode cX9_finds 210 = .ok (.istore 9, 2) := by decide +kernel
theorem dX9_finds_212 : decode cX9_finds 212 = .ok (.iload 9, 2) := by decide +kernel
theorem dX9_finds_214 : decode cX9_finds 214 = .ok (.ifCond .lt 44, 3) := by decide +kernel
theorem dX9_finds_217 : decode cX9_finds 217 = .ok (.aload_n 0, 1) := by decide +kernel
theorem dX9_finds_218 : decode cX9_finds 218 = .ok (.getfield 25, 3) := by decide +kernel
theorem dX9_finds_221 : decode cX9_finds 221 = .ok (.iload 9, 2) := by decide +kernel
theorem dX9_finds_223 : decode cX9_finds 223 = .ok (.iload 4, 2) := by decide +kernel
theorem dX9_finds_225 : decode cX9_finds 225 = .ok (.iload_n 1, 1) := by decide +kernel
theorem dX9_finds_226 : decode cX9_finds 226 = .ok (.irem, 1) := by decide +kernel
theorem dX9_finds_227 : decode cX9_finds 227 = .ok (.aload_n 0, 1) := by decide +kernel
theorem dX9_finds_228 : decode cX9_finds 228 = .ok (.getfield 16, 3) := by decide +kernel
theorem dX9_finds_231 : decode cX9_finds 231 = .ok (.iconst 0, 1) := by decide +kernel
theorem dX9_finds_232 : decode cX9_finds 232 = .ok (.iaload, 1) := by decide +kernel
theorem dX9_finds_233 : decode cX9_finds 233 = .ok (.if_icmp .ne 8, 3) := by decide +kernel
theorem dX9_finds_236 : decode cX9_finds 236 = .ok (.bipush (-9), 2) := by decide +kernel
theorem dX9_finds_238 : decode cX9_finds 238 = .ok (.goto 7, 3) := by decide +kernel
theorem dX9_finds_241 : decode cX9_finds 241 = .ok (.iload 4, 2) := by decide +kernel
theorem dX9_finds_243 : decode cX9_finds 243 = .ok (.iload_n 1, 1) := by decide +kernel
theorem dX9_finds_244 : decode cX9_finds 244 = .ok (.irem, 1) := by decide +kernel
theorem dX9_finds_245 : decode cX9_finds 245 = .ok (.iastore, 1) := by decide +kernel
theorem dX9_finds_246 : decode cX9_finds 246 = .ok (.iload 4, 2) := by decide +kernel
theorem dX9_finds_248 : decode cX9_finds 248 = .ok (.iload_n 1, 1) := by decide +kernel
theorem dX9_finds_249 : decode cX9_finds 249 = .ok (.idiv, 1) := by decide +kernel
theorem dX9_finds_250 : decode cX9_finds 250 = .ok (.istore 4, 2) := by decide +kernel
theorem dX9_finds_252 : decode cX9_finds 252 = .ok (.iinc 9 (-1), 3) := by decide +kernel
theorem dX9_finds_255 : decode cX9_finds 255 = .ok (.goto (-43), 3) := by decide +kernel
theorem dX9_finds_258 : decode cX9_finds 258 = .ok (.iinc 3 1, 3) := by decide +kernel
theorem dX9_finds_261 : decode cX9_finds 261 = .ok (.goto (-229), 3) := by decide +kernel
theorem dX9_finds_264 : decode cX9_finds 264 = .ok (.return_, 1) := by decide +kernel
set_option maxRecDepth 20000 in
theorem ggX9_housed_X9_in : GoodIn wsX9_housed wsX9_in := goodIn_r _ [9] (by decide +kernel) (by decide +kernel)
set_option maxRecDepth 20000 in
theorem gX9_housed_X9_in : GoodIn wsX9_housed (va_wsS RX9 48 yX9_in wsX9_in) := goodIn_app (goodIn_of _ (by decide +kernel)) ggX9_housed_X9_in
set_option maxRecDepth 20000 in
theorem ggX9_housed_X9_finds : GoodIn wsX9_housed wsX9_finds := goodIn_r _ [13, 2, 3, 4, 5, 14, 15, 8, 16, 17, 18, 19, 20, 21, 22, 23, 24, 25, 26, 27, 28, 29, 30, 31, 32, 33, 34, 35, 36, 37, 38, 39, 40, 41, 42, 43, 44, 45, 46, 47, 48, 49, 50] (by decide +kernel) (by decide +kernel)
set_option maxRecDepth 20000 in
theorem gX9_housed_X9_finds : GoodIn wsX9_housed (wsV RX9 175 RX9 yX9_finds wsX9_finds) := goodIn_app (goodIn_of _ (by decide +kernel)) ggX9_housed_X9_finds
theorem dX9_housed_0 : decode cX9_housed 0 = .ok (.iload_n 1, 1) := by decide +kernel
theorem dX9_housed_1 : decode cX9_housed 1 = .ok (.i2l, 1) := by decide +kernel
theorem dX9_housed_2 : decode cX9_housed 2 = .ok (.ldc2_w 173, 3) := by decide +kernel
theorem dX9_housed_5 : decode cX9_housed 5 = .ok (.aload_n 0, 1) := by decide +kernel
theorem dX9_housed_6 : decode cX9_housed 6 = .ok (.getfield 16, 3) := by decide +kernel
theorem dX9_housed_9 : decode cX9_housed 9 = .ok (.iconst 1, 1) := by decide +kernel
theorem dX9_housed_10 : decode cX9_housed 10 = .ok (.iaload, 1) := by decide +kernel
theorem dX9_housed_11 : decode cX9_housed 11 = .ok (.iconst 1, 1) := by decide +kernel
theorem dX9_housed_12 : decode cX9_housed 12 = .ok (.isub, 1) := by decide +kernel
theorem dX9_housed_13 : decode cX9_housed 13 = .ok (.i2l, 1) := by decide +kernel
theorem dX9_housed_14 : decode cX9_housed 14 = .ok (.invokestatic 48, 3) := by decide +kernel
theorem dX9_housed_17 : decode cX9_housed 17 = .ok (.ifCond .ne 5, 3) := by decide +kernel
theorem dX9_housed_20 : decode cX9_housed 20 = .ok (.iconst (-1), 1) := by decide +kernel
theorem dX9_housed_21 : decode cX9_housed 21 = .ok (.ireturn, 1) := by decide +kernel
theorem dX9_housed_22 : decode cX9_housed 22 = .ok (.aload_n 0, 1) := by decide +kernel
theorem dX9_housed_23 : decode cX9_housed 23 = .ok (.invokevirtual 175, 3) := by decide +kernel
theorem dX9_housed_26 : decode cX9_housed 26 = .ok (.iload_n 1, 1) := by decide +kernel
theorem dX9_housed_27 : decode cX9_housed 27 = .ok (.iconst (-1), 1) := by decide +kernel
theorem dX9_housed_28 : decode cX9_housed 28 = .ok (.if_icmp .ne 10, 3) := by decide +kernel
theorem dX9_housed_31 : decode cX9_housed 31 = .ok (.aload_n 0, 1) := by decide +kernel
theorem dX9_housed_32 : decode cX9_housed 32 = .ok (.getfield 167, 3) := by decide +kernel
theorem dX9_housed_35 : decode cX9_housed 35 = .ok (.goto 22, 3) := by decide +kernel
theorem dX9_housed_38 : decode cX9_housed 38 = .ok (.iload_n 1, 1) := by decide +kernel
theorem dX9_housed_39 : decode cX9_housed 39 = .ok (.bipush (-2), 2) := by decide +kernel
theorem dX9_housed_41 : decode cX9_housed 41 = .ok (.if_icmp .ne 10, 3) := by decide +kernel
theorem dX9_housed_44 : decode cX9_housed 44 = .ok (.aload_n 0, 1) := by decide +kernel
theorem dX9_housed_45 : decode cX9_housed 45 = .ok (.getfield 170, 3) := by decide +kernel
theorem dX9_housed_48 : decode cX9_housed 48 = .ok (.goto 9, 3) := by decide +kernel
theorem dX9_housed_51 : decode cX9_housed 51 = .ok (.aload_n 0, 1) := by decide +kernel
theorem dX9_housed_52 : decode cX9_housed 52 = .ok (.getfield 25, 3) := by decide +kernel
theorem dX9_housed_55 : decode cX9_housed 55 = .ok (.iload_n 1, 1) := by decide +kernel
theorem dX9_housed_56 : decode cX9_housed 56 = .ok (.iaload, 1) := by decide +kernel
theorem dX9_housed_57 : decode cX9_housed 57 = .ok (.ireturn, 1) := by decide +kernel
theorem dX9_many_0 : decode cX9_many 0 = .ok (.iconst 0, 1) := by decide +kernel
theorem dX9_many_1 : decode cX9_many 1 = .ok (.istore_n 1, 1) := by decide +kernel
theorem dX9_many_2 : decode cX9_many 2 = .ok (.iload_n 0, 1) := by decide +kernel
theorem dX9_many_3 : decode cX9_many 3 = .ok (.istore_n 2, 1) := by decide +kernel
theorem dX9_many_4 : decode cX9_many 4 = .ok (.iload_n 2, 1) := by decide +kernel
theorem dX9_many_5 : decode cX9_many 5 = .ok (.ifCond .eq 15, 3) := by decide +kernel
theorem dX9_many_8 : decode cX9_many 8 = .ok (.iinc 1 1, 3) := by decide +kernel
theorem dX9_many_11 : decode cX9_many 11 = .ok (.iload_n 2, 1) := by decide +kernel
theorem dX9_many_12 : decode cX9_many 12 = .ok (.iload_n 2, 1) := by decide +kernel
theorem dX9_many_13 : decode cX9_many 13 = .ok (.iconst 1, 1) := by decide +kernel
theorem dX9_many_14 : decode cX9_many 14 = .ok (.isub, 1) := by decide +kernel
theorem dX9_many_15 : decode cX9_many 15 = .ok (.iand, 1) := by decide +kernel
theorem dX9_many_16 : decode cX9_many 16 = .ok (.istore_n 2, 1) := by decide +kernel
theorem dX9_many_17 : decode cX9_many 17 = .ok (.goto (-13), 3) := by decide +kernel
theorem dX9_many_20 : decode cX9_many 20 = .ok (.iload_n 1, 1) := by decide +kernel
theorem dX9_many_21 : decode cX9_many 21 = .ok (.ireturn, 1) := by decide +kernel
set_option maxRecDepth 20000 in
theorem ggX9_crowd_X9_more : GoodIn wsX9_crowd wsX9_more := goodIn_r _ [6, 1, 7, 8, 9, 5, 10, 11, 12, 13, 14, 18, 19, 20, 21, 22, 23, 24, 25, 26, 27, 28, 29, 30, 31, 32, 33, 34, 35, 36, 37, 38, 39] (by decide +kernel) (by decide +kernel)
set_option maxRecDepth 20000 in
theorem gX9_crowd_X9_more : GoodIn wsX9_crowd (wsV RX9 130 RX9 yX9_more wsX9_more) := goodIn_app (goodIn_of _ (by decide +kernel)) ggX9_crowd_X9_more
set_option maxRecDepth 20000 in
theorem ggX9_crowd_X9_many : GoodIn wsX9_crowd wsX9_many := goodIn_r _ [17] (by decide +kernel) (by decide +kernel)
set_option maxRecDepth 20000 in
theorem gX9_crowd_X9_many : GoodIn wsX9_crowd (va_wsS RX9 178 yX9_many wsX9_many) := goodIn_app (goodIn_of _ (by decide +kernel)) ggX9_crowd_X9_many
theorem dX9_crowd_0 : decode cX9_crowd 0 = .ok (.bipush (-9), 2) := by decide +kernel
theorem dX9_crowd_2 : decode cX9_crowd 2 = .ok (.istore_n 1, 1) := by decide +kernel
theorem dX9_crowd_3 : decode cX9_crowd 3 = .ok (.iconst 1, 1) := by decide +kernel
theorem dX9_crowd_4 : decode cX9_crowd 4 = .ok (.istore_n 2, 1) := by decide +kernel
theorem dX9_crowd_5 : decode cX9_crowd 5 = .ok (.iload_n 2, 1) := by decide +kernel
theorem dX9_crowd_6 : decode cX9_crowd 6 = .ok (.iconst 1, 1) := by decide +kernel
theorem dX9_crowd_7 : decode cX9_crowd 7 = .ok (.aload_n 0, 1) := by decide +kernel
theorem dX9_crowd_8 : decode cX9_crowd 8 = .ok (.getfield 16, 3) := by decide +kernel
theorem dX9_crowd_11 : decode cX9_crowd 11 = .ok (.iconst 1, 1) := by decide +kernel
theorem dX9_crowd_12 : decode cX9_crowd 12 = .ok (.iaload, 1) := by decide +kernel
theorem dX9_crowd_13 : decode cX9_crowd 13 = .ok (.ishl, 1) := by decide +kernel
theorem dX9_crowd_14 : decode cX9_crowd 14 = .ok (.if_icmp .ge 143, 3) := by decide +kernel
theorem dX9_crowd_17 : decode cX9_crowd 17 = .ok (.iconst 0, 1) := by decide +kernel
theorem dX9_crowd_18 : decode cX9_crowd 18 = .ok (.istore_n 3, 1) := by decide +kernel
theorem dX9_crowd_19 : decode cX9_crowd 19 = .ok (.iconst 0, 1) := by decide +kernel
theorem dX9_crowd_20 : decode cX9_crowd 20 = .ok (.istore 4, 2) := by decide +kernel
theorem dX9_crowd_22 : decode cX9_crowd 22 = .ok (.iload 4, 2) := by decide +kernel
theorem dX9_crowd_24 : decode cX9_crowd 24 = .ok (.aload_n 0, 1) := by decide +kernel
theorem dX9_crowd_25 : decode cX9_crowd 25 = .ok (.getfield 16, 3) := by decide +kernel
theorem dX9_crowd_28 : decode cX9_crowd 28 = .ok (.iconst 0, 1) := by decide +kernel
theorem dX9_crowd_29 : decode cX9_crowd 29 = .ok (.iaload, 1) := by decide +kernel
theorem dX9_crowd_30 : decode cX9_crowd 30 = .ok (.if_icmp .ge 78, 3) := by decide +kernel
theorem dX9_crowd_33 : decode cX9_crowd 33 = .ok (.iconst 0, 1) := by decide +kernel
theorem dX9_crowd_34 : decode cX9_crowd 34 = .ok (.istore 5, 2) := by decide +kernel
theorem dX9_crowd_36 : decode cX9_crowd 36 = .ok (.iconst 0, 1) := by decide +kernel
theorem dX9_crowd_37 : decode cX9_crowd 37 = .ok (.istore 6, 2) := by decide +kernel
theorem dX9_crowd_39 : decode cX9_crowd 39 = .ok (.iload 6, 2) := by decide +kernel
theorem dX9_crowd_41 : decode cX9_crowd 41 = .ok (.aload_n 0, 1) := by decide +kernel
theorem dX9_crowd_42 : decode cX9_crowd 42 = .ok (.getfield 16, 3) := by decide +kernel
theorem dX9_crowd_45 : decode cX9_crowd 45 = .ok (.iconst 1, 1) := by decide +kernel
theorem dX9_crowd_46 : decode cX9_crowd 46 = .ok (.iaload, 1) := by decide +kernel
theorem dX9_crowd_47 : decode cX9_crowd 47 = .ok (.if_icmp .ge 42, 3) := by decide +kernel
theorem dX9_crowd_50 : decode cX9_crowd 50 = .ok (.iload 5, 2) := by decide +kernel
theorem dX9_crowd_52 : decode cX9_crowd 52 = .ok (.ifCond .ne 24, 3) := by decide +kernel
theorem dX9_crowd_55 : decode cX9_crowd 55 = .ok (.iload_n 2, 1) := by decide +kernel
theorem dX9_crowd_56 : decode cX9_crowd 56 = .ok (.iload 6, 2) := by decide +kernel
theorem dX9_crowd_58 : decode cX9_crowd 58 = .ok (.ishr, 1) := by decide +kernel
theorem dX9_crowd_59 : decode cX9_crowd 59 = .ok (.iconst 1, 1) := by decide +kernel
theorem dX9_crowd_60 : decode cX9_crowd 60 = .ok (.iand, 1) := by decide +kernel
theorem dX9_crowd_61 : decode cX9_crowd 61 = .ok (.iconst 1, 1) := by decide +kernel
theorem dX9_crowd_62 : decode cX9_crowd 62 = .ok (.if_icmp .ne 18, 3) := by decide +kernel
theorem dX9_crowd_65 : decode cX9_crowd 65 = .ok (.aload_n 0, 1) := by decide +kernel
theorem dX9_crowd_66 : decode cX9_crowd 66 = .ok (.iload 6, 2) := by decide +kernel
theorem dX9_crowd_68 : decode cX9_crowd 68 = .ok (.iload 4, 2) := by decide +kernel
theorem dX9_crowd_70 : decode cX9_crowd 70 = .ok (.invokevirtual 130, 3) := by decide +kernel
theorem dX9_crowd_73 : decode cX9_crowd 73 = .ok (.ifCond .lt 7, 3) := by decide +kernel
theorem dX9_crowd_76 : decode cX9_crowd 76 = .ok (.iconst 1, 1) := by decide +kernel
theorem dX9_crowd_77 : decode cX9_crowd 77 = .ok (.goto 4, 3) := by decide +kernel
theorem dX9_crowd_80 : decode cX9_crowd 80 = .ok (.iconst 0, 1) := by decide +kernel
theorem dX9_crowd_81 : decode cX9_crowd 81 = .ok (.istore 5, 2) := by decide +kernel
theorem dX9_crowd_83 : decode cX9_crowd 83 = .ok (.iinc 6 1, 3) := by decide +kernel
theorem dX9_crowd_86 : decode cX9_crowd 86 = .ok (.goto (-47), 3) := by decide +kernel
theorem dX9_crowd_89 : decode cX9_crowd 89 = .ok (.iload_n 3, 1) := by decide +kernel
theorem dX9_crowd_90 : decode cX9_crowd 90 = .ok (.iload 5, 2) := by decide +kernel
theorem dX9_crowd_92 : decode cX9_crowd 92 = .ok (.ifCond .eq 7, 3) := by decide +kernel
theorem dX9_crowd_95 : decode cX9_crowd 95 = .ok (.iconst 1, 1) := by decide +kernel
theorem dX9_crowd_96 : decode cX9_crowd 96 = .ok (.goto 4, 3) := by decide +kernel
theorem dX9_crowd_99 : decode cX9_crowd 99 = .ok (.iconst 0, 1) := by decide +kernel
theorem dX9_crowd_100 : decode cX9_crowd 100 = .ok (.iadd, 1) := by decide +kernel
theorem dX9_crowd_101 : decode cX9_crowd 101 = .ok (.istore_n 3, 1) := by decide +kernel
theorem dX9_crowd_102 : decode cX9_crowd 102 = .ok (.iinc 4 1, 3) := by decide +kernel
theorem dX9_crowd_105 : decode cX9_crowd 105 = .ok (.goto (-83), 3) := by decide +kernel
theorem dX9_crowd_108 : decode cX9_crowd 108 = .ok (.iload_n 3, 1) := by decide +kernel
theorem dX9_crowd_109 : decode cX9_crowd 109 = .ok (.iload_n 2, 1) := by decide +kernel
theorem dX9_crowd_110 : decode cX9_crowd 110 = .ok (.invokestatic 178, 3) := by decide +kernel
theorem dX9_crowd_113 : decode cX9_crowd 113 = .ok (.if_icmp .ge 24, 3) := by decide +kernel
theorem dX9_crowd_116 : decode cX9_crowd 116 = .ok (.iload_n 1, 1) := by decide +kernel
theorem dX9_crowd_117 : decode cX9_crowd 117 = .ok (.bipush (-9), 2) := by decide +kernel
theorem dX9_crowd_119 : decode cX9_crowd 119 = .ok (.if_icmp .eq 14, 3) := by decide +kernel
theorem dX9_crowd_122 : decode cX9_crowd 122 = .ok (.iload_n 2, 1) := by decide +kernel
theorem dX9_crowd_123 : decode cX9_crowd 123 = .ok (.invokestatic 178, 3) := by decide +kernel
theorem dX9_crowd_126 : decode cX9_crowd 126 = .ok (.iload_n 1, 1) := by decide +kernel
theorem dX9_crowd_127 : decode cX9_crowd 127 = .ok (.invokestatic 178, 3) := by decide +kernel
theorem dX9_crowd_130 : decode cX9_crowd 130 = .ok (.if_icmp .ge 7, 3) := by decide +kernel
theorem dX9_crowd_133 : decode cX9_crowd 133 = .ok (.iconst 1, 1) := by decide +kernel
theorem dX9_crowd_134 : decode cX9_crowd 134 = .ok (.goto 4, 3) := by decide +kernel
theorem dX9_crowd_137 : decode cX9_crowd 137 = .ok (.iconst 0, 1) := by decide +kernel
theorem dX9_crowd_138 : decode cX9_crowd 138 = .ok (.istore 4, 2) := by decide +kernel
theorem dX9_crowd_140 : decode cX9_crowd 140 = .ok (.iload 4, 2) := by decide +kernel
theorem dX9_crowd_142 : decode cX9_crowd 142 = .ok (.ifCond .eq 7, 3) := by decide +kernel
theorem dX9_crowd_145 : decode cX9_crowd 145 = .ok (.iload_n 2, 1) := by decide +kernel
theorem dX9_crowd_146 : decode cX9_crowd 146 = .ok (.goto 4, 3) := by decide +kernel
theorem dX9_crowd_149 : decode cX9_crowd 149 = .ok (.iload_n 1, 1) := by decide +kernel
theorem dX9_crowd_150 : decode cX9_crowd 150 = .ok (.istore_n 1, 1) := by decide +kernel
theorem dX9_crowd_151 : decode cX9_crowd 151 = .ok (.iinc 2 1, 3) := by decide +kernel
theorem dX9_crowd_154 : decode cX9_crowd 154 = .ok (.goto (-149), 3) := by decide +kernel
theorem dX9_crowd_157 : decode cX9_crowd 157 = .ok (.iload_n 1, 1) := by decide +kernel
theorem dX9_crowd_158 : decode cX9_crowd 158 = .ok (.ireturn, 1) := by decide +kernel
set_option maxRecDepth 20000 in
theorem ggX9_spareOf_X9_roomOf : GoodIn wsX9_spareOf wsX9_roomOf := goodIn_r _ [5, 6, 20, 21, 22, 23, 24, 25, 26, 27, 28, 29, 30, 31, 32, 33, 34, 35, 36, 37, 38, 39, 40, 41] (by decide +kernel) (by decide +kernel)
set_option maxRecDepth 20000 in
theorem gX9_spareOf_X9_roomOf : GoodIn wsX9_spareOf (wsV RX9 122 RX9 yX9_roomOf wsX9_roomOf) := goodIn_app (goodIn_of _ (by decide +kernel)) ggX9_spareOf_X9_roomOf
set_option maxRecDepth 20000 in
theorem ggX9_spareOf_X9_more : GoodIn wsX9_spareOf wsX9_more := goodIn_r _ [10, 11, 12, 13, 14, 4, 15, 16, 17, 18, 19, 20, 21, 22, 23, 24, 25, 26, 27, 28, 29, 30, 31, 32, 33, 34, 35, 36, 37, 38, 39, 40, 41] (by decide +kernel) (by decide +kernel)
set_option maxRecDepth 20000 in
theorem gX9_spareOf_X9_more : GoodIn wsX9_spareOf (wsV RX9 130 RX9 yX9_more wsX9_more) := goodIn_app (goodIn_of _ (by decide +kernel)) ggX9_spareOf_X9_more
theorem dX9_spareOf_0 : decode cX9_spareOf 0 = .ok (.aload_n 0, 1) := by decide +kernel
theorem dX9_spareOf_1 : decode cX9_spareOf 1 = .ok (.iload_n 1, 1) := by decide +kernel
theorem dX9_spareOf_2 : decode cX9_spareOf 2 = .ok (.invokevirtual 122, 3) := by decide +kernel
theorem dX9_spareOf_5 : decode cX9_spareOf 5 = .ok (.bipush (-9), 2) := by decide +kernel
theorem dX9_spareOf_7 : decode cX9_spareOf 7 = .ok (.if_icmp .ne 7, 3) := by decide +kernel
theorem dX9_spareOf_10 : decode cX9_spareOf 10 = .ok (.iconst 0, 1) := by decide +kernel
theorem dX9_spareOf_11 : decode cX9_spareOf 11 = .ok (.goto 13, 3) := by decide +kernel
theorem dX9_spareOf_14 : decode cX9_spareOf 14 = .ok (.aload_n 0, 1) := by decide +kernel
theorem dX9_spareOf_15 : decode cX9_spareOf 15 = .ok (.iload_n 1, 1) := by decide +kernel
theorem dX9_spareOf_16 : decode cX9_spareOf 16 = .ok (.aload_n 0, 1) := by decide +kernel
theorem dX9_spareOf_17 : decode cX9_spareOf 17 = .ok (.iload_n 1, 1) := by decide +kernel
theorem dX9_spareOf_18 : decode cX9_spareOf 18 = .ok (.invokevirtual 122, 3) := by decide +kernel
theorem dX9_spareOf_21 : decode cX9_spareOf 21 = .ok (.invokevirtual 130, 3) := by decide +kernel
theorem dX9_spareOf_24 : decode cX9_spareOf 24 = .ok (.ireturn, 1) := by decide +kernel
set_option maxRecDepth 20000 in
theorem ggX9_spare_X9_isTenant : GoodIn wsX9_spare wsX9_isTenant := goodIn_r _ [6, 7, 8, 9, 5, 10, 32, 33, 34, 35, 36, 37, 38, 39, 40, 41, 42, 43, 44, 45, 46, 47, 48, 49, 50, 51, 52, 53] (by decide +kernel) (by decide +kernel)
set_option maxRecDepth 20000 in
theorem gX9_spare_X9_isTenant : GoodIn wsX9_spare (wsV RX9 137 RX9 yX9_isTenant wsX9_isTenant) := goodIn_app (goodIn_of _ (by decide +kernel)) ggX9_spare_X9_isTenant
set_option maxRecDepth 20000 in
theorem ggX9_spare_X9_spareOf : GoodIn wsX9_spare wsX9_spareOf := goodIn_r _ [14, 15, 16, 17, 5, 18, 19, 20, 21, 22, 23, 7, 24, 25, 26, 27, 28, 29, 30, 31, 32, 33, 34, 35, 36, 37, 38, 39, 40, 41, 42, 43, 44, 45, 46, 47, 48, 49, 50, 51, 52, 53] (by decide +kernel) (by decide +kernel)
set_option maxRecDepth 20000 in
theorem gX9_spare_X9_spareOf : GoodIn wsX9_spare (wsV RX9 181 RX9 yX9_spareOf wsX9_spareOf) := goodIn_app (goodIn_of _ (by decide +kernel)) ggX9_spare_X9_spareOf
theorem dX9_spare_0 : decode cX9_spare 0 = .ok (.aload_n 0, 1) := by decide +kernel
theorem dX9_spare_1 : decode cX9_spare 1 = .ok (.iload_n 1, 1) := by decide +kernel
theorem dX9_spare_2 : decode cX9_spare 2 = .ok (.invokevirtual 137, 3) := by decide +kernel
theorem dX9_spare_5 : decode cX9_spare 5 = .ok (.ifCond .eq 11, 3) := by decide +kernel
theorem dX9_spare_8 : decode cX9_spare 8 = .ok (.aload_n 0, 1) := by decide +kernel
theorem dX9_spare_9 : decode cX9_spare 9 = .ok (.iload_n 1, 1) := by decide +kernel
theorem dX9_spare_10 : decode cX9_spare 10 = .ok (.invokevirtual 181, 3) := by decide +kernel
theorem dX9_spare_13 : decode cX9_spare 13 = .ok (.goto 5, 3) := by decide +kernel
theorem dX9_spare_16 : decode cX9_spare 16 = .ok (.ldc 184, 2) := by decide +kernel
theorem dX9_spare_18 : decode cX9_spare 18 = .ok (.ireturn, 1) := by decide +kernel
set_option maxRecDepth 20000 in
theorem ggX9_rest_X9_in : GoodIn wsX9_rest wsX9_in := goodIn_r _ [5] (by decide +kernel) (by decide +kernel)
set_option maxRecDepth 20000 in
theorem gX9_rest_X9_in : GoodIn wsX9_rest (va_wsS RX9 48 yX9_in wsX9_in) := goodIn_app (goodIn_of _ (by decide +kernel)) ggX9_rest_X9_in
set_option maxRecDepth 20000 in
theorem ggX9_rest_X9_spareOf : GoodIn wsX9_rest wsX9_spareOf := goodIn_r _ [9, 10, 11, 12, 4, 13, 14, 15, 16, 17, 18, 1, 19, 20, 21, 22, 23, 24, 25, 26, 27, 28, 29, 30, 31, 32, 33, 34, 35, 36, 37, 38, 39, 40, 41, 42, 43, 44, 45, 46, 47, 48] (by decide +kernel) (by decide +kernel)
set_option maxRecDepth 20000 in
theorem gX9_rest_X9_spareOf : GoodIn wsX9_rest (wsV RX9 181 RX9 yX9_spareOf wsX9_spareOf) := goodIn_app (goodIn_of _ (by decide +kernel)) ggX9_rest_X9_spareOf
theorem dX9_rest_0 : decode cX9_rest 0 = .ok (.iload_n 1, 1) := by decide +kernel
theorem dX9_rest_1 : decode cX9_rest 1 = .ok (.i2l, 1) := by decide +kernel
theorem dX9_rest_2 : decode cX9_rest 2 = .ok (.lconst 0, 1) := by decide +kernel
theorem dX9_rest_3 : decode cX9_rest 3 = .ok (.lconst 1, 1) := by decide +kernel
theorem dX9_rest_4 : decode cX9_rest 4 = .ok (.invokestatic 48, 3) := by decide +kernel
theorem dX9_rest_7 : decode cX9_rest 7 = .ok (.ifCond .ne 5, 3) := by decide +kernel
theorem dX9_rest_10 : decode cX9_rest 10 = .ok (.iconst (-1), 1) := by decide +kernel
theorem dX9_rest_11 : decode cX9_rest 11 = .ok (.ireturn, 1) := by decide +kernel
theorem dX9_rest_12 : decode cX9_rest 12 = .ok (.iconst 0, 1) := by decide +kernel
theorem dX9_rest_13 : decode cX9_rest 13 = .ok (.istore_n 2, 1) := by decide +kernel
theorem dX9_rest_14 : decode cX9_rest 14 = .ok (.iload_n 2, 1) := by decide +kernel
theorem dX9_rest_15 : decode cX9_rest 15 = .ok (.bipush 10, 2) := by decide +kernel
theorem dX9_rest_17 : decode cX9_rest 17 = .ok (.if_icmp .ge 118, 3) := by decide +kernel
theorem dX9_rest_20 : decode cX9_rest 20 = .ok (.iconst 0, 1) := by decide +kernel
theorem dX9_rest_21 : decode cX9_rest 21 = .ok (.istore_n 3, 1) := by decide +kernel
theorem dX9_rest_22 : decode cX9_rest 22 = .ok (.iconst 0, 1) := by decide +kernel
theorem dX9_rest_23 : decode cX9_rest 23 = .ok (.istore 4, 2) := by decide +kernel
theorem dX9_rest_25 : decode cX9_rest 25 = .ok (.iconst 0, 1) := by decide +kernel
theorem dX9_rest_26 : decode cX9_rest 26 = .ok (.istore 5, 2) := by decide +kernel
theorem dX9_rest_28 : decode cX9_rest 28 = .ok (.iload 5, 2) := by decide +kernel
theorem dX9_rest_30 : decode cX9_rest 30 = .ok (.aload_n 0, 1) := by decide +kernel
theorem dX9_rest_31 : decode cX9_rest 31 = .ok (.getfield 16, 3) := by decide +kernel
theorem dX9_rest_34 : decode cX9_rest 34 = .ok (.iconst 1, 1) := by decide +kernel
theorem dX9_rest_35 : decode cX9_rest 35 = .ok (.iaload, 1) := by decide +kernel
theorem dX9_rest_36 : decode cX9_rest 36 = .ok (.if_icmp .ge 76, 3) := by decide +kernel
theorem dX9_rest_39 : decode cX9_rest 39 = .ok (.aload_n 0, 1) := by decide +kernel
theorem dX9_rest_40 : decode cX9_rest 40 = .ok (.getfield 16, 3) := by decide +kernel
theorem dX9_rest_43 : decode cX9_rest 43 = .ok (.bipush 9, 2) := by decide +kernel
theorem dX9_rest_45 : decode cX9_rest 45 = .ok (.iconst 5, 1) := by decide +kernel
theorem dX9_rest_46 : decode cX9_rest 46 = .ok (.iload 5, 2) := by decide +kernel
theorem dX9_rest_48 : decode cX9_rest 48 = .ok (.imul, 1) := by decide +kernel
theorem dX9_rest_49 : decode cX9_rest 49 = .ok (.iadd, 1) := by decide +kernel
theorem dX9_rest_50 : decode cX9_rest 50 = .ok (.iconst 3, 1) := by decide +kernel
theorem dX9_rest_51 : decode cX9_rest 51 = .ok (.iadd, 1) := by decide +kernel
theorem dX9_rest_52 : decode cX9_rest 52 = .ok (.iaload, 1) := by decide +kernel
theorem dX9_rest_53 : decode cX9_rest 53 = .ok (.istore 6, 2) := by decide +kernel
theorem dX9_rest_55 : decode cX9_rest 55 = .ok (.aload_n 0, 1) := by decide +kernel
theorem dX9_rest_56 : decode cX9_rest 56 = .ok (.iload 5, 2) := by decide +kernel
theorem dX9_rest_58 : decode cX9_rest 58 = .ok (.invokevirtual 181, 3) := by decide +kernel
theorem dX9_rest_61 : decode cX9_rest 61 = .ok (.istore 7, 2) := by decide +kernel
theorem dX9_rest_63 : decode cX9_rest 63 = .ok (.iload_n 3, 1) := by decide +kernel
theorem dX9_rest_64 : decode cX9_rest 64 = .ok (.iload 7, 2) := by decide +kernel
theorem dX9_rest_66 : decode cX9_rest 66 = .ok (.ifCond .le 14, 3) := by decide +kernel
theorem dX9_rest_69 : decode cX9_rest 69 = .ok (.iload 6, 2) := by decide +kernel
theorem dX9_rest_71 : decode cX9_rest 71 = .ok (.iload_n 2, 1) := by decide +kernel
theorem dX9_rest_72 : decode cX9_rest 72 = .ok (.if_icmp .gt 8, 3) := by decide +kernel
theorem dX9_rest_75 : decode cX9_rest 75 = .ok (.iload 7, 2) := by decide +kernel
theorem dX9_rest_77 : decode cX9_rest 77 = .ok (.goto 4, 3) := by decide +kernel
theorem dX9_rest_80 : decode cX9_rest 80 = .ok (.iconst 0, 1) := by decide +kernel
theorem dX9_rest_81 : decode cX9_rest 81 = .ok (.iadd, 1) := by decide +kernel
theorem dX9_rest_82 : decode cX9_rest 82 = .ok (.istore_n 3, 1) := by decide +kernel
theorem dX9_rest_83 : decode cX9_rest 83 = .ok (.iload 4, 2) := by decide +kernel
theorem dX9_rest_85 : decode cX9_rest 85 = .ok (.iload 7, 2) := by decide +kernel
theorem dX9_rest_87 : decode cX9_rest 87 = .ok (.ifCond .ge 15, 3) := by decide +kernel
theorem dX9_rest_90 : decode cX9_rest 90 = .ok (.iload 6, 2) := by decide +kernel
theorem dX9_rest_92 : decode cX9_rest 92 = .ok (.iload_n 2, 1) := by decide +kernel
theorem dX9_rest_93 : decode cX9_rest 93 = .ok (.if_icmp .lt 9, 3) := by decide +kernel
theorem dX9_rest_96 : decode cX9_rest 96 = .ok (.iload 7, 2) := by decide +kernel
theorem dX9_rest_98 : decode cX9_rest 98 = .ok (.ineg, 1) := by decide +kernel
theorem dX9_rest_99 : decode cX9_rest 99 = .ok (.goto 4, 3) := by decide +kernel
theorem dX9_rest_102 : decode cX9_rest 102 = .ok (.iconst 0, 1) := by decide +kernel
theorem dX9_rest_103 : decode cX9_rest 103 = .ok (.iadd, 1) := by decide +kernel
theorem dX9_rest_104 : decode cX9_rest 104 = .ok (.istore 4, 2) := by decide +kernel
theorem dX9_rest_106 : decode cX9_rest 106 = .ok (.iinc 5 1, 3) := by decide +kernel
theorem dX9_rest_109 : decode cX9_rest 109 = .ok (.goto (-81), 3) := by decide +kernel
theorem dX9_rest_112 : decode cX9_rest 112 = .ok (.iload_n 3, 1) := by decide +kernel
theorem dX9_rest_113 : decode cX9_rest 113 = .ok (.iload 4, 2) := by decide +kernel
theorem dX9_rest_115 : decode cX9_rest 115 = .ok (.if_icmp .lt 14, 3) := by decide +kernel
theorem dX9_rest_118 : decode cX9_rest 118 = .ok (.iload_n 1, 1) := by decide +kernel
theorem dX9_rest_119 : decode cX9_rest 119 = .ok (.ifCond .ne 7, 3) := by decide +kernel
theorem dX9_rest_122 : decode cX9_rest 122 = .ok (.iload_n 2, 1) := by decide +kernel
theorem dX9_rest_123 : decode cX9_rest 123 = .ok (.goto 5, 3) := by decide +kernel
theorem dX9_rest_126 : decode cX9_rest 126 = .ok (.iload 4, 2) := by decide +kernel
theorem dX9_rest_128 : decode cX9_rest 128 = .ok (.ireturn, 1) := by decide +kernel
theorem dX9_rest_129 : decode cX9_rest 129 = .ok (.iinc 2 1, 3) := by decide +kernel
theorem dX9_rest_132 : decode cX9_rest 132 = .ok (.goto (-118), 3) := by decide +kernel
theorem dX9_rest_135 : decode cX9_rest 135 = .ok (.iload_n 1, 1) := by decide +kernel
theorem dX9_rest_136 : decode cX9_rest 136 = .ok (.ifCond .ne 8, 3) := by decide +kernel
theorem dX9_rest_139 : decode cX9_rest 139 = .ok (.bipush 10, 2) := by decide +kernel
theorem dX9_rest_141 : decode cX9_rest 141 = .ok (.goto 4, 3) := by decide +kernel
theorem dX9_rest_144 : decode cX9_rest 144 = .ok (.iconst 0, 1) := by decide +kernel
theorem dX9_rest_145 : decode cX9_rest 145 = .ok (.ireturn, 1) := by decide +kernel
set_option maxRecDepth 20000 in
theorem ggX9_lacksOf_X9_debts : GoodIn wsX9_lacksOf wsX9_debts := goodIn_r _ [6, 1, 7, 8, 9, 5, 10, 11, 12, 13, 14, 15, 16, 17, 18, 19, 20, 21, 22, 23, 24, 25, 26, 27, 28, 29, 30, 31, 32, 33] (by decide +kernel) (by decide +kernel)
set_option maxRecDepth 20000 in
theorem gX9_lacksOf_X9_debts : GoodIn wsX9_lacksOf (wsV RX9 158 RX9 yX9_debts wsX9_debts) := goodIn_app (goodIn_of _ (by decide +kernel)) ggX9_lacksOf_X9_debts
set_option maxRecDepth 20000 in
theorem ggX9_lacksOf_X9_debt : GoodIn wsX9_lacksOf wsX9_debt := goodIn_r _ [10, 11, 12, 13, 14, 15, 16, 17, 18, 19, 20, 21, 22, 23, 24, 25, 26, 27, 28, 29, 30, 31, 32, 33] (by decide +kernel) (by decide +kernel)
set_option maxRecDepth 20000 in
theorem gX9_lacksOf_X9_debt : GoodIn wsX9_lacksOf (wsV RX9 155 RX9 yX9_debt wsX9_debt) := goodIn_app (goodIn_of _ (by decide +kernel)) ggX9_lacksOf_X9_debt
theorem dX9_lacksOf_0 : decode cX9_lacksOf 0 = .ok (.aload_n 0, 1) := by decide +kernel
theorem dX9_lacksOf_1 : decode cX9_lacksOf 1 = .ok (.invokevirtual 158, 3) := by decide +kernel
theorem dX9_lacksOf_4 : decode cX9_lacksOf 4 = .ok (.istore_n 2, 1) := by decide +kernel
theorem dX9_lacksOf_5 : decode cX9_lacksOf 5 = .ok (.iload_n 2, 1) := by decide +kernel
theorem dX9_lacksOf_6 : decode cX9_lacksOf 6 = .ok (.aload_n 0, 1) := by decide +kernel
theorem dX9_lacksOf_7 : decode cX9_lacksOf 7 = .ok (.getfield 16, 3) := by decide +kernel
theorem dX9_lacksOf_10 : decode cX9_lacksOf 10 = .ok (.iconst 1, 1) := by decide +kernel
theorem dX9_lacksOf_11 : decode cX9_lacksOf 11 = .ok (.iaload, 1) := by decide +kernel
theorem dX9_lacksOf_12 : decode cX9_lacksOf 12 = .ok (.idiv, 1) := by decide +kernel
theorem dX9_lacksOf_13 : decode cX9_lacksOf 13 = .ok (.iload_n 1, 1) := by decide +kernel
theorem dX9_lacksOf_14 : decode cX9_lacksOf 14 = .ok (.iload_n 2, 1) := by decide +kernel
theorem dX9_lacksOf_15 : decode cX9_lacksOf 15 = .ok (.aload_n 0, 1) := by decide +kernel
theorem dX9_lacksOf_16 : decode cX9_lacksOf 16 = .ok (.getfield 16, 3) := by decide +kernel
theorem dX9_lacksOf_19 : decode cX9_lacksOf 19 = .ok (.iconst 1, 1) := by decide +kernel
theorem dX9_lacksOf_20 : decode cX9_lacksOf 20 = .ok (.iaload, 1) := by decide +kernel
theorem dX9_lacksOf_21 : decode cX9_lacksOf 21 = .ok (.irem, 1) := by decide +kernel
theorem dX9_lacksOf_22 : decode cX9_lacksOf 22 = .ok (.if_icmp .ge 7, 3) := by decide +kernel
theorem dX9_lacksOf_25 : decode cX9_lacksOf 25 = .ok (.iconst 1, 1) := by decide +kernel
theorem dX9_lacksOf_26 : decode cX9_lacksOf 26 = .ok (.goto 4, 3) := by decide +kernel
theorem dX9_lacksOf_29 : decode cX9_lacksOf 29 = .ok (.iconst 0, 1) := by decide +kernel
theorem dX9_lacksOf_30 : decode cX9_lacksOf 30 = .ok (.iadd, 1) := by decide +kernel
theorem dX9_lacksOf_31 : decode cX9_lacksOf 31 = .ok (.aload_n 0, 1) := by decide +kernel
theorem dX9_lacksOf_32 : decode cX9_lacksOf 32 = .ok (.iload_n 1, 1) := by decide +kernel
theorem dX9_lacksOf_33 : decode cX9_lacksOf 33 = .ok (.invokevirtual 155, 3) := by decide +kernel
theorem dX9_lacksOf_36 : decode cX9_lacksOf 36 = .ok (.isub, 1) := by decide +kernel
theorem dX9_lacksOf_37 : decode cX9_lacksOf 37 = .ok (.ireturn, 1) := by decide +kernel
set_option maxRecDepth 20000 in
theorem ggX9_settled_X9_isTenant : GoodIn wsX9_settled wsX9_isTenant := goodIn_r _ [6, 7, 8, 9, 5, 10, 24, 25, 26, 27, 28, 29, 30, 31, 32, 33, 34, 35, 36, 37, 38, 39, 40, 41, 42, 43, 44, 45] (by decide +kernel) (by decide +kernel)
set_option maxRecDepth 20000 in
theorem gX9_settled_X9_isTenant : GoodIn wsX9_settled (wsV RX9 137 RX9 yX9_isTenant wsX9_isTenant) := goodIn_app (goodIn_of _ (by decide +kernel)) ggX9_settled_X9_isTenant
set_option maxRecDepth 20000 in
theorem ggX9_settled_X9_lacksOf : GoodIn wsX9_settled wsX9_lacksOf := goodIn_r _ [14, 7, 15, 16, 17, 5, 18, 19, 20, 21, 22, 23, 24, 25, 26, 27, 28, 29, 30, 31, 32, 33, 34, 35, 36, 37, 38, 39, 40, 41, 42, 43, 44, 45] (by decide +kernel) (by decide +kernel)
set_option maxRecDepth 20000 in
theorem gX9_settled_X9_lacksOf : GoodIn wsX9_settled (wsV RX9 185 RX9 yX9_lacksOf wsX9_lacksOf) := goodIn_app (goodIn_of _ (by decide +kernel)) ggX9_settled_X9_lacksOf
theorem dX9_settled_0 : decode cX9_settled 0 = .ok (.aload_n 0, 1) := by decide +kernel
theorem dX9_settled_1 : decode cX9_settled 1 = .ok (.iload_n 1, 1) := by decide +kernel
theorem dX9_settled_2 : decode cX9_settled 2 = .ok (.invokevirtual 137, 3) := by decide +kernel
theorem dX9_settled_5 : decode cX9_settled 5 = .ok (.ifCond .eq 11, 3) := by decide +kernel
theorem dX9_settled_8 : decode cX9_settled 8 = .ok (.aload_n 0, 1) := by decide +kernel
theorem dX9_settled_9 : decode cX9_settled 9 = .ok (.iload_n 1, 1) := by decide +kernel
theorem dX9_settled_10 : decode cX9_settled 10 = .ok (.invokevirtual 185, 3) := by decide +kernel
theorem dX9_settled_13 : decode cX9_settled 13 = .ok (.goto 5, 3) := by decide +kernel
theorem dX9_settled_16 : decode cX9_settled 16 = .ok (.ldc 184, 2) := by decide +kernel
theorem dX9_settled_18 : decode cX9_settled 18 = .ok (.ireturn, 1) := by decide +kernel
set_option maxRecDepth 20000 in
theorem ggX9_payments_X9_lacksOf : GoodIn wsX9_payments wsX9_lacksOf := goodIn_r _ [7, 1, 8, 9, 10, 6, 11, 12, 13, 14, 15, 16, 20, 21, 22, 23, 24, 25, 26, 27, 28, 29, 30, 31, 32, 33, 34, 35, 36, 37, 38, 39, 40, 41] (by decide +kernel) (by decide +kernel)
set_option maxRecDepth 20000 in
theorem gX9_payments_X9_lacksOf : GoodIn wsX9_payments (wsV RX9 185 RX9 yX9_lacksOf wsX9_lacksOf) := goodIn_app (goodIn_of _ (by decide +kernel)) ggX9_payments_X9_lacksOf
set_option maxRecDepth 20000 in
theorem ggX9_payments_X9_many : GoodIn wsX9_payments wsX9_many := goodIn_r _ [19] (by decide +kernel) (by decide +kernel)
set_option maxRecDepth 20000 in
theorem gX9_payments_X9_many : GoodIn wsX9_payments (va_wsS RX9 178 yX9_many wsX9_many) := goodIn_app (goodIn_of _ (by decide +kernel)) ggX9_payments_X9_many
theorem dX9_payments_0 : decode cX9_payments 0 = .ok (.iconst 0, 1) := by decide +kernel
theorem dX9_payments_1 : decode cX9_payments 1 = .ok (.istore_n 1, 1) := by decide +kernel
theorem dX9_payments_2 : decode cX9_payments 2 = .ok (.iconst 0, 1) := by decide +kernel
theorem dX9_payments_3 : decode cX9_payments 3 = .ok (.istore_n 2, 1) := by decide +kernel
theorem dX9_payments_4 : decode cX9_payments 4 = .ok (.iload_n 2, 1) := by decide +kernel
theorem dX9_payments_5 : decode cX9_payments 5 = .ok (.aload_n 0, 1) := by decide +kernel
theorem dX9_payments_6 : decode cX9_payments 6 = .ok (.getfield 16, 3) := by decide +kernel
theorem dX9_payments_9 : decode cX9_payments 9 = .ok (.iconst 1, 1) := by decide +kernel
theorem dX9_payments_10 : decode cX9_payments 10 = .ok (.iaload, 1) := by decide +kernel
theorem dX9_payments_11 : decode cX9_payments 11 = .ok (.if_icmp .ge 27, 3) := by decide +kernel
theorem dX9_payments_14 : decode cX9_payments 14 = .ok (.iload_n 1, 1) := by decide +kernel
theorem dX9_payments_15 : decode cX9_payments 15 = .ok (.aload_n 0, 1) := by decide +kernel
theorem dX9_payments_16 : decode cX9_payments 16 = .ok (.iload_n 2, 1) := by decide +kernel
theorem dX9_payments_17 : decode cX9_payments 17 = .ok (.invokevirtual 185, 3) := by decide +kernel
theorem dX9_payments_20 : decode cX9_payments 20 = .ok (.ifCond .eq 9, 3) := by decide +kernel
theorem dX9_payments_23 : decode cX9_payments 23 = .ok (.iconst 1, 1) := by decide +kernel
theorem dX9_payments_24 : decode cX9_payments 24 = .ok (.iload_n 2, 1) := by decide +kernel
theorem dX9_payments_25 : decode cX9_payments 25 = .ok (.ishl, 1) := by decide +kernel
theorem dX9_payments_26 : decode cX9_payments 26 = .ok (.goto 4, 3) := by decide +kernel
theorem dX9_payments_29 : decode cX9_payments 29 = .ok (.iconst 0, 1) := by decide +kernel
theorem dX9_payments_30 : decode cX9_payments 30 = .ok (.ior, 1) := by decide +kernel
theorem dX9_payments_31 : decode cX9_payments 31 = .ok (.istore_n 1, 1) := by decide +kernel
theorem dX9_payments_32 : decode cX9_payments 32 = .ok (.iinc 2 1, 3) := by decide +kernel
theorem dX9_payments_35 : decode cX9_payments 35 = .ok (.goto (-31), 3) := by decide +kernel
theorem dX9_payments_38 : decode cX9_payments 38 = .ok (.aload_n 0, 1) := by decide +kernel
theorem dX9_payments_39 : decode cX9_payments 39 = .ok (.getfield 28, 3) := by decide +kernel
theorem dX9_payments_42 : decode cX9_payments 42 = .ok (.iconst 0, 1) := by decide +kernel
theorem dX9_payments_43 : decode cX9_payments 43 = .ok (.iconst 0, 1) := by decide +kernel
theorem dX9_payments_44 : decode cX9_payments 44 = .ok (.iastore, 1) := by decide +kernel
theorem dX9_payments_45 : decode cX9_payments 45 = .ok (.iconst 1, 1) := by decide +kernel
theorem dX9_payments_46 : decode cX9_payments 46 = .ok (.istore_n 2, 1) := by decide +kernel
theorem dX9_payments_47 : decode cX9_payments 47 = .ok (.iload_n 2, 1) := by decide +kernel
theorem dX9_payments_48 : decode cX9_payments 48 = .ok (.iload_n 1, 1) := by decide +kernel
theorem dX9_payments_49 : decode cX9_payments 49 = .ok (.if_icmp .gt 133, 3) := by decide +kernel
theorem dX9_payments_52 : decode cX9_payments 52 = .ok (.aload_n 0, 1) := by decide +kernel
theorem dX9_payments_53 : decode cX9_payments 53 = .ok (.getfield 28, 3) := by decide +kernel
theorem dX9_payments_56 : decode cX9_payments 56 = .ok (.iload_n 2, 1) := by decide +kernel
theorem dX9_payments_57 : decode cX9_payments 57 = .ok (.iconst (-1), 1) := by decide +kernel
theorem dX9_payments_58 : decode cX9_payments 58 = .ok (.iastore, 1) := by decide +kernel
theorem dX9_payments_59 : decode cX9_payments 59 = .ok (.iload_n 2, 1) := by decide +kernel
theorem dX9_payments_60 : decode cX9_payments 60 = .ok (.istore_n 3, 1) := by decide +kernel
theorem dX9_payments_61 : decode cX9_payments 61 = .ok (.iload_n 3, 1) := by decide +kernel
theorem dX9_payments_62 : decode cX9_payments 62 = .ok (.ifCond .le 114, 3) := by decide +kernel
theorem dX9_payments_65 : decode cX9_payments 65 = .ok (.iconst 0, 1) := by decide +kernel
theorem dX9_payments_66 : decode cX9_payments 66 = .ok (.istore 4, 2) := by decide +kernel
theorem dX9_payments_68 : decode cX9_payments 68 = .ok (.iconst 0, 1) := by decide +kernel
theorem dX9_payments_69 : decode cX9_payments 69 = .ok (.istore 5, 2) := by decide +kernel
theorem dX9_payments_71 : decode cX9_payments 71 = .ok (.iload 5, 2) := by decide +kernel
theorem dX9_payments_73 : decode cX9_payments 73 = .ok (.aload_n 0, 1) := by decide +kernel
theorem dX9_payments_74 : decode cX9_payments 74 = .ok (.getfield 16, 3) := by decide +kernel
theorem dX9_payments_77 : decode cX9_payments 77 = .ok (.iconst 1, 1) := by decide +kernel
theorem dX9_payments_78 : decode cX9_payments 78 = .ok (.iaload, 1) := by decide +kernel
theorem dX9_payments_79 : decode cX9_payments 79 = .ok (.if_icmp .ge 34, 3) := by decide +kernel
theorem dX9_payments_82 : decode cX9_payments 82 = .ok (.iload 4, 2) := by decide +kernel
theorem dX9_payments_84 : decode cX9_payments 84 = .ok (.iload_n 3, 1) := by decide +kernel
theorem dX9_payments_85 : decode cX9_payments 85 = .ok (.iload 5, 2) := by decide +kernel
theorem dX9_payments_87 : decode cX9_payments 87 = .ok (.ishr, 1) := by decide +kernel
theorem dX9_payments_88 : decode cX9_payments 88 = .ok (.iconst 1, 1) := by decide +kernel
theorem dX9_payments_89 : decode cX9_payments 89 = .ok (.iand, 1) := by decide +kernel
theorem dX9_payments_90 : decode cX9_payments 90 = .ok (.iconst 1, 1) := by decide +kernel
theorem dX9_payments_91 : decode cX9_payments 91 = .ok (.if_icmp .ne 12, 3) := by decide +kernel
theorem dX9_payments_94 : decode cX9_payments 94 = .ok (.aload_n 0, 1) := by decide +kernel
theorem dX9_payments_95 : decode cX9_payments 95 = .ok (.iload 5, 2) := by decide +kernel
theorem dX9_payments_97 : decode cX9_payments 97 = .ok (.invokevirtual 185, 3) := by decide +kernel
theorem dX9_payments_100 : decode cX9_payments 100 = .ok (.goto 4, 3) := by decide +kernel
theorem dX9_payments_103 : decode cX9_payments 103 = .ok (.iconst 0, 1) := by decide +kernel
theorem dX9_payments_104 : decode cX9_payments 104 = .ok (.iadd, 1) := by decide +kernel
theorem dX9_payments_105 : decode cX9_payments 105 = .ok (.istore 4, 2) := by decide +kernel
theorem dX9_payments_107 : decode cX9_payments 107 = .ok (.iinc 5 1, 3) := by decide +kernel
theorem dX9_payments_110 : decode cX9_payments 110 = .ok (.goto (-39), 3) := by decide +kernel
theorem dX9_payments_113 : decode cX9_payments 113 = .ok (.aload_n 0, 1) := by decide +kernel
theorem dX9_payments_114 : decode cX9_payments 114 = .ok (.getfield 28, 3) := by decide +kernel
theorem dX9_payments_117 : decode cX9_payments 117 = .ok (.iload_n 2, 1) := by decide +kernel
theorem dX9_payments_118 : decode cX9_payments 118 = .ok (.iload_n 3, 1) := by decide +kernel
theorem dX9_payments_119 : decode cX9_payments 119 = .ok (.iconst (-1), 1) := by decide +kernel
theorem dX9_payments_120 : decode cX9_payments 120 = .ok (.ixor, 1) := by decide +kernel
theorem dX9_payments_121 : decode cX9_payments 121 = .ok (.iand, 1) := by decide +kernel
theorem dX9_payments_122 : decode cX9_payments 122 = .ok (.iaload, 1) := by decide +kernel
theorem dX9_payments_123 : decode cX9_payments 123 = .ok (.istore 5, 2) := by decide +kernel
theorem dX9_payments_125 : decode cX9_payments 125 = .ok (.aload_n 0, 1) := by decide +kernel
theorem dX9_payments_126 : decode cX9_payments 126 = .ok (.getfield 28, 3) := by decide +kernel
theorem dX9_payments_129 : decode cX9_payments 129 = .ok (.iload_n 2, 1) := by decide +kernel
theorem dX9_payments_130 : decode cX9_payments 130 = .ok (.iload 4, 2) := by decide +kernel
theorem dX9_payments_132 : decode cX9_payments 132 = .ok (.ifCond .ne 28, 3) := by decide +kernel
theorem dX9_payments_135 : decode cX9_payments 135 = .ok (.iload 5, 2) := by decide +kernel
theorem dX9_payments_137 : decode cX9_payments 137 = .ok (.ifCond .lt 23, 3) := by decide +kernel
theorem dX9_payments_140 : decode cX9_payments 140 = .ok (.iload 5, 2) := by decide +kernel
theorem dX9_payments_142 : decode cX9_payments 142 = .ok (.iconst 1, 1) := by decide +kernel
theorem dX9_payments_143 : decode cX9_payments 143 = .ok (.iadd, 1) := by decide +kernel
theorem dX9_payments_144 : decode cX9_payments 144 = .ok (.aload_n 0, 1) := by decide +kernel
theorem dX9_payments_145 : decode cX9_payments 145 = .ok (.getfield 28, 3) := by decide +kernel
theorem dX9_payments_148 : decode cX9_payments 148 = .ok (.iload_n 2, 1) := by decide +kernel
theorem dX9_payments_149 : decode cX9_payments 149 = .ok (.iaload, 1) := by decide +kernel
theorem dX9_payments_150 : decode cX9_payments 150 = .ok (.if_icmp .le 10, 3) := by decide +kernel
theorem dX9_payments_153 : decode cX9_payments 153 = .ok (.iload 5, 2) := by decide +kernel
theorem dX9_payments_155 : decode cX9_payments 155 = .ok (.iconst 1, 1) := by decide +kernel
theorem dX9_payments_156 : decode cX9_payments 156 = .ok (.iadd, 1) := by decide +kernel
theorem dX9_payments_157 : decode cX9_payments 157 = .ok (.goto 9, 3) := by decide +kernel
theorem dX9_payments_160 : decode cX9_payments 160 = .ok (.aload_n 0, 1) := by decide +kernel
theorem dX9_payments_161 : decode cX9_payments 161 = .ok (.getfield 28, 3) := by decide +kernel
theorem dX9_payments_164 : decode cX9_payments 164 = .ok (.iload_n 2, 1) := by decide +kernel
theorem dX9_payments_165 : decode cX9_payments 165 = .ok (.iaload, 1) := by decide +kernel
theorem dX9_payments_166 : decode cX9_payments 166 = .ok (.iastore, 1) := by decide +kernel
theorem dX9_payments_167 : decode cX9_payments 167 = .ok (.iload_n 3, 1) := by decide +kernel
theorem dX9_payments_168 : decode cX9_payments 168 = .ok (.iconst 1, 1) := by decide +kernel
theorem dX9_payments_169 : decode cX9_payments 169 = .ok (.isub, 1) := by decide +kernel
theorem dX9_payments_170 : decode cX9_payments 170 = .ok (.iload_n 2, 1) := by decide +kernel
theorem dX9_payments_171 : decode cX9_payments 171 = .ok (.iand, 1) := by decide +kernel
theorem dX9_payments_172 : decode cX9_payments 172 = .ok (.istore_n 3, 1) := by decide +kernel
theorem dX9_payments_173 : decode cX9_payments 173 = .ok (.goto (-112), 3) := by decide +kernel
theorem dX9_payments_176 : decode cX9_payments 176 = .ok (.iinc 2 1, 3) := by decide +kernel
theorem dX9_payments_179 : decode cX9_payments 179 = .ok (.goto (-132), 3) := by decide +kernel
theorem dX9_payments_182 : decode cX9_payments 182 = .ok (.iload_n 1, 1) := by decide +kernel
theorem dX9_payments_183 : decode cX9_payments 183 = .ok (.invokestatic 178, 3) := by decide +kernel
theorem dX9_payments_186 : decode cX9_payments 186 = .ok (.aload_n 0, 1) := by decide +kernel
theorem dX9_payments_187 : decode cX9_payments 187 = .ok (.getfield 28, 3) := by decide +kernel
theorem dX9_payments_190 : decode cX9_payments 190 = .ok (.iload_n 1, 1) := by decide +kernel
theorem dX9_payments_191 : decode cX9_payments 191 = .ok (.iaload, 1) := by decide +kernel
theorem dX9_payments_192 : decode cX9_payments 192 = .ok (.isub, 1) := by decide +kernel
theorem dX9_payments_193 : decode cX9_payments 193 = .ok (.ireturn, 1) := by decide +kernel
theorem dX9_hear_0 : decode cX9_hear 0 = .ok (.iconst 0, 1) := by decide +kernel
theorem dX9_hear_1 : decode cX9_hear 1 = .ok (.istore_n 2, 1) := by decide +kernel
theorem dX9_hear_2 : decode cX9_hear 2 = .ok (.iconst 0, 1) := by decide +kernel
theorem dX9_hear_3 : decode cX9_hear 3 = .ok (.istore_n 3, 1) := by decide +kernel
theorem dX9_hear_4 : decode cX9_hear 4 = .ok (.iload_n 3, 1) := by decide +kernel
theorem dX9_hear_5 : decode cX9_hear 5 = .ok (.aload_n 0, 1) := by decide +kernel
theorem dX9_hear_6 : decode cX9_hear 6 = .ok (.getfield 16, 3) := by decide +kernel
theorem dX9_hear_9 : decode cX9_hear 9 = .ok (.iconst 1, 1) := by decide +kernel
theorem dX9_hear_10 : decode cX9_hear 10 = .ok (.iaload, 1) := by decide +kernel
theorem dX9_hear_11 : decode cX9_hear 11 = .ok (.if_icmp .ge 37, 3) := by decide +kernel
theorem dX9_hear_14 : decode cX9_hear 14 = .ok (.iload_n 2, 1) := by decide +kernel
theorem dX9_hear_15 : decode cX9_hear 15 = .ok (.aload_n 0, 1) := by decide +kernel
theorem dX9_hear_16 : decode cX9_hear 16 = .ok (.getfield 16, 3) := by decide +kernel
theorem dX9_hear_19 : decode cX9_hear 19 = .ok (.bipush 9, 2) := by decide +kernel
theorem dX9_hear_21 : decode cX9_hear 21 = .ok (.iconst 5, 1) := by decide +kernel
theorem dX9_hear_22 : decode cX9_hear 22 = .ok (.iload_n 3, 1) := by decide +kernel
theorem dX9_hear_23 : decode cX9_hear 23 = .ok (.imul, 1) := by decide +kernel
theorem dX9_hear_24 : decode cX9_hear 24 = .ok (.iadd, 1) := by decide +kernel
theorem dX9_hear_25 : decode cX9_hear 25 = .ok (.iconst 4, 1) := by decide +kernel
theorem dX9_hear_26 : decode cX9_hear 26 = .ok (.iadd, 1) := by decide +kernel
theorem dX9_hear_27 : decode cX9_hear 27 = .ok (.iaload, 1) := by decide +kernel
theorem dX9_hear_28 : decode cX9_hear 28 = .ok (.iload_n 1, 1) := by decide +kernel
theorem dX9_hear_29 : decode cX9_hear 29 = .ok (.iand, 1) := by decide +kernel
theorem dX9_hear_30 : decode cX9_hear 30 = .ok (.ifCond .eq 9, 3) := by decide +kernel
theorem dX9_hear_33 : decode cX9_hear 33 = .ok (.iconst 1, 1) := by decide +kernel
theorem dX9_hear_34 : decode cX9_hear 34 = .ok (.iload_n 3, 1) := by decide +kernel
theorem dX9_hear_35 : decode cX9_hear 35 = .ok (.ishl, 1) := by decide +kernel
theorem dX9_hear_36 : decode cX9_hear 36 = .ok (.goto 4, 3) := by decide +kernel
theorem dX9_hear_39 : decode cX9_hear 39 = .ok (.iconst 0, 1) := by decide +kernel
theorem dX9_hear_40 : decode cX9_hear 40 = .ok (.ior, 1) := by decide +kernel
theorem dX9_hear_41 : decode cX9_hear 41 = .ok (.istore_n 2, 1) := by decide +kernel
theorem dX9_hear_42 : decode cX9_hear 42 = .ok (.iinc 3 1, 3) := by decide +kernel
theorem dX9_hear_45 : decode cX9_hear 45 = .ok (.goto (-41), 3) := by decide +kernel
theorem dX9_hear_48 : decode cX9_hear 48 = .ok (.iload_n 2, 1) := by decide +kernel
theorem dX9_hear_49 : decode cX9_hear 49 = .ok (.ireturn, 1) := by decide +kernel
set_option maxRecDepth 20000 in
theorem ggX9_know_X9_hear : GoodIn wsX9_know wsX9_hear := goodIn_r _ [5, 6, 7, 8, 9, 10, 11, 12, 13, 14, 15, 16, 17, 18, 19, 20, 21, 22, 23, 24, 25, 26, 27, 28] (by decide +kernel) (by decide +kernel)
set_option maxRecDepth 20000 in
theorem gX9_know_X9_hear : GoodIn wsX9_know (wsV RX9 188 RX9 yX9_hear wsX9_hear) := goodIn_app (goodIn_of _ (by decide +kernel)) ggX9_know_X9_hear
theorem dX9_know_0 : decode cX9_know 0 = .ok (.iconst 1, 1) := by decide +kernel
theorem dX9_know_1 : decode cX9_know 1 = .ok (.iload_n 1, 1) := by decide +kernel
theorem dX9_know_2 : decode cX9_know 2 = .ok (.ishl, 1) := by decide +kernel
theorem dX9_know_3 : decode cX9_know 3 = .ok (.istore_n 3, 1) := by decide +kernel
theorem dX9_know_4 : decode cX9_know 4 = .ok (.iconst 0, 1) := by decide +kernel
theorem dX9_know_5 : decode cX9_know 5 = .ok (.istore 4, 2) := by decide +kernel
theorem dX9_know_7 : decode cX9_know 7 = .ok (.iload 4, 2) := by decide +kernel
theorem dX9_know_9 : decode cX9_know 9 = .ok (.iload_n 3, 1) := by decide +kernel
theorem dX9_know_10 : decode cX9_know 10 = .ok (.if_icmp .eq 19, 3) := by decide +kernel
theorem dX9_know_13 : decode cX9_know 13 = .ok (.iload_n 3, 1) := by decide +kernel
theorem dX9_know_14 : decode cX9_know 14 = .ok (.istore 4, 2) := by decide +kernel
theorem dX9_know_16 : decode cX9_know 16 = .ok (.iload_n 3, 1) := by decide +kernel
theorem dX9_know_17 : decode cX9_know 17 = .ok (.aload_n 0, 1) := by decide +kernel
theorem dX9_know_18 : decode cX9_know 18 = .ok (.iload_n 3, 1) := by decide +kernel
theorem dX9_know_19 : decode cX9_know 19 = .ok (.iload_n 2, 1) := by decide +kernel
theorem dX9_know_20 : decode cX9_know 20 = .ok (.iand, 1) := by decide +kernel
theorem dX9_know_21 : decode cX9_know 21 = .ok (.invokevirtual 188, 3) := by decide +kernel
theorem dX9_know_24 : decode cX9_know 24 = .ok (.ior, 1) := by decide +kernel
theorem dX9_know_25 : decode cX9_know 25 = .ok (.istore_n 3, 1) := by decide +kernel
theorem dX9_know_26 : decode cX9_know 26 = .ok (.goto (-19), 3) := by decide +kernel
theorem dX9_know_29 : decode cX9_know 29 = .ok (.iload_n 3, 1) := by decide +kernel
theorem dX9_know_30 : decode cX9_know 30 = .ok (.ireturn, 1) := by decide +kernel
set_option maxRecDepth 20000 in
theorem ggX9_told_X9_isTenant : GoodIn wsX9_told wsX9_isTenant := goodIn_r _ [6, 1, 7, 8, 5, 9, 21, 22, 23, 24, 25, 26, 27, 28, 29, 30, 31, 32, 33, 34, 35, 36, 37, 38, 39, 40, 41, 42] (by decide +kernel) (by decide +kernel)
set_option maxRecDepth 20000 in
theorem gX9_told_X9_isTenant : GoodIn wsX9_told (wsV RX9 137 RX9 yX9_isTenant wsX9_isTenant) := goodIn_app (goodIn_of _ (by decide +kernel)) ggX9_told_X9_isTenant
set_option maxRecDepth 20000 in
theorem ggX9_told_X9_many : GoodIn wsX9_told wsX9_many := goodIn_r _ [12] (by decide +kernel) (by decide +kernel)
set_option maxRecDepth 20000 in
theorem gX9_told_X9_many : GoodIn wsX9_told (va_wsS RX9 178 yX9_many wsX9_many) := goodIn_app (goodIn_of _ (by decide +kernel)) ggX9_told_X9_many
set_option maxRecDepth 20000 in
theorem ggX9_told_X9_know : GoodIn wsX9_told wsX9_know := goodIn_r _ [16, 17, 18, 19, 5, 20, 1, 21, 22, 23, 24, 25, 26, 27, 28, 29, 30, 31, 32, 33, 34, 35, 36, 37, 38, 39, 40, 41, 42] (by decide +kernel) (by decide +kernel)
set_option maxRecDepth 20000 in
theorem gX9_told_X9_know : GoodIn wsX9_told (wsV RX9 191 RX9 yX9_know wsX9_know) := goodIn_app (goodIn_of _ (by decide +kernel)) ggX9_told_X9_know
theorem dX9_told_0 : decode cX9_told 0 = .ok (.aload_n 0, 1) := by decide +kernel
theorem dX9_told_1 : decode cX9_told 1 = .ok (.iload_n 1, 1) := by decide +kernel
theorem dX9_told_2 : decode cX9_told 2 = .ok (.invokevirtual 137, 3) := by decide +kernel
theorem dX9_told_5 : decode cX9_told 5 = .ok (.ifCond .ne 5, 3) := by decide +kernel
theorem dX9_told_8 : decode cX9_told 8 = .ok (.iconst (-1), 1) := by decide +kernel
theorem dX9_told_9 : decode cX9_told 9 = .ok (.ireturn, 1) := by decide +kernel
theorem dX9_told_10 : decode cX9_told 10 = .ok (.iconst 1, 1) := by decide +kernel
theorem dX9_told_11 : decode cX9_told 11 = .ok (.aload_n 0, 1) := by decide +kernel
theorem dX9_told_12 : decode cX9_told 12 = .ok (.getfield 16, 3) := by decide +kernel
theorem dX9_told_15 : decode cX9_told 15 = .ok (.iconst 1, 1) := by decide +kernel
theorem dX9_told_16 : decode cX9_told 16 = .ok (.iaload, 1) := by decide +kernel
theorem dX9_told_17 : decode cX9_told 17 = .ok (.ishl, 1) := by decide +kernel
theorem dX9_told_18 : decode cX9_told 18 = .ok (.iconst 1, 1) := by decide +kernel
theorem dX9_told_19 : decode cX9_told 19 = .ok (.isub, 1) := by decide +kernel
theorem dX9_told_20 : decode cX9_told 20 = .ok (.istore_n 2, 1) := by decide +kernel
theorem dX9_told_21 : decode cX9_told 21 = .ok (.bipush (-9), 2) := by decide +kernel
theorem dX9_told_23 : decode cX9_told 23 = .ok (.istore_n 3, 1) := by decide +kernel
theorem dX9_told_24 : decode cX9_told 24 = .ok (.iconst 0, 1) := by decide +kernel
theorem dX9_told_25 : decode cX9_told 25 = .ok (.istore 4, 2) := by decide +kernel
theorem dX9_told_27 : decode cX9_told 27 = .ok (.iload 4, 2) := by decide +kernel
theorem dX9_told_29 : decode cX9_told 29 = .ok (.iload_n 2, 1) := by decide +kernel
theorem dX9_told_30 : decode cX9_told 30 = .ok (.if_icmp .gt 57, 3) := by decide +kernel
theorem dX9_told_33 : decode cX9_told 33 = .ok (.iload_n 3, 1) := by decide +kernel
theorem dX9_told_34 : decode cX9_told 34 = .ok (.bipush (-9), 2) := by decide +kernel
theorem dX9_told_36 : decode cX9_told 36 = .ok (.if_icmp .eq 15, 3) := by decide +kernel
theorem dX9_told_39 : decode cX9_told 39 = .ok (.iload 4, 2) := by decide +kernel
theorem dX9_told_41 : decode cX9_told 41 = .ok (.invokestatic 178, 3) := by decide +kernel
theorem dX9_told_44 : decode cX9_told 44 = .ok (.iload_n 3, 1) := by decide +kernel
theorem dX9_told_45 : decode cX9_told 45 = .ok (.invokestatic 178, 3) := by decide +kernel
theorem dX9_told_48 : decode cX9_told 48 = .ok (.if_icmp .ge 7, 3) := by decide +kernel
theorem dX9_told_51 : decode cX9_told 51 = .ok (.iconst 1, 1) := by decide +kernel
theorem dX9_told_52 : decode cX9_told 52 = .ok (.goto 4, 3) := by decide +kernel
theorem dX9_told_55 : decode cX9_told 55 = .ok (.iconst 0, 1) := by decide +kernel
theorem dX9_told_56 : decode cX9_told 56 = .ok (.istore 5, 2) := by decide +kernel
theorem dX9_told_58 : decode cX9_told 58 = .ok (.iload 5, 2) := by decide +kernel
theorem dX9_told_60 : decode cX9_told 60 = .ok (.ifCond .eq 19, 3) := by decide +kernel
theorem dX9_told_63 : decode cX9_told 63 = .ok (.aload_n 0, 1) := by decide +kernel
theorem dX9_told_64 : decode cX9_told 64 = .ok (.iload_n 1, 1) := by decide +kernel
theorem dX9_told_65 : decode cX9_told 65 = .ok (.iload 4, 2) := by decide +kernel
theorem dX9_told_67 : decode cX9_told 67 = .ok (.invokevirtual 191, 3) := by decide +kernel
theorem dX9_told_70 : decode cX9_told 70 = .ok (.iload_n 2, 1) := by decide +kernel
theorem dX9_told_71 : decode cX9_told 71 = .ok (.if_icmp .ne 8, 3) := by decide +kernel
theorem dX9_told_74 : decode cX9_told 74 = .ok (.iload 4, 2) := by decide +kernel
theorem dX9_told_76 : decode cX9_told 76 = .ok (.goto 4, 3) := by decide +kernel
theorem dX9_told_79 : decode cX9_told 79 = .ok (.iload_n 3, 1) := by decide +kernel
theorem dX9_told_80 : decode cX9_told 80 = .ok (.istore_n 3, 1) := by decide +kernel
theorem dX9_told_81 : decode cX9_told 81 = .ok (.iinc 4 1, 3) := by decide +kernel
theorem dX9_told_84 : decode cX9_told 84 = .ok (.goto (-57), 3) := by decide +kernel
theorem dX9_told_87 : decode cX9_told 87 = .ok (.iload_n 3, 1) := by decide +kernel
theorem dX9_told_88 : decode cX9_told 88 = .ok (.ireturn, 1) := by decide +kernel
set_option maxRecDepth 20000 in
theorem ggX9_rounds_X9_isTenant : GoodIn wsX9_rounds wsX9_isTenant := goodIn_r _ [6, 1, 7, 8, 5, 9, 14, 15, 16, 17, 18, 19, 20, 21, 22, 23, 24, 25, 26, 27, 28, 29, 30, 31, 32, 33, 34, 35] (by decide +kernel) (by decide +kernel)
set_option maxRecDepth 20000 in
theorem gX9_rounds_X9_isTenant : GoodIn wsX9_rounds (wsV RX9 137 RX9 yX9_isTenant wsX9_isTenant) := goodIn_app (goodIn_of _ (by decide +kernel)) ggX9_rounds_X9_isTenant
set_option maxRecDepth 20000 in
theorem ggX9_rounds_X9_hear : GoodIn wsX9_rounds wsX9_hear := goodIn_r _ [13, 1, 14, 15, 16, 17, 18, 19, 20, 21, 22, 23, 24, 25, 26, 27, 28, 29, 30, 31, 32, 33, 34, 35] (by decide +kernel) (by decide +kernel)
set_option maxRecDepth 20000 in
theorem gX9_rounds_X9_hear : GoodIn wsX9_rounds (wsV RX9 188 RX9 yX9_hear wsX9_hear) := goodIn_app (goodIn_of _ (by decide +kernel)) ggX9_rounds_X9_hear
theorem dX9_rounds_0 : decode cX9_rounds 0 = .ok (.aload_n 0, 1) := by decide +kernel
theorem dX9_rounds_1 : decode cX9_rounds 1 = .ok (.iload_n 1, 1) := by decide +kernel
theorem dX9_rounds_2 : decode cX9_rounds 2 = .ok (.invokevirtual 137, 3) := by decide +kernel
theorem dX9_rounds_5 : decode cX9_rounds 5 = .ok (.ifCond .ne 5, 3) := by decide +kernel
theorem dX9_rounds_8 : decode cX9_rounds 8 = .ok (.iconst (-1), 1) := by decide +kernel
theorem dX9_rounds_9 : decode cX9_rounds 9 = .ok (.ireturn, 1) := by decide +kernel
theorem dX9_rounds_10 : decode cX9_rounds 10 = .ok (.iconst 1, 1) := by decide +kernel
theorem dX9_rounds_11 : decode cX9_rounds 11 = .ok (.iload_n 1, 1) := by decide +kernel
theorem dX9_rounds_12 : decode cX9_rounds 12 = .ok (.ishl, 1) := by decide +kernel
theorem dX9_rounds_13 : decode cX9_rounds 13 = .ok (.istore_n 2, 1) := by decide +kernel
theorem dX9_rounds_14 : decode cX9_rounds 14 = .ok (.iconst 0, 1) := by decide +kernel
theorem dX9_rounds_15 : decode cX9_rounds 15 = .ok (.istore_n 3, 1) := by decide +kernel
theorem dX9_rounds_16 : decode cX9_rounds 16 = .ok (.iload_n 3, 1) := by decide +kernel
theorem dX9_rounds_17 : decode cX9_rounds 17 = .ok (.bipush 7, 2) := by decide +kernel
theorem dX9_rounds_19 : decode cX9_rounds 19 = .ok (.if_icmp .ge 33, 3) := by decide +kernel
theorem dX9_rounds_22 : decode cX9_rounds 22 = .ok (.iload_n 2, 1) := by decide +kernel
theorem dX9_rounds_23 : decode cX9_rounds 23 = .ok (.iconst 1, 1) := by decide +kernel
theorem dX9_rounds_24 : decode cX9_rounds 24 = .ok (.aload_n 0, 1) := by decide +kernel
theorem dX9_rounds_25 : decode cX9_rounds 25 = .ok (.getfield 16, 3) := by decide +kernel
theorem dX9_rounds_28 : decode cX9_rounds 28 = .ok (.iconst 1, 1) := by decide +kernel
theorem dX9_rounds_29 : decode cX9_rounds 29 = .ok (.iaload, 1) := by decide +kernel
theorem dX9_rounds_30 : decode cX9_rounds 30 = .ok (.ishl, 1) := by decide +kernel
theorem dX9_rounds_31 : decode cX9_rounds 31 = .ok (.iconst 1, 1) := by decide +kernel
theorem dX9_rounds_32 : decode cX9_rounds 32 = .ok (.isub, 1) := by decide +kernel
theorem dX9_rounds_33 : decode cX9_rounds 33 = .ok (.if_icmp .ne 5, 3) := by decide +kernel
theorem dX9_rounds_36 : decode cX9_rounds 36 = .ok (.iload_n 3, 1) := by decide +kernel
theorem dX9_rounds_37 : decode cX9_rounds 37 = .ok (.ireturn, 1) := by decide +kernel
theorem dX9_rounds_38 : decode cX9_rounds 38 = .ok (.iload_n 2, 1) := by decide +kernel
theorem dX9_rounds_39 : decode cX9_rounds 39 = .ok (.aload_n 0, 1) := by decide +kernel
theorem dX9_rounds_40 : decode cX9_rounds 40 = .ok (.iload_n 2, 1) := by decide +kernel
theorem dX9_rounds_41 : decode cX9_rounds 41 = .ok (.invokevirtual 188, 3) := by decide +kernel
theorem dX9_rounds_44 : decode cX9_rounds 44 = .ok (.ior, 1) := by decide +kernel
theorem dX9_rounds_45 : decode cX9_rounds 45 = .ok (.istore_n 2, 1) := by decide +kernel
theorem dX9_rounds_46 : decode cX9_rounds 46 = .ok (.iinc 3 1, 3) := by decide +kernel
theorem dX9_rounds_49 : decode cX9_rounds 49 = .ok (.goto (-33), 3) := by decide +kernel
theorem dX9_rounds_52 : decode cX9_rounds 52 = .ok (.bipush (-9), 2) := by decide +kernel
theorem dX9_rounds_54 : decode cX9_rounds 54 = .ok (.ireturn, 1) := by decide +kernel
set_option maxRecDepth 20000 in
theorem ggX9_watch_X9_in : GoodIn wsX9_watch wsX9_in := goodIn_r _ [5] (by decide +kernel) (by decide +kernel)
set_option maxRecDepth 20000 in
theorem gX9_watch_X9_in : GoodIn wsX9_watch (va_wsS RX9 48 yX9_in wsX9_in) := goodIn_app (goodIn_of _ (by decide +kernel)) ggX9_watch_X9_in
set_option maxRecDepth 20000 in
theorem ggX9_watch_X9_lips : GoodIn wsX9_watch wsX9_lips := goodIn_r _ [9, 1, 13, 14, 15, 16, 17, 18, 19, 20, 21, 22, 23, 24, 25, 26, 27, 28, 29, 30, 31, 32, 33, 34] (by decide +kernel) (by decide +kernel)
set_option maxRecDepth 20000 in
theorem gX9_watch_X9_lips : GoodIn wsX9_watch (wsV RX9 145 RX9 yX9_lips wsX9_lips) := goodIn_app (goodIn_of _ (by decide +kernel)) ggX9_watch_X9_lips
set_option maxRecDepth 20000 in
theorem ggX9_watch_X9_many : GoodIn wsX9_watch wsX9_many := goodIn_r _ [12] (by decide +kernel) (by decide +kernel)
set_option maxRecDepth 20000 in
theorem gX9_watch_X9_many : GoodIn wsX9_watch (va_wsS RX9 178 yX9_many wsX9_many) := goodIn_app (goodIn_of _ (by decide +kernel)) ggX9_watch_X9_many
theorem dX9_watch_0 : decode cX9_watch 0 = .ok (.iload_n 1, 1) := by decide +kernel
theorem dX9_watch_1 : decode cX9_watch 1 = .ok (.i2l, 1) := by decide +kernel
theorem dX9_watch_2 : decode cX9_watch 2 = .ok (.lconst 0, 1) := by decide +kernel
theorem dX9_watch_3 : decode cX9_watch 3 = .ok (.iconst 1, 1) := by decide +kernel
theorem dX9_watch_4 : decode cX9_watch 4 = .ok (.aload_n 0, 1) := by decide +kernel
theorem dX9_watch_5 : decode cX9_watch 5 = .ok (.getfield 16, 3) := by decide +kernel
theorem dX9_watch_8 : decode cX9_watch 8 = .ok (.iconst 1, 1) := by decide +kernel
theorem dX9_watch_9 : decode cX9_watch 9 = .ok (.iaload, 1) := by decide +kernel
theorem dX9_watch_10 : decode cX9_watch 10 = .ok (.ishl, 1) := by decide +kernel
theorem dX9_watch_11 : decode cX9_watch 11 = .ok (.iconst 1, 1) := by decide +kernel
theorem dX9_watch_12 : decode cX9_watch 12 = .ok (.isub, 1) := by decide +kernel
theorem dX9_watch_13 : decode cX9_watch 13 = .ok (.i2l, 1) := by decide +kernel
theorem dX9_watch_14 : decode cX9_watch 14 = .ok (.invokestatic 48, 3) := by decide +kernel
theorem dX9_watch_17 : decode cX9_watch 17 = .ok (.ifCond .ne 5, 3) := by decide +kernel
theorem dX9_watch_20 : decode cX9_watch 20 = .ok (.iconst (-1), 1) := by decide +kernel
theorem dX9_watch_21 : decode cX9_watch 21 = .ok (.ireturn, 1) := by decide +kernel
theorem dX9_watch_22 : decode cX9_watch 22 = .ok (.bipush (-9), 2) := by decide +kernel
theorem dX9_watch_24 : decode cX9_watch 24 = .ok (.istore_n 2, 1) := by decide +kernel
theorem dX9_watch_25 : decode cX9_watch 25 = .ok (.iconst 0, 1) := by decide +kernel
theorem dX9_watch_26 : decode cX9_watch 26 = .ok (.istore_n 3, 1) := by decide +kernel
theorem dX9_watch_27 : decode cX9_watch 27 = .ok (.iload_n 3, 1) := by decide +kernel
theorem dX9_watch_28 : decode cX9_watch 28 = .ok (.iconst 1, 1) := by decide +kernel
theorem dX9_watch_29 : decode cX9_watch 29 = .ok (.aload_n 0, 1) := by decide +kernel
theorem dX9_watch_30 : decode cX9_watch 30 = .ok (.getfield 16, 3) := by decide +kernel
theorem dX9_watch_33 : decode cX9_watch 33 = .ok (.iconst 2, 1) := by decide +kernel
theorem dX9_watch_34 : decode cX9_watch 34 = .ok (.iaload, 1) := by decide +kernel
theorem dX9_watch_35 : decode cX9_watch 35 = .ok (.ishl, 1) := by decide +kernel
theorem dX9_watch_36 : decode cX9_watch 36 = .ok (.if_icmp .ge 101, 3) := by decide +kernel
theorem dX9_watch_39 : decode cX9_watch 39 = .ok (.iconst 0, 1) := by decide +kernel
theorem dX9_watch_40 : decode cX9_watch 40 = .ok (.istore 4, 2) := by decide +kernel
theorem dX9_watch_42 : decode cX9_watch 42 = .ok (.iconst 0, 1) := by decide +kernel
theorem dX9_watch_43 : decode cX9_watch 43 = .ok (.istore 5, 2) := by decide +kernel
theorem dX9_watch_45 : decode cX9_watch 45 = .ok (.iload 5, 2) := by decide +kernel
theorem dX9_watch_47 : decode cX9_watch 47 = .ok (.aload_n 0, 1) := by decide +kernel
theorem dX9_watch_48 : decode cX9_watch 48 = .ok (.getfield 16, 3) := by decide +kernel
theorem dX9_watch_51 : decode cX9_watch 51 = .ok (.iconst 2, 1) := by decide +kernel
theorem dX9_watch_52 : decode cX9_watch 52 = .ok (.iaload, 1) := by decide +kernel
theorem dX9_watch_53 : decode cX9_watch 53 = .ok (.if_icmp .ge 34, 3) := by decide +kernel
theorem dX9_watch_56 : decode cX9_watch 56 = .ok (.iload 4, 2) := by decide +kernel
theorem dX9_watch_58 : decode cX9_watch 58 = .ok (.iload_n 3, 1) := by decide +kernel
theorem dX9_watch_59 : decode cX9_watch 59 = .ok (.iload 5, 2) := by decide +kernel
theorem dX9_watch_61 : decode cX9_watch 61 = .ok (.ishr, 1) := by decide +kernel
theorem dX9_watch_62 : decode cX9_watch 62 = .ok (.iconst 1, 1) := by decide +kernel
theorem dX9_watch_63 : decode cX9_watch 63 = .ok (.iand, 1) := by decide +kernel
theorem dX9_watch_64 : decode cX9_watch 64 = .ok (.iconst 1, 1) := by decide +kernel
theorem dX9_watch_65 : decode cX9_watch 65 = .ok (.if_icmp .ne 12, 3) := by decide +kernel
theorem dX9_watch_68 : decode cX9_watch 68 = .ok (.aload_n 0, 1) := by decide +kernel
theorem dX9_watch_69 : decode cX9_watch 69 = .ok (.iload 5, 2) := by decide +kernel
theorem dX9_watch_71 : decode cX9_watch 71 = .ok (.invokevirtual 145, 3) := by decide +kernel
theorem dX9_watch_74 : decode cX9_watch 74 = .ok (.goto 4, 3) := by decide +kernel
theorem dX9_watch_77 : decode cX9_watch 77 = .ok (.iconst 0, 1) := by decide +kernel
theorem dX9_watch_78 : decode cX9_watch 78 = .ok (.ior, 1) := by decide +kernel
theorem dX9_watch_79 : decode cX9_watch 79 = .ok (.istore 4, 2) := by decide +kernel
theorem dX9_watch_81 : decode cX9_watch 81 = .ok (.iinc 5 1, 3) := by decide +kernel
theorem dX9_watch_84 : decode cX9_watch 84 = .ok (.goto (-39), 3) := by decide +kernel
theorem dX9_watch_87 : decode cX9_watch 87 = .ok (.iload_n 1, 1) := by decide +kernel
theorem dX9_watch_88 : decode cX9_watch 88 = .ok (.iload 4, 2) := by decide +kernel
theorem dX9_watch_90 : decode cX9_watch 90 = .ok (.iconst (-1), 1) := by decide +kernel
theorem dX9_watch_91 : decode cX9_watch 91 = .ok (.ixor, 1) := by decide +kernel
theorem dX9_watch_92 : decode cX9_watch 92 = .ok (.iand, 1) := by decide +kernel
theorem dX9_watch_93 : decode cX9_watch 93 = .ok (.ifCond .ne 24, 3) := by decide +kernel
theorem dX9_watch_96 : decode cX9_watch 96 = .ok (.iload_n 2, 1) := by decide +kernel
theorem dX9_watch_97 : decode cX9_watch 97 = .ok (.bipush (-9), 2) := by decide +kernel
theorem dX9_watch_99 : decode cX9_watch 99 = .ok (.if_icmp .eq 14, 3) := by decide +kernel
theorem dX9_watch_102 : decode cX9_watch 102 = .ok (.iload_n 3, 1) := by decide +kernel
theorem dX9_watch_103 : decode cX9_watch 103 = .ok (.invokestatic 178, 3) := by decide +kernel
theorem dX9_watch_106 : decode cX9_watch 106 = .ok (.iload_n 2, 1) := by decide +kernel
theorem dX9_watch_107 : decode cX9_watch 107 = .ok (.invokestatic 178, 3) := by decide +kernel
theorem dX9_watch_110 : decode cX9_watch 110 = .ok (.if_icmp .ge 7, 3) := by decide +kernel
theorem dX9_watch_113 : decode cX9_watch 113 = .ok (.iconst 1, 1) := by decide +kernel
theorem dX9_watch_114 : decode cX9_watch 114 = .ok (.goto 4, 3) := by decide +kernel
theorem dX9_watch_117 : decode cX9_watch 117 = .ok (.iconst 0, 1) := by decide +kernel
theorem dX9_watch_118 : decode cX9_watch 118 = .ok (.istore 5, 2) := by decide +kernel
theorem dX9_watch_120 : decode cX9_watch 120 = .ok (.iload 5, 2) := by decide +kernel
theorem dX9_watch_122 : decode cX9_watch 122 = .ok (.ifCond .eq 7, 3) := by decide +kernel
theorem dX9_watch_125 : decode cX9_watch 125 = .ok (.iload_n 3, 1) := by decide +kernel
theorem dX9_watch_126 : decode cX9_watch 126 = .ok (.goto 4, 3) := by decide +kernel
theorem dX9_watch_129 : decode cX9_watch 129 = .ok (.iload_n 2, 1) := by decide +kernel
theorem dX9_watch_130 : decode cX9_watch 130 = .ok (.istore_n 2, 1) := by decide +kernel
theorem dX9_watch_131 : decode cX9_watch 131 = .ok (.iinc 3 1, 3) := by decide +kernel
theorem dX9_watch_134 : decode cX9_watch 134 = .ok (.goto (-107), 3) := by decide +kernel
theorem dX9_watch_137 : decode cX9_watch 137 = .ok (.iload_n 2, 1) := by decide +kernel
theorem dX9_watch_138 : decode cX9_watch 138 = .ok (.ireturn, 1) := by decide +kernel
set_option maxRecDepth 20000 in
theorem ggX9_odds_X9_in : GoodIn wsX9_odds wsX9_in := goodIn_r _ [7] (by decide +kernel) (by decide +kernel)
set_option maxRecDepth 20000 in
theorem gX9_odds_X9_in : GoodIn wsX9_odds (va_wsS RX9 48 yX9_in wsX9_in) := goodIn_app (goodIn_of _ (by decide +kernel)) ggX9_odds_X9_in
set_option maxRecDepth 20000 in
theorem ggX9_odds_X9_roomOf : GoodIn wsX9_odds wsX9_roomOf := goodIn_r _ [11, 12, 25, 26, 27, 28, 29, 30, 31, 32, 33, 34, 35, 36, 37, 38, 39, 40, 41, 42, 43, 44, 45, 46] (by decide +kernel) (by decide +kernel)
set_option maxRecDepth 20000 in
theorem gX9_odds_X9_roomOf : GoodIn wsX9_odds (wsV RX9 122 RX9 yX9_roomOf wsX9_roomOf) := goodIn_app (goodIn_of _ (by decide +kernel)) ggX9_odds_X9_roomOf
set_option maxRecDepth 20000 in
theorem ggX9_odds_X9_more : GoodIn wsX9_odds wsX9_more := goodIn_r _ [16, 3, 17, 18, 19, 6, 20, 21, 22, 23, 24, 25, 26, 27, 28, 29, 30, 31, 32, 33, 34, 35, 36, 37, 38, 39, 40, 41, 42, 43, 44, 45, 46] (by decide +kernel) (by decide +kernel)
set_option maxRecDepth 20000 in
theorem gX9_odds_X9_more : GoodIn wsX9_odds (wsV RX9 130 RX9 yX9_more wsX9_more) := goodIn_app (goodIn_of _ (by decide +kernel)) ggX9_odds_X9_more
theorem dX9_odds_0 : decode cX9_odds 0 = .ok (.iload_n 1, 1) := by decide +kernel
theorem dX9_odds_1 : decode cX9_odds 1 = .ok (.i2l, 1) := by decide +kernel
theorem dX9_odds_2 : decode cX9_odds 2 = .ok (.lconst 0, 1) := by decide +kernel
theorem dX9_odds_3 : decode cX9_odds 3 = .ok (.ldc2_w 194, 3) := by decide +kernel
theorem dX9_odds_6 : decode cX9_odds 6 = .ok (.invokestatic 48, 3) := by decide +kernel
theorem dX9_odds_9 : decode cX9_odds 9 = .ok (.ifCond .eq 13, 3) := by decide +kernel
theorem dX9_odds_12 : decode cX9_odds 12 = .ok (.iload_n 2, 1) := by decide +kernel
theorem dX9_odds_13 : decode cX9_odds 13 = .ok (.i2l, 1) := by decide +kernel
theorem dX9_odds_14 : decode cX9_odds 14 = .ok (.lconst 0, 1) := by decide +kernel
theorem dX9_odds_15 : decode cX9_odds 15 = .ok (.lconst 1, 1) := by decide +kernel
theorem dX9_odds_16 : decode cX9_odds 16 = .ok (.invokestatic 48, 3) := by decide +kernel
theorem dX9_odds_19 : decode cX9_odds 19 = .ok (.ifCond .ne 7, 3) := by decide +kernel
theorem dX9_odds_22 : decode cX9_odds 22 = .ok (.ldc2_w 148, 3) := by decide +kernel
theorem dX9_odds_25 : decode cX9_odds 25 = .ok (.lreturn, 1) := by decide +kernel
theorem dX9_odds_26 : decode cX9_odds 26 = .ok (.lconst 1, 1) := by decide +kernel
theorem dX9_odds_27 : decode cX9_odds 27 = .ok (.lstore_n 3, 1) := by decide +kernel
theorem dX9_odds_28 : decode cX9_odds 28 = .ok (.lconst 1, 1) := by decide +kernel
theorem dX9_odds_29 : decode cX9_odds 29 = .ok (.lstore 5, 2) := by decide +kernel
theorem dX9_odds_31 : decode cX9_odds 31 = .ok (.iconst 0, 1) := by decide +kernel
theorem dX9_odds_32 : decode cX9_odds 32 = .ok (.istore 7, 2) := by decide +kernel
theorem dX9_odds_34 : decode cX9_odds 34 = .ok (.iload 7, 2) := by decide +kernel
theorem dX9_odds_36 : decode cX9_odds 36 = .ok (.aload_n 0, 1) := by decide +kernel
theorem dX9_odds_37 : decode cX9_odds 37 = .ok (.getfield 16, 3) := by decide +kernel
theorem dX9_odds_40 : decode cX9_odds 40 = .ok (.iconst 1, 1) := by decide +kernel
theorem dX9_odds_41 : decode cX9_odds 41 = .ok (.iaload, 1) := by decide +kernel
theorem dX9_odds_42 : decode cX9_odds 42 = .ok (.if_icmp .ge 72, 3) := by decide +kernel
theorem dX9_odds_45 : decode cX9_odds 45 = .ok (.aload_n 0, 1) := by decide +kernel
theorem dX9_odds_46 : decode cX9_odds 46 = .ok (.iload 7, 2) := by decide +kernel
theorem dX9_odds_48 : decode cX9_odds 48 = .ok (.invokevirtual 122, 3) := by decide +kernel
theorem dX9_odds_51 : decode cX9_odds 51 = .ok (.bipush (-9), 2) := by decide +kernel
theorem dX9_odds_53 : decode cX9_odds 53 = .ok (.if_icmp .eq 55, 3) := by decide +kernel
theorem dX9_odds_56 : decode cX9_odds 56 = .ok (.aload_n 0, 1) := by decide +kernel
theorem dX9_odds_57 : decode cX9_odds 57 = .ok (.iload 7, 2) := by decide +kernel
theorem dX9_odds_59 : decode cX9_odds 59 = .ok (.aload_n 0, 1) := by decide +kernel
theorem dX9_odds_60 : decode cX9_odds 60 = .ok (.iload 7, 2) := by decide +kernel
theorem dX9_odds_62 : decode cX9_odds 62 = .ok (.invokevirtual 122, 3) := by decide +kernel
theorem dX9_odds_65 : decode cX9_odds 65 = .ok (.invokevirtual 130, 3) := by decide +kernel
theorem dX9_odds_68 : decode cX9_odds 68 = .ok (.istore 8, 2) := by decide +kernel
theorem dX9_odds_70 : decode cX9_odds 70 = .ok (.lload_n 3, 1) := by decide +kernel
theorem dX9_odds_71 : decode cX9_odds 71 = .ok (.iload 8, 2) := by decide +kernel
theorem dX9_odds_73 : decode cX9_odds 73 = .ok (.iconst 2, 1) := by decide +kernel
theorem dX9_odds_74 : decode cX9_odds 74 = .ok (.if_icmp .lt 9, 3) := by decide +kernel
theorem dX9_odds_77 : decode cX9_odds 77 = .ok (.ldc2_w 194, 3) := by decide +kernel
theorem dX9_odds_80 : decode cX9_odds 80 = .ok (.goto 18, 3) := by decide +kernel
theorem dX9_odds_83 : decode cX9_odds 83 = .ok (.iload 8, 2) := by decide +kernel
theorem dX9_odds_85 : decode cX9_odds 85 = .ok (.ifCond .lt 12, 3) := by decide +kernel
theorem dX9_odds_88 : decode cX9_odds 88 = .ok (.ldc2_w 194, 3) := by decide +kernel
theorem dX9_odds_91 : decode cX9_odds 91 = .ok (.iload_n 1, 1) := by decide +kernel
theorem dX9_odds_92 : decode cX9_odds 92 = .ok (.i2l, 1) := by decide +kernel
theorem dX9_odds_93 : decode cX9_odds 93 = .ok (.lsub, 1) := by decide +kernel
theorem dX9_odds_94 : decode cX9_odds 94 = .ok (.goto 4, 3) := by decide +kernel
theorem dX9_odds_97 : decode cX9_odds 97 = .ok (.lconst 0, 1) := by decide +kernel
theorem dX9_odds_98 : decode cX9_odds 98 = .ok (.lmul, 1) := by decide +kernel
theorem dX9_odds_99 : decode cX9_odds 99 = .ok (.lstore_n 3, 1) := by decide +kernel
theorem dX9_odds_100 : decode cX9_odds 100 = .ok (.lload 5, 2) := by decide +kernel
theorem dX9_odds_102 : decode cX9_odds 102 = .ok (.ldc2_w 194, 3) := by decide +kernel
theorem dX9_odds_105 : decode cX9_odds 105 = .ok (.lmul, 1) := by decide +kernel
theorem dX9_odds_106 : decode cX9_odds 106 = .ok (.lstore 5, 2) := by decide +kernel
theorem dX9_odds_108 : decode cX9_odds 108 = .ok (.iinc 7 1, 3) := by decide +kernel
theorem dX9_odds_111 : decode cX9_odds 111 = .ok (.goto (-77), 3) := by decide +kernel
theorem dX9_odds_114 : decode cX9_odds 114 = .ok (.lload_n 3, 1) := by decide +kernel
theorem dX9_odds_115 : decode cX9_odds 115 = .ok (.lstore 7, 2) := by decide +kernel
theorem dX9_odds_117 : decode cX9_odds 117 = .ok (.lload 5, 2) := by decide +kernel
theorem dX9_odds_119 : decode cX9_odds 119 = .ok (.lstore 9, 2) := by decide +kernel
theorem dX9_odds_121 : decode cX9_odds 121 = .ok (.lload 9, 2) := by decide +kernel
theorem dX9_odds_123 : decode cX9_odds 123 = .ok (.lconst 0, 1) := by decide +kernel
theorem dX9_odds_124 : decode cX9_odds 124 = .ok (.lcmp, 1) := by decide +kernel
theorem dX9_odds_125 : decode cX9_odds 125 = .ok (.ifCond .eq 21, 3) := by decide +kernel
theorem dX9_odds_128 : decode cX9_odds 128 = .ok (.lload 7, 2) := by decide +kernel
theorem dX9_odds_130 : decode cX9_odds 130 = .ok (.lload 9, 2) := by decide +kernel
theorem dX9_odds_132 : decode cX9_odds 132 = .ok (.lrem, 1) := by decide +kernel
theorem dX9_odds_133 : decode cX9_odds 133 = .ok (.lstore 11, 2) := by decide +kernel
theorem dX9_odds_135 : decode cX9_odds 135 = .ok (.lload 9, 2) := by decide +kernel
theorem dX9_odds_137 : decode cX9_odds 137 = .ok (.lstore 7, 2) := by decide +kernel
theorem dX9_odds_139 : decode cX9_odds 139 = .ok (.lload 11, 2) := by decide +kernel
theorem dX9_odds_141 : decode cX9_odds 141 = .ok (.lstore 9, 2) := by decide +kernel
theorem dX9_odds_143 : decode cX9_odds 143 = .ok (.goto (-22), 3) := by decide +kernel
theorem dX9_odds_146 : decode cX9_odds 146 = .ok (.iload_n 2, 1) := by decide +kernel
theorem dX9_odds_147 : decode cX9_odds 147 = .ok (.ifCond .ne 10, 3) := by decide +kernel
theorem dX9_odds_150 : decode cX9_odds 150 = .ok (.lload_n 3, 1) := by decide +kernel
theorem dX9_odds_151 : decode cX9_odds 151 = .ok (.lload 7, 2) := by decide +kernel
theorem dX9_odds_153 : decode cX9_odds 153 = .ok (.ldiv, 1) := by decide +kernel
theorem dX9_odds_154 : decode cX9_odds 154 = .ok (.goto 8, 3) := by decide +kernel
theorem dX9_odds_157 : decode cX9_odds 157 = .ok (.lload 5, 2) := by decide +kernel
theorem dX9_odds_159 : decode cX9_odds 159 = .ok (.lload 7, 2) := by decide +kernel
theorem dX9_odds_161 : decode cX9_odds 161 = .ok (.ldiv, 1) := by decide +kernel
theorem dX9_odds_162 : decode cX9_odds 162 = .ok (.lreturn, 1) := by decide +kernel
set_option maxRecDepth 20000 in
theorem ggX9_book_X9_isTenant : GoodIn wsX9_book wsX9_isTenant := goodIn_r _ [9, 10, 11, 12, 8, 13, 14, 15, 16, 17, 18, 19, 20, 21, 22, 23, 24, 25, 26, 27, 28, 29, 30, 31, 32, 33, 34, 35] (by decide +kernel) (by decide +kernel)
set_option maxRecDepth 20000 in
theorem gX9_book_X9_isTenant : GoodIn wsX9_book (wsV RX9 137 RX9 yX9_isTenant wsX9_isTenant) := goodIn_app (goodIn_of _ (by decide +kernel)) ggX9_book_X9_isTenant
set_option maxRecDepth 20000 in
theorem ggX9_book_X9_in : GoodIn wsX9_book wsX9_in := goodIn_r _ [13] (by decide +kernel) (by decide +kernel)
set_option maxRecDepth 20000 in
theorem gX9_book_X9_in : GoodIn wsX9_book (va_wsS RX9 48 yX9_in wsX9_in) := goodIn_app (goodIn_of _ (by decide +kernel)) ggX9_book_X9_in
theorem dX9_book_0 : decode cX9_book 0 = .ok (.aload_n 0, 1) := by decide +kernel
theorem dX9_book_1 : decode cX9_book 1 = .ok (.iload_n 1, 1) := by decide +kernel
theorem dX9_book_2 : decode cX9_book 2 = .ok (.invokevirtual 137, 3) := by decide +kernel
theorem dX9_book_5 : decode cX9_book 5 = .ok (.ifCond .eq 15, 3) := by decide +kernel
theorem dX9_book_8 : decode cX9_book 8 = .ok (.iload_n 2, 1) := by decide +kernel
theorem dX9_book_9 : decode cX9_book 9 = .ok (.i2l, 1) := by decide +kernel
theorem dX9_book_10 : decode cX9_book 10 = .ok (.lconst 0, 1) := by decide +kernel
theorem dX9_book_11 : decode cX9_book 11 = .ok (.ldc2_w 153, 3) := by decide +kernel
theorem dX9_book_14 : decode cX9_book 14 = .ok (.invokestatic 48, 3) := by decide +kernel
theorem dX9_book_17 : decode cX9_book 17 = .ok (.ifCond .ne 5, 3) := by decide +kernel
theorem dX9_book_20 : decode cX9_book 20 = .ok (.iconst (-1), 1) := by decide +kernel
theorem dX9_book_21 : decode cX9_book 21 = .ok (.ireturn, 1) := by decide +kernel
theorem dX9_book_22 : decode cX9_book 22 = .ok (.aload_n 0, 1) := by decide +kernel
theorem dX9_book_23 : decode cX9_book 23 = .ok (.getfield 109, 3) := by decide +kernel
theorem dX9_book_26 : decode cX9_book 26 = .ok (.bipush 6, 2) := by decide +kernel
theorem dX9_book_28 : decode cX9_book 28 = .ok (.if_icmp .ne 6, 3) := by decide +kernel
theorem dX9_book_31 : decode cX9_book 31 = .ok (.bipush (-3), 2) := by decide +kernel
theorem dX9_book_33 : decode cX9_book 33 = .ok (.ireturn, 1) := by decide +kernel
theorem dX9_book_34 : decode cX9_book 34 = .ok (.aload_n 0, 1) := by decide +kernel
theorem dX9_book_35 : decode cX9_book 35 = .ok (.getfield 31, 3) := by decide +kernel
theorem dX9_book_38 : decode cX9_book 38 = .ok (.aload_n 0, 1) := by decide +kernel
theorem dX9_book_39 : decode cX9_book 39 = .ok (.getfield 109, 3) := by decide +kernel
theorem dX9_book_42 : decode cX9_book 42 = .ok (.iload_n 1, 1) := by decide +kernel
theorem dX9_book_43 : decode cX9_book 43 = .ok (.iastore, 1) := by decide +kernel
theorem dX9_book_44 : decode cX9_book 44 = .ok (.aload_n 0, 1) := by decide +kernel
theorem dX9_book_45 : decode cX9_book 45 = .ok (.getfield 34, 3) := by decide +kernel
theorem dX9_book_48 : decode cX9_book 48 = .ok (.aload_n 0, 1) := by decide +kernel
theorem dX9_book_49 : decode cX9_book 49 = .ok (.getfield 109, 3) := by decide +kernel
theorem dX9_book_52 : decode cX9_book 52 = .ok (.iload_n 2, 1) := by decide +kernel
theorem dX9_book_53 : decode cX9_book 53 = .ok (.iastore, 1) := by decide +kernel
theorem dX9_book_54 : decode cX9_book 54 = .ok (.aload_n 0, 1) := by decide +kernel
theorem dX9_book_55 : decode cX9_book 55 = .ok (.dup, 1) := by decide +kernel
theorem dX9_book_56 : decode cX9_book 56 = .ok (.getfield 109, 3) := by decide +kernel
theorem dX9_book_59 : decode cX9_book 59 = .ok (.iconst 1, 1) := by decide +kernel
theorem dX9_book_60 : decode cX9_book 60 = .ok (.iadd, 1) := by decide +kernel
theorem dX9_book_61 : decode cX9_book 61 = .ok (.putfield 109, 3) := by decide +kernel
theorem dX9_book_64 : decode cX9_book 64 = .ok (.aload_n 0, 1) := by decide +kernel
theorem dX9_book_65 : decode cX9_book 65 = .ok (.getfield 109, 3) := by decide +kernel
theorem dX9_book_68 : decode cX9_book 68 = .ok (.ireturn, 1) := by decide +kernel
theorem dX9_burn_0 : decode cX9_burn 0 = .ok (.aload_n 0, 1) := by decide +kernel
theorem dX9_burn_1 : decode cX9_burn 1 = .ok (.getfield 109, 3) := by decide +kernel
theorem dX9_burn_4 : decode cX9_burn 4 = .ok (.istore_n 1, 1) := by decide +kernel
theorem dX9_burn_5 : decode cX9_burn 5 = .ok (.aload_n 0, 1) := by decide +kernel
theorem dX9_burn_6 : decode cX9_burn 6 = .ok (.iconst 0, 1) := by decide +kernel
theorem dX9_burn_7 : decode cX9_burn 7 = .ok (.putfield 109, 3) := by decide +kernel
theorem dX9_burn_10 : decode cX9_burn 10 = .ok (.iload_n 1, 1) := by decide +kernel
theorem dX9_burn_11 : decode cX9_burn 11 = .ok (.ireturn, 1) := by decide +kernel
set_option maxRecDepth 20000 in
theorem ggX9_isSo_X9_more : GoodIn wsX9_isSo wsX9_more := goodIn_r _ [8, 9, 10, 11, 12, 7, 13, 14, 15, 16, 17, 18, 19, 20, 21, 22, 23, 24, 25, 26, 27, 28, 29, 30, 31, 32, 33, 34, 35, 36, 37, 38, 39] (by decide +kernel) (by decide +kernel)
set_option maxRecDepth 20000 in
theorem gX9_isSo_X9_more : GoodIn wsX9_isSo (wsV RX9 130 RX9 yX9_more wsX9_more) := goodIn_app (goodIn_of _ (by decide +kernel)) ggX9_isSo_X9_more
theorem dX9_isSo_0 : decode cX9_isSo 0 = .ok (.aload_n 0, 1) := by decide +kernel
theorem dX9_isSo_1 : decode cX9_isSo 1 = .ok (.iload_n 1, 1) := by decide +kernel
theorem dX9_isSo_2 : decode cX9_isSo 2 = .ok (.iload_n 2, 1) := by decide +kernel
theorem dX9_isSo_3 : decode cX9_isSo 3 = .ok (.invokevirtual 130, 3) := by decide +kernel
theorem dX9_isSo_6 : decode cX9_isSo 6 = .ok (.ifCond .ge 13, 3) := by decide +kernel
theorem dX9_isSo_9 : decode cX9_isSo 9 = .ok (.aload_n 0, 1) := by decide +kernel
theorem dX9_isSo_10 : decode cX9_isSo 10 = .ok (.iload_n 1, 1) := by decide +kernel
theorem dX9_isSo_11 : decode cX9_isSo 11 = .ok (.iload_n 2, 1) := by decide +kernel
theorem dX9_isSo_12 : decode cX9_isSo 12 = .ok (.invokevirtual 130, 3) := by decide +kernel
theorem dX9_isSo_15 : decode cX9_isSo 15 = .ok (.ineg, 1) := by decide +kernel
theorem dX9_isSo_16 : decode cX9_isSo 16 = .ok (.goto 4, 3) := by decide +kernel
theorem dX9_isSo_19 : decode cX9_isSo 19 = .ok (.iconst 0, 1) := by decide +kernel
theorem dX9_isSo_20 : decode cX9_isSo 20 = .ok (.istore_n 3, 1) := by decide +kernel
theorem dX9_isSo_21 : decode cX9_isSo 21 = .ok (.iconst 1, 1) := by decide +kernel
theorem dX9_isSo_22 : decode cX9_isSo 22 = .ok (.istore 4, 2) := by decide +kernel
theorem dX9_isSo_24 : decode cX9_isSo 24 = .ok (.iconst 0, 1) := by decide +kernel
theorem dX9_isSo_25 : decode cX9_isSo 25 = .ok (.istore 5, 2) := by decide +kernel
theorem dX9_isSo_27 : decode cX9_isSo 27 = .ok (.iload 5, 2) := by decide +kernel
theorem dX9_isSo_29 : decode cX9_isSo 29 = .ok (.aload_n 0, 1) := by decide +kernel
theorem dX9_isSo_30 : decode cX9_isSo 30 = .ok (.getfield 109, 3) := by decide +kernel
theorem dX9_isSo_33 : decode cX9_isSo 33 = .ok (.if_icmp .ge 43, 3) := by decide +kernel
theorem dX9_isSo_36 : decode cX9_isSo 36 = .ok (.iload 4, 2) := by decide +kernel
theorem dX9_isSo_38 : decode cX9_isSo 38 = .ok (.ifCond .eq 29, 3) := by decide +kernel
theorem dX9_isSo_41 : decode cX9_isSo 41 = .ok (.aload_n 0, 1) := by decide +kernel
theorem dX9_isSo_42 : decode cX9_isSo 42 = .ok (.getfield 31, 3) := by decide +kernel
theorem dX9_isSo_45 : decode cX9_isSo 45 = .ok (.iload 5, 2) := by decide +kernel
theorem dX9_isSo_47 : decode cX9_isSo 47 = .ok (.iaload, 1) := by decide +kernel
theorem dX9_isSo_48 : decode cX9_isSo 48 = .ok (.iload_n 1, 1) := by decide +kernel
theorem dX9_isSo_49 : decode cX9_isSo 49 = .ok (.if_icmp .ne 14, 3) := by decide +kernel
theorem dX9_isSo_52 : decode cX9_isSo 52 = .ok (.aload_n 0, 1) := by decide +kernel
theorem dX9_isSo_53 : decode cX9_isSo 53 = .ok (.getfield 34, 3) := by decide +kernel
theorem dX9_isSo_56 : decode cX9_isSo 56 = .ok (.iload 5, 2) := by decide +kernel
theorem dX9_isSo_58 : decode cX9_isSo 58 = .ok (.iaload, 1) := by decide +kernel
theorem dX9_isSo_59 : decode cX9_isSo 59 = .ok (.iload_n 3, 1) := by decide +kernel
theorem dX9_isSo_60 : decode cX9_isSo 60 = .ok (.if_icmp .ne 7, 3) := by decide +kernel
theorem dX9_isSo_63 : decode cX9_isSo 63 = .ok (.iconst 1, 1) := by decide +kernel
theorem dX9_isSo_64 : decode cX9_isSo 64 = .ok (.goto 4, 3) := by decide +kernel
theorem dX9_isSo_67 : decode cX9_isSo 67 = .ok (.iconst 0, 1) := by decide +kernel
theorem dX9_isSo_68 : decode cX9_isSo 68 = .ok (.istore 4, 2) := by decide +kernel
theorem dX9_isSo_70 : decode cX9_isSo 70 = .ok (.iinc 5 1, 3) := by decide +kernel
theorem dX9_isSo_73 : decode cX9_isSo 73 = .ok (.goto (-46), 3) := by decide +kernel
theorem dX9_isSo_76 : decode cX9_isSo 76 = .ok (.iload 4, 2) := by decide +kernel
theorem dX9_isSo_78 : decode cX9_isSo 78 = .ok (.ireturn, 1) := by decide +kernel
set_option maxRecDepth 20000 in
theorem ggX9_fit_X9_power : GoodIn wsX9_fit wsX9_power := goodIn_r _ [8] (by decide +kernel) (by decide +kernel)
set_option maxRecDepth 20000 in
theorem gX9_fit_X9_power : GoodIn wsX9_fit (va_wsS RX9 164 yX9_power wsX9_power) := goodIn_app (goodIn_of _ (by decide +kernel)) ggX9_fit_X9_power
set_option maxRecDepth 20000 in
theorem ggX9_fit_X9_isSo : GoodIn wsX9_fit wsX9_isSo := goodIn_r _ [12, 13, 14, 15, 16, 17, 18, 7, 19, 1, 20, 21, 22, 23, 24, 25, 26, 27, 28, 29, 30, 31, 32, 33, 34, 35, 36, 37, 38, 39, 40, 41, 42, 43, 44, 45, 46, 47, 48, 49] (by decide +kernel) (by decide +kernel)
set_option maxRecDepth 20000 in
theorem gX9_fit_X9_isSo : GoodIn wsX9_fit (wsV RX9 199 RX9 yX9_isSo wsX9_isSo) := goodIn_app (goodIn_of _ (by decide +kernel)) ggX9_fit_X9_isSo
theorem dX9_fit_0 : decode cX9_fit 0 = .ok (.aload_n 0, 1) := by decide +kernel
theorem dX9_fit_1 : decode cX9_fit 1 = .ok (.getfield 16, 3) := by decide +kernel
theorem dX9_fit_4 : decode cX9_fit 4 = .ok (.iconst 0, 1) := by decide +kernel
theorem dX9_fit_5 : decode cX9_fit 5 = .ok (.iaload, 1) := by decide +kernel
theorem dX9_fit_6 : decode cX9_fit 6 = .ok (.ifCond .ne 16, 3) := by decide +kernel
theorem dX9_fit_9 : decode cX9_fit 9 = .ok (.aload_n 0, 1) := by decide +kernel
theorem dX9_fit_10 : decode cX9_fit 10 = .ok (.getfield 16, 3) := by decide +kernel
theorem dX9_fit_13 : decode cX9_fit 13 = .ok (.iconst 1, 1) := by decide +kernel
theorem dX9_fit_14 : decode cX9_fit 14 = .ok (.iaload, 1) := by decide +kernel
theorem dX9_fit_15 : decode cX9_fit 15 = .ok (.ifCond .le 7, 3) := by decide +kernel
theorem dX9_fit_18 : decode cX9_fit 18 = .ok (.iconst 0, 1) := by decide +kernel
theorem dX9_fit_19 : decode cX9_fit 19 = .ok (.goto 18, 3) := by decide +kernel
theorem dX9_fit_22 : decode cX9_fit 22 = .ok (.aload_n 0, 1) := by decide +kernel
theorem dX9_fit_23 : decode cX9_fit 23 = .ok (.getfield 16, 3) := by decide +kernel
theorem dX9_fit_26 : decode cX9_fit 26 = .ok (.iconst 0, 1) := by decide +kernel
theorem dX9_fit_27 : decode cX9_fit 27 = .ok (.iaload, 1) := by decide +kernel
theorem dX9_fit_28 : decode cX9_fit 28 = .ok (.aload_n 0, 1) := by decide +kernel
theorem dX9_fit_29 : decode cX9_fit 29 = .ok (.getfield 16, 3) := by decide +kernel
theorem dX9_fit_32 : decode cX9_fit 32 = .ok (.iconst 1, 1) := by decide +kernel
theorem dX9_fit_33 : decode cX9_fit 33 = .ok (.iaload, 1) := by decide +kernel
theorem dX9_fit_34 : decode cX9_fit 34 = .ok (.invokestatic 164, 3) := by decide +kernel
theorem dX9_fit_37 : decode cX9_fit 37 = .ok (.istore_n 1, 1) := by decide +kernel
theorem dX9_fit_38 : decode cX9_fit 38 = .ok (.aload_n 0, 1) := by decide +kernel
theorem dX9_fit_39 : decode cX9_fit 39 = .ok (.iconst 0, 1) := by decide +kernel
theorem dX9_fit_40 : decode cX9_fit 40 = .ok (.putfield 196, 3) := by decide +kernel
theorem dX9_fit_43 : decode cX9_fit 43 = .ok (.iconst 0, 1) := by decide +kernel
theorem dX9_fit_44 : decode cX9_fit 44 = .ok (.istore_n 2, 1) := by decide +kernel
theorem dX9_fit_45 : decode cX9_fit 45 = .ok (.iload_n 2, 1) := by decide +kernel
theorem dX9_fit_46 : decode cX9_fit 46 = .ok (.bipush 6, 2) := by decide +kernel
theorem dX9_fit_48 : decode cX9_fit 48 = .ok (.if_icmp .ge 24, 3) := by decide +kernel
theorem dX9_fit_51 : decode cX9_fit 51 = .ok (.aload_n 0, 1) := by decide +kernel
theorem dX9_fit_52 : decode cX9_fit 52 = .ok (.getfield 25, 3) := by decide +kernel
theorem dX9_fit_55 : decode cX9_fit 55 = .ok (.iload_n 2, 1) := by decide +kernel
theorem dX9_fit_56 : decode cX9_fit 56 = .ok (.bipush (-9), 2) := by decide +kernel
theorem dX9_fit_58 : decode cX9_fit 58 = .ok (.iastore, 1) := by decide +kernel
theorem dX9_fit_59 : decode cX9_fit 59 = .ok (.aload_n 0, 1) := by decide +kernel
theorem dX9_fit_60 : decode cX9_fit 60 = .ok (.getfield 37, 3) := by decide +kernel
theorem dX9_fit_63 : decode cX9_fit 63 = .ok (.iload_n 2, 1) := by decide +kernel
theorem dX9_fit_64 : decode cX9_fit 64 = .ok (.iconst 0, 1) := by decide +kernel
theorem dX9_fit_65 : decode cX9_fit 65 = .ok (.iastore, 1) := by decide +kernel
theorem dX9_fit_66 : decode cX9_fit 66 = .ok (.iinc 2 1, 3) := by decide +kernel
theorem dX9_fit_69 : decode cX9_fit 69 = .ok (.goto (-24), 3) := by decide +kernel
theorem dX9_fit_72 : decode cX9_fit 72 = .ok (.iconst 0, 1) := by decide +kernel
theorem dX9_fit_73 : decode cX9_fit 73 = .ok (.istore_n 2, 1) := by decide +kernel
theorem dX9_fit_74 : decode cX9_fit 74 = .ok (.iload_n 2, 1) := by decide +kernel
theorem dX9_fit_75 : decode cX9_fit 75 = .ok (.iload_n 1, 1) := by decide +kernel
theorem dX9_fit_76 : decode cX9_fit 76 = .ok (.if_icmp .ge 205, 3) := by decide +kernel
theorem dX9_fit_79 : decode cX9_fit 79 = .ok (.iload_n 2, 1) := by decide +kernel
theorem dX9_fit_80 : decode cX9_fit 80 = .ok (.istore_n 3, 1) := by decide +kernel
theorem dX9_fit_81 : decode cX9_fit 81 = .ok (.iconst 0, 1) := by decide +kernel
theorem dX9_fit_82 : decode cX9_fit 82 = .ok (.istore 4, 2) := by decide +kernel
theorem dX9_fit_84 : decode cX9_fit 84 = .ok (.iconst 1, 1) := by decide +kernel
theorem dX9_fit_85 : decode cX9_fit 85 = .ok (.istore 5, 2) := by decide +kernel
theorem dX9_fit_87 : decode cX9_fit 87 = .ok (.aload_n 0, 1) := by decide +kernel
theorem dX9_fit_88 : decode cX9_fit 88 = .ok (.getfield 16, 3) := by decide +kernel
theorem dX9_fit_91 : decode cX9_fit 91 = .ok (.iconst 1, 1) := by decide +kernel
theorem dX9_fit_92 : decode cX9_fit 92 = .ok (.iaload, 1) := by decide +kernel
theorem dX9_fit_93 : decode cX9_fit 93 = .ok (.iconst 1, 1) := by decide +kernel
theorem dX9_fit_94 : decode cX9_fit 94 = .ok (.isub, 1) := by decide +kernel
theorem dX9_fit_95 : decode cX9_fit 95 = .ok (.istore 6, 2) := by decide +kernel
theorem dX9_fit_97 : decode cX9_fit 97 = .ok (.iload 6, 2) := by decide +kernel
theorem dX9_fit_99 : decode cX9_fit 99 = .ok (.ifCond .lt 70, 3) := by decide +kernel
theorem dX9_fit_102 : decode cX9_fit 102 = .ok (.iload 5, 2) := by decide +kernel
theorem dX9_fit_104 : decode cX9_fit 104 = .ok (.ifCond .eq 65, 3) := by decide +kernel
theorem dX9_fit_107 : decode cX9_fit 107 = .ok (.iload_n 3, 1) := by decide +kernel
theorem dX9_fit_108 : decode cX9_fit 108 = .ok (.aload_n 0, 1) := by decide +kernel
theorem dX9_fit_109 : decode cX9_fit 109 = .ok (.getfield 16, 3) := by decide +kernel
theorem dX9_fit_112 : decode cX9_fit 112 = .ok (.iconst 0, 1) := by decide +kernel
theorem dX9_fit_113 : decode cX9_fit 113 = .ok (.iaload, 1) := by decide +kernel
theorem dX9_fit_114 : decode cX9_fit 114 = .ok (.irem, 1) := by decide +kernel
theorem dX9_fit_115 : decode cX9_fit 115 = .ok (.istore 7, 2) := by decide +kernel
theorem dX9_fit_117 : decode cX9_fit 117 = .ok (.iload_n 3, 1) := by decide +kernel
theorem dX9_fit_118 : decode cX9_fit 118 = .ok (.aload_n 0, 1) := by decide +kernel
theorem dX9_fit_119 : decode cX9_fit 119 = .ok (.getfield 16, 3) := by decide +kernel
theorem dX9_fit_122 : decode cX9_fit 122 = .ok (.iconst 0, 1) := by decide +kernel
theorem dX9_fit_123 : decode cX9_fit 123 = .ok (.iaload, 1) := by decide +kernel
theorem dX9_fit_124 : decode cX9_fit 124 = .ok (.idiv, 1) := by decide +kernel
theorem dX9_fit_125 : decode cX9_fit 125 = .ok (.istore_n 3, 1) := by decide +kernel
theorem dX9_fit_126 : decode cX9_fit 126 = .ok (.iload 4, 2) := by decide +kernel
theorem dX9_fit_128 : decode cX9_fit 128 = .ok (.iload 7, 2) := by decide +kernel
theorem dX9_fit_130 : decode cX9_fit 130 = .ok (.ishr, 1) := by decide +kernel
theorem dX9_fit_131 : decode cX9_fit 131 = .ok (.iconst 1, 1) := by decide +kernel
theorem dX9_fit_132 : decode cX9_fit 132 = .ok (.iand, 1) := by decide +kernel
theorem dX9_fit_133 : decode cX9_fit 133 = .ok (.ifCond .ne 18, 3) := by decide +kernel
theorem dX9_fit_136 : decode cX9_fit 136 = .ok (.aload_n 0, 1) := by decide +kernel
theorem dX9_fit_137 : decode cX9_fit 137 = .ok (.iload 6, 2) := by decide +kernel
theorem dX9_fit_139 : decode cX9_fit 139 = .ok (.iload 7, 2) := by decide +kernel
theorem dX9_fit_141 : decode cX9_fit 141 = .ok (.invokevirtual 199, 3) := by decide +kernel
theorem dX9_fit_144 : decode cX9_fit 144 = .ok (.ifCond .eq 7, 3) := by decide +kernel
theorem dX9_fit_147 : decode cX9_fit 147 = .ok (.iconst 1, 1) := by decide +kernel
theorem dX9_fit_148 : decode cX9_fit 148 = .ok (.goto 4, 3) := by decide +kernel
theorem dX9_fit_151 : decode cX9_fit 151 = .ok (.iconst 0, 1) := by decide +kernel
theorem dX9_fit_152 : decode cX9_fit 152 = .ok (.istore 5, 2) := by decide +kernel
theorem dX9_fit_154 : decode cX9_fit 154 = .ok (.iload 4, 2) := by decide +kernel
theorem dX9_fit_156 : decode cX9_fit 156 = .ok (.iconst 1, 1) := by decide +kernel
theorem dX9_fit_157 : decode cX9_fit 157 = .ok (.iload 7, 2) := by decide +kernel
theorem dX9_fit_159 : decode cX9_fit 159 = .ok (.ishl, 1) := by decide +kernel
theorem dX9_fit_160 : decode cX9_fit 160 = .ok (.ior, 1) := by decide +kernel
theorem dX9_fit_161 : decode cX9_fit 161 = .ok (.istore 4, 2) := by decide +kernel
theorem dX9_fit_163 : decode cX9_fit 163 = .ok (.iinc 6 (-1), 3) := by decide +kernel
theorem dX9_fit_166 : decode cX9_fit 166 = .ok (.goto (-69), 3) := by decide +kernel
theorem dX9_fit_169 : decode cX9_fit 169 = .ok (.iload_n 2, 1) := by decide +kernel
theorem dX9_fit_170 : decode cX9_fit 170 = .ok (.istore_n 3, 1) := by decide +kernel
theorem dX9_fit_171 : decode cX9_fit 171 = .ok (.aload_n 0, 1) := by decide +kernel
theorem dX9_fit_172 : decode cX9_fit 172 = .ok (.getfield 16, 3) := by decide +kernel
theorem dX9_fit_175 : decode cX9_fit 175 = .ok (.iconst 1, 1) := by decide +kernel
theorem dX9_fit_176 : decode cX9_fit 176 = .ok (.iaload, 1) := by decide +kernel
theorem dX9_fit_177 : decode cX9_fit 177 = .ok (.iconst 1, 1) := by decide +kernel
theorem dX9_fit_178 : decode cX9_fit 178 = .ok (.isub, 1) := by decide +kernel
theorem dX9_fit_179 : decode cX9_fit 179 = .ok (.istore 6, 2) := by decide +kernel
theorem dX9_fit_181 : decode cX9_fit 181 = .ok (.iload 6, 2) := by decide +kernel
theorem dX9_fit_183 : decode cX9_fit 183 = .ok (.ifCond .lt 73, 3) := by decide +kernel
theorem dX9_fit_186 : decode cX9_fit 186 = .ok (.iload 5, 2) := by decide +kernel
theorem dX9_fit_188 : decode cX9_fit 188 = .ok (.ifCond .eq 68, 3) := by decide +kernel
theorem dX9_fit_191 : decode cX9_fit 191 = .ok (.iload_n 3, 1) := by decide +kernel
theorem dX9_fit_192 : decode cX9_fit 192 = .ok (.aload_n 0, 1) := by decide +kernel
theorem dX9_fit_193 : decode cX9_fit 193 = .ok (.getfield 16, 3) := by decide +kernel
theorem dX9_fit_196 : decode cX9_fit 196 = .ok (.iconst 0, 1) := by decide +kernel
theorem dX9_fit_197 : decode cX9_fit 197 = .ok (.iaload, 1) := by decide +kernel
theorem dX9_fit_198 : decode cX9_fit 198 = .ok (.irem, 1) := by decide +kernel
theorem dX9_fit_199 : decode cX9_fit 199 = .ok (.istore 7, 2) := by decide +kernel
theorem dX9_fit_201 : decode cX9_fit 201 = .ok (.iload_n 3, 1) := by decide +kernel
theorem dX9_fit_202 : decode cX9_fit 202 = .ok (.aload_n 0, 1) := by decide +kernel
theorem dX9_fit_203 : decode cX9_fit 203 = .ok (.getfield 16, 3) := by decide +kernel
theorem dX9_fit_206 : decode cX9_fit 206 = .ok (.iconst 0, 1) := by decide +kernel
theorem dX9_fit_207 : decode cX9_fit 207 = .ok (.iaload, 1) := by decide +kernel
theorem dX9_fit_208 : decode cX9_fit 208 = .ok (.idiv, 1) := by decide +kernel
theorem dX9_fit_209 : decode cX9_fit 209 = .ok (.istore_n 3, 1) := by decide +kernel
theorem dX9_fit_210 : decode cX9_fit 210 = .ok (.aload_n 0, 1) := by decide +kernel
theorem dX9_fit_211 : decode cX9_fit 211 = .ok (.getfield 37, 3) := by decide +kernel
theorem dX9_fit_214 : decode cX9_fit 214 = .ok (.iload 6, 2) := by decide +kernel
theorem dX9_fit_216 : decode cX9_fit 216 = .ok (.dup2, 1) := by decide +kernel
theorem dX9_fit_217 : decode cX9_fit 217 = .ok (.iaload, 1) := by decide +kernel
theorem dX9_fit_218 : decode cX9_fit 218 = .ok (.iconst 1, 1) := by decide +kernel
theorem dX9_fit_219 : decode cX9_fit 219 = .ok (.iload 7, 2) := by decide +kernel
theorem dX9_fit_221 : decode cX9_fit 221 = .ok (.ishl, 1) := by decide +kernel
theorem dX9_fit_222 : decode cX9_fit 222 = .ok (.ior, 1) := by decide +kernel
theorem dX9_fit_223 : decode cX9_fit 223 = .ok (.iastore, 1) := by decide +kernel
theorem dX9_fit_224 : decode cX9_fit 224 = .ok (.aload_n 0, 1) := by decide +kernel
theorem dX9_fit_225 : decode cX9_fit 225 = .ok (.getfield 25, 3) := by decide +kernel
theorem dX9_fit_228 : decode cX9_fit 228 = .ok (.iload 6, 2) := by decide +kernel
theorem dX9_fit_230 : decode cX9_fit 230 = .ok (.aload_n 0, 1) := by decide +kernel
theorem dX9_fit_231 : decode cX9_fit 231 = .ok (.getfield 196, 3) := by decide +kernel
theorem dX9_fit_234 : decode cX9_fit 234 = .ok (.ifCond .ne 8, 3) := by decide +kernel
theorem dX9_fit_237 : decode cX9_fit 237 = .ok (.iload 7, 2) := by decide +kernel
theorem dX9_fit_239 : decode cX9_fit 239 = .ok (.goto 10, 3) := by decide +kernel
theorem dX9_fit_242 : decode cX9_fit 242 = .ok (.aload_n 0, 1) := by decide +kernel
theorem dX9_fit_243 : decode cX9_fit 243 = .ok (.getfield 25, 3) := by decide +kernel
theorem dX9_fit_246 : decode cX9_fit 246 = .ok (.iload 6, 2) := by decide +kernel
theorem dX9_fit_248 : decode cX9_fit 248 = .ok (.iaload, 1) := by decide +kernel
theorem dX9_fit_249 : decode cX9_fit 249 = .ok (.iastore, 1) := by decide +kernel
theorem dX9_fit_250 : decode cX9_fit 250 = .ok (.iinc 6 (-1), 3) := by decide +kernel
theorem dX9_fit_253 : decode cX9_fit 253 = .ok (.goto (-72), 3) := by decide +kernel
theorem dX9_fit_256 : decode cX9_fit 256 = .ok (.aload_n 0, 1) := by decide +kernel
theorem dX9_fit_257 : decode cX9_fit 257 = .ok (.dup, 1) := by decide +kernel
theorem dX9_fit_258 : decode cX9_fit 258 = .ok (.getfield 196, 3) := by decide +kernel
theorem dX9_fit_261 : decode cX9_fit 261 = .ok (.iload 5, 2) := by decide +kernel
theorem dX9_fit_263 : decode cX9_fit 263 = .ok (.ifCond .eq 7, 3) := by decide +kernel
theorem dX9_fit_266 : decode cX9_fit 266 = .ok (.iconst 1, 1) := by decide +kernel
theorem dX9_fit_267 : decode cX9_fit 267 = .ok (.goto 4, 3) := by decide +kernel
theorem dX9_fit_270 : decode cX9_fit 270 = .ok (.iconst 0, 1) := by decide +kernel
theorem dX9_fit_271 : decode cX9_fit 271 = .ok (.iadd, 1) := by decide +kernel
theorem dX9_fit_272 : decode cX9_fit 272 = .ok (.putfield 196, 3) := by decide +kernel
theorem dX9_fit_275 : decode cX9_fit 275 = .ok (.iinc 2 1, 3) := by decide +kernel
theorem dX9_fit_278 : decode cX9_fit 278 = .ok (.goto (-204), 3) := by decide +kernel
theorem dX9_fit_281 : decode cX9_fit 281 = .ok (.return_, 1) := by decide +kernel
set_option maxRecDepth 20000 in
theorem ggX9_fits_X9_in : GoodIn wsX9_fits wsX9_in := goodIn_r _ [8] (by decide +kernel) (by decide +kernel)
set_option maxRecDepth 20000 in
theorem gX9_fits_X9_in : GoodIn wsX9_fits (va_wsS RX9 48 yX9_in wsX9_in) := goodIn_app (goodIn_of _ (by decide +kernel)) ggX9_fits_X9_in
set_option maxRecDepth 20000 in
theorem ggX9_fits_X9_fit : GoodIn wsX9_fits wsX9_fit := goodIn_r _ [12, 2, 3, 4, 13, 14, 15, 7, 16, 17, 18, 19, 20, 21, 22, 23, 24, 25, 26, 27, 28, 29, 30, 31, 32, 33, 34, 35, 36, 37, 38, 39, 40, 41, 42, 43, 44, 45, 46, 47, 48, 49, 50, 51, 52, 53, 54, 55, 56, 57] (by decide +kernel) (by decide +kernel)
set_option maxRecDepth 20000 in
theorem gX9_fits_X9_fit : GoodIn wsX9_fits (wsV RX9 202 RX9 yX9_fit wsX9_fit) := goodIn_app (goodIn_of _ (by decide +kernel)) ggX9_fits_X9_fit
theorem dX9_fits_0 : decode cX9_fits 0 = .ok (.iload_n 1, 1) := by decide +kernel
theorem dX9_fits_1 : decode cX9_fits 1 = .ok (.i2l, 1) := by decide +kernel
theorem dX9_fits_2 : decode cX9_fits 2 = .ok (.ldc2_w 148, 3) := by decide +kernel
theorem dX9_fits_5 : decode cX9_fits 5 = .ok (.aload_n 0, 1) := by decide +kernel
theorem dX9_fits_6 : decode cX9_fits 6 = .ok (.getfield 16, 3) := by decide +kernel
theorem dX9_fits_9 : decode cX9_fits 9 = .ok (.iconst 1, 1) := by decide +kernel
theorem dX9_fits_10 : decode cX9_fits 10 = .ok (.iaload, 1) := by decide +kernel
