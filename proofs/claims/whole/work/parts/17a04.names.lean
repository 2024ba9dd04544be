theorem dX6_embedding_33 : decode cX6_embedding 33 = .ok (.if_icmp .gt 30, 3) := by decide +kernel
theorem dX6_embedding_36 : decode cX6_embedding 36 = .ok (.iload_n 3, 1) := by decide +kernel
theorem dX6_embedding_37 : decode cX6_embedding 37 = .ok (.i2l, 1) := by decide +kernel
theorem dX6_embedding_38 : decode cX6_embedding 38 = .ok (.aload_n 0, 1) := by decide +kernel
theorem dX6_embedding_39 : decode cX6_embedding 39 = .ok (.getfield 47, 3) := by decide +kernel
theorem dX6_embedding_42 : decode cX6_embedding 42 = .ok (.i2l, 1) := by decide +kernel
theorem dX6_embedding_43 : decode cX6_embedding 43 = .ok (.lmul, 1) := by decide +kernel
theorem dX6_embedding_44 : decode cX6_embedding 44 = .ok (.iload_n 2, 1) := by decide +kernel
theorem dX6_embedding_45 : decode cX6_embedding 45 = .ok (.i2l, 1) := by decide +kernel
theorem dX6_embedding_46 : decode cX6_embedding 46 = .ok (.lrem, 1) := by decide +kernel
theorem dX6_embedding_47 : decode cX6_embedding 47 = .ok (.l2i, 1) := by decide +kernel
theorem dX6_embedding_48 : decode cX6_embedding 48 = .ok (.istore_n 3, 1) := by decide +kernel
theorem dX6_embedding_49 : decode cX6_embedding 49 = .ok (.iload_n 3, 1) := by decide +kernel
theorem dX6_embedding_50 : decode cX6_embedding 50 = .ok (.iconst 1, 1) := by decide +kernel
theorem dX6_embedding_51 : decode cX6_embedding 51 = .ok (.if_icmp .ne 6, 3) := by decide +kernel
theorem dX6_embedding_54 : decode cX6_embedding 54 = .ok (.iload 4, 2) := by decide +kernel
theorem dX6_embedding_56 : decode cX6_embedding 56 = .ok (.ireturn, 1) := by decide +kernel
theorem dX6_embedding_57 : decode cX6_embedding 57 = .ok (.iinc 4 1, 3) := by decide +kernel
theorem dX6_embedding_60 : decode cX6_embedding 60 = .ok (.goto (-30), 3) := by decide +kernel
theorem dX6_embedding_63 : decode cX6_embedding 63 = .ok (.iconst (-1), 1) := by decide +kernel
theorem dX6_embedding_64 : decode cX6_embedding 64 = .ok (.ireturn, 1) := by decide +kernel
set_option maxRecDepth 20000 in
theorem ggX6_quotient_X6_has : GoodIn wsX6_quotient wsX6_has := goodIn_r _ [16, 1, 17, 18, 19, 20, 21, 15, 22, 23, 24, 25, 26, 3, 6, 27, 28, 29, 30, 31, 7, 32, 33, 34, 77, 78, 79, 80, 81, 82, 83, 84, 85, 86, 87, 88, 89, 90, 91, 92, 93, 94] (by decide +kernel) (by decide +kernel)
set_option maxRecDepth 20000 in
theorem gX6_quotient_X6_has : GoodIn wsX6_quotient (wsV RX6 132 RX6 yX6_has wsX6_has) := goodIn_app (goodIn_of _ (by decide +kernel)) ggX6_quotient_X6_has
set_option maxRecDepth 20000 in
theorem ggX6_quotient_X6_isPoint : GoodIn wsX6_quotient wsX6_isPoint := goodIn_r _ [38, 7, 39, 40, 41, 15, 42, 43, 44, 45, 46, 3, 6, 47, 48, 49, 50, 77, 78, 79, 80, 81, 82, 83, 84, 85, 86, 87, 88, 89, 90, 91, 92, 93, 94] (by decide +kernel) (by decide +kernel)
set_option maxRecDepth 20000 in
theorem gX6_quotient_X6_isPoint : GoodIn wsX6_quotient (wsV RX6 151 RX6 yX6_isPoint wsX6_isPoint) := goodIn_app (goodIn_of _ (by decide +kernel)) ggX6_quotient_X6_isPoint
set_option maxRecDepth 20000 in
theorem ggX6_quotient_X6_orderOf : GoodIn wsX6_quotient wsX6_orderOf := goodIn_r _ [54, 27, 55, 56, 57, 15, 58, 59, 7, 60, 34, 43, 44, 45, 46, 3, 6, 39, 40, 41, 42, 47, 48, 49, 50, 61, 62, 63, 64, 5, 65, 66, 67, 68, 69, 70, 71, 72, 2, 33, 77, 78, 79, 80, 81, 82, 83, 84, 85, 86, 87, 88, 89, 90, 91, 92, 93, 94] (by decide +kernel) (by decide +kernel)
set_option maxRecDepth 20000 in
theorem gX6_quotient_X6_orderOf : GoodIn wsX6_quotient (wsV RX6 162 RX6 yX6_orderOf wsX6_orderOf) := goodIn_app (goodIn_of _ (by decide +kernel)) ggX6_quotient_X6_orderOf
set_option maxRecDepth 20000 in
theorem ggX6_quotient_X6_mul : GoodIn wsX6_quotient wsX6_mul := goodIn_r _ [42, 7, 77, 78, 79, 80, 81, 82, 83, 84, 85, 86, 87, 88, 89, 90, 91, 92, 93, 94] (by decide +kernel) (by decide +kernel)
set_option maxRecDepth 20000 in
theorem gX6_quotient_X6_mul : GoodIn wsX6_quotient (wsV RX6 57 RX6 yX6_mul wsX6_mul) := goodIn_app (goodIn_of _ (by decide +kernel)) ggX6_quotient_X6_mul
set_option maxRecDepth 20000 in
theorem ggX6_quotient_X6_mod : GoodIn wsX6_quotient wsX6_mod := goodIn_r _ [50, 7, 77, 78, 79, 80, 81, 82, 83, 84, 85, 86, 87, 88, 89, 90, 91, 92, 93, 94] (by decide +kernel) (by decide +kernel)
set_option maxRecDepth 20000 in
theorem gX6_quotient_X6_mod : GoodIn wsX6_quotient (wsV RX6 67 RX6 yX6_mod wsX6_mod) := goodIn_app (goodIn_of _ (by decide +kernel)) ggX6_quotient_X6_mod
set_option maxRecDepth 20000 in
theorem ggX6_quotient_X6_sum : GoodIn wsX6_quotient wsX6_sum := goodIn_r _ [72, 7, 2, 3, 33, 5, 39, 40, 41, 15, 42, 47, 48, 49, 50, 77, 78, 79, 80, 81, 82, 83, 84, 85, 86, 87, 88, 89, 90, 91, 92, 93, 94] (by decide +kernel) (by decide +kernel)
set_option maxRecDepth 20000 in
theorem gX6_quotient_X6_sum : GoodIn wsX6_quotient (wsV RX6 86 RX6 yX6_sum wsX6_sum) := goodIn_app (goodIn_of _ (by decide +kernel)) ggX6_quotient_X6_sum
set_option maxRecDepth 20000 in
theorem ggX6_quotient_X6_make : GoodIn wsX6_quotient wsX6_make := goodIn_r _ [76, 17, 1, 18, 19, 9, 77, 78, 79, 80, 81, 82, 83, 84, 85, 86, 87, 88, 89, 90, 91, 92, 93, 94] (by decide +kernel) (by decide +kernel)
set_option maxRecDepth 20000 in
theorem gX6_quotient_X6_make : GoodIn wsX6_quotient (wsV RX6 126 RX6 yX6_make wsX6_make) := goodIn_app (goodIn_of _ (by decide +kernel)) ggX6_quotient_X6_make
theorem dX6_quotient_8 : decode cX6_quotient 8 = .ok (.aload_n 0, 1) := by decide +kernel
theorem dX6_quotient_9 : decode cX6_quotient 9 = .ok (.iload_n 2, 1) := by decide +kernel
theorem dX6_quotient_10 : decode cX6_quotient 10 = .ok (.invokevirtual 151, 3) := by decide +kernel
theorem dX6_quotient_13 : decode cX6_quotient 13 = .ok (.ifCond .ne 6, 3) := by decide +kernel
theorem dX6_quotient_19 : decode cX6_quotient 19 = .ok (.aload_n 0, 1) := by decide +kernel
theorem dX6_quotient_20 : decode cX6_quotient 20 = .ok (.iload_n 2, 1) := by decide +kernel
theorem dX6_quotient_21 : decode cX6_quotient 21 = .ok (.invokevirtual 162, 3) := by decide +kernel
theorem dX6_quotient_24 : decode cX6_quotient 24 = .ok (.istore_n 3, 1) := by decide +kernel
theorem dX6_quotient_25 : decode cX6_quotient 25 = .ok (.iload_n 3, 1) := by decide +kernel
theorem dX6_quotient_26 : decode cX6_quotient 26 = .ok (.sipush 400, 3) := by decide +kernel
theorem dX6_quotient_29 : decode cX6_quotient 29 = .ok (.if_icmp .le 6, 3) := by decide +kernel
theorem dX6_quotient_32 : decode cX6_quotient 32 = .ok (.bipush (-3), 2) := by decide +kernel
theorem dX6_quotient_34 : decode cX6_quotient 34 = .ok (.ireturn, 1) := by decide +kernel
theorem dX6_quotient_35 : decode cX6_quotient 35 = .ok (.aload_n 0, 1) := by decide +kernel
theorem dX6_quotient_36 : decode cX6_quotient 36 = .ok (.getfield 112, 3) := by decide +kernel
theorem dX6_quotient_39 : decode cX6_quotient 39 = .ok (.bipush 24, 2) := by decide +kernel
theorem dX6_quotient_41 : decode cX6_quotient 41 = .ok (.if_icmp .ne 6, 3) := by decide +kernel
theorem dX6_quotient_44 : decode cX6_quotient 44 = .ok (.bipush (-4), 2) := by decide +kernel
theorem dX6_quotient_46 : decode cX6_quotient 46 = .ok (.ireturn, 1) := by decide +kernel
theorem dX6_quotient_47 : decode cX6_quotient 47 = .ok (.lconst 0, 1) := by decide +kernel
theorem dX6_quotient_48 : decode cX6_quotient 48 = .ok (.lstore 4, 2) := by decide +kernel
theorem dX6_quotient_50 : decode cX6_quotient 50 = .ok (.lconst 0, 1) := by decide +kernel
theorem dX6_quotient_51 : decode cX6_quotient 51 = .ok (.lstore 6, 2) := by decide +kernel
theorem dX6_quotient_53 : decode cX6_quotient 53 = .ok (.iload_n 2, 1) := by decide +kernel
theorem dX6_quotient_54 : decode cX6_quotient 54 = .ok (.istore 8, 2) := by decide +kernel
theorem dX6_quotient_56 : decode cX6_quotient 56 = .ok (.iconst 1, 1) := by decide +kernel
theorem dX6_quotient_57 : decode cX6_quotient 57 = .ok (.istore 9, 2) := by decide +kernel
theorem dX6_quotient_59 : decode cX6_quotient 59 = .ok (.iload 9, 2) := by decide +kernel
theorem dX6_quotient_61 : decode cX6_quotient 61 = .ok (.iload_n 3, 1) := by decide +kernel
theorem dX6_quotient_62 : decode cX6_quotient 62 = .ok (.if_icmp .ge 108, 3) := by decide +kernel
theorem dX6_quotient_65 : decode cX6_quotient 65 = .ok (.iload 8, 2) := by decide +kernel
theorem dX6_quotient_67 : decode cX6_quotient 67 = .ok (.sipush 16384, 3) := by decide +kernel
theorem dX6_quotient_70 : decode cX6_quotient 70 = .ok (.idiv, 1) := by decide +kernel
theorem dX6_quotient_71 : decode cX6_quotient 71 = .ok (.istore 10, 2) := by decide +kernel
theorem dX6_quotient_73 : decode cX6_quotient 73 = .ok (.aload_n 0, 1) := by decide +kernel
theorem dX6_quotient_74 : decode cX6_quotient 74 = .ok (.iload 10, 2) := by decide +kernel
theorem dX6_quotient_76 : decode cX6_quotient 76 = .ok (.iload 10, 2) := by decide +kernel
theorem dX6_quotient_78 : decode cX6_quotient 78 = .ok (.invokevirtual 57, 3) := by decide +kernel
theorem dX6_quotient_81 : decode cX6_quotient 81 = .ok (.istore 11, 2) := by decide +kernel
theorem dX6_quotient_83 : decode cX6_quotient 83 = .ok (.lload 4, 2) := by decide +kernel
theorem dX6_quotient_85 : decode cX6_quotient 85 = .ok (.aload_n 0, 1) := by decide +kernel
theorem dX6_quotient_86 : decode cX6_quotient 86 = .ok (.ldc2_w 79, 3) := by decide +kernel
theorem dX6_quotient_89 : decode cX6_quotient 89 = .ok (.iload 11, 2) := by decide +kernel
theorem dX6_quotient_91 : decode cX6_quotient 91 = .ok (.i2l, 1) := by decide +kernel
theorem dX6_quotient_92 : decode cX6_quotient 92 = .ok (.lmul, 1) := by decide +kernel
theorem dX6_quotient_93 : decode cX6_quotient 93 = .ok (.aload_n 0, 1) := by decide +kernel
theorem dX6_quotient_94 : decode cX6_quotient 94 = .ok (.getfield 61, 3) := by decide +kernel
theorem dX6_quotient_97 : decode cX6_quotient 97 = .ok (.i2l, 1) := by decide +kernel
theorem dX6_quotient_98 : decode cX6_quotient 98 = .ok (.ladd, 1) := by decide +kernel
theorem dX6_quotient_99 : decode cX6_quotient 99 = .ok (.invokevirtual 67, 3) := by decide +kernel
theorem dX6_quotient_102 : decode cX6_quotient 102 = .ok (.i2l, 1) := by decide +kernel
theorem dX6_quotient_103 : decode cX6_quotient 103 = .ok (.ladd, 1) := by decide +kernel
theorem dX6_quotient_104 : decode cX6_quotient 104 = .ok (.lstore 4, 2) := by decide +kernel
theorem dX6_quotient_106 : decode cX6_quotient 106 = .ok (.lload 6, 2) := by decide +kernel
theorem dX6_quotient_108 : decode cX6_quotient 108 = .ok (.aload_n 0, 1) := by decide +kernel
theorem dX6_quotient_109 : decode cX6_quotient 109 = .ok (.ldc2_w 96, 3) := by decide +kernel
theorem dX6_quotient_112 : decode cX6_quotient 112 = .ok (.aload_n 0, 1) := by decide +kernel
theorem dX6_quotient_113 : decode cX6_quotient 113 = .ok (.iload 11, 2) := by decide +kernel
theorem dX6_quotient_115 : decode cX6_quotient 115 = .ok (.iload 10, 2) := by decide +kernel
theorem dX6_quotient_117 : decode cX6_quotient 117 = .ok (.invokevirtual 57, 3) := by decide +kernel
theorem dX6_quotient_120 : decode cX6_quotient 120 = .ok (.i2l, 1) := by decide +kernel
theorem dX6_quotient_121 : decode cX6_quotient 121 = .ok (.lmul, 1) := by decide +kernel
theorem dX6_quotient_122 : decode cX6_quotient 122 = .ok (.ldc2_w 79, 3) := by decide +kernel
theorem dX6_quotient_125 : decode cX6_quotient 125 = .ok (.aload_n 0, 1) := by decide +kernel
theorem dX6_quotient_126 : decode cX6_quotient 126 = .ok (.aload_n 0, 1) := by decide +kernel
theorem dX6_quotient_127 : decode cX6_quotient 127 = .ok (.getfield 61, 3) := by decide +kernel
theorem dX6_quotient_130 : decode cX6_quotient 130 = .ok (.iload 10, 2) := by decide +kernel
theorem dX6_quotient_132 : decode cX6_quotient 132 = .ok (.invokevirtual 57, 3) := by decide +kernel
theorem dX6_quotient_135 : decode cX6_quotient 135 = .ok (.i2l, 1) := by decide +kernel
theorem dX6_quotient_136 : decode cX6_quotient 136 = .ok (.lmul, 1) := by decide +kernel
theorem dX6_quotient_137 : decode cX6_quotient 137 = .ok (.ladd, 1) := by decide +kernel
theorem dX6_quotient_138 : decode cX6_quotient 138 = .ok (.ldc2_w 81, 3) := by decide +kernel
theorem dX6_quotient_141 : decode cX6_quotient 141 = .ok (.aload_n 0, 1) := by decide +kernel
theorem dX6_quotient_142 : decode cX6_quotient 142 = .ok (.getfield 64, 3) := by decide +kernel
theorem dX6_quotient_145 : decode cX6_quotient 145 = .ok (.i2l, 1) := by decide +kernel
theorem dX6_quotient_146 : decode cX6_quotient 146 = .ok (.lmul, 1) := by decide +kernel
theorem dX6_quotient_147 : decode cX6_quotient 147 = .ok (.ladd, 1) := by decide +kernel
theorem dX6_quotient_148 : decode cX6_quotient 148 = .ok (.invokevirtual 67, 3) := by decide +kernel
theorem dX6_quotient_151 : decode cX6_quotient 151 = .ok (.i2l, 1) := by decide +kernel
theorem dX6_quotient_152 : decode cX6_quotient 152 = .ok (.ladd, 1) := by decide +kernel
theorem dX6_quotient_153 : decode cX6_quotient 153 = .ok (.lstore 6, 2) := by decide +kernel
theorem dX6_quotient_155 : decode cX6_quotient 155 = .ok (.aload_n 0, 1) := by decide +kernel
theorem dX6_quotient_156 : decode cX6_quotient 156 = .ok (.iload 8, 2) := by decide +kernel
theorem dX6_quotient_158 : decode cX6_quotient 158 = .ok (.iload_n 2, 1) := by decide +kernel
theorem dX6_quotient_159 : decode cX6_quotient 159 = .ok (.invokevirtual 86, 3) := by decide +kernel
theorem dX6_quotient_162 : decode cX6_quotient 162 = .ok (.istore 8, 2) := by decide +kernel
theorem dX6_quotient_164 : decode cX6_quotient 164 = .ok (.iinc 9 1, 3) := by decide +kernel
theorem dX6_quotient_167 : decode cX6_quotient 167 = .ok (.goto (-108), 3) := by decide +kernel
theorem dX6_quotient_170 : decode cX6_quotient 170 = .ok (.aload_n 0, 1) := by decide +kernel
theorem dX6_quotient_171 : decode cX6_quotient 171 = .ok (.aload_n 0, 1) := by decide +kernel
theorem dX6_quotient_172 : decode cX6_quotient 172 = .ok (.getfield 47, 3) := by decide +kernel
theorem dX6_quotient_175 : decode cX6_quotient 175 = .ok (.aload_n 0, 1) := by decide +kernel
theorem dX6_quotient_176 : decode cX6_quotient 176 = .ok (.aload_n 0, 1) := by decide +kernel
theorem dX6_quotient_177 : decode cX6_quotient 177 = .ok (.getfield 61, 3) := by decide +kernel
theorem dX6_quotient_180 : decode cX6_quotient 180 = .ok (.i2l, 1) := by decide +kernel
theorem dX6_quotient_181 : decode cX6_quotient 181 = .ok (.ldc2_w 96, 3) := by decide +kernel
theorem dX6_quotient_184 : decode cX6_quotient 184 = .ok (.aload_n 0, 1) := by decide +kernel
theorem dX6_quotient_185 : decode cX6_quotient 185 = .ok (.lload 4, 2) := by decide +kernel
theorem dX6_quotient_187 : decode cX6_quotient 187 = .ok (.invokevirtual 67, 3) := by decide +kernel
theorem dX6_quotient_190 : decode cX6_quotient 190 = .ok (.i2l, 1) := by decide +kernel
theorem dX6_quotient_191 : decode cX6_quotient 191 = .ok (.lmul, 1) := by decide +kernel
theorem dX6_quotient_192 : decode cX6_quotient 192 = .ok (.lsub, 1) := by decide +kernel
theorem dX6_quotient_193 : decode cX6_quotient 193 = .ok (.invokevirtual 67, 3) := by decide +kernel
theorem dX6_quotient_196 : decode cX6_quotient 196 = .ok (.aload_n 0, 1) := by decide +kernel
theorem dX6_quotient_197 : decode cX6_quotient 197 = .ok (.aload_n 0, 1) := by decide +kernel
theorem dX6_quotient_198 : decode cX6_quotient 198 = .ok (.getfield 64, 3) := by decide +kernel
theorem dX6_quotient_201 : decode cX6_quotient 201 = .ok (.i2l, 1) := by decide +kernel
theorem dX6_quotient_202 : decode cX6_quotient 202 = .ok (.ldc2_w 177, 3) := by decide +kernel
theorem dX6_quotient_205 : decode cX6_quotient 205 = .ok (.aload_n 0, 1) := by decide +kernel
theorem dX6_quotient_206 : decode cX6_quotient 206 = .ok (.lload 6, 2) := by decide +kernel
theorem dX6_quotient_208 : decode cX6_quotient 208 = .ok (.invokevirtual 67, 3) := by decide +kernel
theorem dX6_quotient_211 : decode cX6_quotient 211 = .ok (.i2l, 1) := by decide +kernel
theorem dX6_quotient_212 : decode cX6_quotient 212 = .ok (.lmul, 1) := by decide +kernel
theorem dX6_quotient_213 : decode cX6_quotient 213 = .ok (.lsub, 1) := by decide +kernel
theorem dX6_quotient_214 : decode cX6_quotient 214 = .ok (.invokevirtual 67, 3) := by decide +kernel
theorem dX6_quotient_217 : decode cX6_quotient 217 = .ok (.invokevirtual 126, 3) := by decide +kernel
theorem dX6_quotient_220 : decode cX6_quotient 220 = .ok (.istore 9, 2) := by decide +kernel
theorem dX6_quotient_222 : decode cX6_quotient 222 = .ok (.aload_n 0, 1) := by decide +kernel
theorem dX6_quotient_223 : decode cX6_quotient 223 = .ok (.getfield 31, 3) := by decide +kernel
theorem dX6_quotient_226 : decode cX6_quotient 226 = .ok (.iload 9, 2) := by decide +kernel
theorem dX6_quotient_228 : decode cX6_quotient 228 = .ok (.iload_n 1, 1) := by decide +kernel
theorem dX6_quotient_229 : decode cX6_quotient 229 = .ok (.iastore, 1) := by decide +kernel
theorem dX6_quotient_230 : decode cX6_quotient 230 = .ok (.aload_n 0, 1) := by decide +kernel
theorem dX6_quotient_231 : decode cX6_quotient 231 = .ok (.getfield 34, 3) := by decide +kernel
theorem dX6_quotient_234 : decode cX6_quotient 234 = .ok (.iload 9, 2) := by decide +kernel
theorem dX6_quotient_236 : decode cX6_quotient 236 = .ok (.iload_n 2, 1) := by decide +kernel
theorem dX6_quotient_237 : decode cX6_quotient 237 = .ok (.iastore, 1) := by decide +kernel
theorem dX6_quotient_238 : decode cX6_quotient 238 = .ok (.aload_n 0, 1) := by decide +kernel
theorem dX6_quotient_239 : decode cX6_quotient 239 = .ok (.getfield 37, 3) := by decide +kernel
theorem dX6_quotient_242 : decode cX6_quotient 242 = .ok (.iload 9, 2) := by decide +kernel
theorem dX6_quotient_244 : decode cX6_quotient 244 = .ok (.iload_n 3, 1) := by decide +kernel
theorem dX6_quotient_245 : decode cX6_quotient 245 = .ok (.iastore, 1) := by decide +kernel
theorem dX6_quotient_246 : decode cX6_quotient 246 = .ok (.iload 9, 2) := by decide +kernel
theorem dX6_quotient_248 : decode cX6_quotient 248 = .ok (.ireturn, 1) := by decide +kernel
set_option maxRecDepth 20000 in
theorem ggX6_image_X6_in : GoodIn wsX6_image wsX6_in := goodIn_r _ [8] (by decide +kernel) (by decide +kernel)
set_option maxRecDepth 20000 in
theorem gX6_image_X6_in : GoodIn wsX6_image (va_wsS RX6 100 yX6_in wsX6_in) := goodIn_app (goodIn_of _ (by decide +kernel)) ggX6_image_X6_in
set_option maxRecDepth 20000 in
theorem ggX6_image_X6_has : GoodIn wsX6_image wsX6_has := goodIn_r _ [12, 1, 13, 14, 15, 5, 6, 7, 8, 16, 17, 18, 19, 20, 21, 22, 23, 24, 25, 26, 27, 28, 29, 30, 53, 54, 55, 56, 57, 58, 59, 60, 61, 62, 63, 64, 65, 66, 67, 68, 69, 70] (by decide +kernel) (by decide +kernel)
set_option maxRecDepth 20000 in
theorem gX6_image_X6_has : GoodIn wsX6_image (wsV RX6 132 RX6 yX6_has wsX6_has) := goodIn_app (goodIn_of _ (by decide +kernel)) ggX6_image_X6_has
set_option maxRecDepth 20000 in
theorem ggX6_image_X6_isPoint : GoodIn wsX6_image wsX6_isPoint := goodIn_r _ [34, 27, 35, 36, 37, 7, 38, 39, 40, 41, 42, 20, 21, 43, 44, 45, 46, 53, 54, 55, 56, 57, 58, 59, 60, 61, 62, 63, 64, 65, 66, 67, 68, 69, 70] (by decide +kernel) (by decide +kernel)
set_option maxRecDepth 20000 in
theorem gX6_image_X6_isPoint : GoodIn wsX6_image (wsV RX6 151 RX6 yX6_isPoint wsX6_isPoint) := goodIn_app (goodIn_of _ (by decide +kernel)) ggX6_image_X6_isPoint
set_option maxRecDepth 20000 in
theorem ggX6_image_X6_sum : GoodIn wsX6_image wsX6_sum := goodIn_r _ [50, 27, 51, 20, 29, 52, 35, 36, 37, 7, 38, 43, 44, 45, 46, 53, 54, 55, 56, 57, 58, 59, 60, 61, 62, 63, 64, 65, 66, 67, 68, 69, 70] (by decide +kernel) (by decide +kernel)
set_option maxRecDepth 20000 in
theorem gX6_image_X6_sum : GoodIn wsX6_image (wsV RX6 86 RX6 yX6_sum wsX6_sum) := goodIn_app (goodIn_of _ (by decide +kernel)) ggX6_image_X6_sum
set_option maxRecDepth 20000 in
theorem ggX6_image_X6_mod : GoodIn wsX6_image wsX6_mod := goodIn_r _ [46, 27, 53, 54, 55, 56, 57, 58, 59, 60, 61, 62, 63, 64, 65, 66, 67, 68, 69, 70] (by decide +kernel) (by decide +kernel)
set_option maxRecDepth 20000 in
theorem gX6_image_X6_mod : GoodIn wsX6_image (wsV RX6 67 RX6 yX6_mod wsX6_mod) := goodIn_app (goodIn_of _ (by decide +kernel)) ggX6_image_X6_mod
theorem dX6_image_16 : decode cX6_image 16 = .ok (.aload_n 0, 1) := by decide +kernel
theorem dX6_image_17 : decode cX6_image 17 = .ok (.getfield 31, 3) := by decide +kernel
theorem dX6_image_20 : decode cX6_image 20 = .ok (.iload_n 1, 1) := by decide +kernel
theorem dX6_image_21 : decode cX6_image 21 = .ok (.iaload, 1) := by decide +kernel
theorem dX6_image_22 : decode cX6_image 22 = .ok (.iconst (-1), 1) := by decide +kernel
theorem dX6_image_23 : decode cX6_image 23 = .ok (.if_icmp .eq 24, 3) := by decide +kernel
theorem dX6_image_26 : decode cX6_image 26 = .ok (.aload_n 0, 1) := by decide +kernel
theorem dX6_image_27 : decode cX6_image 27 = .ok (.aload_n 0, 1) := by decide +kernel
theorem dX6_image_28 : decode cX6_image 28 = .ok (.getfield 31, 3) := by decide +kernel
theorem dX6_image_31 : decode cX6_image 31 = .ok (.iload_n 1, 1) := by decide +kernel
theorem dX6_image_32 : decode cX6_image 32 = .ok (.iaload, 1) := by decide +kernel
theorem dX6_image_33 : decode cX6_image 33 = .ok (.invokevirtual 132, 3) := by decide +kernel
theorem dX6_image_36 : decode cX6_image 36 = .ok (.ifCond .eq 11, 3) := by decide +kernel
theorem dX6_image_39 : decode cX6_image 39 = .ok (.aload_n 0, 1) := by decide +kernel
theorem dX6_image_40 : decode cX6_image 40 = .ok (.iload_n 2, 1) := by decide +kernel
theorem dX6_image_41 : decode cX6_image 41 = .ok (.invokevirtual 151, 3) := by decide +kernel
theorem dX6_image_44 : decode cX6_image 44 = .ok (.ifCond .ne 6, 3) := by decide +kernel
theorem dX6_image_50 : decode cX6_image 50 = .ok (.iload_n 2, 1) := by decide +kernel
theorem dX6_image_51 : decode cX6_image 51 = .ok (.iconst (-1), 1) := by decide +kernel
theorem dX6_image_52 : decode cX6_image 52 = .ok (.if_icmp .ne 5, 3) := by decide +kernel
theorem dX6_image_55 : decode cX6_image 55 = .ok (.iload_n 2, 1) := by decide +kernel
theorem dX6_image_56 : decode cX6_image 56 = .ok (.ireturn, 1) := by decide +kernel
theorem dX6_image_57 : decode cX6_image 57 = .ok (.iload_n 2, 1) := by decide +kernel
theorem dX6_image_58 : decode cX6_image 58 = .ok (.sipush 16384, 3) := by decide +kernel
theorem dX6_image_61 : decode cX6_image 61 = .ok (.idiv, 1) := by decide +kernel
theorem dX6_image_62 : decode cX6_image 62 = .ok (.i2l, 1) := by decide +kernel
theorem dX6_image_63 : decode cX6_image 63 = .ok (.lstore_n 3, 1) := by decide +kernel
theorem dX6_image_64 : decode cX6_image 64 = .ok (.iload_n 2, 1) := by decide +kernel
theorem dX6_image_65 : decode cX6_image 65 = .ok (.sipush 16384, 3) := by decide +kernel
theorem dX6_image_68 : decode cX6_image 68 = .ok (.irem, 1) := by decide +kernel
theorem dX6_image_69 : decode cX6_image 69 = .ok (.i2l, 1) := by decide +kernel
theorem dX6_image_70 : decode cX6_image 70 = .ok (.lstore 5, 2) := by decide +kernel
theorem dX6_image_72 : decode cX6_image 72 = .ok (.aload_n 0, 1) := by decide +kernel
theorem dX6_image_73 : decode cX6_image 73 = .ok (.getfield 34, 3) := by decide +kernel
theorem dX6_image_76 : decode cX6_image 76 = .ok (.iload_n 1, 1) := by decide +kernel
theorem dX6_image_77 : decode cX6_image 77 = .ok (.iaload, 1) := by decide +kernel
theorem dX6_image_78 : decode cX6_image 78 = .ok (.istore 7, 2) := by decide +kernel
theorem dX6_image_80 : decode cX6_image 80 = .ok (.iconst 1, 1) := by decide +kernel
theorem dX6_image_81 : decode cX6_image 81 = .ok (.istore 8, 2) := by decide +kernel
theorem dX6_image_83 : decode cX6_image 83 = .ok (.iload 8, 2) := by decide +kernel
theorem dX6_image_85 : decode cX6_image 85 = .ok (.aload_n 0, 1) := by decide +kernel
theorem dX6_image_86 : decode cX6_image 86 = .ok (.getfield 37, 3) := by decide +kernel
theorem dX6_image_89 : decode cX6_image 89 = .ok (.iload_n 1, 1) := by decide +kernel
theorem dX6_image_90 : decode cX6_image 90 = .ok (.iaload, 1) := by decide +kernel
theorem dX6_image_91 : decode cX6_image 91 = .ok (.if_icmp .ge 84, 3) := by decide +kernel
theorem dX6_image_94 : decode cX6_image 94 = .ok (.iload 7, 2) := by decide +kernel
theorem dX6_image_96 : decode cX6_image 96 = .ok (.iload_n 2, 1) := by decide +kernel
theorem dX6_image_97 : decode cX6_image 97 = .ok (.if_icmp .ne 5, 3) := by decide +kernel
theorem dX6_image_100 : decode cX6_image 100 = .ok (.iconst (-1), 1) := by decide +kernel
theorem dX6_image_101 : decode cX6_image 101 = .ok (.ireturn, 1) := by decide +kernel
theorem dX6_image_102 : decode cX6_image 102 = .ok (.aload_n 0, 1) := by decide +kernel
theorem dX6_image_103 : decode cX6_image 103 = .ok (.iload_n 2, 1) := by decide +kernel
theorem dX6_image_104 : decode cX6_image 104 = .ok (.iload 7, 2) := by decide +kernel
theorem dX6_image_106 : decode cX6_image 106 = .ok (.invokevirtual 86, 3) := by decide +kernel
theorem dX6_image_109 : decode cX6_image 109 = .ok (.istore 9, 2) := by decide +kernel
theorem dX6_image_111 : decode cX6_image 111 = .ok (.iload 9, 2) := by decide +kernel
theorem dX6_image_113 : decode cX6_image 113 = .ok (.iconst (-1), 1) := by decide +kernel
theorem dX6_image_114 : decode cX6_image 114 = .ok (.if_icmp .ne 5, 3) := by decide +kernel
theorem dX6_image_117 : decode cX6_image 117 = .ok (.iconst (-1), 1) := by decide +kernel
theorem dX6_image_118 : decode cX6_image 118 = .ok (.ireturn, 1) := by decide +kernel
theorem dX6_image_119 : decode cX6_image 119 = .ok (.lload_n 3, 1) := by decide +kernel
theorem dX6_image_120 : decode cX6_image 120 = .ok (.iload 9, 2) := by decide +kernel
theorem dX6_image_122 : decode cX6_image 122 = .ok (.sipush 16384, 3) := by decide +kernel
theorem dX6_image_125 : decode cX6_image 125 = .ok (.idiv, 1) := by decide +kernel
theorem dX6_image_126 : decode cX6_image 126 = .ok (.iload 7, 2) := by decide +kernel
theorem dX6_image_128 : decode cX6_image 128 = .ok (.sipush 16384, 3) := by decide +kernel
theorem dX6_image_131 : decode cX6_image 131 = .ok (.idiv, 1) := by decide +kernel
theorem dX6_image_132 : decode cX6_image 132 = .ok (.isub, 1) := by decide +kernel
theorem dX6_image_133 : decode cX6_image 133 = .ok (.i2l, 1) := by decide +kernel
theorem dX6_image_134 : decode cX6_image 134 = .ok (.ladd, 1) := by decide +kernel
theorem dX6_image_135 : decode cX6_image 135 = .ok (.lstore_n 3, 1) := by decide +kernel
theorem dX6_image_136 : decode cX6_image 136 = .ok (.lload 5, 2) := by decide +kernel
theorem dX6_image_138 : decode cX6_image 138 = .ok (.iload 9, 2) := by decide +kernel
theorem dX6_image_140 : decode cX6_image 140 = .ok (.sipush 16384, 3) := by decide +kernel
theorem dX6_image_143 : decode cX6_image 143 = .ok (.irem, 1) := by decide +kernel
theorem dX6_image_144 : decode cX6_image 144 = .ok (.iload 7, 2) := by decide +kernel
theorem dX6_image_146 : decode cX6_image 146 = .ok (.sipush 16384, 3) := by decide +kernel
theorem dX6_image_149 : decode cX6_image 149 = .ok (.irem, 1) := by decide +kernel
theorem dX6_image_150 : decode cX6_image 150 = .ok (.isub, 1) := by decide +kernel
theorem dX6_image_151 : decode cX6_image 151 = .ok (.i2l, 1) := by decide +kernel
theorem dX6_image_152 : decode cX6_image 152 = .ok (.ladd, 1) := by decide +kernel
theorem dX6_image_153 : decode cX6_image 153 = .ok (.lstore 5, 2) := by decide +kernel
theorem dX6_image_155 : decode cX6_image 155 = .ok (.aload_n 0, 1) := by decide +kernel
theorem dX6_image_156 : decode cX6_image 156 = .ok (.iload 7, 2) := by decide +kernel
theorem dX6_image_158 : decode cX6_image 158 = .ok (.aload_n 0, 1) := by decide +kernel
theorem dX6_image_159 : decode cX6_image 159 = .ok (.getfield 34, 3) := by decide +kernel
theorem dX6_image_162 : decode cX6_image 162 = .ok (.iload_n 1, 1) := by decide +kernel
theorem dX6_image_163 : decode cX6_image 163 = .ok (.iaload, 1) := by decide +kernel
theorem dX6_image_164 : decode cX6_image 164 = .ok (.invokevirtual 86, 3) := by decide +kernel
theorem dX6_image_167 : decode cX6_image 167 = .ok (.istore 7, 2) := by decide +kernel
theorem dX6_image_169 : decode cX6_image 169 = .ok (.iinc 8 1, 3) := by decide +kernel
theorem dX6_image_172 : decode cX6_image 172 = .ok (.goto (-89), 3) := by decide +kernel
theorem dX6_image_175 : decode cX6_image 175 = .ok (.sipush 16384, 3) := by decide +kernel
theorem dX6_image_178 : decode cX6_image 178 = .ok (.aload_n 0, 1) := by decide +kernel
theorem dX6_image_179 : decode cX6_image 179 = .ok (.lload_n 3, 1) := by decide +kernel
theorem dX6_image_180 : decode cX6_image 180 = .ok (.invokevirtual 67, 3) := by decide +kernel
theorem dX6_image_183 : decode cX6_image 183 = .ok (.imul, 1) := by decide +kernel
theorem dX6_image_184 : decode cX6_image 184 = .ok (.aload_n 0, 1) := by decide +kernel
theorem dX6_image_185 : decode cX6_image 185 = .ok (.lload 5, 2) := by decide +kernel
theorem dX6_image_187 : decode cX6_image 187 = .ok (.invokevirtual 67, 3) := by decide +kernel
theorem dX6_image_190 : decode cX6_image 190 = .ok (.iadd, 1) := by decide +kernel
theorem dX6_image_191 : decode cX6_image 191 = .ok (.ireturn, 1) := by decide +kernel
set_option maxRecDepth 20000 in
theorem ggX6_kernel_X6_in : GoodIn wsX6_kernel wsX6_in := goodIn_r _ [9] (by decide +kernel) (by decide +kernel)
set_option maxRecDepth 20000 in
theorem gX6_kernel_X6_in : GoodIn wsX6_kernel (va_wsS RX6 100 yX6_in wsX6_in) := goodIn_app (goodIn_of _ (by decide +kernel)) ggX6_kernel_X6_in
theorem dX6_kernel_16 : decode cX6_kernel 16 = .ok (.aload_n 0, 1) := by decide +kernel
theorem dX6_kernel_17 : decode cX6_kernel 17 = .ok (.getfield 31, 3) := by decide +kernel
theorem dX6_kernel_20 : decode cX6_kernel 20 = .ok (.iload_n 1, 1) := by decide +kernel
theorem dX6_kernel_21 : decode cX6_kernel 21 = .ok (.iaload, 1) := by decide +kernel
theorem dX6_kernel_22 : decode cX6_kernel 22 = .ok (.iconst (-1), 1) := by decide +kernel
theorem dX6_kernel_23 : decode cX6_kernel 23 = .ok (.if_icmp .eq 15, 3) := by decide +kernel
theorem dX6_kernel_26 : decode cX6_kernel 26 = .ok (.iload_n 2, 1) := by decide +kernel
theorem dX6_kernel_27 : decode cX6_kernel 27 = .ok (.i2l, 1) := by decide +kernel
theorem dX6_kernel_28 : decode cX6_kernel 28 = .ok (.lconst 0, 1) := by decide +kernel
theorem dX6_kernel_29 : decode cX6_kernel 29 = .ok (.ldc2_w 81, 3) := by decide +kernel
theorem dX6_kernel_32 : decode cX6_kernel 32 = .ok (.invokestatic 100, 3) := by decide +kernel
theorem dX6_kernel_35 : decode cX6_kernel 35 = .ok (.ifCond .ne 6, 3) := by decide +kernel
theorem dX6_kernel_41 : decode cX6_kernel 41 = .ok (.iload_n 2, 1) := by decide +kernel
theorem dX6_kernel_42 : decode cX6_kernel 42 = .ok (.ifCond .ne 12, 3) := by decide +kernel
theorem dX6_kernel_45 : decode cX6_kernel 45 = .ok (.aload_n 0, 1) := by decide +kernel
theorem dX6_kernel_46 : decode cX6_kernel 46 = .ok (.getfield 31, 3) := by decide +kernel
theorem dX6_kernel_49 : decode cX6_kernel 49 = .ok (.iload_n 1, 1) := by decide +kernel
theorem dX6_kernel_50 : decode cX6_kernel 50 = .ok (.iaload, 1) := by decide +kernel
theorem dX6_kernel_51 : decode cX6_kernel 51 = .ok (.goto 23, 3) := by decide +kernel
theorem dX6_kernel_54 : decode cX6_kernel 54 = .ok (.iload_n 2, 1) := by decide +kernel
theorem dX6_kernel_55 : decode cX6_kernel 55 = .ok (.iconst 1, 1) := by decide +kernel
theorem dX6_kernel_56 : decode cX6_kernel 56 = .ok (.if_icmp .ne 12, 3) := by decide +kernel
theorem dX6_kernel_59 : decode cX6_kernel 59 = .ok (.aload_n 0, 1) := by decide +kernel
theorem dX6_kernel_60 : decode cX6_kernel 60 = .ok (.getfield 34, 3) := by decide +kernel
theorem dX6_kernel_63 : decode cX6_kernel 63 = .ok (.iload_n 1, 1) := by decide +kernel
theorem dX6_kernel_64 : decode cX6_kernel 64 = .ok (.iaload, 1) := by decide +kernel
theorem dX6_kernel_65 : decode cX6_kernel 65 = .ok (.goto 9, 3) := by decide +kernel
theorem dX6_kernel_68 : decode cX6_kernel 68 = .ok (.aload_n 0, 1) := by decide +kernel
theorem dX6_kernel_69 : decode cX6_kernel 69 = .ok (.getfield 37, 3) := by decide +kernel
theorem dX6_kernel_72 : decode cX6_kernel 72 = .ok (.iload_n 1, 1) := by decide +kernel
theorem dX6_kernel_73 : decode cX6_kernel 73 = .ok (.iaload, 1) := by decide +kernel
theorem dX6_kernel_74 : decode cX6_kernel 74 = .ok (.ireturn, 1) := by decide +kernel
theorem dX6_over_0 : decode cX6_over 0 = .ok (.lconst 1, 1) := by decide +kernel
theorem dX6_over_1 : decode cX6_over 1 = .ok (.lstore_n 2, 1) := by decide +kernel
theorem dX6_over_2 : decode cX6_over 2 = .ok (.iload_n 0, 1) := by decide +kernel
theorem dX6_over_3 : decode cX6_over 3 = .ok (.iload_n 1, 1) := by decide +kernel
theorem dX6_over_4 : decode cX6_over 4 = .ok (.irem, 1) := by decide +kernel
theorem dX6_over_5 : decode cX6_over 5 = .ok (.i2l, 1) := by decide +kernel
theorem dX6_over_6 : decode cX6_over 6 = .ok (.lstore 4, 2) := by decide +kernel
theorem dX6_over_8 : decode cX6_over 8 = .ok (.iload_n 1, 1) := by decide +kernel
theorem dX6_over_9 : decode cX6_over 9 = .ok (.iconst 2, 1) := by decide +kernel
theorem dX6_over_10 : decode cX6_over 10 = .ok (.isub, 1) := by decide +kernel
theorem dX6_over_11 : decode cX6_over 11 = .ok (.istore 6, 2) := by decide +kernel
theorem dX6_over_13 : decode cX6_over 13 = .ok (.iload 6, 2) := by decide +kernel
theorem dX6_over_15 : decode cX6_over 15 = .ok (.ifCond .le 42, 3) := by decide +kernel
theorem dX6_over_18 : decode cX6_over 18 = .ok (.iload 6, 2) := by decide +kernel
theorem dX6_over_20 : decode cX6_over 20 = .ok (.iconst 1, 1) := by decide +kernel
theorem dX6_over_21 : decode cX6_over 21 = .ok (.iand, 1) := by decide +kernel
theorem dX6_over_22 : decode cX6_over 22 = .ok (.iconst 1, 1) := by decide +kernel
theorem dX6_over_23 : decode cX6_over 23 = .ok (.if_icmp .ne 13, 3) := by decide +kernel
theorem dX6_over_26 : decode cX6_over 26 = .ok (.lload_n 2, 1) := by decide +kernel
theorem dX6_over_27 : decode cX6_over 27 = .ok (.lload 4, 2) := by decide +kernel
theorem dX6_over_29 : decode cX6_over 29 = .ok (.lmul, 1) := by decide +kernel
theorem dX6_over_30 : decode cX6_over 30 = .ok (.iload_n 1, 1) := by decide +kernel
theorem dX6_over_31 : decode cX6_over 31 = .ok (.i2l, 1) := by decide +kernel
theorem dX6_over_32 : decode cX6_over 32 = .ok (.lrem, 1) := by decide +kernel
theorem dX6_over_33 : decode cX6_over 33 = .ok (.goto 4, 3) := by decide +kernel
theorem dX6_over_36 : decode cX6_over 36 = .ok (.lload_n 2, 1) := by decide +kernel
theorem dX6_over_37 : decode cX6_over 37 = .ok (.lstore_n 2, 1) := by decide +kernel
theorem dX6_over_38 : decode cX6_over 38 = .ok (.lload 4, 2) := by decide +kernel
theorem dX6_over_40 : decode cX6_over 40 = .ok (.lload 4, 2) := by decide +kernel
theorem dX6_over_42 : decode cX6_over 42 = .ok (.lmul, 1) := by decide +kernel
theorem dX6_over_43 : decode cX6_over 43 = .ok (.iload_n 1, 1) := by decide +kernel
theorem dX6_over_44 : decode cX6_over 44 = .ok (.i2l, 1) := by decide +kernel
theorem dX6_over_45 : decode cX6_over 45 = .ok (.lrem, 1) := by decide +kernel
theorem dX6_over_46 : decode cX6_over 46 = .ok (.lstore 4, 2) := by decide +kernel
theorem dX6_over_48 : decode cX6_over 48 = .ok (.iload 6, 2) := by decide +kernel
theorem dX6_over_50 : decode cX6_over 50 = .ok (.iconst 1, 1) := by decide +kernel
theorem dX6_over_51 : decode cX6_over 51 = .ok (.ishr, 1) := by decide +kernel
theorem dX6_over_52 : decode cX6_over 52 = .ok (.istore 6, 2) := by decide +kernel
theorem dX6_over_54 : decode cX6_over 54 = .ok (.goto (-41), 3) := by decide +kernel
theorem dX6_over_57 : decode cX6_over 57 = .ok (.lload_n 2, 1) := by decide +kernel
theorem dX6_over_58 : decode cX6_over 58 = .ok (.iload_n 1, 1) := by decide +kernel
theorem dX6_over_59 : decode cX6_over 59 = .ok (.i2l, 1) := by decide +kernel
theorem dX6_over_60 : decode cX6_over 60 = .ok (.lrem, 1) := by decide +kernel
theorem dX6_over_61 : decode cX6_over 61 = .ok (.l2i, 1) := by decide +kernel
theorem dX6_over_62 : decode cX6_over 62 = .ok (.ireturn, 1) := by decide +kernel
set_option maxRecDepth 20000 in
theorem ggX6_sign_X6_has : GoodIn wsX6_sign wsX6_has := goodIn_r _ [5, 6, 7, 8, 9, 10, 11, 4, 12, 13, 14, 15, 16, 17, 18, 19, 20, 21, 22, 23, 24, 25, 26, 27, 74, 75, 76, 77, 78, 79, 80, 81, 82, 83, 84, 85, 86, 87, 88, 89, 90, 91] (by decide +kernel) (by decide +kernel)
set_option maxRecDepth 20000 in
theorem gX6_sign_X6_has : GoodIn wsX6_sign (wsV RX6 132 RX6 yX6_has wsX6_has) := goodIn_app (goodIn_of _ (by decide +kernel)) ggX6_sign_X6_has
set_option maxRecDepth 20000 in
theorem ggX6_sign_X6_isPoint : GoodIn wsX6_sign wsX6_isPoint := goodIn_r _ [31, 24, 32, 33, 34, 4, 35, 36, 37, 38, 39, 17, 18, 40, 41, 42, 43, 74, 75, 76, 77, 78, 79, 80, 81, 82, 83, 84, 85, 86, 87, 88, 89, 90, 91] (by decide +kernel) (by decide +kernel)
set_option maxRecDepth 20000 in
theorem gX6_sign_X6_isPoint : GoodIn wsX6_sign (wsV RX6 151 RX6 yX6_isPoint wsX6_isPoint) := goodIn_app (goodIn_of _ (by decide +kernel)) ggX6_sign_X6_isPoint
set_option maxRecDepth 20000 in
theorem ggX6_sign_X6_in : GoodIn wsX6_sign wsX6_in := goodIn_r _ [12] (by decide +kernel) (by decide +kernel)
set_option maxRecDepth 20000 in
theorem gX6_sign_X6_in : GoodIn wsX6_sign (va_wsS RX6 100 yX6_in wsX6_in) := goodIn_app (goodIn_of _ (by decide +kernel)) ggX6_sign_X6_in
set_option maxRecDepth 20000 in
theorem ggX6_sign_X6_orderOf : GoodIn wsX6_sign wsX6_orderOf := goodIn_r _ [47, 19, 48, 49, 50, 4, 51, 52, 24, 53, 27, 36, 37, 38, 39, 17, 18, 32, 33, 34, 35, 40, 41, 42, 43, 54, 55, 56, 57, 58, 59, 60, 61, 62, 63, 64, 65, 66, 67, 26, 74, 75, 76, 77, 78, 79, 80, 81, 82, 83, 84, 85, 86, 87, 88, 89, 90, 91] (by decide +kernel) (by decide +kernel)
set_option maxRecDepth 20000 in
theorem gX6_sign_X6_orderOf : GoodIn wsX6_sign (wsV RX6 162 RX6 yX6_orderOf wsX6_orderOf) := goodIn_app (goodIn_of _ (by decide +kernel)) ggX6_sign_X6_orderOf
set_option maxRecDepth 20000 in
theorem ggX6_sign_X6_isPrime : GoodIn wsX6_sign wsX6_isPrime := goodIn_r _ [70] (by decide +kernel) (by decide +kernel)
set_option maxRecDepth 20000 in
theorem gX6_sign_X6_isPrime : GoodIn wsX6_sign (va_wsS RX6 104 yX6_isPrime wsX6_isPrime) := goodIn_app (goodIn_of _ (by decide +kernel)) ggX6_sign_X6_isPrime
set_option maxRecDepth 20000 in
theorem ggX6_sign_X6_multiple : GoodIn wsX6_sign wsX6_multiple := goodIn_r _ [57, 58, 59, 60, 61, 4, 62, 24, 63, 64, 65, 66, 67, 17, 26, 32, 33, 34, 35, 40, 41, 42, 43, 74, 75, 76, 77, 78, 79, 80, 81, 82, 83, 84, 85, 86, 87, 88, 89, 90, 91] (by decide +kernel) (by decide +kernel)
set_option maxRecDepth 20000 in
theorem gX6_sign_X6_multiple : GoodIn wsX6_sign (wsV RX6 92 RX6 yX6_multiple wsX6_multiple) := goodIn_app (goodIn_of _ (by decide +kernel)) ggX6_sign_X6_multiple
set_option maxRecDepth 20000 in
theorem ggX6_sign_X6_over : GoodIn wsX6_sign wsX6_over := goodIn_r _ [73] (by decide +kernel) (by decide +kernel)
set_option maxRecDepth 20000 in
theorem gX6_sign_X6_over : GoodIn wsX6_sign (va_wsS RX6 179 yX6_over wsX6_over) := goodIn_app (goodIn_of _ (by decide +kernel)) ggX6_sign_X6_over
theorem dX6_sign_8 : decode cX6_sign 8 = .ok (.aload_n 0, 1) := by decide +kernel
theorem dX6_sign_9 : decode cX6_sign 9 = .ok (.iload_n 2, 1) := by decide +kernel
theorem dX6_sign_10 : decode cX6_sign 10 = .ok (.invokevirtual 151, 3) := by decide +kernel
theorem dX6_sign_13 : decode cX6_sign 13 = .ok (.ifCond .eq 19, 3) := by decide +kernel
theorem dX6_sign_16 : decode cX6_sign 16 = .ok (.iload 6, 2) := by decide +kernel
theorem dX6_sign_18 : decode cX6_sign 18 = .ok (.i2l, 1) := by decide +kernel
theorem dX6_sign_19 : decode cX6_sign 19 = .ok (.lconst 0, 1) := by decide +kernel
theorem dX6_sign_20 : decode cX6_sign 20 = .ok (.lconst 1, 1) := by decide +kernel
theorem dX6_sign_21 : decode cX6_sign 21 = .ok (.invokestatic 100, 3) := by decide +kernel
theorem dX6_sign_24 : decode cX6_sign 24 = .ok (.ifCond .eq 8, 3) := by decide +kernel
theorem dX6_sign_27 : decode cX6_sign 27 = .ok (.iload 5, 2) := by decide +kernel
theorem dX6_sign_29 : decode cX6_sign 29 = .ok (.ifCond .ge 6, 3) := by decide +kernel
theorem dX6_sign_35 : decode cX6_sign 35 = .ok (.aload_n 0, 1) := by decide +kernel
theorem dX6_sign_36 : decode cX6_sign 36 = .ok (.iload_n 2, 1) := by decide +kernel
theorem dX6_sign_37 : decode cX6_sign 37 = .ok (.invokevirtual 162, 3) := by decide +kernel
theorem dX6_sign_40 : decode cX6_sign 40 = .ok (.istore 7, 2) := by decide +kernel
theorem dX6_sign_42 : decode cX6_sign 42 = .ok (.iload 7, 2) := by decide +kernel
theorem dX6_sign_44 : decode cX6_sign 44 = .ok (.invokestatic 104, 3) := by decide +kernel
theorem dX6_sign_47 : decode cX6_sign 47 = .ok (.ifCond .eq 32, 3) := by decide +kernel
theorem dX6_sign_50 : decode cX6_sign 50 = .ok (.iload_n 3, 1) := by decide +kernel
theorem dX6_sign_51 : decode cX6_sign 51 = .ok (.i2l, 1) := by decide +kernel
theorem dX6_sign_52 : decode cX6_sign 52 = .ok (.lconst 1, 1) := by decide +kernel
theorem dX6_sign_53 : decode cX6_sign 53 = .ok (.iload 7, 2) := by decide +kernel
theorem dX6_sign_55 : decode cX6_sign 55 = .ok (.iconst 1, 1) := by decide +kernel
theorem dX6_sign_56 : decode cX6_sign 56 = .ok (.isub, 1) := by decide +kernel
theorem dX6_sign_57 : decode cX6_sign 57 = .ok (.i2l, 1) := by decide +kernel
theorem dX6_sign_58 : decode cX6_sign 58 = .ok (.invokestatic 100, 3) := by decide +kernel
theorem dX6_sign_61 : decode cX6_sign 61 = .ok (.ifCond .eq 18, 3) := by decide +kernel
theorem dX6_sign_64 : decode cX6_sign 64 = .ok (.iload 4, 2) := by decide +kernel
theorem dX6_sign_66 : decode cX6_sign 66 = .ok (.i2l, 1) := by decide +kernel
theorem dX6_sign_67 : decode cX6_sign 67 = .ok (.lconst 1, 1) := by decide +kernel
theorem dX6_sign_68 : decode cX6_sign 68 = .ok (.iload 7, 2) := by decide +kernel
theorem dX6_sign_70 : decode cX6_sign 70 = .ok (.iconst 1, 1) := by decide +kernel
theorem dX6_sign_71 : decode cX6_sign 71 = .ok (.isub, 1) := by decide +kernel
theorem dX6_sign_72 : decode cX6_sign 72 = .ok (.i2l, 1) := by decide +kernel
theorem dX6_sign_73 : decode cX6_sign 73 = .ok (.invokestatic 100, 3) := by decide +kernel
theorem dX6_sign_76 : decode cX6_sign 76 = .ok (.ifCond .ne 6, 3) := by decide +kernel
theorem dX6_sign_79 : decode cX6_sign 79 = .ok (.bipush (-2), 2) := by decide +kernel
theorem dX6_sign_81 : decode cX6_sign 81 = .ok (.ireturn, 1) := by decide +kernel
theorem dX6_sign_82 : decode cX6_sign 82 = .ok (.aload_n 0, 1) := by decide +kernel
theorem dX6_sign_83 : decode cX6_sign 83 = .ok (.iload_n 2, 1) := by decide +kernel
theorem dX6_sign_84 : decode cX6_sign 84 = .ok (.iload 4, 2) := by decide +kernel
theorem dX6_sign_86 : decode cX6_sign 86 = .ok (.i2l, 1) := by decide +kernel
theorem dX6_sign_87 : decode cX6_sign 87 = .ok (.invokevirtual 92, 3) := by decide +kernel
theorem dX6_sign_90 : decode cX6_sign 90 = .ok (.sipush 16384, 3) := by decide +kernel
theorem dX6_sign_93 : decode cX6_sign 93 = .ok (.idiv, 1) := by decide +kernel
theorem dX6_sign_94 : decode cX6_sign 94 = .ok (.iload 7, 2) := by decide +kernel
theorem dX6_sign_96 : decode cX6_sign 96 = .ok (.irem, 1) := by decide +kernel
theorem dX6_sign_97 : decode cX6_sign 97 = .ok (.istore 8, 2) := by decide +kernel
theorem dX6_sign_99 : decode cX6_sign 99 = .ok (.iload 5, 2) := by decide +kernel
theorem dX6_sign_101 : decode cX6_sign 101 = .ok (.i2l, 1) := by decide +kernel
theorem dX6_sign_102 : decode cX6_sign 102 = .ok (.iload 8, 2) := by decide +kernel
theorem dX6_sign_104 : decode cX6_sign 104 = .ok (.i2l, 1) := by decide +kernel
theorem dX6_sign_105 : decode cX6_sign 105 = .ok (.iload_n 3, 1) := by decide +kernel
theorem dX6_sign_106 : decode cX6_sign 106 = .ok (.i2l, 1) := by decide +kernel
theorem dX6_sign_107 : decode cX6_sign 107 = .ok (.lmul, 1) := by decide +kernel
theorem dX6_sign_108 : decode cX6_sign 108 = .ok (.ladd, 1) := by decide +kernel
theorem dX6_sign_109 : decode cX6_sign 109 = .ok (.iload 7, 2) := by decide +kernel
theorem dX6_sign_111 : decode cX6_sign 111 = .ok (.i2l, 1) := by decide +kernel
theorem dX6_sign_112 : decode cX6_sign 112 = .ok (.lrem, 1) := by decide +kernel
theorem dX6_sign_113 : decode cX6_sign 113 = .ok (.iload 4, 2) := by decide +kernel
theorem dX6_sign_115 : decode cX6_sign 115 = .ok (.iload 7, 2) := by decide +kernel
theorem dX6_sign_117 : decode cX6_sign 117 = .ok (.invokestatic 179, 3) := by decide +kernel
theorem dX6_sign_120 : decode cX6_sign 120 = .ok (.i2l, 1) := by decide +kernel
theorem dX6_sign_121 : decode cX6_sign 121 = .ok (.lmul, 1) := by decide +kernel
theorem dX6_sign_122 : decode cX6_sign 122 = .ok (.iload 7, 2) := by decide +kernel
theorem dX6_sign_124 : decode cX6_sign 124 = .ok (.i2l, 1) := by decide +kernel
theorem dX6_sign_125 : decode cX6_sign 125 = .ok (.lrem, 1) := by decide +kernel
theorem dX6_sign_126 : decode cX6_sign 126 = .ok (.l2i, 1) := by decide +kernel
theorem dX6_sign_127 : decode cX6_sign 127 = .ok (.istore 9, 2) := by decide +kernel
theorem dX6_sign_129 : decode cX6_sign 129 = .ok (.iload 8, 2) := by decide +kernel
theorem dX6_sign_131 : decode cX6_sign 131 = .ok (.ifCond .eq 8, 3) := by decide +kernel
theorem dX6_sign_134 : decode cX6_sign 134 = .ok (.iload 9, 2) := by decide +kernel
theorem dX6_sign_136 : decode cX6_sign 136 = .ok (.ifCond .ne 6, 3) := by decide +kernel
theorem dX6_sign_139 : decode cX6_sign 139 = .ok (.bipush (-3), 2) := by decide +kernel
theorem dX6_sign_141 : decode cX6_sign 141 = .ok (.ireturn, 1) := by decide +kernel
theorem dX6_sign_142 : decode cX6_sign 142 = .ok (.iload 6, 2) := by decide +kernel
theorem dX6_sign_144 : decode cX6_sign 144 = .ok (.ifCond .ne 8, 3) := by decide +kernel
theorem dX6_sign_147 : decode cX6_sign 147 = .ok (.iload 8, 2) := by decide +kernel
theorem dX6_sign_149 : decode cX6_sign 149 = .ok (.goto 5, 3) := by decide +kernel
theorem dX6_sign_152 : decode cX6_sign 152 = .ok (.iload 9, 2) := by decide +kernel
theorem dX6_sign_154 : decode cX6_sign 154 = .ok (.ireturn, 1) := by decide +kernel
set_option maxRecDepth 20000 in
theorem ggX6_good_X6_has : GoodIn wsX6_good wsX6_has := goodIn_r _ [5, 6, 7, 8, 9, 10, 11, 4, 12, 13, 14, 15, 16, 17, 18, 19, 20, 21, 22, 23, 24, 25, 26, 27, 74, 75, 76, 77, 78, 79, 80, 81, 82, 83, 84, 85, 86, 87, 88, 89, 90, 91] (by decide +kernel) (by decide +kernel)
set_option maxRecDepth 20000 in
theorem gX6_good_X6_has : GoodIn wsX6_good (wsV RX6 132 RX6 yX6_has wsX6_has) := goodIn_app (goodIn_of _ (by decide +kernel)) ggX6_good_X6_has
set_option maxRecDepth 20000 in
theorem ggX6_good_X6_isPoint : GoodIn wsX6_good wsX6_isPoint := goodIn_r _ [31, 24, 32, 33, 34, 4, 35, 36, 37, 38, 39, 17, 18, 40, 41, 42, 43, 74, 75, 76, 77, 78, 79, 80, 81, 82, 83, 84, 85, 86, 87, 88, 89, 90, 91] (by decide +kernel) (by decide +kernel)
set_option maxRecDepth 20000 in
theorem gX6_good_X6_isPoint : GoodIn wsX6_good (wsV RX6 151 RX6 yX6_isPoint wsX6_isPoint) := goodIn_app (goodIn_of _ (by decide +kernel)) ggX6_good_X6_isPoint
set_option maxRecDepth 20000 in
theorem ggX6_good_X6_orderOf : GoodIn wsX6_good wsX6_orderOf := goodIn_r _ [47, 19, 48, 49, 50, 4, 51, 52, 24, 53, 27, 36, 37, 38, 39, 17, 18, 32, 33, 34, 35, 40, 41, 42, 43, 54, 55, 56, 57, 58, 59, 60, 61, 62, 63, 64, 65, 66, 67, 26, 74, 75, 76, 77, 78, 79, 80, 81, 82, 83, 84, 85, 86, 87, 88, 89, 90, 91] (by decide +kernel) (by decide +kernel)
set_option maxRecDepth 20000 in
theorem gX6_good_X6_orderOf : GoodIn wsX6_good (wsV RX6 162 RX6 yX6_orderOf wsX6_orderOf) := goodIn_app (goodIn_of _ (by decide +kernel)) ggX6_good_X6_orderOf
set_option maxRecDepth 20000 in
theorem ggX6_good_X6_isPrime : GoodIn wsX6_good wsX6_isPrime := goodIn_r _ [70] (by decide +kernel) (by decide +kernel)
set_option maxRecDepth 20000 in
theorem gX6_good_X6_isPrime : GoodIn wsX6_good (va_wsS RX6 104 yX6_isPrime wsX6_isPrime) := goodIn_app (goodIn_of _ (by decide +kernel)) ggX6_good_X6_isPrime
set_option maxRecDepth 20000 in
theorem ggX6_good_X6_in : GoodIn wsX6_good wsX6_in := goodIn_r _ [12] (by decide +kernel) (by decide +kernel)
set_option maxRecDepth 20000 in
theorem gX6_good_X6_in : GoodIn wsX6_good (va_wsS RX6 100 yX6_in wsX6_in) := goodIn_app (goodIn_of _ (by decide +kernel)) ggX6_good_X6_in
set_option maxRecDepth 20000 in
theorem ggX6_good_X6_over : GoodIn wsX6_good wsX6_over := goodIn_r _ [73] (by decide +kernel) (by decide +kernel)
set_option maxRecDepth 20000 in
theorem gX6_good_X6_over : GoodIn wsX6_good (va_wsS RX6 179 yX6_over wsX6_over) := goodIn_app (goodIn_of _ (by decide +kernel)) ggX6_good_X6_over
set_option maxRecDepth 20000 in
theorem ggX6_good_X6_multiple : GoodIn wsX6_good wsX6_multiple := goodIn_r _ [57, 58, 59, 60, 61, 4, 62, 24, 63, 64, 65, 66, 67, 17, 26, 32, 33, 34, 35, 40, 41, 42, 43, 74, 75, 76, 77, 78, 79, 80, 81, 82, 83, 84, 85, 86, 87, 88, 89, 90, 91] (by decide +kernel) (by decide +kernel)
set_option maxRecDepth 20000 in
theorem gX6_good_X6_multiple : GoodIn wsX6_good (wsV RX6 92 RX6 yX6_multiple wsX6_multiple) := goodIn_app (goodIn_of _ (by decide +kernel)) ggX6_good_X6_multiple
set_option maxRecDepth 20000 in
theorem ggX6_good_X6_sum : GoodIn wsX6_good wsX6_sum := goodIn_r _ [66, 24, 67, 17, 26, 58, 32, 33, 34, 4, 35, 40, 41, 42, 43, 74, 75, 76, 77, 78, 79, 80, 81, 82, 83, 84, 85, 86, 87, 88, 89, 90, 91] (by decide +kernel) (by decide +kernel)
set_option maxRecDepth 20000 in
theorem gX6_good_X6_sum : GoodIn wsX6_good (wsV RX6 86 RX6 yX6_sum wsX6_sum) := goodIn_app (goodIn_of _ (by decide +kernel)) ggX6_good_X6_sum
theorem dX6_good_8 : decode cX6_good 8 = .ok (.aload_n 0, 1) := by decide +kernel
theorem dX6_good_9 : decode cX6_good 9 = .ok (.iload_n 2, 1) := by decide +kernel
theorem dX6_good_10 : decode cX6_good 10 = .ok (.invokevirtual 151, 3) := by decide +kernel
theorem dX6_good_13 : decode cX6_good 13 = .ok (.ifCond .eq 16, 3) := by decide +kernel
theorem dX6_good_16 : decode cX6_good 16 = .ok (.aload_n 0, 1) := by decide +kernel
theorem dX6_good_17 : decode cX6_good 17 = .ok (.iload_n 3, 1) := by decide +kernel
theorem dX6_good_18 : decode cX6_good 18 = .ok (.invokevirtual 151, 3) := by decide +kernel
theorem dX6_good_21 : decode cX6_good 21 = .ok (.ifCond .eq 8, 3) := by decide +kernel
theorem dX6_good_24 : decode cX6_good 24 = .ok (.iload 4, 2) := by decide +kernel
theorem dX6_good_26 : decode cX6_good 26 = .ok (.ifCond .ge 6, 3) := by decide +kernel
theorem dX6_good_32 : decode cX6_good 32 = .ok (.aload_n 0, 1) := by decide +kernel
theorem dX6_good_33 : decode cX6_good 33 = .ok (.iload_n 2, 1) := by decide +kernel
theorem dX6_good_34 : decode cX6_good 34 = .ok (.invokevirtual 162, 3) := by decide +kernel
theorem dX6_good_37 : decode cX6_good 37 = .ok (.istore 7, 2) := by decide +kernel
theorem dX6_good_39 : decode cX6_good 39 = .ok (.iload 7, 2) := by decide +kernel
theorem dX6_good_41 : decode cX6_good 41 = .ok (.invokestatic 104, 3) := by decide +kernel
theorem dX6_good_44 : decode cX6_good 44 = .ok (.ifCond .ne 6, 3) := by decide +kernel
theorem dX6_good_47 : decode cX6_good 47 = .ok (.bipush (-2), 2) := by decide +kernel
theorem dX6_good_49 : decode cX6_good 49 = .ok (.ireturn, 1) := by decide +kernel
theorem dX6_good_50 : decode cX6_good 50 = .ok (.iload 5, 2) := by decide +kernel
theorem dX6_good_52 : decode cX6_good 52 = .ok (.i2l, 1) := by decide +kernel
theorem dX6_good_53 : decode cX6_good 53 = .ok (.lconst 1, 1) := by decide +kernel
theorem dX6_good_54 : decode cX6_good 54 = .ok (.iload 7, 2) := by decide +kernel
theorem dX6_good_56 : decode cX6_good 56 = .ok (.iconst 1, 1) := by decide +kernel
theorem dX6_good_57 : decode cX6_good 57 = .ok (.isub, 1) := by decide +kernel
theorem dX6_good_58 : decode cX6_good 58 = .ok (.i2l, 1) := by decide +kernel
theorem dX6_good_59 : decode cX6_good 59 = .ok (.invokestatic 100, 3) := by decide +kernel
theorem dX6_good_62 : decode cX6_good 62 = .ok (.ifCond .eq 18, 3) := by decide +kernel
theorem dX6_good_65 : decode cX6_good 65 = .ok (.iload 6, 2) := by decide +kernel
theorem dX6_good_67 : decode cX6_good 67 = .ok (.i2l, 1) := by decide +kernel
theorem dX6_good_68 : decode cX6_good 68 = .ok (.lconst 1, 1) := by decide +kernel
theorem dX6_good_69 : decode cX6_good 69 = .ok (.iload 7, 2) := by decide +kernel
theorem dX6_good_71 : decode cX6_good 71 = .ok (.iconst 1, 1) := by decide +kernel
theorem dX6_good_72 : decode cX6_good 72 = .ok (.isub, 1) := by decide +kernel
theorem dX6_good_73 : decode cX6_good 73 = .ok (.i2l, 1) := by decide +kernel
theorem dX6_good_74 : decode cX6_good 74 = .ok (.invokestatic 100, 3) := by decide +kernel
theorem dX6_good_77 : decode cX6_good 77 = .ok (.ifCond .ne 5, 3) := by decide +kernel
theorem dX6_good_80 : decode cX6_good 80 = .ok (.iconst 0, 1) := by decide +kernel
theorem dX6_good_81 : decode cX6_good 81 = .ok (.ireturn, 1) := by decide +kernel
theorem dX6_good_82 : decode cX6_good 82 = .ok (.iload 6, 2) := by decide +kernel
theorem dX6_good_84 : decode cX6_good 84 = .ok (.iload 7, 2) := by decide +kernel
theorem dX6_good_86 : decode cX6_good 86 = .ok (.invokestatic 179, 3) := by decide +kernel
theorem dX6_good_89 : decode cX6_good 89 = .ok (.i2l, 1) := by decide +kernel
theorem dX6_good_90 : decode cX6_good 90 = .ok (.lstore 8, 2) := by decide +kernel
theorem dX6_good_92 : decode cX6_good 92 = .ok (.aload_n 0, 1) := by decide +kernel
theorem dX6_good_93 : decode cX6_good 93 = .ok (.aload_n 0, 1) := by decide +kernel
theorem dX6_good_94 : decode cX6_good 94 = .ok (.iload_n 2, 1) := by decide +kernel
theorem dX6_good_95 : decode cX6_good 95 = .ok (.iload 4, 2) := by decide +kernel
theorem dX6_good_97 : decode cX6_good 97 = .ok (.iload 7, 2) := by decide +kernel
theorem dX6_good_99 : decode cX6_good 99 = .ok (.irem, 1) := by decide +kernel
theorem dX6_good_100 : decode cX6_good 100 = .ok (.i2l, 1) := by decide +kernel
theorem dX6_good_101 : decode cX6_good 101 = .ok (.lload 8, 2) := by decide +kernel
theorem dX6_good_103 : decode cX6_good 103 = .ok (.lmul, 1) := by decide +kernel
theorem dX6_good_104 : decode cX6_good 104 = .ok (.iload 7, 2) := by decide +kernel
theorem dX6_good_106 : decode cX6_good 106 = .ok (.i2l, 1) := by decide +kernel
theorem dX6_good_107 : decode cX6_good 107 = .ok (.lrem, 1) := by decide +kernel
theorem dX6_good_108 : decode cX6_good 108 = .ok (.invokevirtual 92, 3) := by decide +kernel
theorem dX6_good_111 : decode cX6_good 111 = .ok (.aload_n 0, 1) := by decide +kernel
theorem dX6_good_112 : decode cX6_good 112 = .ok (.iload_n 3, 1) := by decide +kernel
theorem dX6_good_113 : decode cX6_good 113 = .ok (.iload 5, 2) := by decide +kernel
theorem dX6_good_115 : decode cX6_good 115 = .ok (.i2l, 1) := by decide +kernel
theorem dX6_good_116 : decode cX6_good 116 = .ok (.lload 8, 2) := by decide +kernel
theorem dX6_good_118 : decode cX6_good 118 = .ok (.lmul, 1) := by decide +kernel
theorem dX6_good_119 : decode cX6_good 119 = .ok (.iload 7, 2) := by decide +kernel
theorem dX6_good_121 : decode cX6_good 121 = .ok (.i2l, 1) := by decide +kernel
theorem dX6_good_122 : decode cX6_good 122 = .ok (.lrem, 1) := by decide +kernel
theorem dX6_good_123 : decode cX6_good 123 = .ok (.invokevirtual 92, 3) := by decide +kernel
theorem dX6_good_126 : decode cX6_good 126 = .ok (.invokevirtual 86, 3) := by decide +kernel
theorem dX6_good_129 : decode cX6_good 129 = .ok (.istore 10, 2) := by decide +kernel
theorem dX6_good_131 : decode cX6_good 131 = .ok (.iload 10, 2) := by decide +kernel
theorem dX6_good_133 : decode cX6_good 133 = .ok (.iconst (-1), 1) := by decide +kernel
theorem dX6_good_134 : decode cX6_good 134 = .ok (.if_icmp .eq 21, 3) := by decide +kernel
theorem dX6_good_137 : decode cX6_good 137 = .ok (.iload 10, 2) := by decide +kernel
theorem dX6_good_139 : decode cX6_good 139 = .ok (.sipush 16384, 3) := by decide +kernel
theorem dX6_good_142 : decode cX6_good 142 = .ok (.idiv, 1) := by decide +kernel
theorem dX6_good_143 : decode cX6_good 143 = .ok (.iload 7, 2) := by decide +kernel
theorem dX6_good_145 : decode cX6_good 145 = .ok (.irem, 1) := by decide +kernel
theorem dX6_good_146 : decode cX6_good 146 = .ok (.iload 5, 2) := by decide +kernel
theorem dX6_good_148 : decode cX6_good 148 = .ok (.if_icmp .ne 7, 3) := by decide +kernel
theorem dX6_good_151 : decode cX6_good 151 = .ok (.iconst 1, 1) := by decide +kernel
theorem dX6_good_152 : decode cX6_good 152 = .ok (.goto 4, 3) := by decide +kernel
theorem dX6_good_155 : decode cX6_good 155 = .ok (.iconst 0, 1) := by decide +kernel
theorem dX6_good_156 : decode cX6_good 156 = .ok (.ireturn, 1) := by decide +kernel
theorem dJ9_floorMod_7cf53_0 : decode cJ9_floorMod_7cf53 0 = .ok (.iload_n 0, 1) := by decide +kernel
theorem dJ9_floorMod_7cf53_1 : decode cJ9_floorMod_7cf53 1 = .ok (.iload_n 1, 1) := by decide +kernel
theorem dJ9_floorMod_7cf53_2 : decode cJ9_floorMod_7cf53 2 = .ok (.irem, 1) := by decide +kernel
theorem dJ9_floorMod_7cf53_3 : decode cJ9_floorMod_7cf53 3 = .ok (.istore_n 2, 1) := by decide +kernel
theorem dJ9_floorMod_7cf53_4 : decode cJ9_floorMod_7cf53 4 = .ok (.iload_n 0, 1) := by decide +kernel
theorem dJ9_floorMod_7cf53_5 : decode cJ9_floorMod_7cf53 5 = .ok (.iload_n 1, 1) := by decide +kernel
theorem dJ9_floorMod_7cf53_6 : decode cJ9_floorMod_7cf53 6 = .ok (.ixor, 1) := by decide +kernel
theorem dJ9_floorMod_7cf53_7 : decode cJ9_floorMod_7cf53 7 = .ok (.ifCond .ge 11, 3) := by decide +kernel
theorem dJ9_floorMod_7cf53_10 : decode cJ9_floorMod_7cf53 10 = .ok (.iload_n 2, 1) := by decide +kernel
theorem dJ9_floorMod_7cf53_11 : decode cJ9_floorMod_7cf53 11 = .ok (.ifCond .eq 7, 3) := by decide +kernel
theorem dJ9_floorMod_7cf53_14 : decode cJ9_floorMod_7cf53 14 = .ok (.iload_n 2, 1) := by decide +kernel
theorem dJ9_floorMod_7cf53_15 : decode cJ9_floorMod_7cf53 15 = .ok (.iload_n 1, 1) := by decide +kernel
theorem dJ9_floorMod_7cf53_16 : decode cJ9_floorMod_7cf53 16 = .ok (.iadd, 1) := by decide +kernel
theorem dJ9_floorMod_7cf53_17 : decode cJ9_floorMod_7cf53 17 = .ok (.ireturn, 1) := by decide +kernel
theorem dJ9_floorMod_7cf53_18 : decode cJ9_floorMod_7cf53 18 = .ok (.iload_n 2, 1) := by decide +kernel
theorem dJ9_floorMod_7cf53_19 : decode cJ9_floorMod_7cf53 19 = .ok (.ireturn, 1) := by decide +kernel
