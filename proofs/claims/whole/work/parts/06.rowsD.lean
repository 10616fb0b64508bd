theorem dX6_laws_147 : decode cX6_laws 147 = .ok (.iconst 1, 1) := by decide +kernel
theorem dX6_laws_148 : decode cX6_laws 148 = .ok (.goto 4, 3) := by decide +kernel
theorem dX6_laws_151 : decode cX6_laws 151 = .ok (.iconst 0, 1) := by decide +kernel
theorem dX6_laws_152 : decode cX6_laws 152 = .ok (.invokevirtual 137, 3) := by decide +kernel
theorem dX6_laws_155 : decode cX6_laws 155 = .ok (.pop, 1) := by decide +kernel
theorem dX6_laws_156 : decode cX6_laws 156 = .ok (.aload_n 0, 1) := by decide +kernel
theorem dX6_laws_157 : decode cX6_laws 157 = .ok (.invokevirtual 130, 3) := by decide +kernel
theorem dX6_laws_160 : decode cX6_laws 160 = .ok (.ifCond .eq 54, 3) := by decide +kernel
theorem dX6_laws_163 : decode cX6_laws 163 = .ok (.bipush 24, 2) := by decide +kernel
theorem dX6_laws_165 : decode cX6_laws 165 = .ok (.iconst 4, 1) := by decide +kernel
theorem dX6_laws_166 : decode cX6_laws 166 = .ok (.iload_n 1, 1) := by decide +kernel
theorem dX6_laws_167 : decode cX6_laws 167 = .ok (.imul, 1) := by decide +kernel
theorem dX6_laws_168 : decode cX6_laws 168 = .ok (.iadd, 1) := by decide +kernel
theorem dX6_laws_169 : decode cX6_laws 169 = .ok (.istore 6, 2) := by decide +kernel
theorem dX6_laws_171 : decode cX6_laws 171 = .ok (.aload_n 0, 1) := by decide +kernel
theorem dX6_laws_172 : decode cX6_laws 172 = .ok (.getfield 23, 3) := by decide +kernel
theorem dX6_laws_175 : decode cX6_laws 175 = .ok (.iload 6, 2) := by decide +kernel
theorem dX6_laws_177 : decode cX6_laws 177 = .ok (.iload_n 2, 1) := by decide +kernel
theorem dX6_laws_178 : decode cX6_laws 178 = .ok (.iastore, 1) := by decide +kernel
theorem dX6_laws_179 : decode cX6_laws 179 = .ok (.aload_n 0, 1) := by decide +kernel
theorem dX6_laws_180 : decode cX6_laws 180 = .ok (.getfield 23, 3) := by decide +kernel
theorem dX6_laws_183 : decode cX6_laws 183 = .ok (.iload 6, 2) := by decide +kernel
theorem dX6_laws_185 : decode cX6_laws 185 = .ok (.iconst 1, 1) := by decide +kernel
theorem dX6_laws_186 : decode cX6_laws 186 = .ok (.iadd, 1) := by decide +kernel
theorem dX6_laws_187 : decode cX6_laws 187 = .ok (.iload_n 3, 1) := by decide +kernel
theorem dX6_laws_188 : decode cX6_laws 188 = .ok (.iastore, 1) := by decide +kernel
theorem dX6_laws_189 : decode cX6_laws 189 = .ok (.aload_n 0, 1) := by decide +kernel
theorem dX6_laws_190 : decode cX6_laws 190 = .ok (.getfield 23, 3) := by decide +kernel
theorem dX6_laws_193 : decode cX6_laws 193 = .ok (.iload 6, 2) := by decide +kernel
theorem dX6_laws_195 : decode cX6_laws 195 = .ok (.iconst 2, 1) := by decide +kernel
theorem dX6_laws_196 : decode cX6_laws 196 = .ok (.iadd, 1) := by decide +kernel
theorem dX6_laws_197 : decode cX6_laws 197 = .ok (.iload 4, 2) := by decide +kernel
theorem dX6_laws_199 : decode cX6_laws 199 = .ok (.iastore, 1) := by decide +kernel
theorem dX6_laws_200 : decode cX6_laws 200 = .ok (.aload_n 0, 1) := by decide +kernel
theorem dX6_laws_201 : decode cX6_laws 201 = .ok (.getfield 23, 3) := by decide +kernel
theorem dX6_laws_204 : decode cX6_laws 204 = .ok (.iload 6, 2) := by decide +kernel
theorem dX6_laws_206 : decode cX6_laws 206 = .ok (.iconst 3, 1) := by decide +kernel
theorem dX6_laws_207 : decode cX6_laws 207 = .ok (.iadd, 1) := by decide +kernel
theorem dX6_laws_208 : decode cX6_laws 208 = .ok (.iload 5, 2) := by decide +kernel
theorem dX6_laws_210 : decode cX6_laws 210 = .ok (.iastore, 1) := by decide +kernel
theorem dX6_laws_211 : decode cX6_laws 211 = .ok (.iinc 1 1, 3) := by decide +kernel
theorem dX6_laws_214 : decode cX6_laws 214 = .ok (.goto (-193), 3) := by decide +kernel
theorem dX6_laws_217 : decode cX6_laws 217 = .ok (.aload_n 0, 1) := by decide +kernel
theorem dX6_laws_218 : decode cX6_laws 218 = .ok (.invokevirtual 130, 3) := by decide +kernel
theorem dX6_laws_221 : decode cX6_laws 221 = .ok (.ifCond .ne 11, 3) := by decide +kernel
theorem dX6_laws_224 : decode cX6_laws 224 = .ok (.bipush (-10), 2) := by decide +kernel
theorem dX6_laws_226 : decode cX6_laws 226 = .ok (.aload_n 0, 1) := by decide +kernel
theorem dX6_laws_227 : decode cX6_laws 227 = .ok (.getfield 127, 3) := by decide +kernel
theorem dX6_laws_230 : decode cX6_laws 230 = .ok (.isub, 1) := by decide +kernel
theorem dX6_laws_231 : decode cX6_laws 231 = .ok (.ireturn, 1) := by decide +kernel
theorem dX6_laws_232 : decode cX6_laws 232 = .ok (.iconst 0, 1) := by decide +kernel
theorem dX6_laws_233 : decode cX6_laws 233 = .ok (.istore_n 2, 1) := by decide +kernel
theorem dX6_laws_234 : decode cX6_laws 234 = .ok (.iload_n 2, 1) := by decide +kernel
theorem dX6_laws_235 : decode cX6_laws 235 = .ok (.bipush 24, 2) := by decide +kernel
theorem dX6_laws_237 : decode cX6_laws 237 = .ok (.if_icmp .ge 24, 3) := by decide +kernel
theorem dX6_laws_240 : decode cX6_laws 240 = .ok (.aload_n 0, 1) := by decide +kernel
theorem dX6_laws_241 : decode cX6_laws 241 = .ok (.getfield 23, 3) := by decide +kernel
theorem dX6_laws_244 : decode cX6_laws 244 = .ok (.iload_n 2, 1) := by decide +kernel
theorem dX6_laws_245 : decode cX6_laws 245 = .ok (.aload_n 0, 1) := by decide +kernel
theorem dX6_laws_246 : decode cX6_laws 246 = .ok (.getfield 23, 3) := by decide +kernel
theorem dX6_laws_249 : decode cX6_laws 249 = .ok (.bipush 24, 2) := by decide +kernel
theorem dX6_laws_251 : decode cX6_laws 251 = .ok (.iload_n 2, 1) := by decide +kernel
theorem dX6_laws_252 : decode cX6_laws 252 = .ok (.iadd, 1) := by decide +kernel
theorem dX6_laws_253 : decode cX6_laws 253 = .ok (.iaload, 1) := by decide +kernel
theorem dX6_laws_254 : decode cX6_laws 254 = .ok (.iastore, 1) := by decide +kernel
theorem dX6_laws_255 : decode cX6_laws 255 = .ok (.iinc 2 1, 3) := by decide +kernel
theorem dX6_laws_258 : decode cX6_laws 258 = .ok (.goto (-24), 3) := by decide +kernel
theorem dX6_laws_261 : decode cX6_laws 261 = .ok (.aload_n 0, 1) := by decide +kernel
theorem dX6_laws_262 : decode cX6_laws 262 = .ok (.iload_n 1, 1) := by decide +kernel
theorem dX6_laws_263 : decode cX6_laws 263 = .ok (.putfield 144, 3) := by decide +kernel
theorem dX6_laws_266 : decode cX6_laws 266 = .ok (.aload_n 0, 1) := by decide +kernel
theorem dX6_laws_267 : decode cX6_laws 267 = .ok (.iconst 0, 1) := by decide +kernel
theorem dX6_laws_268 : decode cX6_laws 268 = .ok (.putfield 99, 3) := by decide +kernel
theorem dX6_laws_271 : decode cX6_laws 271 = .ok (.aload_n 0, 1) := by decide +kernel
theorem dX6_laws_272 : decode cX6_laws 272 = .ok (.getfield 144, 3) := by decide +kernel
theorem dX6_laws_275 : decode cX6_laws 275 = .ok (.ireturn, 1) := by decide +kernel
set_option maxRecDepth 20000 in
theorem ggX6_isLaw_X6_in : GoodIn wsX6_isLaw wsX6_in := goodIn_r _ [5] (by decide +kernel) (by decide +kernel)
set_option maxRecDepth 20000 in
theorem gX6_isLaw_X6_in : GoodIn wsX6_isLaw (va_wsS RX6 37 yX6_in wsX6_in) := goodIn_app (goodIn_of _ (by decide +kernel)) ggX6_isLaw_X6_in
theorem dX6_isLaw_0 : decode cX6_isLaw 0 = .ok (.iload_n 1, 1) := by decide +kernel
theorem dX6_isLaw_1 : decode cX6_isLaw 1 = .ok (.iconst 0, 1) := by decide +kernel
theorem dX6_isLaw_2 : decode cX6_isLaw 2 = .ok (.aload_n 0, 1) := by decide +kernel
theorem dX6_isLaw_3 : decode cX6_isLaw 3 = .ok (.getfield 144, 3) := by decide +kernel
theorem dX6_isLaw_6 : decode cX6_isLaw 6 = .ok (.iconst 1, 1) := by decide +kernel
theorem dX6_isLaw_7 : decode cX6_isLaw 7 = .ok (.isub, 1) := by decide +kernel
theorem dX6_isLaw_8 : decode cX6_isLaw 8 = .ok (.invokestatic 37, 3) := by decide +kernel
theorem dX6_isLaw_11 : decode cX6_isLaw 11 = .ok (.ireturn, 1) := by decide +kernel
theorem dX6_with_0 : decode cX6_with 0 = .ok (.iload_n 2, 1) := by decide +kernel
theorem dX6_with_1 : decode cX6_with 1 = .ok (.aload_n 0, 1) := by decide +kernel
theorem dX6_with_2 : decode cX6_with 2 = .ok (.getfield 23, 3) := by decide +kernel
theorem dX6_with_5 : decode cX6_with 5 = .ok (.iconst 4, 1) := by decide +kernel
theorem dX6_with_6 : decode cX6_with 6 = .ok (.iload_n 1, 1) := by decide +kernel
theorem dX6_with_7 : decode cX6_with 7 = .ok (.imul, 1) := by decide +kernel
theorem dX6_with_8 : decode cX6_with 8 = .ok (.iconst 2, 1) := by decide +kernel
theorem dX6_with_9 : decode cX6_with 9 = .ok (.iadd, 1) := by decide +kernel
theorem dX6_with_10 : decode cX6_with 10 = .ok (.iaload, 1) := by decide +kernel
theorem dX6_with_11 : decode cX6_with 11 = .ok (.iand, 1) := by decide +kernel
theorem dX6_with_12 : decode cX6_with 12 = .ok (.aload_n 0, 1) := by decide +kernel
theorem dX6_with_13 : decode cX6_with 13 = .ok (.getfield 23, 3) := by decide +kernel
theorem dX6_with_16 : decode cX6_with 16 = .ok (.iconst 4, 1) := by decide +kernel
theorem dX6_with_17 : decode cX6_with 17 = .ok (.iload_n 1, 1) := by decide +kernel
theorem dX6_with_18 : decode cX6_with 18 = .ok (.imul, 1) := by decide +kernel
theorem dX6_with_19 : decode cX6_with 19 = .ok (.iconst 2, 1) := by decide +kernel
theorem dX6_with_20 : decode cX6_with 20 = .ok (.iadd, 1) := by decide +kernel
theorem dX6_with_21 : decode cX6_with 21 = .ok (.iaload, 1) := by decide +kernel
theorem dX6_with_22 : decode cX6_with 22 = .ok (.if_icmp .ne 14, 3) := by decide +kernel
theorem dX6_with_25 : decode cX6_with 25 = .ok (.aload_n 0, 1) := by decide +kernel
theorem dX6_with_26 : decode cX6_with 26 = .ok (.getfield 23, 3) := by decide +kernel
theorem dX6_with_29 : decode cX6_with 29 = .ok (.iconst 4, 1) := by decide +kernel
theorem dX6_with_30 : decode cX6_with 30 = .ok (.iload_n 1, 1) := by decide +kernel
theorem dX6_with_31 : decode cX6_with 31 = .ok (.imul, 1) := by decide +kernel
theorem dX6_with_32 : decode cX6_with 32 = .ok (.iaload, 1) := by decide +kernel
theorem dX6_with_33 : decode cX6_with 33 = .ok (.goto 13, 3) := by decide +kernel
theorem dX6_with_36 : decode cX6_with 36 = .ok (.aload_n 0, 1) := by decide +kernel
theorem dX6_with_37 : decode cX6_with 37 = .ok (.getfield 23, 3) := by decide +kernel
theorem dX6_with_40 : decode cX6_with 40 = .ok (.iconst 4, 1) := by decide +kernel
theorem dX6_with_41 : decode cX6_with 41 = .ok (.iload_n 1, 1) := by decide +kernel
theorem dX6_with_42 : decode cX6_with 42 = .ok (.imul, 1) := by decide +kernel
theorem dX6_with_43 : decode cX6_with 43 = .ok (.iconst 3, 1) := by decide +kernel
theorem dX6_with_44 : decode cX6_with 44 = .ok (.iadd, 1) := by decide +kernel
theorem dX6_with_45 : decode cX6_with 45 = .ok (.iaload, 1) := by decide +kernel
theorem dX6_with_46 : decode cX6_with 46 = .ok (.ireturn, 1) := by decide +kernel
set_option maxRecDepth 20000 in
theorem ggX6_tenths_X6_isLaw : GoodIn wsX6_tenths wsX6_isLaw := goodIn_r _ [7, 8, 9, 10, 6, 11, 16, 17, 18, 19, 20, 21, 22, 23, 24, 25, 26, 27, 28, 29, 30, 31, 32, 33, 34, 35] (by decide +kernel) (by decide +kernel)
set_option maxRecDepth 20000 in
theorem gX6_tenths_X6_isLaw : GoodIn wsX6_tenths (wsV RX6 147 RX6 yX6_isLaw wsX6_isLaw) := goodIn_app (goodIn_of _ (by decide +kernel)) ggX6_tenths_X6_isLaw
set_option maxRecDepth 20000 in
theorem ggX6_tenths_X6_in : GoodIn wsX6_tenths wsX6_in := goodIn_r _ [11] (by decide +kernel) (by decide +kernel)
set_option maxRecDepth 20000 in
theorem gX6_tenths_X6_in : GoodIn wsX6_tenths (va_wsS RX6 37 yX6_in wsX6_in) := goodIn_app (goodIn_of _ (by decide +kernel)) ggX6_tenths_X6_in
set_option maxRecDepth 20000 in
theorem ggX6_tenths_X6_with : GoodIn wsX6_tenths wsX6_with := goodIn_r _ [15, 2, 16, 17, 18, 19, 20, 21, 22, 23, 24, 25, 26, 27, 28, 29, 30, 31, 32, 33, 34, 35] (by decide +kernel) (by decide +kernel)
set_option maxRecDepth 20000 in
theorem gX6_tenths_X6_with : GoodIn wsX6_tenths (wsV RX6 150 RX6 yX6_with wsX6_with) := goodIn_app (goodIn_of _ (by decide +kernel)) ggX6_tenths_X6_with
theorem dX6_tenths_0 : decode cX6_tenths 0 = .ok (.aload_n 0, 1) := by decide +kernel
theorem dX6_tenths_1 : decode cX6_tenths 1 = .ok (.iconst 0, 1) := by decide +kernel
theorem dX6_tenths_2 : decode cX6_tenths 2 = .ok (.putfield 34, 3) := by decide +kernel
theorem dX6_tenths_5 : decode cX6_tenths 5 = .ok (.aload_n 0, 1) := by decide +kernel
theorem dX6_tenths_6 : decode cX6_tenths 6 = .ok (.iload_n 1, 1) := by decide +kernel
theorem dX6_tenths_7 : decode cX6_tenths 7 = .ok (.invokevirtual 147, 3) := by decide +kernel
theorem dX6_tenths_10 : decode cX6_tenths 10 = .ok (.ifCond .eq 22, 3) := by decide +kernel
theorem dX6_tenths_13 : decode cX6_tenths 13 = .ok (.iload_n 2, 1) := by decide +kernel
theorem dX6_tenths_14 : decode cX6_tenths 14 = .ok (.iconst 0, 1) := by decide +kernel
theorem dX6_tenths_15 : decode cX6_tenths 15 = .ok (.bipush 63, 2) := by decide +kernel
theorem dX6_tenths_17 : decode cX6_tenths 17 = .ok (.invokestatic 37, 3) := by decide +kernel
theorem dX6_tenths_20 : decode cX6_tenths 20 = .ok (.ifCond .eq 12, 3) := by decide +kernel
theorem dX6_tenths_23 : decode cX6_tenths 23 = .ok (.iload_n 3, 1) := by decide +kernel
theorem dX6_tenths_24 : decode cX6_tenths 24 = .ok (.iconst 0, 1) := by decide +kernel
theorem dX6_tenths_25 : decode cX6_tenths 25 = .ok (.iconst 1, 1) := by decide +kernel
theorem dX6_tenths_26 : decode cX6_tenths 26 = .ok (.invokestatic 37, 3) := by decide +kernel
theorem dX6_tenths_29 : decode cX6_tenths 29 = .ok (.ifCond .ne 7, 3) := by decide +kernel
theorem dX6_tenths_32 : decode cX6_tenths 32 = .ok (.iconst (-1), 1) := by decide +kernel
theorem dX6_tenths_33 : decode cX6_tenths 33 = .ok (.goto 26, 3) := by decide +kernel
theorem dX6_tenths_36 : decode cX6_tenths 36 = .ok (.iload_n 3, 1) := by decide +kernel
theorem dX6_tenths_37 : decode cX6_tenths 37 = .ok (.ifCond .ne 12, 3) := by decide +kernel
theorem dX6_tenths_40 : decode cX6_tenths 40 = .ok (.aload_n 0, 1) := by decide +kernel
theorem dX6_tenths_41 : decode cX6_tenths 41 = .ok (.iload_n 1, 1) := by decide +kernel
theorem dX6_tenths_42 : decode cX6_tenths 42 = .ok (.iload_n 2, 1) := by decide +kernel
theorem dX6_tenths_43 : decode cX6_tenths 43 = .ok (.invokevirtual 150, 3) := by decide +kernel
theorem dX6_tenths_46 : decode cX6_tenths 46 = .ok (.goto 13, 3) := by decide +kernel
theorem dX6_tenths_49 : decode cX6_tenths 49 = .ok (.aload_n 0, 1) := by decide +kernel
theorem dX6_tenths_50 : decode cX6_tenths 50 = .ok (.getfield 23, 3) := by decide +kernel
theorem dX6_tenths_53 : decode cX6_tenths 53 = .ok (.iconst 4, 1) := by decide +kernel
theorem dX6_tenths_54 : decode cX6_tenths 54 = .ok (.iload_n 1, 1) := by decide +kernel
theorem dX6_tenths_55 : decode cX6_tenths 55 = .ok (.imul, 1) := by decide +kernel
theorem dX6_tenths_56 : decode cX6_tenths 56 = .ok (.iconst 1, 1) := by decide +kernel
theorem dX6_tenths_57 : decode cX6_tenths 57 = .ok (.iadd, 1) := by decide +kernel
theorem dX6_tenths_58 : decode cX6_tenths 58 = .ok (.iaload, 1) := by decide +kernel
theorem dX6_tenths_59 : decode cX6_tenths 59 = .ok (.ireturn, 1) := by decide +kernel
set_option maxRecDepth 20000 in
theorem ggX6_misfitOf_X6_of : GoodIn wsX6_misfitOf wsX6_of := goodIn_r _ [7, 1, 15, 16, 17, 18, 19, 20, 21, 22, 23, 24, 25, 26, 27, 28, 29, 30, 31, 32, 33, 34] (by decide +kernel) (by decide +kernel)
set_option maxRecDepth 20000 in
theorem gX6_misfitOf_X6_of : GoodIn wsX6_misfitOf (wsV RX6 45 RX6 yX6_of wsX6_of) := goodIn_app (goodIn_of _ (by decide +kernel)) ggX6_misfitOf_X6_of
set_option maxRecDepth 20000 in
theorem ggX6_misfitOf_X6_with : GoodIn wsX6_misfitOf wsX6_with := goodIn_r _ [11, 2, 15, 16, 17, 18, 19, 20, 21, 22, 23, 24, 25, 26, 27, 28, 29, 30, 31, 32, 33, 34] (by decide +kernel) (by decide +kernel)
set_option maxRecDepth 20000 in
theorem gX6_misfitOf_X6_with : GoodIn wsX6_misfitOf (wsV RX6 150 RX6 yX6_with wsX6_with) := goodIn_app (goodIn_of _ (by decide +kernel)) ggX6_misfitOf_X6_with
set_option maxRecDepth 20000 in
theorem ggX6_misfitOf_X6_size : GoodIn wsX6_misfitOf wsX6_size := goodIn_r _ [14] (by decide +kernel) (by decide +kernel)
set_option maxRecDepth 20000 in
theorem gX6_misfitOf_X6_size : GoodIn wsX6_misfitOf (va_wsS RX6 55 yX6_size wsX6_size) := goodIn_app (goodIn_of _ (by decide +kernel)) ggX6_misfitOf_X6_size
theorem dX6_misfitOf_0 : decode cX6_misfitOf 0 = .ok (.iconst 0, 1) := by decide +kernel
theorem dX6_misfitOf_1 : decode cX6_misfitOf 1 = .ok (.istore_n 2, 1) := by decide +kernel
theorem dX6_misfitOf_2 : decode cX6_misfitOf 2 = .ok (.iconst 0, 1) := by decide +kernel
theorem dX6_misfitOf_3 : decode cX6_misfitOf 3 = .ok (.istore_n 3, 1) := by decide +kernel
theorem dX6_misfitOf_4 : decode cX6_misfitOf 4 = .ok (.iload_n 3, 1) := by decide +kernel
theorem dX6_misfitOf_5 : decode cX6_misfitOf 5 = .ok (.aload_n 0, 1) := by decide +kernel
theorem dX6_misfitOf_6 : decode cX6_misfitOf 6 = .ok (.getfield 7, 3) := by decide +kernel
theorem dX6_misfitOf_9 : decode cX6_misfitOf 9 = .ok (.iconst 0, 1) := by decide +kernel
theorem dX6_misfitOf_10 : decode cX6_misfitOf 10 = .ok (.iaload, 1) := by decide +kernel
theorem dX6_misfitOf_11 : decode cX6_misfitOf 11 = .ok (.if_icmp .ge 76, 3) := by decide +kernel
theorem dX6_misfitOf_14 : decode cX6_misfitOf 14 = .ok (.iload_n 2, 1) := by decide +kernel
theorem dX6_misfitOf_15 : decode cX6_misfitOf 15 = .ok (.bipush 10, 2) := by decide +kernel
theorem dX6_misfitOf_17 : decode cX6_misfitOf 17 = .ok (.aload_n 0, 1) := by decide +kernel
theorem dX6_misfitOf_18 : decode cX6_misfitOf 18 = .ok (.iload_n 3, 1) := by decide +kernel
theorem dX6_misfitOf_19 : decode cX6_misfitOf 19 = .ok (.iconst 1, 1) := by decide +kernel
theorem dX6_misfitOf_20 : decode cX6_misfitOf 20 = .ok (.invokevirtual 45, 3) := by decide +kernel
theorem dX6_misfitOf_23 : decode cX6_misfitOf 23 = .ok (.imul, 1) := by decide +kernel
theorem dX6_misfitOf_24 : decode cX6_misfitOf 24 = .ok (.aload_n 0, 1) := by decide +kernel
theorem dX6_misfitOf_25 : decode cX6_misfitOf 25 = .ok (.iload_n 1, 1) := by decide +kernel
theorem dX6_misfitOf_26 : decode cX6_misfitOf 26 = .ok (.aload_n 0, 1) := by decide +kernel
theorem dX6_misfitOf_27 : decode cX6_misfitOf 27 = .ok (.iload_n 3, 1) := by decide +kernel
theorem dX6_misfitOf_28 : decode cX6_misfitOf 28 = .ok (.iconst 3, 1) := by decide +kernel
theorem dX6_misfitOf_29 : decode cX6_misfitOf 29 = .ok (.invokevirtual 45, 3) := by decide +kernel
theorem dX6_misfitOf_32 : decode cX6_misfitOf 32 = .ok (.invokevirtual 150, 3) := by decide +kernel
theorem dX6_misfitOf_35 : decode cX6_misfitOf 35 = .ok (.aload_n 0, 1) := by decide +kernel
theorem dX6_misfitOf_36 : decode cX6_misfitOf 36 = .ok (.iload_n 3, 1) := by decide +kernel
theorem dX6_misfitOf_37 : decode cX6_misfitOf 37 = .ok (.iconst 0, 1) := by decide +kernel
theorem dX6_misfitOf_38 : decode cX6_misfitOf 38 = .ok (.invokevirtual 45, 3) := by decide +kernel
theorem dX6_misfitOf_41 : decode cX6_misfitOf 41 = .ok (.imul, 1) := by decide +kernel
theorem dX6_misfitOf_42 : decode cX6_misfitOf 42 = .ok (.isub, 1) := by decide +kernel
theorem dX6_misfitOf_43 : decode cX6_misfitOf 43 = .ok (.invokestatic 55, 3) := by decide +kernel
theorem dX6_misfitOf_46 : decode cX6_misfitOf 46 = .ok (.iadd, 1) := by decide +kernel
theorem dX6_misfitOf_47 : decode cX6_misfitOf 47 = .ok (.istore_n 2, 1) := by decide +kernel
theorem dX6_misfitOf_48 : decode cX6_misfitOf 48 = .ok (.iload_n 2, 1) := by decide +kernel
theorem dX6_misfitOf_49 : decode cX6_misfitOf 49 = .ok (.bipush 10, 2) := by decide +kernel
theorem dX6_misfitOf_51 : decode cX6_misfitOf 51 = .ok (.aload_n 0, 1) := by decide +kernel
theorem dX6_misfitOf_52 : decode cX6_misfitOf 52 = .ok (.iload_n 3, 1) := by decide +kernel
theorem dX6_misfitOf_53 : decode cX6_misfitOf 53 = .ok (.iconst 2, 1) := by decide +kernel
theorem dX6_misfitOf_54 : decode cX6_misfitOf 54 = .ok (.invokevirtual 45, 3) := by decide +kernel
theorem dX6_misfitOf_57 : decode cX6_misfitOf 57 = .ok (.imul, 1) := by decide +kernel
theorem dX6_misfitOf_58 : decode cX6_misfitOf 58 = .ok (.aload_n 0, 1) := by decide +kernel
theorem dX6_misfitOf_59 : decode cX6_misfitOf 59 = .ok (.getfield 23, 3) := by decide +kernel
theorem dX6_misfitOf_62 : decode cX6_misfitOf 62 = .ok (.iconst 4, 1) := by decide +kernel
theorem dX6_misfitOf_63 : decode cX6_misfitOf 63 = .ok (.iload_n 1, 1) := by decide +kernel
theorem dX6_misfitOf_64 : decode cX6_misfitOf 64 = .ok (.imul, 1) := by decide +kernel
theorem dX6_misfitOf_65 : decode cX6_misfitOf 65 = .ok (.iconst 1, 1) := by decide +kernel
theorem dX6_misfitOf_66 : decode cX6_misfitOf 66 = .ok (.iadd, 1) := by decide +kernel
theorem dX6_misfitOf_67 : decode cX6_misfitOf 67 = .ok (.iaload, 1) := by decide +kernel
theorem dX6_misfitOf_68 : decode cX6_misfitOf 68 = .ok (.aload_n 0, 1) := by decide +kernel
theorem dX6_misfitOf_69 : decode cX6_misfitOf 69 = .ok (.iload_n 3, 1) := by decide +kernel
theorem dX6_misfitOf_70 : decode cX6_misfitOf 70 = .ok (.iconst 0, 1) := by decide +kernel
theorem dX6_misfitOf_71 : decode cX6_misfitOf 71 = .ok (.invokevirtual 45, 3) := by decide +kernel
theorem dX6_misfitOf_74 : decode cX6_misfitOf 74 = .ok (.imul, 1) := by decide +kernel
theorem dX6_misfitOf_75 : decode cX6_misfitOf 75 = .ok (.isub, 1) := by decide +kernel
theorem dX6_misfitOf_76 : decode cX6_misfitOf 76 = .ok (.invokestatic 55, 3) := by decide +kernel
theorem dX6_misfitOf_79 : decode cX6_misfitOf 79 = .ok (.iadd, 1) := by decide +kernel
theorem dX6_misfitOf_80 : decode cX6_misfitOf 80 = .ok (.istore_n 2, 1) := by decide +kernel
theorem dX6_misfitOf_81 : decode cX6_misfitOf 81 = .ok (.iinc 3 1, 3) := by decide +kernel
theorem dX6_misfitOf_84 : decode cX6_misfitOf 84 = .ok (.goto (-80), 3) := by decide +kernel
theorem dX6_misfitOf_87 : decode cX6_misfitOf 87 = .ok (.iload_n 2, 1) := by decide +kernel
theorem dX6_misfitOf_88 : decode cX6_misfitOf 88 = .ok (.ireturn, 1) := by decide +kernel
set_option maxRecDepth 20000 in
theorem ggX6_misfit_X6_isLaw : GoodIn wsX6_misfit wsX6_isLaw := goodIn_r _ [6, 7, 8, 9, 5, 10, 28, 29, 30, 31, 32, 33, 34, 35, 36, 37, 38, 39, 40, 41, 42, 43, 44, 45, 46, 47] (by decide +kernel) (by decide +kernel)
set_option maxRecDepth 20000 in
theorem gX6_misfit_X6_isLaw : GoodIn wsX6_misfit (wsV RX6 147 RX6 yX6_isLaw wsX6_isLaw) := goodIn_app (goodIn_of _ (by decide +kernel)) ggX6_misfit_X6_isLaw
set_option maxRecDepth 20000 in
theorem ggX6_misfit_X6_misfitOf : GoodIn wsX6_misfit wsX6_misfitOf := goodIn_r _ [14, 15, 16, 17, 18, 19, 5, 20, 21, 22, 23, 24, 25, 26, 27, 28, 29, 30, 31, 32, 33, 34, 35, 36, 37, 38, 39, 40, 41, 42, 43, 44, 45, 46, 47] (by decide +kernel) (by decide +kernel)
set_option maxRecDepth 20000 in
theorem gX6_misfit_X6_misfitOf : GoodIn wsX6_misfit (wsV RX6 153 RX6 yX6_misfitOf wsX6_misfitOf) := goodIn_app (goodIn_of _ (by decide +kernel)) ggX6_misfit_X6_misfitOf
theorem dX6_misfit_0 : decode cX6_misfit 0 = .ok (.aload_n 0, 1) := by decide +kernel
theorem dX6_misfit_1 : decode cX6_misfit 1 = .ok (.iconst 0, 1) := by decide +kernel
theorem dX6_misfit_2 : decode cX6_misfit 2 = .ok (.putfield 34, 3) := by decide +kernel
theorem dX6_misfit_5 : decode cX6_misfit 5 = .ok (.aload_n 0, 1) := by decide +kernel
theorem dX6_misfit_6 : decode cX6_misfit 6 = .ok (.iload_n 1, 1) := by decide +kernel
theorem dX6_misfit_7 : decode cX6_misfit 7 = .ok (.invokevirtual 147, 3) := by decide +kernel
theorem dX6_misfit_10 : decode cX6_misfit 10 = .ok (.ifCond .eq 11, 3) := by decide +kernel
theorem dX6_misfit_13 : decode cX6_misfit 13 = .ok (.aload_n 0, 1) := by decide +kernel
theorem dX6_misfit_14 : decode cX6_misfit 14 = .ok (.iload_n 1, 1) := by decide +kernel
theorem dX6_misfit_15 : decode cX6_misfit 15 = .ok (.invokevirtual 153, 3) := by decide +kernel
theorem dX6_misfit_18 : decode cX6_misfit 18 = .ok (.goto 4, 3) := by decide +kernel
theorem dX6_misfit_21 : decode cX6_misfit 21 = .ok (.iconst (-1), 1) := by decide +kernel
theorem dX6_misfit_22 : decode cX6_misfit 22 = .ok (.ireturn, 1) := by decide +kernel
set_option maxRecDepth 20000 in
theorem ggX6_bestLaw_X6_misfitOf : GoodIn wsX6_bestLaw wsX6_misfitOf := goodIn_r _ [6, 7, 8, 9, 10, 11, 5, 12, 13, 14, 15, 16, 17, 18, 19, 20, 21, 22, 23, 24, 25, 26, 27, 28, 29, 30, 31, 32, 33, 34, 35, 36, 37, 38, 39] (by decide +kernel) (by decide +kernel)
set_option maxRecDepth 20000 in
theorem gX6_bestLaw_X6_misfitOf : GoodIn wsX6_bestLaw (wsV RX6 153 RX6 yX6_misfitOf wsX6_misfitOf) := goodIn_app (goodIn_of _ (by decide +kernel)) ggX6_bestLaw_X6_misfitOf
theorem dX6_bestLaw_0 : decode cX6_bestLaw 0 = .ok (.bipush (-9), 2) := by decide +kernel
theorem dX6_bestLaw_2 : decode cX6_bestLaw 2 = .ok (.istore_n 1, 1) := by decide +kernel
theorem dX6_bestLaw_3 : decode cX6_bestLaw 3 = .ok (.iconst 0, 1) := by decide +kernel
theorem dX6_bestLaw_4 : decode cX6_bestLaw 4 = .ok (.istore_n 2, 1) := by decide +kernel
theorem dX6_bestLaw_5 : decode cX6_bestLaw 5 = .ok (.iload_n 2, 1) := by decide +kernel
theorem dX6_bestLaw_6 : decode cX6_bestLaw 6 = .ok (.aload_n 0, 1) := by decide +kernel
theorem dX6_bestLaw_7 : decode cX6_bestLaw 7 = .ok (.getfield 144, 3) := by decide +kernel
theorem dX6_bestLaw_10 : decode cX6_bestLaw 10 = .ok (.if_icmp .ge 34, 3) := by decide +kernel
theorem dX6_bestLaw_13 : decode cX6_bestLaw 13 = .ok (.iload_n 1, 1) := by decide +kernel
theorem dX6_bestLaw_14 : decode cX6_bestLaw 14 = .ok (.bipush (-9), 2) := by decide +kernel
theorem dX6_bestLaw_16 : decode cX6_bestLaw 16 = .ok (.if_icmp .eq 16, 3) := by decide +kernel
theorem dX6_bestLaw_19 : decode cX6_bestLaw 19 = .ok (.aload_n 0, 1) := by decide +kernel
theorem dX6_bestLaw_20 : decode cX6_bestLaw 20 = .ok (.iload_n 2, 1) := by decide +kernel
theorem dX6_bestLaw_21 : decode cX6_bestLaw 21 = .ok (.invokevirtual 153, 3) := by decide +kernel
theorem dX6_bestLaw_24 : decode cX6_bestLaw 24 = .ok (.aload_n 0, 1) := by decide +kernel
theorem dX6_bestLaw_25 : decode cX6_bestLaw 25 = .ok (.iload_n 1, 1) := by decide +kernel
theorem dX6_bestLaw_26 : decode cX6_bestLaw 26 = .ok (.invokevirtual 153, 3) := by decide +kernel
theorem dX6_bestLaw_29 : decode cX6_bestLaw 29 = .ok (.if_icmp .ge 7, 3) := by decide +kernel
theorem dX6_bestLaw_32 : decode cX6_bestLaw 32 = .ok (.iload_n 2, 1) := by decide +kernel
theorem dX6_bestLaw_33 : decode cX6_bestLaw 33 = .ok (.goto 4, 3) := by decide +kernel
theorem dX6_bestLaw_36 : decode cX6_bestLaw 36 = .ok (.iload_n 1, 1) := by decide +kernel
theorem dX6_bestLaw_37 : decode cX6_bestLaw 37 = .ok (.istore_n 1, 1) := by decide +kernel
theorem dX6_bestLaw_38 : decode cX6_bestLaw 38 = .ok (.iinc 2 1, 3) := by decide +kernel
theorem dX6_bestLaw_41 : decode cX6_bestLaw 41 = .ok (.goto (-36), 3) := by decide +kernel
theorem dX6_bestLaw_44 : decode cX6_bestLaw 44 = .ok (.iload_n 1, 1) := by decide +kernel
theorem dX6_bestLaw_45 : decode cX6_bestLaw 45 = .ok (.ireturn, 1) := by decide +kernel
set_option maxRecDepth 20000 in
theorem ggX6_mayBe_X6_bestLaw : GoodIn wsX6_mayBe wsX6_bestLaw := goodIn_r _ [7, 1, 8, 9, 10, 6, 11, 12, 13, 14, 15, 16, 17, 18, 19, 20, 21, 22, 23, 24, 25, 26, 27, 28, 29, 30, 31, 32, 33, 34, 35, 36, 37, 38, 39, 40, 41, 42, 43, 44] (by decide +kernel) (by decide +kernel)
set_option maxRecDepth 20000 in
theorem gX6_mayBe_X6_bestLaw : GoodIn wsX6_mayBe (wsV RX6 156 RX6 yX6_bestLaw wsX6_bestLaw) := goodIn_app (goodIn_of _ (by decide +kernel)) ggX6_mayBe_X6_bestLaw
set_option maxRecDepth 20000 in
theorem ggX6_mayBe_X6_misfitOf : GoodIn wsX6_mayBe wsX6_misfitOf := goodIn_r _ [11, 12, 13, 14, 15, 16, 6, 17, 18, 19, 20, 21, 22, 23, 24, 25, 26, 27, 28, 29, 30, 31, 32, 33, 34, 35, 36, 37, 38, 39, 40, 41, 42, 43, 44] (by decide +kernel) (by decide +kernel)
set_option maxRecDepth 20000 in
theorem gX6_mayBe_X6_misfitOf : GoodIn wsX6_mayBe (wsV RX6 153 RX6 yX6_misfitOf wsX6_misfitOf) := goodIn_app (goodIn_of _ (by decide +kernel)) ggX6_mayBe_X6_misfitOf
theorem dX6_mayBe_0 : decode cX6_mayBe 0 = .ok (.iconst 0, 1) := by decide +kernel
theorem dX6_mayBe_1 : decode cX6_mayBe 1 = .ok (.istore_n 1, 1) := by decide +kernel
theorem dX6_mayBe_2 : decode cX6_mayBe 2 = .ok (.aload_n 0, 1) := by decide +kernel
theorem dX6_mayBe_3 : decode cX6_mayBe 3 = .ok (.invokevirtual 156, 3) := by decide +kernel
theorem dX6_mayBe_6 : decode cX6_mayBe 6 = .ok (.istore_n 2, 1) := by decide +kernel
theorem dX6_mayBe_7 : decode cX6_mayBe 7 = .ok (.iconst 0, 1) := by decide +kernel
theorem dX6_mayBe_8 : decode cX6_mayBe 8 = .ok (.istore_n 3, 1) := by decide +kernel
theorem dX6_mayBe_9 : decode cX6_mayBe 9 = .ok (.iload_n 3, 1) := by decide +kernel
theorem dX6_mayBe_10 : decode cX6_mayBe 10 = .ok (.aload_n 0, 1) := by decide +kernel
theorem dX6_mayBe_11 : decode cX6_mayBe 11 = .ok (.getfield 144, 3) := by decide +kernel
theorem dX6_mayBe_14 : decode cX6_mayBe 14 = .ok (.if_icmp .ge 37, 3) := by decide +kernel
theorem dX6_mayBe_17 : decode cX6_mayBe 17 = .ok (.iload_n 1, 1) := by decide +kernel
theorem dX6_mayBe_18 : decode cX6_mayBe 18 = .ok (.aload_n 0, 1) := by decide +kernel
theorem dX6_mayBe_19 : decode cX6_mayBe 19 = .ok (.iload_n 3, 1) := by decide +kernel
theorem dX6_mayBe_20 : decode cX6_mayBe 20 = .ok (.invokevirtual 153, 3) := by decide +kernel
theorem dX6_mayBe_23 : decode cX6_mayBe 23 = .ok (.aload_n 0, 1) := by decide +kernel
theorem dX6_mayBe_24 : decode cX6_mayBe 24 = .ok (.iload_n 2, 1) := by decide +kernel
theorem dX6_mayBe_25 : decode cX6_mayBe 25 = .ok (.invokevirtual 153, 3) := by decide +kernel
theorem dX6_mayBe_28 : decode cX6_mayBe 28 = .ok (.aload_n 0, 1) := by decide +kernel
theorem dX6_mayBe_29 : decode cX6_mayBe 29 = .ok (.getfield 26, 3) := by decide +kernel
theorem dX6_mayBe_32 : decode cX6_mayBe 32 = .ok (.iadd, 1) := by decide +kernel
theorem dX6_mayBe_33 : decode cX6_mayBe 33 = .ok (.if_icmp .gt 9, 3) := by decide +kernel
theorem dX6_mayBe_36 : decode cX6_mayBe 36 = .ok (.iconst 1, 1) := by decide +kernel
theorem dX6_mayBe_37 : decode cX6_mayBe 37 = .ok (.iload_n 3, 1) := by decide +kernel
theorem dX6_mayBe_38 : decode cX6_mayBe 38 = .ok (.ishl, 1) := by decide +kernel
theorem dX6_mayBe_39 : decode cX6_mayBe 39 = .ok (.goto 4, 3) := by decide +kernel
theorem dX6_mayBe_42 : decode cX6_mayBe 42 = .ok (.iconst 0, 1) := by decide +kernel
theorem dX6_mayBe_43 : decode cX6_mayBe 43 = .ok (.ior, 1) := by decide +kernel
theorem dX6_mayBe_44 : decode cX6_mayBe 44 = .ok (.istore_n 1, 1) := by decide +kernel
theorem dX6_mayBe_45 : decode cX6_mayBe 45 = .ok (.iinc 3 1, 3) := by decide +kernel
theorem dX6_mayBe_48 : decode cX6_mayBe 48 = .ok (.goto (-39), 3) := by decide +kernel
theorem dX6_mayBe_51 : decode cX6_mayBe 51 = .ok (.iload_n 1, 1) := by decide +kernel
theorem dX6_mayBe_52 : decode cX6_mayBe 52 = .ok (.ireturn, 1) := by decide +kernel
set_option maxRecDepth 20000 in
theorem ggX6_parting_X6_mayBe : GoodIn wsX6_parting wsX6_mayBe := goodIn_r _ [7, 1, 8, 9, 10, 11, 6, 12, 13, 14, 15, 16, 17, 18, 19, 20, 21, 22, 23, 24, 25, 26, 27, 28, 29, 30, 31, 32, 33, 34, 35, 36, 37, 38, 39, 40, 41, 42, 43, 44, 45, 46, 47, 48, 49] (by decide +kernel) (by decide +kernel)
set_option maxRecDepth 20000 in
theorem gX6_parting_X6_mayBe : GoodIn wsX6_parting (wsV RX6 159 RX6 yX6_mayBe wsX6_mayBe) := goodIn_app (goodIn_of _ (by decide +kernel)) ggX6_parting_X6_mayBe
set_option maxRecDepth 20000 in
theorem ggX6_parting_X6_with : GoodIn wsX6_parting wsX6_with := goodIn_r _ [26, 18, 30, 31, 32, 33, 34, 35, 36, 37, 38, 39, 40, 41, 42, 43, 44, 45, 46, 47, 48, 49] (by decide +kernel) (by decide +kernel)
set_option maxRecDepth 20000 in
theorem gX6_parting_X6_with : GoodIn wsX6_parting (wsV RX6 150 RX6 yX6_with wsX6_with) := goodIn_app (goodIn_of _ (by decide +kernel)) ggX6_parting_X6_with
theorem dX6_parting_0 : decode cX6_parting 0 = .ok (.aload_n 0, 1) := by decide +kernel
theorem dX6_parting_1 : decode cX6_parting 1 = .ok (.invokevirtual 159, 3) := by decide +kernel
theorem dX6_parting_4 : decode cX6_parting 4 = .ok (.istore_n 1, 1) := by decide +kernel
theorem dX6_parting_5 : decode cX6_parting 5 = .ok (.bipush (-9), 2) := by decide +kernel
theorem dX6_parting_7 : decode cX6_parting 7 = .ok (.istore_n 2, 1) := by decide +kernel
theorem dX6_parting_8 : decode cX6_parting 8 = .ok (.iconst 0, 1) := by decide +kernel
theorem dX6_parting_9 : decode cX6_parting 9 = .ok (.istore_n 3, 1) := by decide +kernel
theorem dX6_parting_10 : decode cX6_parting 10 = .ok (.iload_n 3, 1) := by decide +kernel
theorem dX6_parting_11 : decode cX6_parting 11 = .ok (.bipush 64, 2) := by decide +kernel
theorem dX6_parting_13 : decode cX6_parting 13 = .ok (.if_icmp .ge 124, 3) := by decide +kernel
theorem dX6_parting_16 : decode cX6_parting 16 = .ok (.iload_n 1, 1) := by decide +kernel
theorem dX6_parting_17 : decode cX6_parting 17 = .ok (.ifCond .eq 120, 3) := by decide +kernel
theorem dX6_parting_20 : decode cX6_parting 20 = .ok (.iconst 0, 1) := by decide +kernel
theorem dX6_parting_21 : decode cX6_parting 21 = .ok (.istore 4, 2) := by decide +kernel
theorem dX6_parting_23 : decode cX6_parting 23 = .ok (.iconst 0, 1) := by decide +kernel
theorem dX6_parting_24 : decode cX6_parting 24 = .ok (.istore 5, 2) := by decide +kernel
theorem dX6_parting_26 : decode cX6_parting 26 = .ok (.iload 5, 2) := by decide +kernel
theorem dX6_parting_28 : decode cX6_parting 28 = .ok (.bipush 11, 2) := by decide +kernel
theorem dX6_parting_30 : decode cX6_parting 30 = .ok (.if_icmp .ge 78, 3) := by decide +kernel
theorem dX6_parting_33 : decode cX6_parting 33 = .ok (.iconst 0, 1) := by decide +kernel
theorem dX6_parting_34 : decode cX6_parting 34 = .ok (.istore 6, 2) := by decide +kernel
theorem dX6_parting_36 : decode cX6_parting 36 = .ok (.iconst 0, 1) := by decide +kernel
theorem dX6_parting_37 : decode cX6_parting 37 = .ok (.istore 7, 2) := by decide +kernel
theorem dX6_parting_39 : decode cX6_parting 39 = .ok (.iload 7, 2) := by decide +kernel
theorem dX6_parting_41 : decode cX6_parting 41 = .ok (.aload_n 0, 1) := by decide +kernel
theorem dX6_parting_42 : decode cX6_parting 42 = .ok (.getfield 144, 3) := by decide +kernel
theorem dX6_parting_45 : decode cX6_parting 45 = .ok (.if_icmp .ge 41, 3) := by decide +kernel
theorem dX6_parting_48 : decode cX6_parting 48 = .ok (.iload 6, 2) := by decide +kernel
theorem dX6_parting_50 : decode cX6_parting 50 = .ok (.iload_n 1, 1) := by decide +kernel
theorem dX6_parting_51 : decode cX6_parting 51 = .ok (.iload 7, 2) := by decide +kernel
theorem dX6_parting_53 : decode cX6_parting 53 = .ok (.ishr, 1) := by decide +kernel
theorem dX6_parting_54 : decode cX6_parting 54 = .ok (.iconst 1, 1) := by decide +kernel
theorem dX6_parting_55 : decode cX6_parting 55 = .ok (.iand, 1) := by decide +kernel
theorem dX6_parting_56 : decode cX6_parting 56 = .ok (.iconst 1, 1) := by decide +kernel
theorem dX6_parting_57 : decode cX6_parting 57 = .ok (.if_icmp .ne 19, 3) := by decide +kernel
theorem dX6_parting_60 : decode cX6_parting 60 = .ok (.aload_n 0, 1) := by decide +kernel
theorem dX6_parting_61 : decode cX6_parting 61 = .ok (.iload 7, 2) := by decide +kernel
theorem dX6_parting_63 : decode cX6_parting 63 = .ok (.iload_n 3, 1) := by decide +kernel
theorem dX6_parting_64 : decode cX6_parting 64 = .ok (.invokevirtual 150, 3) := by decide +kernel
theorem dX6_parting_67 : decode cX6_parting 67 = .ok (.iload 5, 2) := by decide +kernel
theorem dX6_parting_69 : decode cX6_parting 69 = .ok (.if_icmp .ne 7, 3) := by decide +kernel
theorem dX6_parting_72 : decode cX6_parting 72 = .ok (.iconst 1, 1) := by decide +kernel
theorem dX6_parting_73 : decode cX6_parting 73 = .ok (.goto 4, 3) := by decide +kernel
theorem dX6_parting_76 : decode cX6_parting 76 = .ok (.iconst 0, 1) := by decide +kernel
theorem dX6_parting_77 : decode cX6_parting 77 = .ok (.iadd, 1) := by decide +kernel
theorem dX6_parting_78 : decode cX6_parting 78 = .ok (.istore 6, 2) := by decide +kernel
theorem dX6_parting_80 : decode cX6_parting 80 = .ok (.iinc 7 1, 3) := by decide +kernel
theorem dX6_parting_83 : decode cX6_parting 83 = .ok (.goto (-44), 3) := by decide +kernel
theorem dX6_parting_86 : decode cX6_parting 86 = .ok (.iload 6, 2) := by decide +kernel
theorem dX6_parting_88 : decode cX6_parting 88 = .ok (.iload 4, 2) := by decide +kernel
theorem dX6_parting_90 : decode cX6_parting 90 = .ok (.if_icmp .le 8, 3) := by decide +kernel
theorem dX6_parting_93 : decode cX6_parting 93 = .ok (.iload 6, 2) := by decide +kernel
theorem dX6_parting_95 : decode cX6_parting 95 = .ok (.goto 5, 3) := by decide +kernel
theorem dX6_parting_98 : decode cX6_parting 98 = .ok (.iload 4, 2) := by decide +kernel
theorem dX6_parting_100 : decode cX6_parting 100 = .ok (.istore 4, 2) := by decide +kernel
theorem dX6_parting_102 : decode cX6_parting 102 = .ok (.iinc 5 1, 3) := by decide +kernel
theorem dX6_parting_105 : decode cX6_parting 105 = .ok (.goto (-79), 3) := by decide +kernel
theorem dX6_parting_108 : decode cX6_parting 108 = .ok (.iload_n 2, 1) := by decide +kernel
theorem dX6_parting_109 : decode cX6_parting 109 = .ok (.bipush (-9), 2) := by decide +kernel
theorem dX6_parting_111 : decode cX6_parting 111 = .ok (.if_icmp .eq 12, 3) := by decide +kernel
theorem dX6_parting_114 : decode cX6_parting 114 = .ok (.iload 4, 2) := by decide +kernel
theorem dX6_parting_116 : decode cX6_parting 116 = .ok (.aload_n 0, 1) := by decide +kernel
theorem dX6_parting_117 : decode cX6_parting 117 = .ok (.getfield 162, 3) := by decide +kernel
theorem dX6_parting_120 : decode cX6_parting 120 = .ok (.if_icmp .ge 11, 3) := by decide +kernel
theorem dX6_parting_123 : decode cX6_parting 123 = .ok (.iload_n 3, 1) := by decide +kernel
theorem dX6_parting_124 : decode cX6_parting 124 = .ok (.istore_n 2, 1) := by decide +kernel
theorem dX6_parting_125 : decode cX6_parting 125 = .ok (.aload_n 0, 1) := by decide +kernel
theorem dX6_parting_126 : decode cX6_parting 126 = .ok (.iload 4, 2) := by decide +kernel
theorem dX6_parting_128 : decode cX6_parting 128 = .ok (.putfield 162, 3) := by decide +kernel
theorem dX6_parting_131 : decode cX6_parting 131 = .ok (.iinc 3 1, 3) := by decide +kernel
theorem dX6_parting_134 : decode cX6_parting 134 = .ok (.goto (-124), 3) := by decide +kernel
theorem dX6_parting_137 : decode cX6_parting 137 = .ok (.iload_n 2, 1) := by decide +kernel
theorem dX6_parting_138 : decode cX6_parting 138 = .ok (.ireturn, 1) := by decide +kernel
set_option maxRecDepth 20000 in
theorem ggX6_best_X6_in : GoodIn wsX6_best wsX6_in := goodIn_r _ [6] (by decide +kernel) (by decide +kernel)
set_option maxRecDepth 20000 in
theorem gX6_best_X6_in : GoodIn wsX6_best (va_wsS RX6 37 yX6_in wsX6_in) := goodIn_app (goodIn_of _ (by decide +kernel)) ggX6_best_X6_in
set_option maxRecDepth 20000 in
theorem ggX6_best_X6_bestLaw : GoodIn wsX6_best wsX6_bestLaw := goodIn_r _ [10, 11, 12, 13, 14, 5, 15, 16, 17, 18, 19, 20, 21, 22, 23, 24, 25, 26, 27, 28, 38, 39, 40, 41, 42, 43, 44, 45, 46, 47, 48, 49, 50, 51, 52, 53, 54, 55, 56, 57] (by decide +kernel) (by decide +kernel)
set_option maxRecDepth 20000 in
theorem gX6_best_X6_bestLaw : GoodIn wsX6_best (wsV RX6 156 RX6 yX6_bestLaw wsX6_bestLaw) := goodIn_app (goodIn_of _ (by decide +kernel)) ggX6_best_X6_bestLaw
set_option maxRecDepth 20000 in
theorem ggX6_best_X6_mayBe : GoodIn wsX6_best wsX6_mayBe := goodIn_r _ [32, 11, 33, 7, 8, 9, 5, 10, 12, 13, 14, 15, 16, 17, 18, 19, 20, 21, 22, 23, 24, 25, 26, 27, 28, 38, 39, 40, 41, 42, 43, 44, 45, 46, 47, 48, 49, 50, 51, 52, 53, 54, 55, 56, 57] (by decide +kernel) (by decide +kernel)
set_option maxRecDepth 20000 in
theorem gX6_best_X6_mayBe : GoodIn wsX6_best (wsV RX6 159 RX6 yX6_mayBe wsX6_mayBe) := goodIn_app (goodIn_of _ (by decide +kernel)) ggX6_best_X6_mayBe
set_option maxRecDepth 20000 in
theorem ggX6_best_X6_parting : GoodIn wsX6_best wsX6_parting := goodIn_r _ [37, 11, 2, 29, 30, 31, 5, 32, 33, 7, 8, 9, 10, 12, 13, 14, 15, 16, 17, 18, 19, 20, 21, 22, 23, 24, 25, 26, 27, 28, 38, 39, 40, 41, 42, 43, 44, 45, 46, 47, 48, 49, 50, 51, 52, 53, 54, 55, 56, 57] (by decide +kernel) (by decide +kernel)
set_option maxRecDepth 20000 in
theorem gX6_best_X6_parting : GoodIn wsX6_best (wsV RX6 165 RX6 yX6_parting wsX6_parting) := goodIn_app (goodIn_of _ (by decide +kernel)) ggX6_best_X6_parting
theorem dX6_best_0 : decode cX6_best 0 = .ok (.aload_n 0, 1) := by decide +kernel
theorem dX6_best_1 : decode cX6_best 1 = .ok (.iconst 0, 1) := by decide +kernel
theorem dX6_best_2 : decode cX6_best 2 = .ok (.putfield 34, 3) := by decide +kernel
theorem dX6_best_5 : decode cX6_best 5 = .ok (.iload_n 1, 1) := by decide +kernel
theorem dX6_best_6 : decode cX6_best 6 = .ok (.iconst 0, 1) := by decide +kernel
theorem dX6_best_7 : decode cX6_best 7 = .ok (.iconst 3, 1) := by decide +kernel
theorem dX6_best_8 : decode cX6_best 8 = .ok (.invokestatic 37, 3) := by decide +kernel
theorem dX6_best_11 : decode cX6_best 11 = .ok (.ifCond .ne 5, 3) := by decide +kernel
theorem dX6_best_14 : decode cX6_best 14 = .ok (.iconst (-1), 1) := by decide +kernel
theorem dX6_best_15 : decode cX6_best 15 = .ok (.ireturn, 1) := by decide +kernel
theorem dX6_best_16 : decode cX6_best 16 = .ok (.iload_n 1, 1) := by decide +kernel
theorem dX6_best_17 : decode cX6_best 17 = .ok (.iconst 2, 1) := by decide +kernel
theorem dX6_best_18 : decode cX6_best 18 = .ok (.if_icmp .ge 19, 3) := by decide +kernel
theorem dX6_best_21 : decode cX6_best 21 = .ok (.iload_n 1, 1) := by decide +kernel
theorem dX6_best_22 : decode cX6_best 22 = .ok (.ifCond .ne 10, 3) := by decide +kernel
theorem dX6_best_25 : decode cX6_best 25 = .ok (.aload_n 0, 1) := by decide +kernel
theorem dX6_best_26 : decode cX6_best 26 = .ok (.invokevirtual 156, 3) := by decide +kernel
theorem dX6_best_29 : decode cX6_best 29 = .ok (.goto 7, 3) := by decide +kernel
theorem dX6_best_32 : decode cX6_best 32 = .ok (.aload_n 0, 1) := by decide +kernel
theorem dX6_best_33 : decode cX6_best 33 = .ok (.invokevirtual 159, 3) := by decide +kernel
theorem dX6_best_36 : decode cX6_best 36 = .ok (.ireturn, 1) := by decide +kernel
theorem dX6_best_37 : decode cX6_best 37 = .ok (.aload_n 0, 1) := by decide +kernel
theorem dX6_best_38 : decode cX6_best 38 = .ok (.invokevirtual 165, 3) := by decide +kernel
theorem dX6_best_41 : decode cX6_best 41 = .ok (.istore_n 2, 1) := by decide +kernel
theorem dX6_best_42 : decode cX6_best 42 = .ok (.iload_n 1, 1) := by decide +kernel
theorem dX6_best_43 : decode cX6_best 43 = .ok (.iconst 2, 1) := by decide +kernel
theorem dX6_best_44 : decode cX6_best 44 = .ok (.if_icmp .eq 9, 3) := by decide +kernel
theorem dX6_best_47 : decode cX6_best 47 = .ok (.iload_n 2, 1) := by decide +kernel
theorem dX6_best_48 : decode cX6_best 48 = .ok (.bipush (-9), 2) := by decide +kernel
theorem dX6_best_50 : decode cX6_best 50 = .ok (.if_icmp .ne 7, 3) := by decide +kernel
theorem dX6_best_53 : decode cX6_best 53 = .ok (.iload_n 2, 1) := by decide +kernel
theorem dX6_best_54 : decode cX6_best 54 = .ok (.goto 7, 3) := by decide +kernel
theorem dX6_best_57 : decode cX6_best 57 = .ok (.aload_n 0, 1) := by decide +kernel
theorem dX6_best_58 : decode cX6_best 58 = .ok (.getfield 162, 3) := by decide +kernel
theorem dX6_best_61 : decode cX6_best 61 = .ok (.ireturn, 1) := by decide +kernel
set_option maxRecDepth 20000 in
theorem ggX6_span_X6_in : GoodIn wsX6_span wsX6_in := goodIn_r _ [6] (by decide +kernel) (by decide +kernel)
set_option maxRecDepth 20000 in
theorem gX6_span_X6_in : GoodIn wsX6_span (va_wsS RX6 37 yX6_in wsX6_in) := goodIn_app (goodIn_of _ (by decide +kernel)) ggX6_span_X6_in
theorem dX6_span_0 : decode cX6_span 0 = .ok (.aload_n 0, 1) := by decide +kernel
theorem dX6_span_1 : decode cX6_span 1 = .ok (.iconst 0, 1) := by decide +kernel
theorem dX6_span_2 : decode cX6_span 2 = .ok (.putfield 34, 3) := by decide +kernel
theorem dX6_span_5 : decode cX6_span 5 = .ok (.iload_n 1, 1) := by decide +kernel
theorem dX6_span_6 : decode cX6_span 6 = .ok (.iconst 0, 1) := by decide +kernel
theorem dX6_span_7 : decode cX6_span 7 = .ok (.sipush 999, 3) := by decide +kernel
theorem dX6_span_10 : decode cX6_span 10 = .ok (.invokestatic 37, 3) := by decide +kernel
theorem dX6_span_13 : decode cX6_span 13 = .ok (.ifCond .ne 5, 3) := by decide +kernel
theorem dX6_span_16 : decode cX6_span 16 = .ok (.iconst (-1), 1) := by decide +kernel
theorem dX6_span_17 : decode cX6_span 17 = .ok (.ireturn, 1) := by decide +kernel
theorem dX6_span_18 : decode cX6_span 18 = .ok (.aload_n 0, 1) := by decide +kernel
theorem dX6_span_19 : decode cX6_span 19 = .ok (.getfield 26, 3) := by decide +kernel
theorem dX6_span_22 : decode cX6_span 22 = .ok (.istore_n 2, 1) := by decide +kernel
theorem dX6_span_23 : decode cX6_span 23 = .ok (.aload_n 0, 1) := by decide +kernel
theorem dX6_span_24 : decode cX6_span 24 = .ok (.iload_n 1, 1) := by decide +kernel
theorem dX6_span_25 : decode cX6_span 25 = .ok (.putfield 26, 3) := by decide +kernel
theorem dX6_span_28 : decode cX6_span 28 = .ok (.iload_n 2, 1) := by decide +kernel
theorem dX6_span_29 : decode cX6_span 29 = .ok (.ireturn, 1) := by decide +kernel
theorem dX6_power_0 : decode cX6_power 0 = .ok (.lconst 1, 1) := by decide +kernel
theorem dX6_power_1 : decode cX6_power 1 = .ok (.lstore_n 3, 1) := by decide +kernel
theorem dX6_power_2 : decode cX6_power 2 = .ok (.iconst 0, 1) := by decide +kernel
theorem dX6_power_3 : decode cX6_power 3 = .ok (.istore 5, 2) := by decide +kernel
theorem dX6_power_5 : decode cX6_power 5 = .ok (.iload 5, 2) := by decide +kernel
theorem dX6_power_7 : decode cX6_power 7 = .ok (.iload_n 2, 1) := by decide +kernel
theorem dX6_power_8 : decode cX6_power 8 = .ok (.if_icmp .ge 13, 3) := by decide +kernel
theorem dX6_power_11 : decode cX6_power 11 = .ok (.lload_n 3, 1) := by decide +kernel
theorem dX6_power_12 : decode cX6_power 12 = .ok (.lload_n 0, 1) := by decide +kernel
theorem dX6_power_13 : decode cX6_power 13 = .ok (.lmul, 1) := by decide +kernel
theorem dX6_power_14 : decode cX6_power 14 = .ok (.lstore_n 3, 1) := by decide +kernel
theorem dX6_power_15 : decode cX6_power 15 = .ok (.iinc 5 1, 3) := by decide +kernel
theorem dX6_power_18 : decode cX6_power 18 = .ok (.goto (-13), 3) := by decide +kernel
theorem dX6_power_21 : decode cX6_power 21 = .ok (.lload_n 3, 1) := by decide +kernel
theorem dX6_power_22 : decode cX6_power 22 = .ok (.lreturn, 1) := by decide +kernel
set_option maxRecDepth 20000 in
theorem ggX6_rows_X6_choose : GoodIn wsX6_rows wsX6_choose := goodIn_r _ [6, 7, 11, 12, 13, 14, 15, 16, 17, 18, 19, 20, 21, 22, 23, 24, 25, 26, 27, 28, 29, 30] (by decide +kernel) (by decide +kernel)
set_option maxRecDepth 20000 in
theorem gX6_rows_X6_choose : GoodIn wsX6_rows (wsV RX6 69 RX6 yX6_choose wsX6_choose) := goodIn_app (goodIn_of _ (by decide +kernel)) ggX6_rows_X6_choose
set_option maxRecDepth 20000 in
theorem ggX6_rows_X6_power : GoodIn wsX6_rows wsX6_power := goodIn_r _ [10] (by decide +kernel) (by decide +kernel)
set_option maxRecDepth 20000 in
theorem gX6_rows_X6_power : GoodIn wsX6_rows (va_wsS RX6 168 yX6_power wsX6_power) := goodIn_app (goodIn_of _ (by decide +kernel)) ggX6_rows_X6_power
theorem dX6_rows_0 : decode cX6_rows 0 = .ok (.aload_n 0, 1) := by decide +kernel
theorem dX6_rows_1 : decode cX6_rows 1 = .ok (.iload_n 2, 1) := by decide +kernel
theorem dX6_rows_2 : decode cX6_rows 2 = .ok (.iload_n 3, 1) := by decide +kernel
theorem dX6_rows_3 : decode cX6_rows 3 = .ok (.invokevirtual 69, 3) := by decide +kernel
theorem dX6_rows_6 : decode cX6_rows 6 = .ok (.iload_n 1, 1) := by decide +kernel
theorem dX6_rows_7 : decode cX6_rows 7 = .ok (.i2l, 1) := by decide +kernel
theorem dX6_rows_8 : decode cX6_rows 8 = .ok (.iload_n 3, 1) := by decide +kernel
theorem dX6_rows_9 : decode cX6_rows 9 = .ok (.invokestatic 168, 3) := by decide +kernel
theorem dX6_rows_12 : decode cX6_rows 12 = .ok (.lmul, 1) := by decide +kernel
theorem dX6_rows_13 : decode cX6_rows 13 = .ok (.ldc2_w 172, 3) := by decide +kernel
theorem dX6_rows_16 : decode cX6_rows 16 = .ok (.iload_n 1, 1) := by decide +kernel
theorem dX6_rows_17 : decode cX6_rows 17 = .ok (.i2l, 1) := by decide +kernel
theorem dX6_rows_18 : decode cX6_rows 18 = .ok (.lsub, 1) := by decide +kernel
theorem dX6_rows_19 : decode cX6_rows 19 = .ok (.iload_n 2, 1) := by decide +kernel
theorem dX6_rows_20 : decode cX6_rows 20 = .ok (.iload_n 3, 1) := by decide +kernel
theorem dX6_rows_21 : decode cX6_rows 21 = .ok (.isub, 1) := by decide +kernel
theorem dX6_rows_22 : decode cX6_rows 22 = .ok (.invokestatic 168, 3) := by decide +kernel
theorem dX6_rows_25 : decode cX6_rows 25 = .ok (.lmul, 1) := by decide +kernel
theorem dX6_rows_26 : decode cX6_rows 26 = .ok (.lreturn, 1) := by decide +kernel
set_option maxRecDepth 20000 in
theorem ggX6_sureOf_X6_rows : GoodIn wsX6_sureOf wsX6_rows := goodIn_r _ [5, 6, 7, 8, 9, 4, 10, 11, 12, 13, 14, 15, 16, 17, 18, 19, 20, 21, 22, 23, 24, 25, 26, 27, 28, 29, 30, 31, 32, 33, 34] (by decide +kernel) (by decide +kernel)
set_option maxRecDepth 20000 in
theorem gX6_sureOf_X6_rows : GoodIn wsX6_sureOf (wsV RX6 174 RX6 yX6_rows wsX6_rows) := goodIn_app (goodIn_of _ (by decide +kernel)) ggX6_sureOf_X6_rows
theorem dX6_sureOf_0 : decode cX6_sureOf 0 = .ok (.lconst 0, 1) := by decide +kernel
theorem dX6_sureOf_1 : decode cX6_sureOf 1 = .ok (.lstore 5, 2) := by decide +kernel
theorem dX6_sureOf_3 : decode cX6_sureOf 3 = .ok (.iconst 0, 1) := by decide +kernel
theorem dX6_sureOf_4 : decode cX6_sureOf 4 = .ok (.istore 7, 2) := by decide +kernel
theorem dX6_sureOf_6 : decode cX6_sureOf 6 = .ok (.iload 7, 2) := by decide +kernel
theorem dX6_sureOf_8 : decode cX6_sureOf 8 = .ok (.iload_n 3, 1) := by decide +kernel
theorem dX6_sureOf_9 : decode cX6_sureOf 9 = .ok (.if_icmp .gt 60, 3) := by decide +kernel
theorem dX6_sureOf_12 : decode cX6_sureOf 12 = .ok (.iconst 0, 1) := by decide +kernel
theorem dX6_sureOf_13 : decode cX6_sureOf 13 = .ok (.istore 8, 2) := by decide +kernel
theorem dX6_sureOf_15 : decode cX6_sureOf 15 = .ok (.iload 8, 2) := by decide +kernel
theorem dX6_sureOf_17 : decode cX6_sureOf 17 = .ok (.iload_n 3, 1) := by decide +kernel
theorem dX6_sureOf_18 : decode cX6_sureOf 18 = .ok (.if_icmp .gt 45, 3) := by decide +kernel
theorem dX6_sureOf_21 : decode cX6_sureOf 21 = .ok (.lload 5, 2) := by decide +kernel
theorem dX6_sureOf_23 : decode cX6_sureOf 23 = .ok (.iload 7, 2) := by decide +kernel
theorem dX6_sureOf_25 : decode cX6_sureOf 25 = .ok (.iload 8, 2) := by decide +kernel
theorem dX6_sureOf_27 : decode cX6_sureOf 27 = .ok (.isub, 1) := by decide +kernel
theorem dX6_sureOf_28 : decode cX6_sureOf 28 = .ok (.iload 4, 2) := by decide +kernel
theorem dX6_sureOf_30 : decode cX6_sureOf 30 = .ok (.if_icmp .lt 23, 3) := by decide +kernel
theorem dX6_sureOf_33 : decode cX6_sureOf 33 = .ok (.aload_n 0, 1) := by decide +kernel
theorem dX6_sureOf_34 : decode cX6_sureOf 34 = .ok (.iload_n 1, 1) := by decide +kernel
theorem dX6_sureOf_35 : decode cX6_sureOf 35 = .ok (.iload_n 3, 1) := by decide +kernel
theorem dX6_sureOf_36 : decode cX6_sureOf 36 = .ok (.iload 7, 2) := by decide +kernel
theorem dX6_sureOf_38 : decode cX6_sureOf 38 = .ok (.invokevirtual 174, 3) := by decide +kernel
theorem dX6_sureOf_41 : decode cX6_sureOf 41 = .ok (.aload_n 0, 1) := by decide +kernel
theorem dX6_sureOf_42 : decode cX6_sureOf 42 = .ok (.iload_n 2, 1) := by decide +kernel
theorem dX6_sureOf_43 : decode cX6_sureOf 43 = .ok (.iload_n 3, 1) := by decide +kernel
theorem dX6_sureOf_44 : decode cX6_sureOf 44 = .ok (.iload 8, 2) := by decide +kernel
theorem dX6_sureOf_46 : decode cX6_sureOf 46 = .ok (.invokevirtual 174, 3) := by decide +kernel
theorem dX6_sureOf_49 : decode cX6_sureOf 49 = .ok (.lmul, 1) := by decide +kernel
theorem dX6_sureOf_50 : decode cX6_sureOf 50 = .ok (.goto 4, 3) := by decide +kernel
theorem dX6_sureOf_53 : decode cX6_sureOf 53 = .ok (.lconst 0, 1) := by decide +kernel
theorem dX6_sureOf_54 : decode cX6_sureOf 54 = .ok (.ladd, 1) := by decide +kernel
theorem dX6_sureOf_55 : decode cX6_sureOf 55 = .ok (.lstore 5, 2) := by decide +kernel
theorem dX6_sureOf_57 : decode cX6_sureOf 57 = .ok (.iinc 8 1, 3) := by decide +kernel
theorem dX6_sureOf_60 : decode cX6_sureOf 60 = .ok (.goto (-45), 3) := by decide +kernel
theorem dX6_sureOf_63 : decode cX6_sureOf 63 = .ok (.iinc 7 1, 3) := by decide +kernel
theorem dX6_sureOf_66 : decode cX6_sureOf 66 = .ok (.goto (-60), 3) := by decide +kernel
theorem dX6_sureOf_69 : decode cX6_sureOf 69 = .ok (.lload 5, 2) := by decide +kernel
theorem dX6_sureOf_71 : decode cX6_sureOf 71 = .ok (.lreturn, 1) := by decide +kernel
set_option maxRecDepth 20000 in
theorem ggX6_areTenths_X6_in : GoodIn wsX6_areTenths wsX6_in := goodIn_r _ [4] (by decide +kernel) (by decide +kernel)
set_option maxRecDepth 20000 in
theorem gX6_areTenths_X6_in : GoodIn wsX6_areTenths (va_wsS RX6 37 yX6_in wsX6_in) := goodIn_app (goodIn_of _ (by decide +kernel)) ggX6_areTenths_X6_in
theorem dX6_areTenths_0 : decode cX6_areTenths 0 = .ok (.iload_n 0, 1) := by decide +kernel
theorem dX6_areTenths_1 : decode cX6_areTenths 1 = .ok (.iconst 0, 1) := by decide +kernel
theorem dX6_areTenths_2 : decode cX6_areTenths 2 = .ok (.bipush 10, 2) := by decide +kernel
theorem dX6_areTenths_4 : decode cX6_areTenths 4 = .ok (.invokestatic 37, 3) := by decide +kernel
theorem dX6_areTenths_7 : decode cX6_areTenths 7 = .ok (.ifCond .eq 17, 3) := by decide +kernel
theorem dX6_areTenths_10 : decode cX6_areTenths 10 = .ok (.iload_n 1, 1) := by decide +kernel
theorem dX6_areTenths_11 : decode cX6_areTenths 11 = .ok (.iconst 0, 1) := by decide +kernel
theorem dX6_areTenths_12 : decode cX6_areTenths 12 = .ok (.bipush 10, 2) := by decide +kernel
theorem dX6_areTenths_14 : decode cX6_areTenths 14 = .ok (.invokestatic 37, 3) := by decide +kernel
theorem dX6_areTenths_17 : decode cX6_areTenths 17 = .ok (.ifCond .eq 7, 3) := by decide +kernel
theorem dX6_areTenths_20 : decode cX6_areTenths 20 = .ok (.iconst 1, 1) := by decide +kernel
theorem dX6_areTenths_21 : decode cX6_areTenths 21 = .ok (.goto 4, 3) := by decide +kernel
theorem dX6_areTenths_24 : decode cX6_areTenths 24 = .ok (.iconst 0, 1) := by decide +kernel
theorem dX6_areTenths_25 : decode cX6_areTenths 25 = .ok (.ireturn, 1) := by decide +kernel
set_option maxRecDepth 20000 in
theorem ggX6_sure_X6_areTenths : GoodIn wsX6_sure wsX6_areTenths := goodIn_r _ [6, 7, 8, 5, 9] (by decide +kernel) (by decide +kernel)
set_option maxRecDepth 20000 in
theorem gX6_sure_X6_areTenths : GoodIn wsX6_sure (va_wsS RX6 178 yX6_areTenths wsX6_areTenths) := goodIn_app (goodIn_of _ (by decide +kernel)) ggX6_sure_X6_areTenths
set_option maxRecDepth 20000 in
theorem ggX6_sure_X6_in : GoodIn wsX6_sure wsX6_in := goodIn_r _ [9] (by decide +kernel) (by decide +kernel)
set_option maxRecDepth 20000 in
theorem gX6_sure_X6_in : GoodIn wsX6_sure (va_wsS RX6 37 yX6_in wsX6_in) := goodIn_app (goodIn_of _ (by decide +kernel)) ggX6_sure_X6_in
set_option maxRecDepth 20000 in
theorem ggX6_sure_X6_sureOf : GoodIn wsX6_sure wsX6_sureOf := goodIn_r _ [13, 14, 15, 16, 5, 17, 18, 19, 20, 21, 22, 23, 24, 25, 26, 27, 28, 29, 30, 31, 32, 33, 34, 35, 36, 37, 38, 39, 40, 41, 42, 43, 44, 45, 46] (by decide +kernel) (by decide +kernel)
set_option maxRecDepth 20000 in
theorem gX6_sure_X6_sureOf : GoodIn wsX6_sure (wsV RX6 181 RX6 yX6_sureOf wsX6_sureOf) := goodIn_app (goodIn_of _ (by decide +kernel)) ggX6_sure_X6_sureOf
theorem dX6_sure_0 : decode cX6_sure 0 = .ok (.aload_n 0, 1) := by decide +kernel
theorem dX6_sure_1 : decode cX6_sure 1 = .ok (.iconst 0, 1) := by decide +kernel
theorem dX6_sure_2 : decode cX6_sure 2 = .ok (.putfield 34, 3) := by decide +kernel
theorem dX6_sure_5 : decode cX6_sure 5 = .ok (.iload_n 1, 1) := by decide +kernel
theorem dX6_sure_6 : decode cX6_sure 6 = .ok (.iload_n 2, 1) := by decide +kernel
theorem dX6_sure_7 : decode cX6_sure 7 = .ok (.invokestatic 178, 3) := by decide +kernel
theorem dX6_sure_10 : decode cX6_sure 10 = .ok (.ifCond .eq 37, 3) := by decide +kernel
theorem dX6_sure_13 : decode cX6_sure 13 = .ok (.iload_n 3, 1) := by decide +kernel
theorem dX6_sure_14 : decode cX6_sure 14 = .ok (.iconst 1, 1) := by decide +kernel
theorem dX6_sure_15 : decode cX6_sure 15 = .ok (.bipush 9, 2) := by decide +kernel
theorem dX6_sure_17 : decode cX6_sure 17 = .ok (.invokestatic 37, 3) := by decide +kernel
theorem dX6_sure_20 : decode cX6_sure 20 = .ok (.ifCond .eq 27, 3) := by decide +kernel
theorem dX6_sure_23 : decode cX6_sure 23 = .ok (.iload 4, 2) := by decide +kernel
theorem dX6_sure_25 : decode cX6_sure 25 = .ok (.bipush (-9), 2) := by decide +kernel
theorem dX6_sure_27 : decode cX6_sure 27 = .ok (.bipush 9, 2) := by decide +kernel
theorem dX6_sure_29 : decode cX6_sure 29 = .ok (.invokestatic 37, 3) := by decide +kernel
theorem dX6_sure_32 : decode cX6_sure 32 = .ok (.ifCond .eq 15, 3) := by decide +kernel
theorem dX6_sure_35 : decode cX6_sure 35 = .ok (.aload_n 0, 1) := by decide +kernel
theorem dX6_sure_36 : decode cX6_sure 36 = .ok (.iload_n 1, 1) := by decide +kernel
theorem dX6_sure_37 : decode cX6_sure 37 = .ok (.iload_n 2, 1) := by decide +kernel
theorem dX6_sure_38 : decode cX6_sure 38 = .ok (.iload_n 3, 1) := by decide +kernel
theorem dX6_sure_39 : decode cX6_sure 39 = .ok (.iload 4, 2) := by decide +kernel
theorem dX6_sure_41 : decode cX6_sure 41 = .ok (.invokevirtual 181, 3) := by decide +kernel
theorem dX6_sure_44 : decode cX6_sure 44 = .ok (.goto 6, 3) := by decide +kernel
theorem dX6_sure_47 : decode cX6_sure 47 = .ok (.ldc2_w 77, 3) := by decide +kernel
theorem dX6_sure_50 : decode cX6_sure 50 = .ok (.lreturn, 1) := by decide +kernel
set_option maxRecDepth 20000 in
theorem ggX6_need_X6_areTenths : GoodIn wsX6_need wsX6_areTenths := goodIn_r _ [6, 7, 8, 5, 9] (by decide +kernel) (by decide +kernel)
set_option maxRecDepth 20000 in
theorem gX6_need_X6_areTenths : GoodIn wsX6_need (va_wsS RX6 178 yX6_areTenths wsX6_areTenths) := goodIn_app (goodIn_of _ (by decide +kernel)) ggX6_need_X6_areTenths
set_option maxRecDepth 20000 in
theorem ggX6_need_X6_in : GoodIn wsX6_need wsX6_in := goodIn_r _ [9] (by decide +kernel) (by decide +kernel)
set_option maxRecDepth 20000 in
theorem gX6_need_X6_in : GoodIn wsX6_need (va_wsS RX6 37 yX6_in wsX6_in) := goodIn_app (goodIn_of _ (by decide +kernel)) ggX6_need_X6_in
set_option maxRecDepth 20000 in
theorem ggX6_need_X6_sureOf : GoodIn wsX6_need wsX6_sureOf := goodIn_r _ [13, 14, 15, 16, 5, 17, 2, 18, 19, 20, 21, 22, 23, 24, 25, 26, 27, 28, 29, 30, 31, 32, 33, 34, 35, 36, 37, 38, 39, 40, 41, 42, 43, 44, 45] (by decide +kernel) (by decide +kernel)
set_option maxRecDepth 20000 in
theorem gX6_need_X6_sureOf : GoodIn wsX6_need (wsV RX6 181 RX6 yX6_sureOf wsX6_sureOf) := goodIn_app (goodIn_of _ (by decide +kernel)) ggX6_need_X6_sureOf
set_option maxRecDepth 20000 in
theorem ggX6_need_X6_power : GoodIn wsX6_need wsX6_power := goodIn_r _ [25] (by decide +kernel) (by decide +kernel)
set_option maxRecDepth 20000 in
theorem gX6_need_X6_power : GoodIn wsX6_need (va_wsS RX6 168 yX6_power wsX6_power) := goodIn_app (goodIn_of _ (by decide +kernel)) ggX6_need_X6_power
theorem dX6_need_0 : decode cX6_need 0 = .ok (.aload_n 0, 1) := by decide +kernel
theorem dX6_need_1 : decode cX6_need 1 = .ok (.iconst 0, 1) := by decide +kernel
theorem dX6_need_2 : decode cX6_need 2 = .ok (.putfield 34, 3) := by decide +kernel
theorem dX6_need_5 : decode cX6_need 5 = .ok (.iload_n 1, 1) := by decide +kernel
theorem dX6_need_6 : decode cX6_need 6 = .ok (.iload_n 2, 1) := by decide +kernel
theorem dX6_need_7 : decode cX6_need 7 = .ok (.invokestatic 178, 3) := by decide +kernel
theorem dX6_need_10 : decode cX6_need 10 = .ok (.ifCond .eq 25, 3) := by decide +kernel
theorem dX6_need_13 : decode cX6_need 13 = .ok (.iload_n 3, 1) := by decide +kernel
theorem dX6_need_14 : decode cX6_need 14 = .ok (.bipush (-9), 2) := by decide +kernel
theorem dX6_need_16 : decode cX6_need 16 = .ok (.bipush 9, 2) := by decide +kernel
theorem dX6_need_18 : decode cX6_need 18 = .ok (.invokestatic 37, 3) := by decide +kernel
theorem dX6_need_21 : decode cX6_need 21 = .ok (.ifCond .eq 14, 3) := by decide +kernel
theorem dX6_need_24 : decode cX6_need 24 = .ok (.iload 4, 2) := by decide +kernel
theorem dX6_need_26 : decode cX6_need 26 = .ok (.iconst 1, 1) := by decide +kernel
theorem dX6_need_27 : decode cX6_need 27 = .ok (.bipush 100, 2) := by decide +kernel
theorem dX6_need_29 : decode cX6_need 29 = .ok (.invokestatic 37, 3) := by decide +kernel
theorem dX6_need_32 : decode cX6_need 32 = .ok (.ifCond .ne 5, 3) := by decide +kernel
theorem dX6_need_35 : decode cX6_need 35 = .ok (.iconst (-1), 1) := by decide +kernel
theorem dX6_need_36 : decode cX6_need 36 = .ok (.ireturn, 1) := by decide +kernel
theorem dX6_need_37 : decode cX6_need 37 = .ok (.iconst 1, 1) := by decide +kernel
theorem dX6_need_38 : decode cX6_need 38 = .ok (.istore 5, 2) := by decide +kernel
theorem dX6_need_40 : decode cX6_need 40 = .ok (.iload 5, 2) := by decide +kernel
theorem dX6_need_42 : decode cX6_need 42 = .ok (.bipush 10, 2) := by decide +kernel
theorem dX6_need_44 : decode cX6_need 44 = .ok (.if_icmp .ge 41, 3) := by decide +kernel
theorem dX6_need_47 : decode cX6_need 47 = .ok (.aload_n 0, 1) := by decide +kernel
theorem dX6_need_48 : decode cX6_need 48 = .ok (.iload_n 1, 1) := by decide +kernel
theorem dX6_need_49 : decode cX6_need 49 = .ok (.iload_n 2, 1) := by decide +kernel
theorem dX6_need_50 : decode cX6_need 50 = .ok (.iload 5, 2) := by decide +kernel
theorem dX6_need_52 : decode cX6_need 52 = .ok (.iload_n 3, 1) := by decide +kernel
theorem dX6_need_53 : decode cX6_need 53 = .ok (.invokevirtual 181, 3) := by decide +kernel
theorem dX6_need_56 : decode cX6_need 56 = .ok (.iload 4, 2) := by decide +kernel
theorem dX6_need_58 : decode cX6_need 58 = .ok (.i2l, 1) := by decide +kernel
theorem dX6_need_59 : decode cX6_need 59 = .ok (.ldc2_w 172, 3) := by decide +kernel
theorem dX6_need_62 : decode cX6_need 62 = .ok (.iconst 2, 1) := by decide +kernel
theorem dX6_need_63 : decode cX6_need 63 = .ok (.iload 5, 2) := by decide +kernel
theorem dX6_need_65 : decode cX6_need 65 = .ok (.imul, 1) := by decide +kernel
theorem dX6_need_66 : decode cX6_need 66 = .ok (.iconst 2, 1) := by decide +kernel
theorem dX6_need_67 : decode cX6_need 67 = .ok (.isub, 1) := by decide +kernel
theorem dX6_need_68 : decode cX6_need 68 = .ok (.invokestatic 168, 3) := by decide +kernel
theorem dX6_need_71 : decode cX6_need 71 = .ok (.lmul, 1) := by decide +kernel
theorem dX6_need_72 : decode cX6_need 72 = .ok (.lcmp, 1) := by decide +kernel
theorem dX6_need_73 : decode cX6_need 73 = .ok (.ifCond .lt 6, 3) := by decide +kernel
theorem dX6_need_76 : decode cX6_need 76 = .ok (.iload 5, 2) := by decide +kernel
theorem dX6_need_78 : decode cX6_need 78 = .ok (.ireturn, 1) := by decide +kernel
theorem dX6_need_79 : decode cX6_need 79 = .ok (.iinc 5 1, 3) := by decide +kernel
theorem dX6_need_82 : decode cX6_need 82 = .ok (.goto (-42), 3) := by decide +kernel
theorem dX6_need_85 : decode cX6_need 85 = .ok (.bipush (-9), 2) := by decide +kernel
theorem dX6_need_87 : decode cX6_need 87 = .ok (.ireturn, 1) := by decide +kernel
theorem dX6_told__0 : decode cX6_told_ 0 = .ok (.aload_n 0, 1) := by decide +kernel
theorem dX6_told__1 : decode cX6_told_ 1 = .ok (.getfield 7, 3) := by decide +kernel
theorem dX6_told__4 : decode cX6_told_ 4 = .ok (.bipush 50, 2) := by decide +kernel
theorem dX6_told__6 : decode cX6_told_ 6 = .ok (.iconst 4, 1) := by decide +kernel
theorem dX6_told__7 : decode cX6_told_ 7 = .ok (.iload_n 1, 1) := by decide +kernel
theorem dX6_told__8 : decode cX6_told_ 8 = .ok (.imul, 1) := by decide +kernel
theorem dX6_told__9 : decode cX6_told_ 9 = .ok (.iadd, 1) := by decide +kernel
theorem dX6_told__10 : decode cX6_told_ 10 = .ok (.iload_n 2, 1) := by decide +kernel
theorem dX6_told__11 : decode cX6_told_ 11 = .ok (.iadd, 1) := by decide +kernel
theorem dX6_told__12 : decode cX6_told_ 12 = .ok (.iaload, 1) := by decide +kernel
theorem dX6_told__13 : decode cX6_told_ 13 = .ok (.ireturn, 1) := by decide +kernel
set_option maxRecDepth 20000 in
theorem ggX6_isFinding_X6_in : GoodIn wsX6_isFinding wsX6_in := goodIn_r _ [5] (by decide +kernel) (by decide +kernel)
set_option maxRecDepth 20000 in
theorem gX6_isFinding_X6_in : GoodIn wsX6_isFinding (va_wsS RX6 37 yX6_in wsX6_in) := goodIn_app (goodIn_of _ (by decide +kernel)) ggX6_isFinding_X6_in
theorem dX6_isFinding_0 : decode cX6_isFinding 0 = .ok (.iload_n 1, 1) := by decide +kernel
theorem dX6_isFinding_1 : decode cX6_isFinding 1 = .ok (.iconst 0, 1) := by decide +kernel
theorem dX6_isFinding_2 : decode cX6_isFinding 2 = .ok (.aload_n 0, 1) := by decide +kernel
theorem dX6_isFinding_3 : decode cX6_isFinding 3 = .ok (.getfield 7, 3) := by decide +kernel
theorem dX6_isFinding_6 : decode cX6_isFinding 6 = .ok (.bipush 49, 2) := by decide +kernel
theorem dX6_isFinding_8 : decode cX6_isFinding 8 = .ok (.iaload, 1) := by decide +kernel
theorem dX6_isFinding_9 : decode cX6_isFinding 9 = .ok (.iconst 1, 1) := by decide +kernel
theorem dX6_isFinding_10 : decode cX6_isFinding 10 = .ok (.isub, 1) := by decide +kernel
theorem dX6_isFinding_11 : decode cX6_isFinding 11 = .ok (.invokestatic 37, 3) := by decide +kernel
theorem dX6_isFinding_14 : decode cX6_isFinding 14 = .ok (.ireturn, 1) := by decide +kernel
set_option maxRecDepth 20000 in
theorem ggX6_finding_X6_in : GoodIn wsX6_finding wsX6_in := goodIn_r _ [6] (by decide +kernel) (by decide +kernel)
set_option maxRecDepth 20000 in
theorem gX6_finding_X6_in : GoodIn wsX6_finding (va_wsS RX6 37 yX6_in wsX6_in) := goodIn_app (goodIn_of _ (by decide +kernel)) ggX6_finding_X6_in
theorem dX6_finding_0 : decode cX6_finding 0 = .ok (.aload_n 0, 1) := by decide +kernel
theorem dX6_finding_1 : decode cX6_finding 1 = .ok (.iconst 0, 1) := by decide +kernel
theorem dX6_finding_2 : decode cX6_finding 2 = .ok (.putfield 34, 3) := by decide +kernel
theorem dX6_finding_5 : decode cX6_finding 5 = .ok (.iload_n 1, 1) := by decide +kernel
theorem dX6_finding_6 : decode cX6_finding 6 = .ok (.iconst 0, 1) := by decide +kernel
theorem dX6_finding_7 : decode cX6_finding 7 = .ok (.bipush 100, 2) := by decide +kernel
theorem dX6_finding_9 : decode cX6_finding 9 = .ok (.invokestatic 37, 3) := by decide +kernel
theorem dX6_finding_12 : decode cX6_finding 12 = .ok (.ifCond .eq 22, 3) := by decide +kernel
theorem dX6_finding_15 : decode cX6_finding 15 = .ok (.iload_n 2, 1) := by decide +kernel
theorem dX6_finding_16 : decode cX6_finding 16 = .ok (.iconst 0, 1) := by decide +kernel
theorem dX6_finding_17 : decode cX6_finding 17 = .ok (.bipush 100, 2) := by decide +kernel
theorem dX6_finding_19 : decode cX6_finding 19 = .ok (.invokestatic 37, 3) := by decide +kernel
theorem dX6_finding_22 : decode cX6_finding 22 = .ok (.ifCond .eq 12, 3) := by decide +kernel
theorem dX6_finding_25 : decode cX6_finding 25 = .ok (.iload_n 3, 1) := by decide +kernel
theorem dX6_finding_26 : decode cX6_finding 26 = .ok (.iconst 0, 1) := by decide +kernel
theorem dX6_finding_27 : decode cX6_finding 27 = .ok (.iconst 1, 1) := by decide +kernel
theorem dX6_finding_28 : decode cX6_finding 28 = .ok (.invokestatic 37, 3) := by decide +kernel
theorem dX6_finding_31 : decode cX6_finding 31 = .ok (.ifCond .ne 5, 3) := by decide +kernel
theorem dX6_finding_34 : decode cX6_finding 34 = .ok (.iconst (-1), 1) := by decide +kernel
theorem dX6_finding_35 : decode cX6_finding 35 = .ok (.ireturn, 1) := by decide +kernel
theorem dX6_finding_36 : decode cX6_finding 36 = .ok (.aload_n 0, 1) := by decide +kernel
theorem dX6_finding_37 : decode cX6_finding 37 = .ok (.getfield 7, 3) := by decide +kernel
theorem dX6_finding_40 : decode cX6_finding 40 = .ok (.bipush 49, 2) := by decide +kernel
theorem dX6_finding_42 : decode cX6_finding 42 = .ok (.iaload, 1) := by decide +kernel
theorem dX6_finding_43 : decode cX6_finding 43 = .ok (.bipush 16, 2) := by decide +kernel
theorem dX6_finding_45 : decode cX6_finding 45 = .ok (.if_icmp .ne 6, 3) := by decide +kernel
theorem dX6_finding_48 : decode cX6_finding 48 = .ok (.bipush (-3), 2) := by decide +kernel
theorem dX6_finding_50 : decode cX6_finding 50 = .ok (.ireturn, 1) := by decide +kernel
theorem dX6_finding_51 : decode cX6_finding 51 = .ok (.bipush 50, 2) := by decide +kernel
theorem dX6_finding_53 : decode cX6_finding 53 = .ok (.iconst 4, 1) := by decide +kernel
theorem dX6_finding_54 : decode cX6_finding 54 = .ok (.aload_n 0, 1) := by decide +kernel
theorem dX6_finding_55 : decode cX6_finding 55 = .ok (.getfield 7, 3) := by decide +kernel
theorem dX6_finding_58 : decode cX6_finding 58 = .ok (.bipush 49, 2) := by decide +kernel
theorem dX6_finding_60 : decode cX6_finding 60 = .ok (.iaload, 1) := by decide +kernel
theorem dX6_finding_61 : decode cX6_finding 61 = .ok (.imul, 1) := by decide +kernel
theorem dX6_finding_62 : decode cX6_finding 62 = .ok (.iadd, 1) := by decide +kernel
theorem dX6_finding_63 : decode cX6_finding 63 = .ok (.istore 4, 2) := by decide +kernel
theorem dX6_finding_65 : decode cX6_finding 65 = .ok (.aload_n 0, 1) := by decide +kernel
theorem dX6_finding_66 : decode cX6_finding 66 = .ok (.getfield 7, 3) := by decide +kernel
theorem dX6_finding_69 : decode cX6_finding 69 = .ok (.iload 4, 2) := by decide +kernel
theorem dX6_finding_71 : decode cX6_finding 71 = .ok (.iload_n 1, 1) := by decide +kernel
theorem dX6_finding_72 : decode cX6_finding 72 = .ok (.iastore, 1) := by decide +kernel
theorem dX6_finding_73 : decode cX6_finding 73 = .ok (.aload_n 0, 1) := by decide +kernel
theorem dX6_finding_74 : decode cX6_finding 74 = .ok (.getfield 7, 3) := by decide +kernel
theorem dX6_finding_77 : decode cX6_finding 77 = .ok (.iload 4, 2) := by decide +kernel
theorem dX6_finding_79 : decode cX6_finding 79 = .ok (.iconst 1, 1) := by decide +kernel
theorem dX6_finding_80 : decode cX6_finding 80 = .ok (.iadd, 1) := by decide +kernel
theorem dX6_finding_81 : decode cX6_finding 81 = .ok (.iload_n 2, 1) := by decide +kernel
theorem dX6_finding_82 : decode cX6_finding 82 = .ok (.iastore, 1) := by decide +kernel
theorem dX6_finding_83 : decode cX6_finding 83 = .ok (.aload_n 0, 1) := by decide +kernel
theorem dX6_finding_84 : decode cX6_finding 84 = .ok (.getfield 7, 3) := by decide +kernel
theorem dX6_finding_87 : decode cX6_finding 87 = .ok (.iload 4, 2) := by decide +kernel
theorem dX6_finding_89 : decode cX6_finding 89 = .ok (.iconst 2, 1) := by decide +kernel
theorem dX6_finding_90 : decode cX6_finding 90 = .ok (.iadd, 1) := by decide +kernel
theorem dX6_finding_91 : decode cX6_finding 91 = .ok (.iload_n 3, 1) := by decide +kernel
theorem dX6_finding_92 : decode cX6_finding 92 = .ok (.iastore, 1) := by decide +kernel
theorem dX6_finding_93 : decode cX6_finding 93 = .ok (.aload_n 0, 1) := by decide +kernel
theorem dX6_finding_94 : decode cX6_finding 94 = .ok (.getfield 7, 3) := by decide +kernel
theorem dX6_finding_97 : decode cX6_finding 97 = .ok (.iload 4, 2) := by decide +kernel
theorem dX6_finding_99 : decode cX6_finding 99 = .ok (.iconst 3, 1) := by decide +kernel
theorem dX6_finding_100 : decode cX6_finding 100 = .ok (.iadd, 1) := by decide +kernel
theorem dX6_finding_101 : decode cX6_finding 101 = .ok (.iconst 0, 1) := by decide +kernel
theorem dX6_finding_102 : decode cX6_finding 102 = .ok (.iastore, 1) := by decide +kernel
theorem dX6_finding_103 : decode cX6_finding 103 = .ok (.aload_n 0, 1) := by decide +kernel
theorem dX6_finding_104 : decode cX6_finding 104 = .ok (.getfield 7, 3) := by decide +kernel
theorem dX6_finding_107 : decode cX6_finding 107 = .ok (.bipush 49, 2) := by decide +kernel
theorem dX6_finding_109 : decode cX6_finding 109 = .ok (.dup2, 1) := by decide +kernel
theorem dX6_finding_110 : decode cX6_finding 110 = .ok (.iaload, 1) := by decide +kernel
theorem dX6_finding_111 : decode cX6_finding 111 = .ok (.iconst 1, 1) := by decide +kernel
theorem dX6_finding_112 : decode cX6_finding 112 = .ok (.iadd, 1) := by decide +kernel
theorem dX6_finding_113 : decode cX6_finding 113 = .ok (.iastore, 1) := by decide +kernel
theorem dX6_finding_114 : decode cX6_finding 114 = .ok (.aload_n 0, 1) := by decide +kernel
theorem dX6_finding_115 : decode cX6_finding 115 = .ok (.getfield 7, 3) := by decide +kernel
theorem dX6_finding_118 : decode cX6_finding 118 = .ok (.bipush 49, 2) := by decide +kernel
theorem dX6_finding_120 : decode cX6_finding 120 = .ok (.iaload, 1) := by decide +kernel
theorem dX6_finding_121 : decode cX6_finding 121 = .ok (.iconst 1, 1) := by decide +kernel
theorem dX6_finding_122 : decode cX6_finding 122 = .ok (.isub, 1) := by decide +kernel
theorem dX6_finding_123 : decode cX6_finding 123 = .ok (.ireturn, 1) := by decide +kernel
set_option maxRecDepth 20000 in
theorem ggX6_right_X6_told_ : GoodIn wsX6_right wsX6_told_ := goodIn_r _ [6, 1, 7, 8, 9, 10, 11, 12, 13, 14, 15, 16, 17, 18, 19, 20, 21, 22, 23, 24, 25, 26] (by decide +kernel) (by decide +kernel)
set_option maxRecDepth 20000 in
theorem gX6_right_X6_told_ : GoodIn wsX6_right (wsV RX6 185 RX6 yX6_told_ wsX6_told_) := goodIn_app (goodIn_of _ (by decide +kernel)) ggX6_right_X6_told_
theorem dX6_right_0 : decode cX6_right 0 = .ok (.iconst 0, 1) := by decide +kernel
theorem dX6_right_1 : decode cX6_right 1 = .ok (.istore_n 2, 1) := by decide +kernel
theorem dX6_right_2 : decode cX6_right 2 = .ok (.iconst 0, 1) := by decide +kernel
theorem dX6_right_3 : decode cX6_right 3 = .ok (.istore_n 3, 1) := by decide +kernel
theorem dX6_right_4 : decode cX6_right 4 = .ok (.iload_n 3, 1) := by decide +kernel
theorem dX6_right_5 : decode cX6_right 5 = .ok (.aload_n 0, 1) := by decide +kernel
theorem dX6_right_6 : decode cX6_right 6 = .ok (.getfield 7, 3) := by decide +kernel
theorem dX6_right_9 : decode cX6_right 9 = .ok (.bipush 49, 2) := by decide +kernel
theorem dX6_right_11 : decode cX6_right 11 = .ok (.iaload, 1) := by decide +kernel
theorem dX6_right_12 : decode cX6_right 12 = .ok (.if_icmp .ge 94, 3) := by decide +kernel
theorem dX6_right_15 : decode cX6_right 15 = .ok (.iconst 0, 1) := by decide +kernel
theorem dX6_right_16 : decode cX6_right 16 = .ok (.istore 4, 2) := by decide +kernel
theorem dX6_right_18 : decode cX6_right 18 = .ok (.iload 4, 2) := by decide +kernel
theorem dX6_right_20 : decode cX6_right 20 = .ok (.aload_n 0, 1) := by decide +kernel
theorem dX6_right_21 : decode cX6_right 21 = .ok (.getfield 7, 3) := by decide +kernel
theorem dX6_right_24 : decode cX6_right 24 = .ok (.bipush 49, 2) := by decide +kernel
theorem dX6_right_26 : decode cX6_right 26 = .ok (.iaload, 1) := by decide +kernel
theorem dX6_right_27 : decode cX6_right 27 = .ok (.if_icmp .ge 73, 3) := by decide +kernel
theorem dX6_right_30 : decode cX6_right 30 = .ok (.aload_n 0, 1) := by decide +kernel
theorem dX6_right_31 : decode cX6_right 31 = .ok (.iload_n 3, 1) := by decide +kernel
theorem dX6_right_32 : decode cX6_right 32 = .ok (.iconst 2, 1) := by decide +kernel
theorem dX6_right_33 : decode cX6_right 33 = .ok (.invokevirtual 185, 3) := by decide +kernel
theorem dX6_right_36 : decode cX6_right 36 = .ok (.iconst 1, 1) := by decide +kernel
theorem dX6_right_37 : decode cX6_right 37 = .ok (.if_icmp .ne 57, 3) := by decide +kernel
theorem dX6_right_40 : decode cX6_right 40 = .ok (.aload_n 0, 1) := by decide +kernel
theorem dX6_right_41 : decode cX6_right 41 = .ok (.iload 4, 2) := by decide +kernel
theorem dX6_right_43 : decode cX6_right 43 = .ok (.iconst 2, 1) := by decide +kernel
theorem dX6_right_44 : decode cX6_right 44 = .ok (.invokevirtual 185, 3) := by decide +kernel
theorem dX6_right_47 : decode cX6_right 47 = .ok (.ifCond .ne 47, 3) := by decide +kernel
theorem dX6_right_50 : decode cX6_right 50 = .ok (.iload_n 2, 1) := by decide +kernel
theorem dX6_right_51 : decode cX6_right 51 = .ok (.aload_n 0, 1) := by decide +kernel
theorem dX6_right_52 : decode cX6_right 52 = .ok (.iload_n 3, 1) := by decide +kernel
theorem dX6_right_53 : decode cX6_right 53 = .ok (.iload_n 1, 1) := by decide +kernel
theorem dX6_right_54 : decode cX6_right 54 = .ok (.invokevirtual 185, 3) := by decide +kernel
theorem dX6_right_57 : decode cX6_right 57 = .ok (.aload_n 0, 1) := by decide +kernel
theorem dX6_right_58 : decode cX6_right 58 = .ok (.iload 4, 2) := by decide +kernel
theorem dX6_right_60 : decode cX6_right 60 = .ok (.iload_n 1, 1) := by decide +kernel
theorem dX6_right_61 : decode cX6_right 61 = .ok (.invokevirtual 185, 3) := by decide +kernel
theorem dX6_right_64 : decode cX6_right 64 = .ok (.if_icmp .le 7, 3) := by decide +kernel
theorem dX6_right_67 : decode cX6_right 67 = .ok (.iconst 2, 1) := by decide +kernel
theorem dX6_right_68 : decode cX6_right 68 = .ok (.goto 24, 3) := by decide +kernel
theorem dX6_right_71 : decode cX6_right 71 = .ok (.aload_n 0, 1) := by decide +kernel
theorem dX6_right_72 : decode cX6_right 72 = .ok (.iload_n 3, 1) := by decide +kernel
theorem dX6_right_73 : decode cX6_right 73 = .ok (.iload_n 1, 1) := by decide +kernel
theorem dX6_right_74 : decode cX6_right 74 = .ok (.invokevirtual 185, 3) := by decide +kernel
theorem dX6_right_77 : decode cX6_right 77 = .ok (.aload_n 0, 1) := by decide +kernel
theorem dX6_right_78 : decode cX6_right 78 = .ok (.iload 4, 2) := by decide +kernel
theorem dX6_right_80 : decode cX6_right 80 = .ok (.iload_n 1, 1) := by decide +kernel
theorem dX6_right_81 : decode cX6_right 81 = .ok (.invokevirtual 185, 3) := by decide +kernel
theorem dX6_right_84 : decode cX6_right 84 = .ok (.if_icmp .ne 7, 3) := by decide +kernel
theorem dX6_right_87 : decode cX6_right 87 = .ok (.iconst 1, 1) := by decide +kernel
theorem dX6_right_88 : decode cX6_right 88 = .ok (.goto 4, 3) := by decide +kernel
theorem dX6_right_91 : decode cX6_right 91 = .ok (.iconst 0, 1) := by decide +kernel
theorem dX6_right_92 : decode cX6_right 92 = .ok (.iadd, 1) := by decide +kernel
theorem dX6_right_93 : decode cX6_right 93 = .ok (.istore_n 2, 1) := by decide +kernel
theorem dX6_right_94 : decode cX6_right 94 = .ok (.iinc 4 1, 3) := by decide +kernel
theorem dX6_right_97 : decode cX6_right 97 = .ok (.goto (-79), 3) := by decide +kernel
theorem dX6_right_100 : decode cX6_right 100 = .ok (.iinc 3 1, 3) := by decide +kernel
theorem dX6_right_103 : decode cX6_right 103 = .ok (.goto (-99), 3) := by decide +kernel
theorem dX6_right_106 : decode cX6_right 106 = .ok (.iload_n 2, 1) := by decide +kernel
theorem dX6_right_107 : decode cX6_right 107 = .ok (.ireturn, 1) := by decide +kernel
set_option maxRecDepth 20000 in
theorem ggX6_cut_X6_told_ : GoodIn wsX6_cut wsX6_told_ := goodIn_r _ [7, 2, 8, 9, 10, 11, 12, 13, 14, 15, 16, 17, 18, 19, 20, 21, 22, 23, 24, 25, 26, 27] (by decide +kernel) (by decide +kernel)
set_option maxRecDepth 20000 in
theorem gX6_cut_X6_told_ : GoodIn wsX6_cut (wsV RX6 185 RX6 yX6_told_ wsX6_told_) := goodIn_app (goodIn_of _ (by decide +kernel)) ggX6_cut_X6_told_
theorem dX6_cut_0 : decode cX6_cut 0 = .ok (.iconst 0, 1) := by decide +kernel
theorem dX6_cut_1 : decode cX6_cut 1 = .ok (.istore_n 2, 1) := by decide +kernel
theorem dX6_cut_2 : decode cX6_cut 2 = .ok (.aload_n 0, 1) := by decide +kernel
theorem dX6_cut_3 : decode cX6_cut 3 = .ok (.iconst (-1), 1) := by decide +kernel
theorem dX6_cut_4 : decode cX6_cut 4 = .ok (.putfield 187, 3) := by decide +kernel
theorem dX6_cut_7 : decode cX6_cut 7 = .ok (.iconst 0, 1) := by decide +kernel
theorem dX6_cut_8 : decode cX6_cut 8 = .ok (.istore_n 3, 1) := by decide +kernel
theorem dX6_cut_9 : decode cX6_cut 9 = .ok (.iload_n 3, 1) := by decide +kernel
theorem dX6_cut_10 : decode cX6_cut 10 = .ok (.bipush 102, 2) := by decide +kernel
theorem dX6_cut_12 : decode cX6_cut 12 = .ok (.if_icmp .ge 115, 3) := by decide +kernel
theorem dX6_cut_15 : decode cX6_cut 15 = .ok (.iconst 0, 1) := by decide +kernel
theorem dX6_cut_16 : decode cX6_cut 16 = .ok (.istore 4, 2) := by decide +kernel
theorem dX6_cut_18 : decode cX6_cut 18 = .ok (.iconst 0, 1) := by decide +kernel
theorem dX6_cut_19 : decode cX6_cut 19 = .ok (.istore 5, 2) := by decide +kernel
theorem dX6_cut_21 : decode cX6_cut 21 = .ok (.iload 5, 2) := by decide +kernel
theorem dX6_cut_23 : decode cX6_cut 23 = .ok (.aload_n 0, 1) := by decide +kernel
theorem dX6_cut_24 : decode cX6_cut 24 = .ok (.getfield 7, 3) := by decide +kernel
theorem dX6_cut_27 : decode cX6_cut 27 = .ok (.bipush 49, 2) := by decide +kernel
theorem dX6_cut_29 : decode cX6_cut 29 = .ok (.iaload, 1) := by decide +kernel
theorem dX6_cut_30 : decode cX6_cut 30 = .ok (.if_icmp .ge 54, 3) := by decide +kernel
theorem dX6_cut_33 : decode cX6_cut 33 = .ok (.iload 4, 2) := by decide +kernel
theorem dX6_cut_35 : decode cX6_cut 35 = .ok (.aload_n 0, 1) := by decide +kernel
theorem dX6_cut_36 : decode cX6_cut 36 = .ok (.iload 5, 2) := by decide +kernel
theorem dX6_cut_38 : decode cX6_cut 38 = .ok (.iload_n 1, 1) := by decide +kernel
theorem dX6_cut_39 : decode cX6_cut 39 = .ok (.invokevirtual 185, 3) := by decide +kernel
theorem dX6_cut_42 : decode cX6_cut 42 = .ok (.iload_n 3, 1) := by decide +kernel
theorem dX6_cut_43 : decode cX6_cut 43 = .ok (.if_icmp .lt 7, 3) := by decide +kernel
theorem dX6_cut_46 : decode cX6_cut 46 = .ok (.iconst 1, 1) := by decide +kernel
theorem dX6_cut_47 : decode cX6_cut 47 = .ok (.goto 4, 3) := by decide +kernel
theorem dX6_cut_50 : decode cX6_cut 50 = .ok (.iconst 0, 1) := by decide +kernel
theorem dX6_cut_51 : decode cX6_cut 51 = .ok (.aload_n 0, 1) := by decide +kernel
theorem dX6_cut_52 : decode cX6_cut 52 = .ok (.iload 5, 2) := by decide +kernel
theorem dX6_cut_54 : decode cX6_cut 54 = .ok (.iconst 2, 1) := by decide +kernel
theorem dX6_cut_55 : decode cX6_cut 55 = .ok (.invokevirtual 185, 3) := by decide +kernel
theorem dX6_cut_58 : decode cX6_cut 58 = .ok (.iconst 1, 1) := by decide +kernel
theorem dX6_cut_59 : decode cX6_cut 59 = .ok (.if_icmp .ne 7, 3) := by decide +kernel
theorem dX6_cut_62 : decode cX6_cut 62 = .ok (.iconst 1, 1) := by decide +kernel
theorem dX6_cut_63 : decode cX6_cut 63 = .ok (.goto 4, 3) := by decide +kernel
theorem dX6_cut_66 : decode cX6_cut 66 = .ok (.iconst 0, 1) := by decide +kernel
theorem dX6_cut_67 : decode cX6_cut 67 = .ok (.if_icmp .ne 7, 3) := by decide +kernel
theorem dX6_cut_70 : decode cX6_cut 70 = .ok (.iconst 1, 1) := by decide +kernel
theorem dX6_cut_71 : decode cX6_cut 71 = .ok (.goto 4, 3) := by decide +kernel
theorem dX6_cut_74 : decode cX6_cut 74 = .ok (.iconst 0, 1) := by decide +kernel
theorem dX6_cut_75 : decode cX6_cut 75 = .ok (.iadd, 1) := by decide +kernel
theorem dX6_cut_76 : decode cX6_cut 76 = .ok (.istore 4, 2) := by decide +kernel
theorem dX6_cut_78 : decode cX6_cut 78 = .ok (.iinc 5 1, 3) := by decide +kernel
theorem dX6_cut_81 : decode cX6_cut 81 = .ok (.goto (-60), 3) := by decide +kernel
theorem dX6_cut_84 : decode cX6_cut 84 = .ok (.iload 4, 2) := by decide +kernel
theorem dX6_cut_86 : decode cX6_cut 86 = .ok (.aload_n 0, 1) := by decide +kernel
theorem dX6_cut_87 : decode cX6_cut 87 = .ok (.getfield 187, 3) := by decide +kernel
theorem dX6_cut_90 : decode cX6_cut 90 = .ok (.if_icmp .le 7, 3) := by decide +kernel
theorem dX6_cut_93 : decode cX6_cut 93 = .ok (.iload_n 3, 1) := by decide +kernel
theorem dX6_cut_94 : decode cX6_cut 94 = .ok (.goto 4, 3) := by decide +kernel
theorem dX6_cut_97 : decode cX6_cut 97 = .ok (.iload_n 2, 1) := by decide +kernel
theorem dX6_cut_98 : decode cX6_cut 98 = .ok (.istore_n 2, 1) := by decide +kernel
theorem dX6_cut_99 : decode cX6_cut 99 = .ok (.aload_n 0, 1) := by decide +kernel
theorem dX6_cut_100 : decode cX6_cut 100 = .ok (.iload 4, 2) := by decide +kernel
theorem dX6_cut_102 : decode cX6_cut 102 = .ok (.aload_n 0, 1) := by decide +kernel
theorem dX6_cut_103 : decode cX6_cut 103 = .ok (.getfield 187, 3) := by decide +kernel
theorem dX6_cut_106 : decode cX6_cut 106 = .ok (.if_icmp .le 8, 3) := by decide +kernel
theorem dX6_cut_109 : decode cX6_cut 109 = .ok (.iload 4, 2) := by decide +kernel
theorem dX6_cut_111 : decode cX6_cut 111 = .ok (.goto 7, 3) := by decide +kernel
theorem dX6_cut_114 : decode cX6_cut 114 = .ok (.aload_n 0, 1) := by decide +kernel
theorem dX6_cut_115 : decode cX6_cut 115 = .ok (.getfield 187, 3) := by decide +kernel
theorem dX6_cut_118 : decode cX6_cut 118 = .ok (.putfield 187, 3) := by decide +kernel
theorem dX6_cut_121 : decode cX6_cut 121 = .ok (.iinc 3 1, 3) := by decide +kernel
theorem dX6_cut_124 : decode cX6_cut 124 = .ok (.goto (-115), 3) := by decide +kernel
theorem dX6_cut_127 : decode cX6_cut 127 = .ok (.iload_n 2, 1) := by decide +kernel
theorem dX6_cut_128 : decode cX6_cut 128 = .ok (.ireturn, 1) := by decide +kernel
set_option maxRecDepth 20000 in
theorem ggX6_held_X6_in : GoodIn wsX6_held wsX6_in := goodIn_r _ [7] (by decide +kernel) (by decide +kernel)
set_option maxRecDepth 20000 in
theorem gX6_held_X6_in : GoodIn wsX6_held (va_wsS RX6 37 yX6_in wsX6_in) := goodIn_app (goodIn_of _ (by decide +kernel)) ggX6_held_X6_in
set_option maxRecDepth 20000 in
theorem ggX6_held_X6_right : GoodIn wsX6_held wsX6_right := goodIn_r _ [11, 3, 12, 13, 14, 6, 15, 20, 21, 22, 23, 24, 25, 26, 27, 28, 29, 30, 31, 32, 33, 34, 35, 36, 37, 38, 39] (by decide +kernel) (by decide +kernel)
set_option maxRecDepth 20000 in
theorem gX6_held_X6_right : GoodIn wsX6_held (wsV RX6 190 RX6 yX6_right wsX6_right) := goodIn_app (goodIn_of _ (by decide +kernel)) ggX6_held_X6_right
set_option maxRecDepth 20000 in
theorem ggX6_held_X6_cut : GoodIn wsX6_held wsX6_cut := goodIn_r _ [19, 2, 3, 12, 13, 14, 6, 15, 20, 21, 22, 23, 24, 25, 26, 27, 28, 29, 30, 31, 32, 33, 34, 35, 36, 37, 38, 39] (by decide +kernel) (by decide +kernel)
set_option maxRecDepth 20000 in
theorem gX6_held_X6_cut : GoodIn wsX6_held (wsV RX6 193 RX6 yX6_cut wsX6_cut) := goodIn_app (goodIn_of _ (by decide +kernel)) ggX6_held_X6_cut
set_option maxRecDepth 20000 in
theorem ggX6_held_X6_told_ : GoodIn wsX6_held wsX6_told_ := goodIn_r _ [15, 3, 20, 21, 22, 23, 24, 25, 26, 27, 28, 29, 30, 31, 32, 33, 34, 35, 36, 37, 38, 39] (by decide +kernel) (by decide +kernel)
set_option maxRecDepth 20000 in
theorem gX6_held_X6_told_ : GoodIn wsX6_held (wsV RX6 185 RX6 yX6_told_ wsX6_told_) := goodIn_app (goodIn_of _ (by decide +kernel)) ggX6_held_X6_told_
theorem dX6_held_0 : decode cX6_held 0 = .ok (.aload_n 0, 1) := by decide +kernel
theorem dX6_held_1 : decode cX6_held 1 = .ok (.iconst 0, 1) := by decide +kernel
theorem dX6_held_2 : decode cX6_held 2 = .ok (.putfield 34, 3) := by decide +kernel
theorem dX6_held_5 : decode cX6_held 5 = .ok (.iload_n 1, 1) := by decide +kernel
theorem dX6_held_6 : decode cX6_held 6 = .ok (.iconst 0, 1) := by decide +kernel
theorem dX6_held_7 : decode cX6_held 7 = .ok (.iconst 1, 1) := by decide +kernel
theorem dX6_held_8 : decode cX6_held 8 = .ok (.invokestatic 37, 3) := by decide +kernel
theorem dX6_held_11 : decode cX6_held 11 = .ok (.ifCond .eq 12, 3) := by decide +kernel
theorem dX6_held_14 : decode cX6_held 14 = .ok (.iload_n 2, 1) := by decide +kernel
theorem dX6_held_15 : decode cX6_held 15 = .ok (.iconst 0, 1) := by decide +kernel
theorem dX6_held_16 : decode cX6_held 16 = .ok (.iconst 3, 1) := by decide +kernel
theorem dX6_held_17 : decode cX6_held 17 = .ok (.invokestatic 37, 3) := by decide +kernel
theorem dX6_held_20 : decode cX6_held 20 = .ok (.ifCond .ne 5, 3) := by decide +kernel
theorem dX6_held_23 : decode cX6_held 23 = .ok (.iconst (-1), 1) := by decide +kernel
theorem dX6_held_24 : decode cX6_held 24 = .ok (.ireturn, 1) := by decide +kernel
theorem dX6_held_25 : decode cX6_held 25 = .ok (.iload_n 2, 1) := by decide +kernel
theorem dX6_held_26 : decode cX6_held 26 = .ok (.iconst 1, 1) := by decide +kernel
theorem dX6_held_27 : decode cX6_held 27 = .ok (.if_icmp .ne 9, 3) := by decide +kernel
theorem dX6_held_30 : decode cX6_held 30 = .ok (.aload_n 0, 1) := by decide +kernel
theorem dX6_held_31 : decode cX6_held 31 = .ok (.iload_n 1, 1) := by decide +kernel
theorem dX6_held_32 : decode cX6_held 32 = .ok (.invokevirtual 190, 3) := by decide +kernel
theorem dX6_held_35 : decode cX6_held 35 = .ok (.ireturn, 1) := by decide +kernel
theorem dX6_held_36 : decode cX6_held 36 = .ok (.iload_n 2, 1) := by decide +kernel
theorem dX6_held_37 : decode cX6_held 37 = .ok (.iconst 1, 1) := by decide +kernel
theorem dX6_held_38 : decode cX6_held 38 = .ok (.if_icmp .le 23, 3) := by decide +kernel
theorem dX6_held_41 : decode cX6_held 41 = .ok (.aload_n 0, 1) := by decide +kernel
theorem dX6_held_42 : decode cX6_held 42 = .ok (.iload_n 1, 1) := by decide +kernel
theorem dX6_held_43 : decode cX6_held 43 = .ok (.invokevirtual 193, 3) := by decide +kernel
theorem dX6_held_46 : decode cX6_held 46 = .ok (.istore_n 3, 1) := by decide +kernel
theorem dX6_held_47 : decode cX6_held 47 = .ok (.iload_n 2, 1) := by decide +kernel
theorem dX6_held_48 : decode cX6_held 48 = .ok (.iconst 2, 1) := by decide +kernel
theorem dX6_held_49 : decode cX6_held 49 = .ok (.if_icmp .ne 7, 3) := by decide +kernel
theorem dX6_held_52 : decode cX6_held 52 = .ok (.iload_n 3, 1) := by decide +kernel
theorem dX6_held_53 : decode cX6_held 53 = .ok (.goto 7, 3) := by decide +kernel
theorem dX6_held_56 : decode cX6_held 56 = .ok (.aload_n 0, 1) := by decide +kernel
theorem dX6_held_57 : decode cX6_held 57 = .ok (.getfield 187, 3) := by decide +kernel
theorem dX6_held_60 : decode cX6_held 60 = .ok (.ireturn, 1) := by decide +kernel
theorem dX6_held_61 : decode cX6_held 61 = .ok (.iconst 0, 1) := by decide +kernel
theorem dX6_held_62 : decode cX6_held 62 = .ok (.istore_n 3, 1) := by decide +kernel
theorem dX6_held_63 : decode cX6_held 63 = .ok (.iconst 0, 1) := by decide +kernel
theorem dX6_held_64 : decode cX6_held 64 = .ok (.istore 4, 2) := by decide +kernel
theorem dX6_held_66 : decode cX6_held 66 = .ok (.iload 4, 2) := by decide +kernel
theorem dX6_held_68 : decode cX6_held 68 = .ok (.aload_n 0, 1) := by decide +kernel
theorem dX6_held_69 : decode cX6_held 69 = .ok (.getfield 7, 3) := by decide +kernel
theorem dX6_held_72 : decode cX6_held 72 = .ok (.bipush 49, 2) := by decide +kernel
theorem dX6_held_74 : decode cX6_held 74 = .ok (.iaload, 1) := by decide +kernel
theorem dX6_held_75 : decode cX6_held 75 = .ok (.if_icmp .ge 37, 3) := by decide +kernel
theorem dX6_held_78 : decode cX6_held 78 = .ok (.aload_n 0, 1) := by decide +kernel
theorem dX6_held_79 : decode cX6_held 79 = .ok (.iload 4, 2) := by decide +kernel
theorem dX6_held_81 : decode cX6_held 81 = .ok (.iload_n 1, 1) := by decide +kernel
theorem dX6_held_82 : decode cX6_held 82 = .ok (.invokevirtual 185, 3) := by decide +kernel
theorem dX6_held_85 : decode cX6_held 85 = .ok (.bipush 100, 2) := by decide +kernel
theorem dX6_held_87 : decode cX6_held 87 = .ok (.aload_n 0, 1) := by decide +kernel
theorem dX6_held_88 : decode cX6_held 88 = .ok (.iload 4, 2) := by decide +kernel
theorem dX6_held_90 : decode cX6_held 90 = .ok (.iconst 2, 1) := by decide +kernel
theorem dX6_held_91 : decode cX6_held 91 = .ok (.invokevirtual 185, 3) := by decide +kernel
theorem dX6_held_94 : decode cX6_held 94 = .ok (.imul, 1) := by decide +kernel
theorem dX6_held_95 : decode cX6_held 95 = .ok (.isub, 1) := by decide +kernel
theorem dX6_held_96 : decode cX6_held 96 = .ok (.istore 5, 2) := by decide +kernel
theorem dX6_held_98 : decode cX6_held 98 = .ok (.iload_n 3, 1) := by decide +kernel
theorem dX6_held_99 : decode cX6_held 99 = .ok (.iload 5, 2) := by decide +kernel
theorem dX6_held_101 : decode cX6_held 101 = .ok (.iload 5, 2) := by decide +kernel
theorem dX6_held_103 : decode cX6_held 103 = .ok (.imul, 1) := by decide +kernel
theorem dX6_held_104 : decode cX6_held 104 = .ok (.iadd, 1) := by decide +kernel
theorem dX6_held_105 : decode cX6_held 105 = .ok (.istore_n 3, 1) := by decide +kernel
theorem dX6_held_106 : decode cX6_held 106 = .ok (.iinc 4 1, 3) := by decide +kernel
theorem dX6_held_109 : decode cX6_held 109 = .ok (.goto (-43), 3) := by decide +kernel
theorem dX6_held_112 : decode cX6_held 112 = .ok (.iload_n 3, 1) := by decide +kernel
theorem dX6_held_113 : decode cX6_held 113 = .ok (.ireturn, 1) := by decide +kernel
set_option maxRecDepth 20000 in
theorem ggX6_stands_X6_isFinding : GoodIn wsX6_stands wsX6_isFinding := goodIn_r _ [7, 2, 8, 9, 6, 10, 18, 19, 20, 21, 22, 23, 24, 25, 26, 27, 28, 29, 30, 31, 32, 33, 34, 35, 36, 37] (by decide +kernel) (by decide +kernel)
set_option maxRecDepth 20000 in
theorem gX6_stands_X6_isFinding : GoodIn wsX6_stands (wsV RX6 196 RX6 yX6_isFinding wsX6_isFinding) := goodIn_app (goodIn_of _ (by decide +kernel)) ggX6_stands_X6_isFinding
set_option maxRecDepth 20000 in
theorem ggX6_stands_X6_in : GoodIn wsX6_stands wsX6_in := goodIn_r _ [10] (by decide +kernel) (by decide +kernel)
set_option maxRecDepth 20000 in
theorem gX6_stands_X6_in : GoodIn wsX6_stands (va_wsS RX6 37 yX6_in wsX6_in) := goodIn_app (goodIn_of _ (by decide +kernel)) ggX6_stands_X6_in
set_option maxRecDepth 20000 in
theorem ggX6_stands_X6_told_ : GoodIn wsX6_stands wsX6_told_ := goodIn_r _ [14, 2, 18, 19, 20, 21, 22, 23, 24, 25, 26, 27, 28, 29, 30, 31, 32, 33, 34, 35, 36, 37] (by decide +kernel) (by decide +kernel)
set_option maxRecDepth 20000 in
theorem gX6_stands_X6_told_ : GoodIn wsX6_stands (wsV RX6 185 RX6 yX6_told_ wsX6_told_) := goodIn_app (goodIn_of _ (by decide +kernel)) ggX6_stands_X6_told_
set_option maxRecDepth 20000 in
theorem ggX6_stands_X6_ones : GoodIn wsX6_stands wsX6_ones := goodIn_r _ [17] (by decide +kernel) (by decide +kernel)
set_option maxRecDepth 20000 in
theorem gX6_stands_X6_ones : GoodIn wsX6_stands (va_wsS RX6 92 yX6_ones wsX6_ones) := goodIn_app (goodIn_of _ (by decide +kernel)) ggX6_stands_X6_ones
theorem dX6_stands_0 : decode cX6_stands 0 = .ok (.aload_n 0, 1) := by decide +kernel
theorem dX6_stands_1 : decode cX6_stands 1 = .ok (.iconst 0, 1) := by decide +kernel
theorem dX6_stands_2 : decode cX6_stands 2 = .ok (.putfield 34, 3) := by decide +kernel
theorem dX6_stands_5 : decode cX6_stands 5 = .ok (.aload_n 0, 1) := by decide +kernel
theorem dX6_stands_6 : decode cX6_stands 6 = .ok (.iload_n 1, 1) := by decide +kernel
theorem dX6_stands_7 : decode cX6_stands 7 = .ok (.invokevirtual 196, 3) := by decide +kernel
theorem dX6_stands_10 : decode cX6_stands 10 = .ok (.ifCond .eq 28, 3) := by decide +kernel
theorem dX6_stands_13 : decode cX6_stands 13 = .ok (.iload_n 2, 1) := by decide +kernel
theorem dX6_stands_14 : decode cX6_stands 14 = .ok (.iconst 0, 1) := by decide +kernel
theorem dX6_stands_15 : decode cX6_stands 15 = .ok (.iload_n 1, 1) := by decide +kernel
theorem dX6_stands_16 : decode cX6_stands 16 = .ok (.iconst 1, 1) := by decide +kernel
theorem dX6_stands_17 : decode cX6_stands 17 = .ok (.isub, 1) := by decide +kernel
theorem dX6_stands_18 : decode cX6_stands 18 = .ok (.invokestatic 37, 3) := by decide +kernel
theorem dX6_stands_21 : decode cX6_stands 21 = .ok (.ifCond .eq 17, 3) := by decide +kernel
theorem dX6_stands_24 : decode cX6_stands 24 = .ok (.aload_n 0, 1) := by decide +kernel
theorem dX6_stands_25 : decode cX6_stands 25 = .ok (.iload_n 1, 1) := by decide +kernel
theorem dX6_stands_26 : decode cX6_stands 26 = .ok (.iconst 3, 1) := by decide +kernel
theorem dX6_stands_27 : decode cX6_stands 27 = .ok (.invokevirtual 185, 3) := by decide +kernel
theorem dX6_stands_30 : decode cX6_stands 30 = .ok (.iload_n 2, 1) := by decide +kernel
theorem dX6_stands_31 : decode cX6_stands 31 = .ok (.ishr, 1) := by decide +kernel
theorem dX6_stands_32 : decode cX6_stands 32 = .ok (.iconst 1, 1) := by decide +kernel
theorem dX6_stands_33 : decode cX6_stands 33 = .ok (.iand, 1) := by decide +kernel
theorem dX6_stands_34 : decode cX6_stands 34 = .ok (.iconst 1, 1) := by decide +kernel
theorem dX6_stands_35 : decode cX6_stands 35 = .ok (.if_icmp .ne 5, 3) := by decide +kernel
theorem dX6_stands_38 : decode cX6_stands 38 = .ok (.iconst (-1), 1) := by decide +kernel
theorem dX6_stands_39 : decode cX6_stands 39 = .ok (.ireturn, 1) := by decide +kernel
theorem dX6_stands_40 : decode cX6_stands 40 = .ok (.aload_n 0, 1) := by decide +kernel
theorem dX6_stands_41 : decode cX6_stands 41 = .ok (.iload_n 1, 1) := by decide +kernel
theorem dX6_stands_42 : decode cX6_stands 42 = .ok (.iconst 3, 1) := by decide +kernel
theorem dX6_stands_43 : decode cX6_stands 43 = .ok (.invokevirtual 185, 3) := by decide +kernel
theorem dX6_stands_46 : decode cX6_stands 46 = .ok (.invokestatic 92, 3) := by decide +kernel
theorem dX6_stands_49 : decode cX6_stands 49 = .ok (.iconst 3, 1) := by decide +kernel
theorem dX6_stands_50 : decode cX6_stands 50 = .ok (.if_icmp .ne 6, 3) := by decide +kernel
theorem dX6_stands_53 : decode cX6_stands 53 = .ok (.bipush (-3), 2) := by decide +kernel
theorem dX6_stands_55 : decode cX6_stands 55 = .ok (.ireturn, 1) := by decide +kernel
theorem dX6_stands_56 : decode cX6_stands 56 = .ok (.aload_n 0, 1) := by decide +kernel
theorem dX6_stands_57 : decode cX6_stands 57 = .ok (.getfield 7, 3) := by decide +kernel
theorem dX6_stands_60 : decode cX6_stands 60 = .ok (.bipush 50, 2) := by decide +kernel
theorem dX6_stands_62 : decode cX6_stands 62 = .ok (.iconst 4, 1) := by decide +kernel
theorem dX6_stands_63 : decode cX6_stands 63 = .ok (.iload_n 1, 1) := by decide +kernel
theorem dX6_stands_64 : decode cX6_stands 64 = .ok (.imul, 1) := by decide +kernel
theorem dX6_stands_65 : decode cX6_stands 65 = .ok (.iadd, 1) := by decide +kernel
theorem dX6_stands_66 : decode cX6_stands 66 = .ok (.iconst 3, 1) := by decide +kernel
theorem dX6_stands_67 : decode cX6_stands 67 = .ok (.iadd, 1) := by decide +kernel
theorem dX6_stands_68 : decode cX6_stands 68 = .ok (.dup2, 1) := by decide +kernel
theorem dX6_stands_69 : decode cX6_stands 69 = .ok (.iaload, 1) := by decide +kernel
theorem dX6_stands_70 : decode cX6_stands 70 = .ok (.iconst 1, 1) := by decide +kernel
theorem dX6_stands_71 : decode cX6_stands 71 = .ok (.iload_n 2, 1) := by decide +kernel
theorem dX6_stands_72 : decode cX6_stands 72 = .ok (.ishl, 1) := by decide +kernel
theorem dX6_stands_73 : decode cX6_stands 73 = .ok (.ior, 1) := by decide +kernel
theorem dX6_stands_74 : decode cX6_stands 74 = .ok (.iastore, 1) := by decide +kernel
theorem dX6_stands_75 : decode cX6_stands 75 = .ok (.aload_n 0, 1) := by decide +kernel
theorem dX6_stands_76 : decode cX6_stands 76 = .ok (.iload_n 1, 1) := by decide +kernel
theorem dX6_stands_77 : decode cX6_stands 77 = .ok (.iconst 3, 1) := by decide +kernel
theorem dX6_stands_78 : decode cX6_stands 78 = .ok (.invokevirtual 185, 3) := by decide +kernel
theorem dX6_stands_81 : decode cX6_stands 81 = .ok (.invokestatic 92, 3) := by decide +kernel
theorem dX6_stands_84 : decode cX6_stands 84 = .ok (.ireturn, 1) := by decide +kernel
set_option maxRecDepth 20000 in
theorem ggX6_fallen_X6_told_ : GoodIn wsX6_fallen wsX6_told_ := goodIn_r _ [7, 1, 8, 9, 10, 11, 12, 13, 14, 15, 16, 17, 18, 19, 20, 21, 22, 23, 24, 25, 26, 27] (by decide +kernel) (by decide +kernel)
set_option maxRecDepth 20000 in
theorem gX6_fallen_X6_told_ : GoodIn wsX6_fallen (wsV RX6 185 RX6 yX6_told_ wsX6_told_) := goodIn_app (goodIn_of _ (by decide +kernel)) ggX6_fallen_X6_told_
theorem dX6_fallen_0 : decode cX6_fallen 0 = .ok (.iload_n 1, 1) := by decide +kernel
theorem dX6_fallen_1 : decode cX6_fallen 1 = .ok (.iconst 1, 1) := by decide +kernel
theorem dX6_fallen_2 : decode cX6_fallen 2 = .ok (.aload_n 0, 1) := by decide +kernel
theorem dX6_fallen_3 : decode cX6_fallen 3 = .ok (.getfield 7, 3) := by decide +kernel
theorem dX6_fallen_6 : decode cX6_fallen 6 = .ok (.bipush 49, 2) := by decide +kernel
theorem dX6_fallen_8 : decode cX6_fallen 8 = .ok (.iaload, 1) := by decide +kernel
theorem dX6_fallen_9 : decode cX6_fallen 9 = .ok (.ishl, 1) := by decide +kernel
theorem dX6_fallen_10 : decode cX6_fallen 10 = .ok (.iconst 1, 1) := by decide +kernel
theorem dX6_fallen_11 : decode cX6_fallen 11 = .ok (.isub, 1) := by decide +kernel
theorem dX6_fallen_12 : decode cX6_fallen 12 = .ok (.iand, 1) := by decide +kernel
theorem dX6_fallen_13 : decode cX6_fallen 13 = .ok (.istore_n 2, 1) := by decide +kernel
theorem dX6_fallen_14 : decode cX6_fallen 14 = .ok (.iconst 0, 1) := by decide +kernel
theorem dX6_fallen_15 : decode cX6_fallen 15 = .ok (.istore_n 3, 1) := by decide +kernel
theorem dX6_fallen_16 : decode cX6_fallen 16 = .ok (.iconst 1, 1) := by decide +kernel
theorem dX6_fallen_17 : decode cX6_fallen 17 = .ok (.istore 4, 2) := by decide +kernel
theorem dX6_fallen_19 : decode cX6_fallen 19 = .ok (.iload 4, 2) := by decide +kernel
theorem dX6_fallen_21 : decode cX6_fallen 21 = .ok (.ifCond .eq 82, 3) := by decide +kernel
theorem dX6_fallen_24 : decode cX6_fallen 24 = .ok (.iconst 0, 1) := by decide +kernel
theorem dX6_fallen_25 : decode cX6_fallen 25 = .ok (.istore 4, 2) := by decide +kernel
theorem dX6_fallen_27 : decode cX6_fallen 27 = .ok (.iconst 0, 1) := by decide +kernel
theorem dX6_fallen_28 : decode cX6_fallen 28 = .ok (.istore 5, 2) := by decide +kernel
theorem dX6_fallen_30 : decode cX6_fallen 30 = .ok (.iload 5, 2) := by decide +kernel
theorem dX6_fallen_32 : decode cX6_fallen 32 = .ok (.aload_n 0, 1) := by decide +kernel
theorem dX6_fallen_33 : decode cX6_fallen 33 = .ok (.getfield 7, 3) := by decide +kernel
theorem dX6_fallen_36 : decode cX6_fallen 36 = .ok (.bipush 49, 2) := by decide +kernel
theorem dX6_fallen_38 : decode cX6_fallen 38 = .ok (.iaload, 1) := by decide +kernel
theorem dX6_fallen_39 : decode cX6_fallen 39 = .ok (.if_icmp .ge 43, 3) := by decide +kernel
theorem dX6_fallen_42 : decode cX6_fallen 42 = .ok (.iload 4, 2) := by decide +kernel
theorem dX6_fallen_44 : decode cX6_fallen 44 = .ok (.iload_n 2, 1) := by decide +kernel
theorem dX6_fallen_45 : decode cX6_fallen 45 = .ok (.iload 5, 2) := by decide +kernel
theorem dX6_fallen_47 : decode cX6_fallen 47 = .ok (.ishr, 1) := by decide +kernel
theorem dX6_fallen_48 : decode cX6_fallen 48 = .ok (.iconst 1, 1) := by decide +kernel
theorem dX6_fallen_49 : decode cX6_fallen 49 = .ok (.iand, 1) := by decide +kernel
theorem dX6_fallen_50 : decode cX6_fallen 50 = .ok (.ifCond .ne 22, 3) := by decide +kernel
theorem dX6_fallen_53 : decode cX6_fallen 53 = .ok (.aload_n 0, 1) := by decide +kernel
theorem dX6_fallen_54 : decode cX6_fallen 54 = .ok (.iload 5, 2) := by decide +kernel
theorem dX6_fallen_56 : decode cX6_fallen 56 = .ok (.iconst 3, 1) := by decide +kernel
theorem dX6_fallen_57 : decode cX6_fallen 57 = .ok (.invokevirtual 185, 3) := by decide +kernel
theorem dX6_fallen_60 : decode cX6_fallen 60 = .ok (.iload_n 2, 1) := by decide +kernel
theorem dX6_fallen_61 : decode cX6_fallen 61 = .ok (.iand, 1) := by decide +kernel
theorem dX6_fallen_62 : decode cX6_fallen 62 = .ok (.ifCond .eq 10, 3) := by decide +kernel
theorem dX6_fallen_65 : decode cX6_fallen 65 = .ok (.iconst 1, 1) := by decide +kernel
theorem dX6_fallen_66 : decode cX6_fallen 66 = .ok (.iload 5, 2) := by decide +kernel
theorem dX6_fallen_68 : decode cX6_fallen 68 = .ok (.ishl, 1) := by decide +kernel
theorem dX6_fallen_69 : decode cX6_fallen 69 = .ok (.goto 4, 3) := by decide +kernel
theorem dX6_fallen_72 : decode cX6_fallen 72 = .ok (.iconst 0, 1) := by decide +kernel
theorem dX6_fallen_73 : decode cX6_fallen 73 = .ok (.ior, 1) := by decide +kernel
theorem dX6_fallen_74 : decode cX6_fallen 74 = .ok (.istore 4, 2) := by decide +kernel
theorem dX6_fallen_76 : decode cX6_fallen 76 = .ok (.iinc 5 1, 3) := by decide +kernel
theorem dX6_fallen_79 : decode cX6_fallen 79 = .ok (.goto (-49), 3) := by decide +kernel
theorem dX6_fallen_82 : decode cX6_fallen 82 = .ok (.iload_n 2, 1) := by decide +kernel
theorem dX6_fallen_83 : decode cX6_fallen 83 = .ok (.iload 4, 2) := by decide +kernel
theorem dX6_fallen_85 : decode cX6_fallen 85 = .ok (.ior, 1) := by decide +kernel
theorem dX6_fallen_86 : decode cX6_fallen 86 = .ok (.istore_n 2, 1) := by decide +kernel
theorem dX6_fallen_87 : decode cX6_fallen 87 = .ok (.iload_n 3, 1) := by decide +kernel
theorem dX6_fallen_88 : decode cX6_fallen 88 = .ok (.iload 4, 2) := by decide +kernel
theorem dX6_fallen_90 : decode cX6_fallen 90 = .ok (.ifCond .eq 7, 3) := by decide +kernel
theorem dX6_fallen_93 : decode cX6_fallen 93 = .ok (.iconst 1, 1) := by decide +kernel
theorem dX6_fallen_94 : decode cX6_fallen 94 = .ok (.goto 4, 3) := by decide +kernel
theorem dX6_fallen_97 : decode cX6_fallen 97 = .ok (.iconst 0, 1) := by decide +kernel
theorem dX6_fallen_98 : decode cX6_fallen 98 = .ok (.iadd, 1) := by decide +kernel
theorem dX6_fallen_99 : decode cX6_fallen 99 = .ok (.istore_n 3, 1) := by decide +kernel
theorem dX6_fallen_100 : decode cX6_fallen 100 = .ok (.goto (-81), 3) := by decide +kernel
theorem dX6_fallen_103 : decode cX6_fallen 103 = .ok (.iload_n 2, 1) := by decide +kernel
theorem dX6_fallen_104 : decode cX6_fallen 104 = .ok (.ldc 199, 2) := by decide +kernel
theorem dX6_fallen_106 : decode cX6_fallen 106 = .ok (.iload_n 3, 1) := by decide +kernel
theorem dX6_fallen_107 : decode cX6_fallen 107 = .ok (.imul, 1) := by decide +kernel
theorem dX6_fallen_108 : decode cX6_fallen 108 = .ok (.iadd, 1) := by decide +kernel
theorem dX6_fallen_109 : decode cX6_fallen 109 = .ok (.ireturn, 1) := by decide +kernel
set_option maxRecDepth 20000 in
theorem ggX6_falls_X6_in : GoodIn wsX6_falls wsX6_in := goodIn_r _ [6] (by decide +kernel) (by decide +kernel)
set_option maxRecDepth 20000 in
theorem gX6_falls_X6_in : GoodIn wsX6_falls (va_wsS RX6 37 yX6_in wsX6_in) := goodIn_app (goodIn_of _ (by decide +kernel)) ggX6_falls_X6_in
set_option maxRecDepth 20000 in
theorem ggX6_falls_X6_fallen : GoodIn wsX6_falls wsX6_fallen := goodIn_r _ [10, 11, 2, 12, 13, 14, 5, 15, 16, 17, 18, 19, 20, 21, 22, 23, 24, 25, 26, 27, 28, 29, 30, 31, 32, 33, 34, 35] (by decide +kernel) (by decide +kernel)
set_option maxRecDepth 20000 in
theorem gX6_falls_X6_fallen : GoodIn wsX6_falls (wsV RX6 200 RX6 yX6_fallen wsX6_fallen) := goodIn_app (goodIn_of _ (by decide +kernel)) ggX6_falls_X6_fallen
theorem dX6_falls_0 : decode cX6_falls 0 = .ok (.aload_n 0, 1) := by decide +kernel
theorem dX6_falls_1 : decode cX6_falls 1 = .ok (.iconst 0, 1) := by decide +kernel
theorem dX6_falls_2 : decode cX6_falls 2 = .ok (.putfield 34, 3) := by decide +kernel
theorem dX6_falls_5 : decode cX6_falls 5 = .ok (.iload_n 2, 1) := by decide +kernel
theorem dX6_falls_6 : decode cX6_falls 6 = .ok (.iconst 0, 1) := by decide +kernel
theorem dX6_falls_7 : decode cX6_falls 7 = .ok (.iconst 1, 1) := by decide +kernel
theorem dX6_falls_8 : decode cX6_falls 8 = .ok (.invokestatic 37, 3) := by decide +kernel
theorem dX6_falls_11 : decode cX6_falls 11 = .ok (.ifCond .ne 7, 3) := by decide +kernel
theorem dX6_falls_14 : decode cX6_falls 14 = .ok (.iconst (-1), 1) := by decide +kernel
theorem dX6_falls_15 : decode cX6_falls 15 = .ok (.goto 26, 3) := by decide +kernel
theorem dX6_falls_18 : decode cX6_falls 18 = .ok (.iload_n 2, 1) := by decide +kernel
theorem dX6_falls_19 : decode cX6_falls 19 = .ok (.ifCond .ne 14, 3) := by decide +kernel
theorem dX6_falls_22 : decode cX6_falls 22 = .ok (.aload_n 0, 1) := by decide +kernel
theorem dX6_falls_23 : decode cX6_falls 23 = .ok (.iload_n 1, 1) := by decide +kernel
theorem dX6_falls_24 : decode cX6_falls 24 = .ok (.invokevirtual 200, 3) := by decide +kernel
theorem dX6_falls_27 : decode cX6_falls 27 = .ok (.ldc 199, 2) := by decide +kernel
theorem dX6_falls_29 : decode cX6_falls 29 = .ok (.irem, 1) := by decide +kernel
theorem dX6_falls_30 : decode cX6_falls 30 = .ok (.goto 11, 3) := by decide +kernel
theorem dX6_falls_33 : decode cX6_falls 33 = .ok (.aload_n 0, 1) := by decide +kernel
theorem dX6_falls_34 : decode cX6_falls 34 = .ok (.iload_n 1, 1) := by decide +kernel
theorem dX6_falls_35 : decode cX6_falls 35 = .ok (.invokevirtual 200, 3) := by decide +kernel
theorem dX6_falls_38 : decode cX6_falls 38 = .ok (.ldc 199, 2) := by decide +kernel
theorem dX6_falls_40 : decode cX6_falls 40 = .ok (.idiv, 1) := by decide +kernel
theorem dX6_falls_41 : decode cX6_falls 41 = .ok (.ireturn, 1) := by decide +kernel
set_option maxRecDepth 20000 in
theorem ggX6_bears_X6_fallen : GoodIn wsX6_bears wsX6_fallen := goodIn_r _ [8, 2, 3, 9, 10, 11, 7, 12, 16, 17, 18, 19, 20, 21, 22, 23, 24, 25, 26, 27, 28, 29, 30, 31, 32, 33, 34, 35] (by decide +kernel) (by decide +kernel)
set_option maxRecDepth 20000 in
theorem gX6_bears_X6_fallen : GoodIn wsX6_bears (wsV RX6 200 RX6 yX6_fallen wsX6_fallen) := goodIn_app (goodIn_of _ (by decide +kernel)) ggX6_bears_X6_fallen
set_option maxRecDepth 20000 in
theorem ggX6_bears_X6_ones : GoodIn wsX6_bears wsX6_ones := goodIn_r _ [15] (by decide +kernel) (by decide +kernel)
set_option maxRecDepth 20000 in
theorem gX6_bears_X6_ones : GoodIn wsX6_bears (va_wsS RX6 92 yX6_ones wsX6_ones) := goodIn_app (goodIn_of _ (by decide +kernel)) ggX6_bears_X6_ones
theorem dX6_bears_0 : decode cX6_bears 0 = .ok (.aload_n 0, 1) := by decide +kernel
theorem dX6_bears_1 : decode cX6_bears 1 = .ok (.iconst 0, 1) := by decide +kernel
theorem dX6_bears_2 : decode cX6_bears 2 = .ok (.putfield 34, 3) := by decide +kernel
theorem dX6_bears_5 : decode cX6_bears 5 = .ok (.bipush (-9), 2) := by decide +kernel
theorem dX6_bears_7 : decode cX6_bears 7 = .ok (.istore_n 1, 1) := by decide +kernel
theorem dX6_bears_8 : decode cX6_bears 8 = .ok (.iconst 0, 1) := by decide +kernel
theorem dX6_bears_9 : decode cX6_bears 9 = .ok (.istore_n 2, 1) := by decide +kernel
theorem dX6_bears_10 : decode cX6_bears 10 = .ok (.iconst 0, 1) := by decide +kernel
theorem dX6_bears_11 : decode cX6_bears 11 = .ok (.istore_n 3, 1) := by decide +kernel
theorem dX6_bears_12 : decode cX6_bears 12 = .ok (.iload_n 3, 1) := by decide +kernel
theorem dX6_bears_13 : decode cX6_bears 13 = .ok (.aload_n 0, 1) := by decide +kernel
theorem dX6_bears_14 : decode cX6_bears 14 = .ok (.getfield 7, 3) := by decide +kernel
theorem dX6_bears_17 : decode cX6_bears 17 = .ok (.bipush 49, 2) := by decide +kernel
theorem dX6_bears_19 : decode cX6_bears 19 = .ok (.iaload, 1) := by decide +kernel
theorem dX6_bears_20 : decode cX6_bears 20 = .ok (.if_icmp .ge 49, 3) := by decide +kernel
theorem dX6_bears_23 : decode cX6_bears 23 = .ok (.aload_n 0, 1) := by decide +kernel
theorem dX6_bears_24 : decode cX6_bears 24 = .ok (.iconst 1, 1) := by decide +kernel
theorem dX6_bears_25 : decode cX6_bears 25 = .ok (.iload_n 3, 1) := by decide +kernel
theorem dX6_bears_26 : decode cX6_bears 26 = .ok (.ishl, 1) := by decide +kernel
theorem dX6_bears_27 : decode cX6_bears 27 = .ok (.invokevirtual 200, 3) := by decide +kernel
theorem dX6_bears_30 : decode cX6_bears 30 = .ok (.ldc 199, 2) := by decide +kernel
theorem dX6_bears_32 : decode cX6_bears 32 = .ok (.irem, 1) := by decide +kernel
theorem dX6_bears_33 : decode cX6_bears 33 = .ok (.invokestatic 92, 3) := by decide +kernel
theorem dX6_bears_36 : decode cX6_bears 36 = .ok (.istore 4, 2) := by decide +kernel
theorem dX6_bears_38 : decode cX6_bears 38 = .ok (.iload 4, 2) := by decide +kernel
theorem dX6_bears_40 : decode cX6_bears 40 = .ok (.iload_n 2, 1) := by decide +kernel
theorem dX6_bears_41 : decode cX6_bears 41 = .ok (.if_icmp .le 7, 3) := by decide +kernel
theorem dX6_bears_44 : decode cX6_bears 44 = .ok (.iload_n 3, 1) := by decide +kernel
theorem dX6_bears_45 : decode cX6_bears 45 = .ok (.goto 4, 3) := by decide +kernel
theorem dX6_bears_48 : decode cX6_bears 48 = .ok (.iload_n 1, 1) := by decide +kernel
theorem dX6_bears_49 : decode cX6_bears 49 = .ok (.istore_n 1, 1) := by decide +kernel
theorem dX6_bears_50 : decode cX6_bears 50 = .ok (.iload 4, 2) := by decide +kernel
theorem dX6_bears_52 : decode cX6_bears 52 = .ok (.iload_n 2, 1) := by decide +kernel
theorem dX6_bears_53 : decode cX6_bears 53 = .ok (.if_icmp .le 8, 3) := by decide +kernel
theorem dX6_bears_56 : decode cX6_bears 56 = .ok (.iload 4, 2) := by decide +kernel
theorem dX6_bears_58 : decode cX6_bears 58 = .ok (.goto 4, 3) := by decide +kernel
theorem dX6_bears_61 : decode cX6_bears 61 = .ok (.iload_n 2, 1) := by decide +kernel
theorem dX6_bears_62 : decode cX6_bears 62 = .ok (.istore_n 2, 1) := by decide +kernel
theorem dX6_bears_63 : decode cX6_bears 63 = .ok (.iinc 3 1, 3) := by decide +kernel
theorem dX6_bears_66 : decode cX6_bears 66 = .ok (.goto (-54), 3) := by decide +kernel
theorem dX6_bears_69 : decode cX6_bears 69 = .ok (.iload_n 1, 1) := by decide +kernel
theorem dX6_bears_70 : decode cX6_bears 70 = .ok (.ireturn, 1) := by decide +kernel
set_option maxRecDepth 20000 in
theorem ggX6_weight_X6_in : GoodIn wsX6_weight wsX6_in := goodIn_r _ [13] (by decide +kernel) (by decide +kernel)
set_option maxRecDepth 20000 in
theorem gX6_weight_X6_in : GoodIn wsX6_weight (va_wsS RX6 37 yX6_in wsX6_in) := goodIn_app (goodIn_of _ (by decide +kernel)) ggX6_weight_X6_in
set_option maxRecDepth 20000 in
theorem ggX6_weight_X6_isHouse : GoodIn wsX6_weight wsX6_isHouse := goodIn_r _ [17, 2, 10, 11, 12, 13, 26, 27, 28, 29, 30, 31, 32, 33, 34, 35, 36, 37, 38, 39, 40, 41, 42, 43, 44, 45] (by decide +kernel) (by decide +kernel)
set_option maxRecDepth 20000 in
theorem gX6_weight_X6_isHouse : GoodIn wsX6_weight (wsV RX6 41 RX6 yX6_isHouse wsX6_isHouse) := goodIn_app (goodIn_of _ (by decide +kernel)) ggX6_weight_X6_isHouse
set_option maxRecDepth 20000 in
theorem ggX6_weight_X6_of : GoodIn wsX6_weight wsX6_of := goodIn_r _ [21, 2, 26, 27, 28, 29, 30, 31, 32, 33, 34, 35, 36, 37, 38, 39, 40, 41, 42, 43, 44, 45] (by decide +kernel) (by decide +kernel)
set_option maxRecDepth 20000 in
theorem gX6_weight_X6_of : GoodIn wsX6_weight (wsV RX6 45 RX6 yX6_of wsX6_of) := goodIn_app (goodIn_of _ (by decide +kernel)) ggX6_weight_X6_of
set_option maxRecDepth 20000 in
theorem ggX6_weight_X6_isSame : GoodIn wsX6_weight wsX6_isSame := goodIn_r _ [25, 18, 19, 20, 12, 21, 2, 26, 27, 28, 29, 30, 31, 32, 33, 34, 35, 36, 37, 38, 39, 40, 41, 42, 43, 44, 45] (by decide +kernel) (by decide +kernel)
set_option maxRecDepth 20000 in
theorem gX6_weight_X6_isSame : GoodIn wsX6_weight (wsV RX6 73 RX6 yX6_isSame wsX6_isSame) := goodIn_app (goodIn_of _ (by decide +kernel)) ggX6_weight_X6_isSame
theorem dX6_weight_0 : decode cX6_weight 0 = .ok (.aload_n 0, 1) := by decide +kernel
theorem dX6_weight_1 : decode cX6_weight 1 = .ok (.iconst 0, 1) := by decide +kernel
theorem dX6_weight_2 : decode cX6_weight 2 = .ok (.putfield 34, 3) := by decide +kernel
theorem dX6_weight_5 : decode cX6_weight 5 = .ok (.iload_n 1, 1) := by decide +kernel
theorem dX6_weight_6 : decode cX6_weight 6 = .ok (.iconst 0, 1) := by decide +kernel
theorem dX6_weight_7 : decode cX6_weight 7 = .ok (.bipush 6, 2) := by decide +kernel
theorem dX6_weight_9 : decode cX6_weight 9 = .ok (.invokestatic 37, 3) := by decide +kernel
theorem dX6_weight_12 : decode cX6_weight 12 = .ok (.ifCond .eq 11, 3) := by decide +kernel
theorem dX6_weight_15 : decode cX6_weight 15 = .ok (.aload_n 0, 1) := by decide +kernel
theorem dX6_weight_16 : decode cX6_weight 16 = .ok (.iload_n 2, 1) := by decide +kernel
theorem dX6_weight_17 : decode cX6_weight 17 = .ok (.invokevirtual 41, 3) := by decide +kernel
theorem dX6_weight_20 : decode cX6_weight 20 = .ok (.ifCond .ne 5, 3) := by decide +kernel
theorem dX6_weight_23 : decode cX6_weight 23 = .ok (.iconst (-1), 1) := by decide +kernel
theorem dX6_weight_24 : decode cX6_weight 24 = .ok (.ireturn, 1) := by decide +kernel
theorem dX6_weight_25 : decode cX6_weight 25 = .ok (.aload_n 0, 1) := by decide +kernel
theorem dX6_weight_26 : decode cX6_weight 26 = .ok (.iload_n 2, 1) := by decide +kernel
theorem dX6_weight_27 : decode cX6_weight 27 = .ok (.iconst 0, 1) := by decide +kernel
theorem dX6_weight_28 : decode cX6_weight 28 = .ok (.invokevirtual 45, 3) := by decide +kernel
theorem dX6_weight_31 : decode cX6_weight 31 = .ok (.istore_n 3, 1) := by decide +kernel
theorem dX6_weight_32 : decode cX6_weight 32 = .ok (.iconst 0, 1) := by decide +kernel
theorem dX6_weight_33 : decode cX6_weight 33 = .ok (.istore 4, 2) := by decide +kernel
theorem dX6_weight_35 : decode cX6_weight 35 = .ok (.iconst 0, 1) := by decide +kernel
theorem dX6_weight_36 : decode cX6_weight 36 = .ok (.istore 5, 2) := by decide +kernel
theorem dX6_weight_38 : decode cX6_weight 38 = .ok (.iload 5, 2) := by decide +kernel
theorem dX6_weight_40 : decode cX6_weight 40 = .ok (.aload_n 0, 1) := by decide +kernel
theorem dX6_weight_41 : decode cX6_weight 41 = .ok (.getfield 7, 3) := by decide +kernel
theorem dX6_weight_44 : decode cX6_weight 44 = .ok (.iconst 0, 1) := by decide +kernel
theorem dX6_weight_45 : decode cX6_weight 45 = .ok (.iaload, 1) := by decide +kernel
theorem dX6_weight_46 : decode cX6_weight 46 = .ok (.if_icmp .ge 29, 3) := by decide +kernel
theorem dX6_weight_49 : decode cX6_weight 49 = .ok (.iload 4, 2) := by decide +kernel
theorem dX6_weight_51 : decode cX6_weight 51 = .ok (.aload_n 0, 1) := by decide +kernel
theorem dX6_weight_52 : decode cX6_weight 52 = .ok (.iload_n 2, 1) := by decide +kernel
theorem dX6_weight_53 : decode cX6_weight 53 = .ok (.iload 5, 2) := by decide +kernel
theorem dX6_weight_55 : decode cX6_weight 55 = .ok (.invokevirtual 73, 3) := by decide +kernel
theorem dX6_weight_58 : decode cX6_weight 58 = .ok (.ifCond .eq 7, 3) := by decide +kernel
theorem dX6_weight_61 : decode cX6_weight 61 = .ok (.iconst 1, 1) := by decide +kernel
theorem dX6_weight_62 : decode cX6_weight 62 = .ok (.goto 4, 3) := by decide +kernel
theorem dX6_weight_65 : decode cX6_weight 65 = .ok (.iconst 0, 1) := by decide +kernel
theorem dX6_weight_66 : decode cX6_weight 66 = .ok (.iadd, 1) := by decide +kernel
theorem dX6_weight_67 : decode cX6_weight 67 = .ok (.istore 4, 2) := by decide +kernel
theorem dX6_weight_69 : decode cX6_weight 69 = .ok (.iinc 5 1, 3) := by decide +kernel
theorem dX6_weight_72 : decode cX6_weight 72 = .ok (.goto (-34), 3) := by decide +kernel
theorem dX6_weight_75 : decode cX6_weight 75 = .ok (.aload_n 0, 1) := by decide +kernel
theorem dX6_weight_76 : decode cX6_weight 76 = .ok (.dup, 1) := by decide +kernel
theorem dX6_weight_77 : decode cX6_weight 77 = .ok (.getfield 203, 3) := by decide +kernel
theorem dX6_weight_80 : decode cX6_weight 80 = .ok (.iload_n 1, 1) := by decide +kernel
theorem dX6_weight_81 : decode cX6_weight 81 = .ok (.ifCond .ne 7, 3) := by decide +kernel
theorem dX6_weight_84 : decode cX6_weight 84 = .ok (.lconst 1, 1) := by decide +kernel
theorem dX6_weight_85 : decode cX6_weight 85 = .ok (.goto 61, 3) := by decide +kernel
theorem dX6_weight_88 : decode cX6_weight 88 = .ok (.iload_n 1, 1) := by decide +kernel
theorem dX6_weight_89 : decode cX6_weight 89 = .ok (.iconst 1, 1) := by decide +kernel
theorem dX6_weight_90 : decode cX6_weight 90 = .ok (.if_icmp .ne 9, 3) := by decide +kernel
theorem dX6_weight_93 : decode cX6_weight 93 = .ok (.ldc2_w 207, 3) := by decide +kernel
theorem dX6_weight_96 : decode cX6_weight 96 = .ok (.goto 50, 3) := by decide +kernel
theorem dX6_weight_99 : decode cX6_weight 99 = .ok (.iload_n 1, 1) := by decide +kernel
theorem dX6_weight_100 : decode cX6_weight 100 = .ok (.iconst 2, 1) := by decide +kernel
theorem dX6_weight_101 : decode cX6_weight 101 = .ok (.if_icmp .ne 9, 3) := by decide +kernel
theorem dX6_weight_104 : decode cX6_weight 104 = .ok (.ldc2_w 209, 3) := by decide +kernel
theorem dX6_weight_107 : decode cX6_weight 107 = .ok (.goto 39, 3) := by decide +kernel
theorem dX6_weight_110 : decode cX6_weight 110 = .ok (.iload_n 1, 1) := by decide +kernel
theorem dX6_weight_111 : decode cX6_weight 111 = .ok (.iconst 3, 1) := by decide +kernel
theorem dX6_weight_112 : decode cX6_weight 112 = .ok (.if_icmp .ne 9, 3) := by decide +kernel
theorem dX6_weight_115 : decode cX6_weight 115 = .ok (.ldc2_w 211, 3) := by decide +kernel
theorem dX6_weight_118 : decode cX6_weight 118 = .ok (.goto 28, 3) := by decide +kernel
theorem dX6_weight_121 : decode cX6_weight 121 = .ok (.iload_n 1, 1) := by decide +kernel
theorem dX6_weight_122 : decode cX6_weight 122 = .ok (.iconst 4, 1) := by decide +kernel
theorem dX6_weight_123 : decode cX6_weight 123 = .ok (.if_icmp .ne 9, 3) := by decide +kernel
theorem dX6_weight_126 : decode cX6_weight 126 = .ok (.ldc2_w 213, 3) := by decide +kernel
theorem dX6_weight_129 : decode cX6_weight 129 = .ok (.goto 17, 3) := by decide +kernel
theorem dX6_weight_132 : decode cX6_weight 132 = .ok (.iload_n 1, 1) := by decide +kernel
theorem dX6_weight_133 : decode cX6_weight 133 = .ok (.iconst 5, 1) := by decide +kernel
theorem dX6_weight_134 : decode cX6_weight 134 = .ok (.if_icmp .ne 9, 3) := by decide +kernel
theorem dX6_weight_137 : decode cX6_weight 137 = .ok (.ldc2_w 215, 3) := by decide +kernel
theorem dX6_weight_140 : decode cX6_weight 140 = .ok (.goto 6, 3) := by decide +kernel
theorem dX6_weight_143 : decode cX6_weight 143 = .ok (.ldc2_w 217, 3) := by decide +kernel
theorem dX6_weight_146 : decode cX6_weight 146 = .ok (.ladd, 1) := by decide +kernel
theorem dX6_weight_147 : decode cX6_weight 147 = .ok (.putfield 203, 3) := by decide +kernel
theorem dX6_weight_150 : decode cX6_weight 150 = .ok (.iload_n 1, 1) := by decide +kernel
theorem dX6_weight_151 : decode cX6_weight 151 = .ok (.ifCond .ne 7, 3) := by decide +kernel
theorem dX6_weight_154 : decode cX6_weight 154 = .ok (.iload_n 3, 1) := by decide +kernel
theorem dX6_weight_155 : decode cX6_weight 155 = .ok (.goto 85, 3) := by decide +kernel
theorem dX6_weight_158 : decode cX6_weight 158 = .ok (.iload_n 1, 1) := by decide +kernel
theorem dX6_weight_159 : decode cX6_weight 159 = .ok (.iconst 1, 1) := by decide +kernel
theorem dX6_weight_160 : decode cX6_weight 160 = .ok (.if_icmp .ne 9, 3) := by decide +kernel
theorem dX6_weight_163 : decode cX6_weight 163 = .ok (.iload_n 3, 1) := by decide +kernel
theorem dX6_weight_164 : decode cX6_weight 164 = .ok (.iconst 2, 1) := by decide +kernel
theorem dX6_weight_165 : decode cX6_weight 165 = .ok (.idiv, 1) := by decide +kernel
theorem dX6_weight_166 : decode cX6_weight 166 = .ok (.goto 74, 3) := by decide +kernel
theorem dX6_weight_169 : decode cX6_weight 169 = .ok (.iload_n 1, 1) := by decide +kernel
theorem dX6_weight_170 : decode cX6_weight 170 = .ok (.iconst 2, 1) := by decide +kernel
theorem dX6_weight_171 : decode cX6_weight 171 = .ok (.if_icmp .ne 9, 3) := by decide +kernel
theorem dX6_weight_174 : decode cX6_weight 174 = .ok (.iconst 2, 1) := by decide +kernel
theorem dX6_weight_175 : decode cX6_weight 175 = .ok (.iload_n 3, 1) := by decide +kernel
theorem dX6_weight_176 : decode cX6_weight 176 = .ok (.imul, 1) := by decide +kernel
theorem dX6_weight_177 : decode cX6_weight 177 = .ok (.goto 63, 3) := by decide +kernel
theorem dX6_weight_180 : decode cX6_weight 180 = .ok (.iload_n 1, 1) := by decide +kernel
theorem dX6_weight_181 : decode cX6_weight 181 = .ok (.iconst 3, 1) := by decide +kernel
theorem dX6_weight_182 : decode cX6_weight 182 = .ok (.if_icmp .ne 16, 3) := by decide +kernel
theorem dX6_weight_185 : decode cX6_weight 185 = .ok (.iconst 2, 1) := by decide +kernel
theorem dX6_weight_186 : decode cX6_weight 186 = .ok (.iload_n 3, 1) := by decide +kernel
theorem dX6_weight_187 : decode cX6_weight 187 = .ok (.imul, 1) := by decide +kernel
theorem dX6_weight_188 : decode cX6_weight 188 = .ok (.aload_n 0, 1) := by decide +kernel
theorem dX6_weight_189 : decode cX6_weight 189 = .ok (.iload_n 2, 1) := by decide +kernel
theorem dX6_weight_190 : decode cX6_weight 190 = .ok (.iconst 2, 1) := by decide +kernel
theorem dX6_weight_191 : decode cX6_weight 191 = .ok (.invokevirtual 45, 3) := by decide +kernel
theorem dX6_weight_194 : decode cX6_weight 194 = .ok (.iadd, 1) := by decide +kernel
theorem dX6_weight_195 : decode cX6_weight 195 = .ok (.goto 45, 3) := by decide +kernel
theorem dX6_weight_198 : decode cX6_weight 198 = .ok (.iload_n 1, 1) := by decide +kernel
theorem dX6_weight_199 : decode cX6_weight 199 = .ok (.iconst 4, 1) := by decide +kernel
theorem dX6_weight_200 : decode cX6_weight 200 = .ok (.if_icmp .ne 16, 3) := by decide +kernel
theorem dX6_weight_203 : decode cX6_weight 203 = .ok (.iconst 2, 1) := by decide +kernel
theorem dX6_weight_204 : decode cX6_weight 204 = .ok (.iload_n 3, 1) := by decide +kernel
theorem dX6_weight_205 : decode cX6_weight 205 = .ok (.imul, 1) := by decide +kernel
theorem dX6_weight_206 : decode cX6_weight 206 = .ok (.aload_n 0, 1) := by decide +kernel
theorem dX6_weight_207 : decode cX6_weight 207 = .ok (.iload_n 2, 1) := by decide +kernel
theorem dX6_weight_208 : decode cX6_weight 208 = .ok (.iconst 1, 1) := by decide +kernel
theorem dX6_weight_209 : decode cX6_weight 209 = .ok (.invokevirtual 45, 3) := by decide +kernel
theorem dX6_weight_212 : decode cX6_weight 212 = .ok (.iadd, 1) := by decide +kernel
theorem dX6_weight_213 : decode cX6_weight 213 = .ok (.goto 27, 3) := by decide +kernel
theorem dX6_weight_216 : decode cX6_weight 216 = .ok (.iload_n 1, 1) := by decide +kernel
theorem dX6_weight_217 : decode cX6_weight 217 = .ok (.iconst 5, 1) := by decide +kernel
theorem dX6_weight_218 : decode cX6_weight 218 = .ok (.if_icmp .ne 18, 3) := by decide +kernel
theorem dX6_weight_221 : decode cX6_weight 221 = .ok (.iload_n 3, 1) := by decide +kernel
theorem dX6_weight_222 : decode cX6_weight 222 = .ok (.iconst 3, 1) := by decide +kernel
theorem dX6_weight_223 : decode cX6_weight 223 = .ok (.if_icmp .ge 7, 3) := by decide +kernel
theorem dX6_weight_226 : decode cX6_weight 226 = .ok (.iconst 0, 1) := by decide +kernel
theorem dX6_weight_227 : decode cX6_weight 227 = .ok (.goto 13, 3) := by decide +kernel
theorem dX6_weight_230 : decode cX6_weight 230 = .ok (.iload_n 3, 1) := by decide +kernel
theorem dX6_weight_231 : decode cX6_weight 231 = .ok (.iconst 3, 1) := by decide +kernel
theorem dX6_weight_232 : decode cX6_weight 232 = .ok (.isub, 1) := by decide +kernel
theorem dX6_weight_233 : decode cX6_weight 233 = .ok (.goto 7, 3) := by decide +kernel
theorem dX6_weight_236 : decode cX6_weight 236 = .ok (.iload_n 3, 1) := by decide +kernel
theorem dX6_weight_237 : decode cX6_weight 237 = .ok (.iload 4, 2) := by decide +kernel
theorem dX6_weight_239 : decode cX6_weight 239 = .ok (.imul, 1) := by decide +kernel
theorem dX6_weight_240 : decode cX6_weight 240 = .ok (.ireturn, 1) := by decide +kernel
set_option maxRecDepth 20000 in
theorem ggX6_keep_X6_in : GoodIn wsX6_keep wsX6_in := goodIn_r _ [8] (by decide +kernel) (by decide +kernel)
set_option maxRecDepth 20000 in
theorem gX6_keep_X6_in : GoodIn wsX6_keep (va_wsS RX6 37 yX6_in wsX6_in) := goodIn_app (goodIn_of _ (by decide +kernel)) ggX6_keep_X6_in
theorem dX6_keep_0 : decode cX6_keep 0 = .ok (.aload_n 0, 1) := by decide +kernel
theorem dX6_keep_1 : decode cX6_keep 1 = .ok (.iconst 0, 1) := by decide +kernel
theorem dX6_keep_2 : decode cX6_keep 2 = .ok (.putfield 34, 3) := by decide +kernel
theorem dX6_keep_5 : decode cX6_keep 5 = .ok (.iload_n 1, 1) := by decide +kernel
theorem dX6_keep_6 : decode cX6_keep 6 = .ok (.iconst 0, 1) := by decide +kernel
theorem dX6_keep_7 : decode cX6_keep 7 = .ok (.iconst 1, 1) := by decide +kernel
theorem dX6_keep_8 : decode cX6_keep 8 = .ok (.invokestatic 37, 3) := by decide +kernel
theorem dX6_keep_11 : decode cX6_keep 11 = .ok (.ifCond .ne 5, 3) := by decide +kernel
theorem dX6_keep_14 : decode cX6_keep 14 = .ok (.iconst (-1), 1) := by decide +kernel
theorem dX6_keep_15 : decode cX6_keep 15 = .ok (.ireturn, 1) := by decide +kernel
theorem dX6_keep_16 : decode cX6_keep 16 = .ok (.iconst 0, 1) := by decide +kernel
theorem dX6_keep_17 : decode cX6_keep 17 = .ok (.istore_n 2, 1) := by decide +kernel
theorem dX6_keep_18 : decode cX6_keep 18 = .ok (.iload_n 2, 1) := by decide +kernel
theorem dX6_keep_19 : decode cX6_keep 19 = .ok (.bipush 114, 2) := by decide +kernel
theorem dX6_keep_21 : decode cX6_keep 21 = .ok (.if_icmp .ge 26, 3) := by decide +kernel
theorem dX6_keep_24 : decode cX6_keep 24 = .ok (.aload_n 0, 1) := by decide +kernel
theorem dX6_keep_25 : decode cX6_keep 25 = .ok (.getfield 13, 3) := by decide +kernel
theorem dX6_keep_28 : decode cX6_keep 28 = .ok (.bipush 114, 2) := by decide +kernel
theorem dX6_keep_30 : decode cX6_keep 30 = .ok (.iload_n 1, 1) := by decide +kernel
theorem dX6_keep_31 : decode cX6_keep 31 = .ok (.imul, 1) := by decide +kernel
theorem dX6_keep_32 : decode cX6_keep 32 = .ok (.iload_n 2, 1) := by decide +kernel
theorem dX6_keep_33 : decode cX6_keep 33 = .ok (.iadd, 1) := by decide +kernel
theorem dX6_keep_34 : decode cX6_keep 34 = .ok (.aload_n 0, 1) := by decide +kernel
theorem dX6_keep_35 : decode cX6_keep 35 = .ok (.getfield 7, 3) := by decide +kernel
theorem dX6_keep_38 : decode cX6_keep 38 = .ok (.iload_n 2, 1) := by decide +kernel
theorem dX6_keep_39 : decode cX6_keep 39 = .ok (.iaload, 1) := by decide +kernel
theorem dX6_keep_40 : decode cX6_keep 40 = .ok (.iastore, 1) := by decide +kernel
theorem dX6_keep_41 : decode cX6_keep 41 = .ok (.iinc 2 1, 3) := by decide +kernel
theorem dX6_keep_44 : decode cX6_keep 44 = .ok (.goto (-26), 3) := by decide +kernel
theorem dX6_keep_47 : decode cX6_keep 47 = .ok (.aload_n 0, 1) := by decide +kernel
theorem dX6_keep_48 : decode cX6_keep 48 = .ok (.getfield 16, 3) := by decide +kernel
theorem dX6_keep_51 : decode cX6_keep 51 = .ok (.iload_n 1, 1) := by decide +kernel
theorem dX6_keep_52 : decode cX6_keep 52 = .ok (.iconst 1, 1) := by decide +kernel
theorem dX6_keep_53 : decode cX6_keep 53 = .ok (.bastore, 1) := by decide +kernel
theorem dX6_keep_54 : decode cX6_keep 54 = .ok (.aload_n 0, 1) := by decide +kernel
theorem dX6_keep_55 : decode cX6_keep 55 = .ok (.getfield 7, 3) := by decide +kernel
theorem dX6_keep_58 : decode cX6_keep 58 = .ok (.iconst 0, 1) := by decide +kernel
theorem dX6_keep_59 : decode cX6_keep 59 = .ok (.iaload, 1) := by decide +kernel
theorem dX6_keep_60 : decode cX6_keep 60 = .ok (.aload_n 0, 1) := by decide +kernel
theorem dX6_keep_61 : decode cX6_keep 61 = .ok (.getfield 7, 3) := by decide +kernel
theorem dX6_keep_64 : decode cX6_keep 64 = .ok (.bipush 49, 2) := by decide +kernel
theorem dX6_keep_66 : decode cX6_keep 66 = .ok (.iaload, 1) := by decide +kernel
theorem dX6_keep_67 : decode cX6_keep 67 = .ok (.iadd, 1) := by decide +kernel
theorem dX6_keep_68 : decode cX6_keep 68 = .ok (.ireturn, 1) := by decide +kernel
set_option maxRecDepth 20000 in
theorem ggX6_back_X6_in : GoodIn wsX6_back wsX6_in := goodIn_r _ [8] (by decide +kernel) (by decide +kernel)
set_option maxRecDepth 20000 in
theorem gX6_back_X6_in : GoodIn wsX6_back (va_wsS RX6 37 yX6_in wsX6_in) := goodIn_app (goodIn_of _ (by decide +kernel)) ggX6_back_X6_in
theorem dX6_back_0 : decode cX6_back 0 = .ok (.aload_n 0, 1) := by decide +kernel
theorem dX6_back_1 : decode cX6_back 1 = .ok (.iconst 0, 1) := by decide +kernel
theorem dX6_back_2 : decode cX6_back 2 = .ok (.putfield 34, 3) := by decide +kernel
theorem dX6_back_5 : decode cX6_back 5 = .ok (.iload_n 1, 1) := by decide +kernel
theorem dX6_back_6 : decode cX6_back 6 = .ok (.iconst 0, 1) := by decide +kernel
theorem dX6_back_7 : decode cX6_back 7 = .ok (.iconst 1, 1) := by decide +kernel
theorem dX6_back_8 : decode cX6_back 8 = .ok (.invokestatic 37, 3) := by decide +kernel
theorem dX6_back_11 : decode cX6_back 11 = .ok (.ifCond .ne 5, 3) := by decide +kernel
theorem dX6_back_14 : decode cX6_back 14 = .ok (.iconst (-1), 1) := by decide +kernel
theorem dX6_back_15 : decode cX6_back 15 = .ok (.ireturn, 1) := by decide +kernel
theorem dX6_back_16 : decode cX6_back 16 = .ok (.aload_n 0, 1) := by decide +kernel
theorem dX6_back_17 : decode cX6_back 17 = .ok (.getfield 16, 3) := by decide +kernel
theorem dX6_back_20 : decode cX6_back 20 = .ok (.iload_n 1, 1) := by decide +kernel
theorem dX6_back_21 : decode cX6_back 21 = .ok (.baload, 1) := by decide +kernel
theorem dX6_back_22 : decode cX6_back 22 = .ok (.ifCond .ne 6, 3) := by decide +kernel
theorem dX6_back_25 : decode cX6_back 25 = .ok (.bipush (-2), 2) := by decide +kernel
theorem dX6_back_27 : decode cX6_back 27 = .ok (.ireturn, 1) := by decide +kernel
theorem dX6_back_28 : decode cX6_back 28 = .ok (.iconst 0, 1) := by decide +kernel
theorem dX6_back_29 : decode cX6_back 29 = .ok (.istore_n 2, 1) := by decide +kernel
theorem dX6_back_30 : decode cX6_back 30 = .ok (.iload_n 2, 1) := by decide +kernel
theorem dX6_back_31 : decode cX6_back 31 = .ok (.bipush 114, 2) := by decide +kernel
theorem dX6_back_33 : decode cX6_back 33 = .ok (.if_icmp .ge 26, 3) := by decide +kernel
theorem dX6_back_36 : decode cX6_back 36 = .ok (.aload_n 0, 1) := by decide +kernel
theorem dX6_back_37 : decode cX6_back 37 = .ok (.getfield 7, 3) := by decide +kernel
theorem dX6_back_40 : decode cX6_back 40 = .ok (.iload_n 2, 1) := by decide +kernel
theorem dX6_back_41 : decode cX6_back 41 = .ok (.aload_n 0, 1) := by decide +kernel
theorem dX6_back_42 : decode cX6_back 42 = .ok (.getfield 13, 3) := by decide +kernel
theorem dX6_back_45 : decode cX6_back 45 = .ok (.bipush 114, 2) := by decide +kernel
theorem dX6_back_47 : decode cX6_back 47 = .ok (.iload_n 1, 1) := by decide +kernel
theorem dX6_back_48 : decode cX6_back 48 = .ok (.imul, 1) := by decide +kernel
theorem dX6_back_49 : decode cX6_back 49 = .ok (.iload_n 2, 1) := by decide +kernel
theorem dX6_back_50 : decode cX6_back 50 = .ok (.iadd, 1) := by decide +kernel
theorem dX6_back_51 : decode cX6_back 51 = .ok (.iaload, 1) := by decide +kernel
theorem dX6_back_52 : decode cX6_back 52 = .ok (.iastore, 1) := by decide +kernel
theorem dX6_back_53 : decode cX6_back 53 = .ok (.iinc 2 1, 3) := by decide +kernel
theorem dX6_back_56 : decode cX6_back 56 = .ok (.goto (-26), 3) := by decide +kernel
theorem dX6_back_59 : decode cX6_back 59 = .ok (.aload_n 0, 1) := by decide +kernel
theorem dX6_back_60 : decode cX6_back 60 = .ok (.getfield 7, 3) := by decide +kernel
theorem dX6_back_63 : decode cX6_back 63 = .ok (.iconst 0, 1) := by decide +kernel
theorem dX6_back_64 : decode cX6_back 64 = .ok (.iaload, 1) := by decide +kernel
theorem dX6_back_65 : decode cX6_back 65 = .ok (.aload_n 0, 1) := by decide +kernel
theorem dX6_back_66 : decode cX6_back 66 = .ok (.getfield 7, 3) := by decide +kernel
theorem dX6_back_69 : decode cX6_back 69 = .ok (.bipush 49, 2) := by decide +kernel
theorem dX6_back_71 : decode cX6_back 71 = .ok (.iaload, 1) := by decide +kernel
theorem dX6_back_72 : decode cX6_back 72 = .ok (.iadd, 1) := by decide +kernel
theorem dX6_back_73 : decode cX6_back 73 = .ok (.ireturn, 1) := by decide +kernel
set_option maxRecDepth 20000 in
theorem ggX6_count_X6_of : GoodIn wsX6_count wsX6_of := goodIn_r _ [9, 2, 14, 15, 16, 17, 18, 19, 20, 21, 22, 23, 24, 25, 26, 27, 28, 29, 30, 31, 32, 33] (by decide +kernel) (by decide +kernel)
set_option maxRecDepth 20000 in
theorem gX6_count_X6_of : GoodIn wsX6_count (wsV RX6 45 RX6 yX6_of wsX6_of) := goodIn_app (goodIn_of _ (by decide +kernel)) ggX6_count_X6_of
set_option maxRecDepth 20000 in
theorem ggX6_count_X6_told_ : GoodIn wsX6_count wsX6_told_ := goodIn_r _ [13, 2, 14, 15, 16, 17, 18, 19, 20, 21, 22, 23, 24, 25, 26, 27, 28, 29, 30, 31, 32, 33] (by decide +kernel) (by decide +kernel)
set_option maxRecDepth 20000 in
theorem gX6_count_X6_told_ : GoodIn wsX6_count (wsV RX6 185 RX6 yX6_told_ wsX6_told_) := goodIn_app (goodIn_of _ (by decide +kernel)) ggX6_count_X6_told_
theorem dX6_count_0 : decode cX6_count 0 = .ok (.aload_n 0, 1) := by decide +kernel
theorem dX6_count_1 : decode cX6_count 1 = .ok (.iconst 0, 1) := by decide +kernel
theorem dX6_count_2 : decode cX6_count 2 = .ok (.putfield 34, 3) := by decide +kernel
theorem dX6_count_5 : decode cX6_count 5 = .ok (.iconst 0, 1) := by decide +kernel
theorem dX6_count_6 : decode cX6_count 6 = .ok (.istore_n 2, 1) := by decide +kernel
theorem dX6_count_7 : decode cX6_count 7 = .ok (.iconst 0, 1) := by decide +kernel
theorem dX6_count_8 : decode cX6_count 8 = .ok (.istore_n 3, 1) := by decide +kernel
theorem dX6_count_9 : decode cX6_count 9 = .ok (.iconst 0, 1) := by decide +kernel
theorem dX6_count_10 : decode cX6_count 10 = .ok (.istore 4, 2) := by decide +kernel
theorem dX6_count_12 : decode cX6_count 12 = .ok (.iload 4, 2) := by decide +kernel
theorem dX6_count_14 : decode cX6_count 14 = .ok (.aload_n 0, 1) := by decide +kernel
theorem dX6_count_15 : decode cX6_count 15 = .ok (.getfield 7, 3) := by decide +kernel
theorem dX6_count_18 : decode cX6_count 18 = .ok (.iconst 0, 1) := by decide +kernel
theorem dX6_count_19 : decode cX6_count 19 = .ok (.iaload, 1) := by decide +kernel
theorem dX6_count_20 : decode cX6_count 20 = .ok (.if_icmp .ge 21, 3) := by decide +kernel
theorem dX6_count_23 : decode cX6_count 23 = .ok (.iload_n 2, 1) := by decide +kernel
theorem dX6_count_24 : decode cX6_count 24 = .ok (.iconst 2, 1) := by decide +kernel
theorem dX6_count_25 : decode cX6_count 25 = .ok (.aload_n 0, 1) := by decide +kernel
theorem dX6_count_26 : decode cX6_count 26 = .ok (.iload 4, 2) := by decide +kernel
theorem dX6_count_28 : decode cX6_count 28 = .ok (.iconst 0, 1) := by decide +kernel
theorem dX6_count_29 : decode cX6_count 29 = .ok (.invokevirtual 45, 3) := by decide +kernel
theorem dX6_count_32 : decode cX6_count 32 = .ok (.imul, 1) := by decide +kernel
theorem dX6_count_33 : decode cX6_count 33 = .ok (.iadd, 1) := by decide +kernel
theorem dX6_count_34 : decode cX6_count 34 = .ok (.istore_n 2, 1) := by decide +kernel
theorem dX6_count_35 : decode cX6_count 35 = .ok (.iinc 4 1, 3) := by decide +kernel
theorem dX6_count_38 : decode cX6_count 38 = .ok (.goto (-26), 3) := by decide +kernel
theorem dX6_count_41 : decode cX6_count 41 = .ok (.iconst 0, 1) := by decide +kernel
theorem dX6_count_42 : decode cX6_count 42 = .ok (.istore 4, 2) := by decide +kernel
theorem dX6_count_44 : decode cX6_count 44 = .ok (.iload 4, 2) := by decide +kernel
theorem dX6_count_46 : decode cX6_count 46 = .ok (.aload_n 0, 1) := by decide +kernel
theorem dX6_count_47 : decode cX6_count 47 = .ok (.getfield 7, 3) := by decide +kernel
theorem dX6_count_50 : decode cX6_count 50 = .ok (.bipush 49, 2) := by decide +kernel
theorem dX6_count_52 : decode cX6_count 52 = .ok (.iaload, 1) := by decide +kernel
theorem dX6_count_53 : decode cX6_count 53 = .ok (.if_icmp .ge 19, 3) := by decide +kernel
theorem dX6_count_56 : decode cX6_count 56 = .ok (.iload_n 3, 1) := by decide +kernel
theorem dX6_count_57 : decode cX6_count 57 = .ok (.aload_n 0, 1) := by decide +kernel
theorem dX6_count_58 : decode cX6_count 58 = .ok (.iload 4, 2) := by decide +kernel
theorem dX6_count_60 : decode cX6_count 60 = .ok (.iconst 2, 1) := by decide +kernel
theorem dX6_count_61 : decode cX6_count 61 = .ok (.invokevirtual 185, 3) := by decide +kernel
theorem dX6_count_64 : decode cX6_count 64 = .ok (.iadd, 1) := by decide +kernel
theorem dX6_count_65 : decode cX6_count 65 = .ok (.istore_n 3, 1) := by decide +kernel
theorem dX6_count_66 : decode cX6_count 66 = .ok (.iinc 4 1, 3) := by decide +kernel
theorem dX6_count_69 : decode cX6_count 69 = .ok (.goto (-25), 3) := by decide +kernel
theorem dX6_count_72 : decode cX6_count 72 = .ok (.iload_n 1, 1) := by decide +kernel
theorem dX6_count_73 : decode cX6_count 73 = .ok (.ifCond .ne 12, 3) := by decide +kernel
theorem dX6_count_76 : decode cX6_count 76 = .ok (.aload_n 0, 1) := by decide +kernel
theorem dX6_count_77 : decode cX6_count 77 = .ok (.getfield 7, 3) := by decide +kernel
theorem dX6_count_80 : decode cX6_count 80 = .ok (.iconst 0, 1) := by decide +kernel
theorem dX6_count_81 : decode cX6_count 81 = .ok (.iaload, 1) := by decide +kernel
theorem dX6_count_82 : decode cX6_count 82 = .ok (.goto 61, 3) := by decide +kernel
theorem dX6_count_85 : decode cX6_count 85 = .ok (.iload_n 1, 1) := by decide +kernel
theorem dX6_count_86 : decode cX6_count 86 = .ok (.iconst 1, 1) := by decide +kernel
theorem dX6_count_87 : decode cX6_count 87 = .ok (.if_icmp .ne 7, 3) := by decide +kernel
theorem dX6_count_90 : decode cX6_count 90 = .ok (.iload_n 2, 1) := by decide +kernel
theorem dX6_count_91 : decode cX6_count 91 = .ok (.goto 52, 3) := by decide +kernel
theorem dX6_count_94 : decode cX6_count 94 = .ok (.iload_n 1, 1) := by decide +kernel
theorem dX6_count_95 : decode cX6_count 95 = .ok (.iconst 2, 1) := by decide +kernel
theorem dX6_count_96 : decode cX6_count 96 = .ok (.if_icmp .ne 10, 3) := by decide +kernel
theorem dX6_count_99 : decode cX6_count 99 = .ok (.aload_n 0, 1) := by decide +kernel
theorem dX6_count_100 : decode cX6_count 100 = .ok (.getfield 144, 3) := by decide +kernel
theorem dX6_count_103 : decode cX6_count 103 = .ok (.goto 40, 3) := by decide +kernel
theorem dX6_count_106 : decode cX6_count 106 = .ok (.iload_n 1, 1) := by decide +kernel
theorem dX6_count_107 : decode cX6_count 107 = .ok (.iconst 3, 1) := by decide +kernel
theorem dX6_count_108 : decode cX6_count 108 = .ok (.if_icmp .ne 13, 3) := by decide +kernel
theorem dX6_count_111 : decode cX6_count 111 = .ok (.aload_n 0, 1) := by decide +kernel
theorem dX6_count_112 : decode cX6_count 112 = .ok (.getfield 7, 3) := by decide +kernel
theorem dX6_count_115 : decode cX6_count 115 = .ok (.bipush 49, 2) := by decide +kernel
theorem dX6_count_117 : decode cX6_count 117 = .ok (.iaload, 1) := by decide +kernel
theorem dX6_count_118 : decode cX6_count 118 = .ok (.goto 25, 3) := by decide +kernel
theorem dX6_count_121 : decode cX6_count 121 = .ok (.iload_n 1, 1) := by decide +kernel
theorem dX6_count_122 : decode cX6_count 122 = .ok (.iconst 4, 1) := by decide +kernel
theorem dX6_count_123 : decode cX6_count 123 = .ok (.if_icmp .ne 7, 3) := by decide +kernel
theorem dX6_count_126 : decode cX6_count 126 = .ok (.iload_n 3, 1) := by decide +kernel
theorem dX6_count_127 : decode cX6_count 127 = .ok (.goto 16, 3) := by decide +kernel
theorem dX6_count_130 : decode cX6_count 130 = .ok (.iload_n 1, 1) := by decide +kernel
theorem dX6_count_131 : decode cX6_count 131 = .ok (.iconst 5, 1) := by decide +kernel
theorem dX6_count_132 : decode cX6_count 132 = .ok (.if_icmp .ne 10, 3) := by decide +kernel
theorem dX6_count_135 : decode cX6_count 135 = .ok (.aload_n 0, 1) := by decide +kernel
theorem dX6_count_136 : decode cX6_count 136 = .ok (.getfield 99, 3) := by decide +kernel
theorem dX6_count_139 : decode cX6_count 139 = .ok (.goto 4, 3) := by decide +kernel
theorem dX6_count_142 : decode cX6_count 142 = .ok (.iconst (-1), 1) := by decide +kernel
theorem dX6_count_143 : decode cX6_count 143 = .ok (.ireturn, 1) := by decide +kernel
theorem dX6_trace_0 : decode cX6_trace 0 = .ok (.aload_n 0, 1) := by decide +kernel
theorem dX6_trace_1 : decode cX6_trace 1 = .ok (.iconst 0, 1) := by decide +kernel
theorem dX6_trace_2 : decode cX6_trace 2 = .ok (.putfield 34, 3) := by decide +kernel
theorem dX6_trace_5 : decode cX6_trace 5 = .ok (.aload_n 0, 1) := by decide +kernel
theorem dX6_trace_6 : decode cX6_trace 6 = .ok (.getfield 203, 3) := by decide +kernel
theorem dX6_trace_9 : decode cX6_trace 9 = .ok (.lreturn, 1) := by decide +kernel
