theorem dX11_clear_0 : decode cX11_clear 0 = .ok (.aload_n 0, 1) := by decide +kernel
theorem dX11_clear_1 : decode cX11_clear 1 = .ok (.getfield 59, 3) := by decide +kernel
theorem dX11_clear_4 : decode cX11_clear 4 = .ok (.istore_n 1, 1) := by decide +kernel
theorem dX11_clear_5 : decode cX11_clear 5 = .ok (.aload_n 0, 1) := by decide +kernel
theorem dX11_clear_6 : decode cX11_clear 6 = .ok (.iconst 0, 1) := by decide +kernel
theorem dX11_clear_7 : decode cX11_clear 7 = .ok (.putfield 59, 3) := by decide +kernel
theorem dX11_clear_10 : decode cX11_clear 10 = .ok (.iload_n 1, 1) := by decide +kernel
theorem dX11_clear_11 : decode cX11_clear 11 = .ok (.ireturn, 1) := by decide +kernel
theorem dX11_here_0 : decode cX11_here 0 = .ok (.aload_n 0, 1) := by decide +kernel
theorem dX11_here_1 : decode cX11_here 1 = .ok (.getfield 64, 3) := by decide +kernel
theorem dX11_here_4 : decode cX11_here 4 = .ok (.aload_n 0, 1) := by decide +kernel
theorem dX11_here_5 : decode cX11_here 5 = .ok (.getfield 59, 3) := by decide +kernel
theorem dX11_here_8 : decode cX11_here 8 = .ok (.if_icmp .ge 19, 3) := by decide +kernel
theorem dX11_here_11 : decode cX11_here 11 = .ok (.aload_n 0, 1) := by decide +kernel
theorem dX11_here_12 : decode cX11_here 12 = .ok (.getfield 7, 3) := by decide +kernel
theorem dX11_here_15 : decode cX11_here 15 = .ok (.aload_n 0, 1) := by decide +kernel
theorem dX11_here_16 : decode cX11_here 16 = .ok (.getfield 64, 3) := by decide +kernel
theorem dX11_here_19 : decode cX11_here 19 = .ok (.baload, 1) := by decide +kernel
theorem dX11_here_20 : decode cX11_here 20 = .ok (.sipush 255, 3) := by decide +kernel
theorem dX11_here_23 : decode cX11_here 23 = .ok (.iand, 1) := by decide +kernel
theorem dX11_here_24 : decode cX11_here 24 = .ok (.goto 4, 3) := by decide +kernel
theorem dX11_here_27 : decode cX11_here 27 = .ok (.iconst (-1), 1) := by decide +kernel
theorem dX11_here_28 : decode cX11_here 28 = .ok (.ireturn, 1) := by decide +kernel
theorem dX11_signOf_0 : decode cX11_signOf 0 = .ok (.iload_n 0, 1) := by decide +kernel
theorem dX11_signOf_1 : decode cX11_signOf 1 = .ok (.bipush 59, 2) := by decide +kernel
theorem dX11_signOf_3 : decode cX11_signOf 3 = .ok (.if_icmp .ne 7, 3) := by decide +kernel
theorem dX11_signOf_6 : decode cX11_signOf 6 = .ok (.iconst 4, 1) := by decide +kernel
theorem dX11_signOf_7 : decode cX11_signOf 7 = .ok (.goto 48, 3) := by decide +kernel
theorem dX11_signOf_10 : decode cX11_signOf 10 = .ok (.iload_n 0, 1) := by decide +kernel
theorem dX11_signOf_11 : decode cX11_signOf 11 = .ok (.bipush 124, 2) := by decide +kernel
theorem dX11_signOf_13 : decode cX11_signOf 13 = .ok (.if_icmp .ne 7, 3) := by decide +kernel
theorem dX11_signOf_16 : decode cX11_signOf 16 = .ok (.iconst 5, 1) := by decide +kernel
theorem dX11_signOf_17 : decode cX11_signOf 17 = .ok (.goto 38, 3) := by decide +kernel
theorem dX11_signOf_20 : decode cX11_signOf 20 = .ok (.iload_n 0, 1) := by decide +kernel
theorem dX11_signOf_21 : decode cX11_signOf 21 = .ok (.bipush 38, 2) := by decide +kernel
theorem dX11_signOf_23 : decode cX11_signOf 23 = .ok (.if_icmp .ne 8, 3) := by decide +kernel
theorem dX11_signOf_26 : decode cX11_signOf 26 = .ok (.bipush 6, 2) := by decide +kernel
theorem dX11_signOf_28 : decode cX11_signOf 28 = .ok (.goto 27, 3) := by decide +kernel
theorem dX11_signOf_31 : decode cX11_signOf 31 = .ok (.iload_n 0, 1) := by decide +kernel
theorem dX11_signOf_32 : decode cX11_signOf 32 = .ok (.bipush 40, 2) := by decide +kernel
theorem dX11_signOf_34 : decode cX11_signOf 34 = .ok (.if_icmp .ne 8, 3) := by decide +kernel
theorem dX11_signOf_37 : decode cX11_signOf 37 = .ok (.bipush 7, 2) := by decide +kernel
theorem dX11_signOf_39 : decode cX11_signOf 39 = .ok (.goto 16, 3) := by decide +kernel
theorem dX11_signOf_42 : decode cX11_signOf 42 = .ok (.iload_n 0, 1) := by decide +kernel
theorem dX11_signOf_43 : decode cX11_signOf 43 = .ok (.bipush 41, 2) := by decide +kernel
theorem dX11_signOf_45 : decode cX11_signOf 45 = .ok (.if_icmp .ne 8, 3) := by decide +kernel
theorem dX11_signOf_48 : decode cX11_signOf 48 = .ok (.bipush 8, 2) := by decide +kernel
theorem dX11_signOf_50 : decode cX11_signOf 50 = .ok (.goto 5, 3) := by decide +kernel
theorem dX11_signOf_53 : decode cX11_signOf 53 = .ok (.bipush 10, 2) := by decide +kernel
theorem dX11_signOf_55 : decode cX11_signOf 55 = .ok (.ireturn, 1) := by decide +kernel
set_option maxRecDepth 20000 in
theorem ggX11_next_X11_here : GoodIn wsX11_next wsX11_here := goodIn_r _ [10, 1, 11, 12, 19, 20, 21, 22, 23, 24, 25, 26, 27, 28, 29, 30, 31, 32, 33, 34, 35, 36, 37, 38, 39, 40, 41, 42, 43] (by decide +kernel) (by decide +kernel)
set_option maxRecDepth 20000 in
theorem gX11_next_X11_here : GoodIn wsX11_next (wsV RX11 67 RX11 yX11_here wsX11_here) := goodIn_app (goodIn_of _ (by decide +kernel)) ggX11_next_X11_here
set_option maxRecDepth 20000 in
theorem ggX11_next_X11_in : GoodIn wsX11_next wsX11_in := goodIn_r _ [15] (by decide +kernel) (by decide +kernel)
set_option maxRecDepth 20000 in
theorem gX11_next_X11_in : GoodIn wsX11_next (va_wsS RX11 55 yX11_in wsX11_in) := goodIn_app (goodIn_of _ (by decide +kernel)) ggX11_next_X11_in
set_option maxRecDepth 20000 in
theorem ggX11_next_X11_signOf : GoodIn wsX11_next wsX11_signOf := goodIn_r _ [18] (by decide +kernel) (by decide +kernel)
set_option maxRecDepth 20000 in
theorem gX11_next_X11_signOf : GoodIn wsX11_next (va_wsS RX11 81 yX11_signOf wsX11_signOf) := goodIn_app (goodIn_of _ (by decide +kernel)) ggX11_next_X11_signOf
theorem dX11_next_0 : decode cX11_next 0 = .ok (.aload_n 0, 1) := by decide +kernel
theorem dX11_next_1 : decode cX11_next 1 = .ok (.invokevirtual 67, 3) := by decide +kernel
theorem dX11_next_4 : decode cX11_next 4 = .ok (.bipush 32, 2) := by decide +kernel
theorem dX11_next_6 : decode cX11_next 6 = .ok (.if_icmp .ne 16, 3) := by decide +kernel
theorem dX11_next_9 : decode cX11_next 9 = .ok (.aload_n 0, 1) := by decide +kernel
theorem dX11_next_10 : decode cX11_next 10 = .ok (.dup, 1) := by decide +kernel
theorem dX11_next_11 : decode cX11_next 11 = .ok (.getfield 64, 3) := by decide +kernel
theorem dX11_next_14 : decode cX11_next 14 = .ok (.iconst 1, 1) := by decide +kernel
theorem dX11_next_15 : decode cX11_next 15 = .ok (.iadd, 1) := by decide +kernel
theorem dX11_next_16 : decode cX11_next 16 = .ok (.putfield 64, 3) := by decide +kernel
theorem dX11_next_19 : decode cX11_next 19 = .ok (.goto (-19), 3) := by decide +kernel
theorem dX11_next_22 : decode cX11_next 22 = .ok (.aload_n 0, 1) := by decide +kernel
theorem dX11_next_23 : decode cX11_next 23 = .ok (.aload_n 0, 1) := by decide +kernel
theorem dX11_next_24 : decode cX11_next 24 = .ok (.getfield 64, 3) := by decide +kernel
theorem dX11_next_27 : decode cX11_next 27 = .ok (.putfield 71, 3) := by decide +kernel
theorem dX11_next_30 : decode cX11_next 30 = .ok (.aload_n 0, 1) := by decide +kernel
theorem dX11_next_31 : decode cX11_next 31 = .ok (.iconst 0, 1) := by decide +kernel
theorem dX11_next_32 : decode cX11_next 32 = .ok (.putfield 74, 3) := by decide +kernel
theorem dX11_next_35 : decode cX11_next 35 = .ok (.aload_n 0, 1) := by decide +kernel
theorem dX11_next_36 : decode cX11_next 36 = .ok (.invokevirtual 67, 3) := by decide +kernel
theorem dX11_next_39 : decode cX11_next 39 = .ok (.istore_n 1, 1) := by decide +kernel
theorem dX11_next_40 : decode cX11_next 40 = .ok (.iload_n 1, 1) := by decide +kernel
theorem dX11_next_41 : decode cX11_next 41 = .ok (.ifCond .ge 12, 3) := by decide +kernel
theorem dX11_next_44 : decode cX11_next 44 = .ok (.aload_n 0, 1) := by decide +kernel
theorem dX11_next_45 : decode cX11_next 45 = .ok (.bipush 9, 2) := by decide +kernel
theorem dX11_next_47 : decode cX11_next 47 = .ok (.putfield 77, 3) := by decide +kernel
theorem dX11_next_50 : decode cX11_next 50 = .ok (.goto 275, 3) := by decide +kernel
theorem dX11_next_53 : decode cX11_next 53 = .ok (.iload_n 1, 1) := by decide +kernel
theorem dX11_next_54 : decode cX11_next 54 = .ok (.bipush 97, 2) := by decide +kernel
theorem dX11_next_56 : decode cX11_next 56 = .ok (.bipush 122, 2) := by decide +kernel
theorem dX11_next_58 : decode cX11_next 58 = .ok (.invokestatic 55, 3) := by decide +kernel
theorem dX11_next_61 : decode cX11_next 61 = .ok (.ifCond .eq 132, 3) := by decide +kernel
theorem dX11_next_64 : decode cX11_next 64 = .ok (.iconst 0, 1) := by decide +kernel
theorem dX11_next_65 : decode cX11_next 65 = .ok (.istore_n 2, 1) := by decide +kernel
theorem dX11_next_66 : decode cX11_next 66 = .ok (.aload_n 0, 1) := by decide +kernel
theorem dX11_next_67 : decode cX11_next 67 = .ok (.invokevirtual 67, 3) := by decide +kernel
theorem dX11_next_70 : decode cX11_next 70 = .ok (.bipush 97, 2) := by decide +kernel
theorem dX11_next_72 : decode cX11_next 72 = .ok (.bipush 122, 2) := by decide +kernel
theorem dX11_next_74 : decode cX11_next 74 = .ok (.invokestatic 55, 3) := by decide +kernel
theorem dX11_next_77 : decode cX11_next 77 = .ok (.ifCond .eq 47, 3) := by decide +kernel
theorem dX11_next_80 : decode cX11_next 80 = .ok (.aload_n 0, 1) := by decide +kernel
theorem dX11_next_81 : decode cX11_next 81 = .ok (.getfield 64, 3) := by decide +kernel
theorem dX11_next_84 : decode cX11_next 84 = .ok (.aload_n 0, 1) := by decide +kernel
theorem dX11_next_85 : decode cX11_next 85 = .ok (.getfield 71, 3) := by decide +kernel
theorem dX11_next_88 : decode cX11_next 88 = .ok (.isub, 1) := by decide +kernel
theorem dX11_next_89 : decode cX11_next 89 = .ok (.bipush 6, 2) := by decide +kernel
theorem dX11_next_91 : decode cX11_next 91 = .ok (.if_icmp .ge 18, 3) := by decide +kernel
theorem dX11_next_94 : decode cX11_next 94 = .ok (.bipush 27, 2) := by decide +kernel
theorem dX11_next_96 : decode cX11_next 96 = .ok (.iload_n 2, 1) := by decide +kernel
theorem dX11_next_97 : decode cX11_next 97 = .ok (.imul, 1) := by decide +kernel
theorem dX11_next_98 : decode cX11_next 98 = .ok (.aload_n 0, 1) := by decide +kernel
theorem dX11_next_99 : decode cX11_next 99 = .ok (.invokevirtual 67, 3) := by decide +kernel
theorem dX11_next_102 : decode cX11_next 102 = .ok (.iadd, 1) := by decide +kernel
theorem dX11_next_103 : decode cX11_next 103 = .ok (.bipush 96, 2) := by decide +kernel
theorem dX11_next_105 : decode cX11_next 105 = .ok (.isub, 1) := by decide +kernel
theorem dX11_next_106 : decode cX11_next 106 = .ok (.goto 4, 3) := by decide +kernel
theorem dX11_next_109 : decode cX11_next 109 = .ok (.iconst 0, 1) := by decide +kernel
theorem dX11_next_110 : decode cX11_next 110 = .ok (.istore_n 2, 1) := by decide +kernel
theorem dX11_next_111 : decode cX11_next 111 = .ok (.aload_n 0, 1) := by decide +kernel
theorem dX11_next_112 : decode cX11_next 112 = .ok (.dup, 1) := by decide +kernel
theorem dX11_next_113 : decode cX11_next 113 = .ok (.getfield 64, 3) := by decide +kernel
theorem dX11_next_116 : decode cX11_next 116 = .ok (.iconst 1, 1) := by decide +kernel
theorem dX11_next_117 : decode cX11_next 117 = .ok (.iadd, 1) := by decide +kernel
theorem dX11_next_118 : decode cX11_next 118 = .ok (.putfield 64, 3) := by decide +kernel
theorem dX11_next_121 : decode cX11_next 121 = .ok (.goto (-55), 3) := by decide +kernel
theorem dX11_next_124 : decode cX11_next 124 = .ok (.aload_n 0, 1) := by decide +kernel
theorem dX11_next_125 : decode cX11_next 125 = .ok (.getfield 64, 3) := by decide +kernel
theorem dX11_next_128 : decode cX11_next 128 = .ok (.aload_n 0, 1) := by decide +kernel
theorem dX11_next_129 : decode cX11_next 129 = .ok (.getfield 71, 3) := by decide +kernel
theorem dX11_next_132 : decode cX11_next 132 = .ok (.isub, 1) := by decide +kernel
theorem dX11_next_133 : decode cX11_next 133 = .ok (.bipush 6, 2) := by decide +kernel
theorem dX11_next_135 : decode cX11_next 135 = .ok (.if_icmp .le 7, 3) := by decide +kernel
theorem dX11_next_138 : decode cX11_next 138 = .ok (.iconst 0, 1) := by decide +kernel
theorem dX11_next_139 : decode cX11_next 139 = .ok (.goto 4, 3) := by decide +kernel
theorem dX11_next_142 : decode cX11_next 142 = .ok (.iload_n 2, 1) := by decide +kernel
theorem dX11_next_143 : decode cX11_next 143 = .ok (.istore_n 2, 1) := by decide +kernel
theorem dX11_next_144 : decode cX11_next 144 = .ok (.aload_n 0, 1) := by decide +kernel
theorem dX11_next_145 : decode cX11_next 145 = .ok (.iload_n 2, 1) := by decide +kernel
theorem dX11_next_146 : decode cX11_next 146 = .ok (.ldc 80, 2) := by decide +kernel
theorem dX11_next_148 : decode cX11_next 148 = .ok (.if_icmp .ne 7, 3) := by decide +kernel
theorem dX11_next_151 : decode cX11_next 151 = .ok (.iconst 0, 1) := by decide +kernel
theorem dX11_next_152 : decode cX11_next 152 = .ok (.goto 28, 3) := by decide +kernel
theorem dX11_next_155 : decode cX11_next 155 = .ok (.iload_n 2, 1) := by decide +kernel
theorem dX11_next_156 : decode cX11_next 156 = .ok (.bipush 23, 2) := by decide +kernel
theorem dX11_next_158 : decode cX11_next 158 = .ok (.if_icmp .ne 7, 3) := by decide +kernel
theorem dX11_next_161 : decode cX11_next 161 = .ok (.iconst 2, 1) := by decide +kernel
theorem dX11_next_162 : decode cX11_next 162 = .ok (.goto 18, 3) := by decide +kernel
theorem dX11_next_165 : decode cX11_next 165 = .ok (.iload_n 2, 1) := by decide +kernel
theorem dX11_next_166 : decode cX11_next 166 = .ok (.iconst 1, 1) := by decide +kernel
theorem dX11_next_167 : decode cX11_next 167 = .ok (.iconst 3, 1) := by decide +kernel
theorem dX11_next_168 : decode cX11_next 168 = .ok (.invokestatic 55, 3) := by decide +kernel
theorem dX11_next_171 : decode cX11_next 171 = .ok (.ifCond .eq 7, 3) := by decide +kernel
theorem dX11_next_174 : decode cX11_next 174 = .ok (.iconst 1, 1) := by decide +kernel
theorem dX11_next_175 : decode cX11_next 175 = .ok (.goto 5, 3) := by decide +kernel
theorem dX11_next_178 : decode cX11_next 178 = .ok (.bipush 10, 2) := by decide +kernel
theorem dX11_next_180 : decode cX11_next 180 = .ok (.putfield 77, 3) := by decide +kernel
theorem dX11_next_183 : decode cX11_next 183 = .ok (.aload_n 0, 1) := by decide +kernel
theorem dX11_next_184 : decode cX11_next 184 = .ok (.iload_n 2, 1) := by decide +kernel
theorem dX11_next_185 : decode cX11_next 185 = .ok (.iconst 1, 1) := by decide +kernel
theorem dX11_next_186 : decode cX11_next 186 = .ok (.isub, 1) := by decide +kernel
theorem dX11_next_187 : decode cX11_next 187 = .ok (.putfield 74, 3) := by decide +kernel
theorem dX11_next_190 : decode cX11_next 190 = .ok (.goto 135, 3) := by decide +kernel
theorem dX11_next_193 : decode cX11_next 193 = .ok (.iload_n 1, 1) := by decide +kernel
theorem dX11_next_194 : decode cX11_next 194 = .ok (.bipush 48, 2) := by decide +kernel
theorem dX11_next_196 : decode cX11_next 196 = .ok (.bipush 57, 2) := by decide +kernel
theorem dX11_next_198 : decode cX11_next 198 = .ok (.invokestatic 55, 3) := by decide +kernel
theorem dX11_next_201 : decode cX11_next 201 = .ok (.ifCond .eq 106, 3) := by decide +kernel
theorem dX11_next_204 : decode cX11_next 204 = .ok (.aload_n 0, 1) := by decide +kernel
theorem dX11_next_205 : decode cX11_next 205 = .ok (.invokevirtual 67, 3) := by decide +kernel
theorem dX11_next_208 : decode cX11_next 208 = .ok (.bipush 48, 2) := by decide +kernel
theorem dX11_next_210 : decode cX11_next 210 = .ok (.bipush 57, 2) := by decide +kernel
theorem dX11_next_212 : decode cX11_next 212 = .ok (.invokestatic 55, 3) := by decide +kernel
theorem dX11_next_215 : decode cX11_next 215 = .ok (.ifCond .eq 51, 3) := by decide +kernel
theorem dX11_next_218 : decode cX11_next 218 = .ok (.aload_n 0, 1) := by decide +kernel
theorem dX11_next_219 : decode cX11_next 219 = .ok (.aload_n 0, 1) := by decide +kernel
theorem dX11_next_220 : decode cX11_next 220 = .ok (.getfield 74, 3) := by decide +kernel
theorem dX11_next_223 : decode cX11_next 223 = .ok (.bipush 99, 2) := by decide +kernel
theorem dX11_next_225 : decode cX11_next 225 = .ok (.if_icmp .le 10, 3) := by decide +kernel
theorem dX11_next_228 : decode cX11_next 228 = .ok (.aload_n 0, 1) := by decide +kernel
theorem dX11_next_229 : decode cX11_next 229 = .ok (.getfield 74, 3) := by decide +kernel
theorem dX11_next_232 : decode cX11_next 232 = .ok (.goto 18, 3) := by decide +kernel
theorem dX11_next_235 : decode cX11_next 235 = .ok (.bipush 10, 2) := by decide +kernel
theorem dX11_next_237 : decode cX11_next 237 = .ok (.aload_n 0, 1) := by decide +kernel
theorem dX11_next_238 : decode cX11_next 238 = .ok (.getfield 74, 3) := by decide +kernel
theorem dX11_next_241 : decode cX11_next 241 = .ok (.imul, 1) := by decide +kernel
theorem dX11_next_242 : decode cX11_next 242 = .ok (.aload_n 0, 1) := by decide +kernel
theorem dX11_next_243 : decode cX11_next 243 = .ok (.invokevirtual 67, 3) := by decide +kernel
theorem dX11_next_246 : decode cX11_next 246 = .ok (.iadd, 1) := by decide +kernel
theorem dX11_next_247 : decode cX11_next 247 = .ok (.bipush 48, 2) := by decide +kernel
theorem dX11_next_249 : decode cX11_next 249 = .ok (.isub, 1) := by decide +kernel
theorem dX11_next_250 : decode cX11_next 250 = .ok (.putfield 74, 3) := by decide +kernel
theorem dX11_next_253 : decode cX11_next 253 = .ok (.aload_n 0, 1) := by decide +kernel
theorem dX11_next_254 : decode cX11_next 254 = .ok (.dup, 1) := by decide +kernel
theorem dX11_next_255 : decode cX11_next 255 = .ok (.getfield 64, 3) := by decide +kernel
theorem dX11_next_258 : decode cX11_next 258 = .ok (.iconst 1, 1) := by decide +kernel
theorem dX11_next_259 : decode cX11_next 259 = .ok (.iadd, 1) := by decide +kernel
theorem dX11_next_260 : decode cX11_next 260 = .ok (.putfield 64, 3) := by decide +kernel
theorem dX11_next_263 : decode cX11_next 263 = .ok (.goto (-59), 3) := by decide +kernel
theorem dX11_next_266 : decode cX11_next 266 = .ok (.aload_n 0, 1) := by decide +kernel
theorem dX11_next_267 : decode cX11_next 267 = .ok (.aload_n 0, 1) := by decide +kernel
theorem dX11_next_268 : decode cX11_next 268 = .ok (.getfield 74, 3) := by decide +kernel
theorem dX11_next_271 : decode cX11_next 271 = .ok (.bipush 99, 2) := by decide +kernel
theorem dX11_next_273 : decode cX11_next 273 = .ok (.if_icmp .gt 22, 3) := by decide +kernel
theorem dX11_next_276 : decode cX11_next 276 = .ok (.iload_n 1, 1) := by decide +kernel
theorem dX11_next_277 : decode cX11_next 277 = .ok (.bipush 48, 2) := by decide +kernel
theorem dX11_next_279 : decode cX11_next 279 = .ok (.if_icmp .ne 21, 3) := by decide +kernel
theorem dX11_next_282 : decode cX11_next 282 = .ok (.aload_n 0, 1) := by decide +kernel
theorem dX11_next_283 : decode cX11_next 283 = .ok (.getfield 64, 3) := by decide +kernel
theorem dX11_next_286 : decode cX11_next 286 = .ok (.aload_n 0, 1) := by decide +kernel
theorem dX11_next_287 : decode cX11_next 287 = .ok (.getfield 71, 3) := by decide +kernel
theorem dX11_next_290 : decode cX11_next 290 = .ok (.isub, 1) := by decide +kernel
theorem dX11_next_291 : decode cX11_next 291 = .ok (.iconst 1, 1) := by decide +kernel
theorem dX11_next_292 : decode cX11_next 292 = .ok (.if_icmp .le 8, 3) := by decide +kernel
theorem dX11_next_295 : decode cX11_next 295 = .ok (.bipush 10, 2) := by decide +kernel
theorem dX11_next_297 : decode cX11_next 297 = .ok (.goto 4, 3) := by decide +kernel
theorem dX11_next_300 : decode cX11_next 300 = .ok (.iconst 3, 1) := by decide +kernel
theorem dX11_next_301 : decode cX11_next 301 = .ok (.putfield 77, 3) := by decide +kernel
theorem dX11_next_304 : decode cX11_next 304 = .ok (.goto 21, 3) := by decide +kernel
theorem dX11_next_307 : decode cX11_next 307 = .ok (.aload_n 0, 1) := by decide +kernel
theorem dX11_next_308 : decode cX11_next 308 = .ok (.dup, 1) := by decide +kernel
theorem dX11_next_309 : decode cX11_next 309 = .ok (.getfield 64, 3) := by decide +kernel
theorem dX11_next_312 : decode cX11_next 312 = .ok (.iconst 1, 1) := by decide +kernel
theorem dX11_next_313 : decode cX11_next 313 = .ok (.iadd, 1) := by decide +kernel
theorem dX11_next_314 : decode cX11_next 314 = .ok (.putfield 64, 3) := by decide +kernel
theorem dX11_next_317 : decode cX11_next 317 = .ok (.aload_n 0, 1) := by decide +kernel
theorem dX11_next_318 : decode cX11_next 318 = .ok (.iload_n 1, 1) := by decide +kernel
theorem dX11_next_319 : decode cX11_next 319 = .ok (.invokestatic 81, 3) := by decide +kernel
theorem dX11_next_322 : decode cX11_next 322 = .ok (.putfield 77, 3) := by decide +kernel
theorem dX11_next_325 : decode cX11_next 325 = .ok (.return_, 1) := by decide +kernel
set_option maxRecDepth 20000 in
theorem ggX11_due_X11_next : GoodIn wsX11_due wsX11_next := goodIn_r _ [8, 9, 3, 1, 10, 11, 12, 13, 14, 7, 15, 16, 17, 18, 19, 20, 21, 22, 23, 24, 25, 26, 27, 28, 29, 30, 31, 32, 33, 34, 35, 36, 37, 38, 39, 40, 41, 42, 43, 44, 45, 46, 47, 48] (by decide +kernel) (by decide +kernel)
set_option maxRecDepth 20000 in
theorem gX11_due_X11_next : GoodIn wsX11_due (wsV RX11 88 RX11 yX11_next wsX11_next) := goodIn_app (goodIn_of _ (by decide +kernel)) ggX11_due_X11_next
theorem dX11_due_0 : decode cX11_due 0 = .ok (.aload_n 0, 1) := by decide +kernel
theorem dX11_due_1 : decode cX11_due 1 = .ok (.getfield 74, 3) := by decide +kernel
theorem dX11_due_4 : decode cX11_due 4 = .ok (.istore_n 2, 1) := by decide +kernel
theorem dX11_due_5 : decode cX11_due 5 = .ok (.aload_n 0, 1) := by decide +kernel
theorem dX11_due_6 : decode cX11_due 6 = .ok (.getfield 85, 3) := by decide +kernel
theorem dX11_due_9 : decode cX11_due 9 = .ok (.bipush (-9), 2) := by decide +kernel
theorem dX11_due_11 : decode cX11_due 11 = .ok (.if_icmp .ne 22, 3) := by decide +kernel
theorem dX11_due_14 : decode cX11_due 14 = .ok (.iload_n 1, 1) := by decide +kernel
theorem dX11_due_15 : decode cX11_due 15 = .ok (.ifCond .eq 10, 3) := by decide +kernel
theorem dX11_due_18 : decode cX11_due 18 = .ok (.aload_n 0, 1) := by decide +kernel
theorem dX11_due_19 : decode cX11_due 19 = .ok (.invokevirtual 88, 3) := by decide +kernel
theorem dX11_due_22 : decode cX11_due 22 = .ok (.goto 11, 3) := by decide +kernel
theorem dX11_due_25 : decode cX11_due 25 = .ok (.aload_n 0, 1) := by decide +kernel
theorem dX11_due_26 : decode cX11_due 26 = .ok (.aload_n 0, 1) := by decide +kernel
theorem dX11_due_27 : decode cX11_due 27 = .ok (.getfield 71, 3) := by decide +kernel
theorem dX11_due_30 : decode cX11_due 30 = .ok (.putfield 85, 3) := by decide +kernel
theorem dX11_due_33 : decode cX11_due 33 = .ok (.iload_n 2, 1) := by decide +kernel
theorem dX11_due_34 : decode cX11_due 34 = .ok (.ireturn, 1) := by decide +kernel
set_option maxRecDepth 20000 in
theorem ggX11_tongue_X11_next : GoodIn wsX11_tongue wsX11_next := goodIn_r _ [17, 1, 18, 4, 3, 19, 20, 21, 22, 16, 23, 12, 24, 25, 26, 27, 28, 29, 30, 35, 36, 37, 38, 39, 40, 41, 42, 43, 44, 45, 46, 47, 48, 49, 50, 51, 52, 53, 54, 55, 56, 57, 58, 59] (by decide +kernel) (by decide +kernel)
set_option maxRecDepth 20000 in
theorem gX11_tongue_X11_next : GoodIn wsX11_tongue (wsV RX11 88 RX11 yX11_next wsX11_next) := goodIn_app (goodIn_of _ (by decide +kernel)) ggX11_tongue_X11_next
set_option maxRecDepth 20000 in
theorem ggX11_tongue_X11_due : GoodIn wsX11_tongue wsX11_due := goodIn_r _ [34, 4, 2, 18, 13, 14, 15, 16, 17, 1, 3, 19, 20, 21, 22, 23, 12, 24, 25, 26, 27, 28, 29, 30, 35, 36, 37, 38, 39, 40, 41, 42, 43, 44, 45, 46, 47, 48, 49, 50, 51, 52, 53, 54, 55, 56, 57, 58, 59] (by decide +kernel) (by decide +kernel)
set_option maxRecDepth 20000 in
theorem gX11_tongue_X11_due : GoodIn wsX11_tongue (wsV RX11 91 RX11 yX11_due wsX11_due) := goodIn_app (goodIn_of _ (by decide +kernel)) ggX11_tongue_X11_due
set_option maxRecDepth 20000 in
theorem ggX11_tongue_X11_in : GoodIn wsX11_tongue wsX11_in := goodIn_r _ [27] (by decide +kernel) (by decide +kernel)
set_option maxRecDepth 20000 in
theorem gX11_tongue_X11_in : GoodIn wsX11_tongue (va_wsS RX11 55 yX11_in wsX11_in) := goodIn_app (goodIn_of _ (by decide +kernel)) ggX11_tongue_X11_in
theorem dX11_tongue_0 : decode cX11_tongue 0 = .ok (.aload_n 0, 1) := by decide +kernel
theorem dX11_tongue_1 : decode cX11_tongue 1 = .ok (.iconst 0, 1) := by decide +kernel
theorem dX11_tongue_2 : decode cX11_tongue 2 = .ok (.putfield 64, 3) := by decide +kernel
theorem dX11_tongue_5 : decode cX11_tongue 5 = .ok (.aload_n 0, 1) := by decide +kernel
theorem dX11_tongue_6 : decode cX11_tongue 6 = .ok (.bipush (-9), 2) := by decide +kernel
theorem dX11_tongue_8 : decode cX11_tongue 8 = .ok (.putfield 85, 3) := by decide +kernel
theorem dX11_tongue_11 : decode cX11_tongue 11 = .ok (.iconst 0, 1) := by decide +kernel
theorem dX11_tongue_12 : decode cX11_tongue 12 = .ok (.istore_n 1, 1) := by decide +kernel
theorem dX11_tongue_13 : decode cX11_tongue 13 = .ok (.iconst 1, 1) := by decide +kernel
theorem dX11_tongue_14 : decode cX11_tongue 14 = .ok (.istore_n 2, 1) := by decide +kernel
theorem dX11_tongue_15 : decode cX11_tongue 15 = .ok (.aload_n 0, 1) := by decide +kernel
theorem dX11_tongue_16 : decode cX11_tongue 16 = .ok (.invokevirtual 88, 3) := by decide +kernel
theorem dX11_tongue_19 : decode cX11_tongue 19 = .ok (.aload_n 0, 1) := by decide +kernel
theorem dX11_tongue_20 : decode cX11_tongue 20 = .ok (.getfield 85, 3) := by decide +kernel
theorem dX11_tongue_23 : decode cX11_tongue 23 = .ok (.bipush (-9), 2) := by decide +kernel
theorem dX11_tongue_25 : decode cX11_tongue 25 = .ok (.if_icmp .ne 120, 3) := by decide +kernel
theorem dX11_tongue_28 : decode cX11_tongue 28 = .ok (.aload_n 0, 1) := by decide +kernel
theorem dX11_tongue_29 : decode cX11_tongue 29 = .ok (.getfield 77, 3) := by decide +kernel
theorem dX11_tongue_32 : decode cX11_tongue 32 = .ok (.bipush 9, 2) := by decide +kernel
theorem dX11_tongue_34 : decode cX11_tongue 34 = .ok (.if_icmp .eq 111, 3) := by decide +kernel
theorem dX11_tongue_37 : decode cX11_tongue 37 = .ok (.aload_n 0, 1) := by decide +kernel
theorem dX11_tongue_38 : decode cX11_tongue 38 = .ok (.aload_n 0, 1) := by decide +kernel
theorem dX11_tongue_39 : decode cX11_tongue 39 = .ok (.getfield 77, 3) := by decide +kernel
theorem dX11_tongue_42 : decode cX11_tongue 42 = .ok (.ifCond .ne 12, 3) := by decide +kernel
theorem dX11_tongue_45 : decode cX11_tongue 45 = .ok (.iload_n 1, 1) := by decide +kernel
theorem dX11_tongue_46 : decode cX11_tongue 46 = .ok (.iconst 3, 1) := by decide +kernel
theorem dX11_tongue_47 : decode cX11_tongue 47 = .ok (.if_icmp .ge 7, 3) := by decide +kernel
theorem dX11_tongue_50 : decode cX11_tongue 50 = .ok (.iconst 1, 1) := by decide +kernel
theorem dX11_tongue_51 : decode cX11_tongue 51 = .ok (.goto 4, 3) := by decide +kernel
theorem dX11_tongue_54 : decode cX11_tongue 54 = .ok (.iconst 0, 1) := by decide +kernel
theorem dX11_tongue_55 : decode cX11_tongue 55 = .ok (.invokevirtual 91, 3) := by decide +kernel
theorem dX11_tongue_58 : decode cX11_tongue 58 = .ok (.pop, 1) := by decide +kernel
theorem dX11_tongue_59 : decode cX11_tongue 59 = .ok (.aload_n 0, 1) := by decide +kernel
theorem dX11_tongue_60 : decode cX11_tongue 60 = .ok (.aload_n 0, 1) := by decide +kernel
theorem dX11_tongue_61 : decode cX11_tongue 61 = .ok (.getfield 77, 3) := by decide +kernel
theorem dX11_tongue_64 : decode cX11_tongue 64 = .ok (.iconst 3, 1) := by decide +kernel
theorem dX11_tongue_65 : decode cX11_tongue 65 = .ok (.if_icmp .ne 31, 3) := by decide +kernel
theorem dX11_tongue_68 : decode cX11_tongue 68 = .ok (.aload_n 0, 1) := by decide +kernel
theorem dX11_tongue_69 : decode cX11_tongue 69 = .ok (.getfield 74, 3) := by decide +kernel
theorem dX11_tongue_72 : decode cX11_tongue 72 = .ok (.iconst 2, 1) := by decide +kernel
theorem dX11_tongue_73 : decode cX11_tongue 73 = .ok (.bipush 9, 2) := by decide +kernel
theorem dX11_tongue_75 : decode cX11_tongue 75 = .ok (.invokestatic 55, 3) := by decide +kernel
theorem dX11_tongue_78 : decode cX11_tongue 78 = .ok (.ifCond .eq 18, 3) := by decide +kernel
theorem dX11_tongue_81 : decode cX11_tongue 81 = .ok (.iload_n 2, 1) := by decide +kernel
theorem dX11_tongue_82 : decode cX11_tongue 82 = .ok (.aload_n 0, 1) := by decide +kernel
theorem dX11_tongue_83 : decode cX11_tongue 83 = .ok (.getfield 74, 3) := by decide +kernel
theorem dX11_tongue_86 : decode cX11_tongue 86 = .ok (.imul, 1) := by decide +kernel
theorem dX11_tongue_87 : decode cX11_tongue 87 = .ok (.bipush 9, 2) := by decide +kernel
theorem dX11_tongue_89 : decode cX11_tongue 89 = .ok (.if_icmp .gt 7, 3) := by decide +kernel
theorem dX11_tongue_92 : decode cX11_tongue 92 = .ok (.iconst 1, 1) := by decide +kernel
theorem dX11_tongue_93 : decode cX11_tongue 93 = .ok (.goto 4, 3) := by decide +kernel
theorem dX11_tongue_96 : decode cX11_tongue 96 = .ok (.iconst 0, 1) := by decide +kernel
theorem dX11_tongue_97 : decode cX11_tongue 97 = .ok (.invokevirtual 91, 3) := by decide +kernel
theorem dX11_tongue_100 : decode cX11_tongue 100 = .ok (.istore_n 3, 1) := by decide +kernel
theorem dX11_tongue_101 : decode cX11_tongue 101 = .ok (.aload_n 0, 1) := by decide +kernel
theorem dX11_tongue_102 : decode cX11_tongue 102 = .ok (.aload_n 0, 1) := by decide +kernel
theorem dX11_tongue_103 : decode cX11_tongue 103 = .ok (.getfield 77, 3) := by decide +kernel
theorem dX11_tongue_106 : decode cX11_tongue 106 = .ok (.iconst 4, 1) := by decide +kernel
theorem dX11_tongue_107 : decode cX11_tongue 107 = .ok (.if_icmp .ne 7, 3) := by decide +kernel
theorem dX11_tongue_110 : decode cX11_tongue 110 = .ok (.iconst 1, 1) := by decide +kernel
theorem dX11_tongue_111 : decode cX11_tongue 111 = .ok (.goto 4, 3) := by decide +kernel
theorem dX11_tongue_114 : decode cX11_tongue 114 = .ok (.iconst 0, 1) := by decide +kernel
theorem dX11_tongue_115 : decode cX11_tongue 115 = .ok (.invokevirtual 91, 3) := by decide +kernel
theorem dX11_tongue_118 : decode cX11_tongue 118 = .ok (.pop, 1) := by decide +kernel
theorem dX11_tongue_119 : decode cX11_tongue 119 = .ok (.aload_n 0, 1) := by decide +kernel
theorem dX11_tongue_120 : decode cX11_tongue 120 = .ok (.getfield 85, 3) := by decide +kernel
theorem dX11_tongue_123 : decode cX11_tongue 123 = .ok (.bipush (-9), 2) := by decide +kernel
theorem dX11_tongue_125 : decode cX11_tongue 125 = .ok (.if_icmp .ne 17, 3) := by decide +kernel
theorem dX11_tongue_128 : decode cX11_tongue 128 = .ok (.aload_n 0, 1) := by decide +kernel
theorem dX11_tongue_129 : decode cX11_tongue 129 = .ok (.getfield 17, 3) := by decide +kernel
theorem dX11_tongue_132 : decode cX11_tongue 132 = .ok (.iload_n 1, 1) := by decide +kernel
theorem dX11_tongue_133 : decode cX11_tongue 133 = .ok (.iload_n 3, 1) := by decide +kernel
theorem dX11_tongue_134 : decode cX11_tongue 134 = .ok (.iastore, 1) := by decide +kernel
theorem dX11_tongue_135 : decode cX11_tongue 135 = .ok (.iinc 1 1, 3) := by decide +kernel
theorem dX11_tongue_138 : decode cX11_tongue 138 = .ok (.iload_n 2, 1) := by decide +kernel
theorem dX11_tongue_139 : decode cX11_tongue 139 = .ok (.iload_n 3, 1) := by decide +kernel
theorem dX11_tongue_140 : decode cX11_tongue 140 = .ok (.imul, 1) := by decide +kernel
theorem dX11_tongue_141 : decode cX11_tongue 141 = .ok (.istore_n 2, 1) := by decide +kernel
theorem dX11_tongue_142 : decode cX11_tongue 142 = .ok (.goto (-123), 3) := by decide +kernel
theorem dX11_tongue_145 : decode cX11_tongue 145 = .ok (.aload_n 0, 1) := by decide +kernel
theorem dX11_tongue_146 : decode cX11_tongue 146 = .ok (.getfield 85, 3) := by decide +kernel
theorem dX11_tongue_149 : decode cX11_tongue 149 = .ok (.bipush (-9), 2) := by decide +kernel
theorem dX11_tongue_151 : decode cX11_tongue 151 = .ok (.if_icmp .eq 11, 3) := by decide +kernel
theorem dX11_tongue_154 : decode cX11_tongue 154 = .ok (.bipush (-10), 2) := by decide +kernel
theorem dX11_tongue_156 : decode cX11_tongue 156 = .ok (.aload_n 0, 1) := by decide +kernel
theorem dX11_tongue_157 : decode cX11_tongue 157 = .ok (.getfield 85, 3) := by decide +kernel
theorem dX11_tongue_160 : decode cX11_tongue 160 = .ok (.isub, 1) := by decide +kernel
theorem dX11_tongue_161 : decode cX11_tongue 161 = .ok (.ireturn, 1) := by decide +kernel
theorem dX11_tongue_162 : decode cX11_tongue 162 = .ok (.aload_n 0, 1) := by decide +kernel
theorem dX11_tongue_163 : decode cX11_tongue 163 = .ok (.iload_n 1, 1) := by decide +kernel
theorem dX11_tongue_164 : decode cX11_tongue 164 = .ok (.putfield 95, 3) := by decide +kernel
theorem dX11_tongue_167 : decode cX11_tongue 167 = .ok (.aload_n 0, 1) := by decide +kernel
theorem dX11_tongue_168 : decode cX11_tongue 168 = .ok (.iload_n 2, 1) := by decide +kernel
theorem dX11_tongue_169 : decode cX11_tongue 169 = .ok (.putfield 51, 3) := by decide +kernel
theorem dX11_tongue_172 : decode cX11_tongue 172 = .ok (.iconst 0, 1) := by decide +kernel
theorem dX11_tongue_173 : decode cX11_tongue 173 = .ok (.istore_n 3, 1) := by decide +kernel
theorem dX11_tongue_174 : decode cX11_tongue 174 = .ok (.iload_n 3, 1) := by decide +kernel
theorem dX11_tongue_175 : decode cX11_tongue 175 = .ok (.iconst 3, 1) := by decide +kernel
theorem dX11_tongue_176 : decode cX11_tongue 176 = .ok (.if_icmp .ge 30, 3) := by decide +kernel
theorem dX11_tongue_179 : decode cX11_tongue 179 = .ok (.aload_n 0, 1) := by decide +kernel
theorem dX11_tongue_180 : decode cX11_tongue 180 = .ok (.getfield 13, 3) := by decide +kernel
theorem dX11_tongue_183 : decode cX11_tongue 183 = .ok (.iload_n 3, 1) := by decide +kernel
theorem dX11_tongue_184 : decode cX11_tongue 184 = .ok (.iload_n 3, 1) := by decide +kernel
theorem dX11_tongue_185 : decode cX11_tongue 185 = .ok (.iload_n 1, 1) := by decide +kernel
theorem dX11_tongue_186 : decode cX11_tongue 186 = .ok (.if_icmp .ge 12, 3) := by decide +kernel
theorem dX11_tongue_189 : decode cX11_tongue 189 = .ok (.aload_n 0, 1) := by decide +kernel
theorem dX11_tongue_190 : decode cX11_tongue 190 = .ok (.getfield 17, 3) := by decide +kernel
theorem dX11_tongue_193 : decode cX11_tongue 193 = .ok (.iload_n 3, 1) := by decide +kernel
theorem dX11_tongue_194 : decode cX11_tongue 194 = .ok (.iaload, 1) := by decide +kernel
theorem dX11_tongue_195 : decode cX11_tongue 195 = .ok (.goto 4, 3) := by decide +kernel
theorem dX11_tongue_198 : decode cX11_tongue 198 = .ok (.iconst 1, 1) := by decide +kernel
theorem dX11_tongue_199 : decode cX11_tongue 199 = .ok (.iastore, 1) := by decide +kernel
theorem dX11_tongue_200 : decode cX11_tongue 200 = .ok (.iinc 3 1, 3) := by decide +kernel
theorem dX11_tongue_203 : decode cX11_tongue 203 = .ok (.goto (-29), 3) := by decide +kernel
theorem dX11_tongue_206 : decode cX11_tongue 206 = .ok (.aload_n 0, 1) := by decide +kernel
theorem dX11_tongue_207 : decode cX11_tongue 207 = .ok (.getfield 20, 3) := by decide +kernel
theorem dX11_tongue_210 : decode cX11_tongue 210 = .ok (.iconst 0, 1) := by decide +kernel
theorem dX11_tongue_211 : decode cX11_tongue 211 = .ok (.iconst 0, 1) := by decide +kernel
theorem dX11_tongue_212 : decode cX11_tongue 212 = .ok (.iastore, 1) := by decide +kernel
theorem dX11_tongue_213 : decode cX11_tongue 213 = .ok (.aload_n 0, 1) := by decide +kernel
theorem dX11_tongue_214 : decode cX11_tongue 214 = .ok (.getfield 29, 3) := by decide +kernel
theorem dX11_tongue_217 : decode cX11_tongue 217 = .ok (.iconst 0, 1) := by decide +kernel
theorem dX11_tongue_218 : decode cX11_tongue 218 = .ok (.iconst 0, 1) := by decide +kernel
theorem dX11_tongue_219 : decode cX11_tongue 219 = .ok (.iastore, 1) := by decide +kernel
theorem dX11_tongue_220 : decode cX11_tongue 220 = .ok (.aload_n 0, 1) := by decide +kernel
theorem dX11_tongue_221 : decode cX11_tongue 221 = .ok (.getfield 35, 3) := by decide +kernel
theorem dX11_tongue_224 : decode cX11_tongue 224 = .ok (.iconst 0, 1) := by decide +kernel
theorem dX11_tongue_225 : decode cX11_tongue 225 = .ok (.iconst 0, 1) := by decide +kernel
theorem dX11_tongue_226 : decode cX11_tongue 226 = .ok (.bastore, 1) := by decide +kernel
theorem dX11_tongue_227 : decode cX11_tongue 227 = .ok (.aload_n 0, 1) := by decide +kernel
theorem dX11_tongue_228 : decode cX11_tongue 228 = .ok (.getfield 35, 3) := by decide +kernel
theorem dX11_tongue_231 : decode cX11_tongue 231 = .ok (.iconst 1, 1) := by decide +kernel
theorem dX11_tongue_232 : decode cX11_tongue 232 = .ok (.iconst 0, 1) := by decide +kernel
theorem dX11_tongue_233 : decode cX11_tongue 233 = .ok (.bastore, 1) := by decide +kernel
theorem dX11_tongue_234 : decode cX11_tongue 234 = .ok (.aload_n 0, 1) := by decide +kernel
theorem dX11_tongue_235 : decode cX11_tongue 235 = .ok (.iconst 0, 1) := by decide +kernel
theorem dX11_tongue_236 : decode cX11_tongue 236 = .ok (.putfield 59, 3) := by decide +kernel
theorem dX11_tongue_239 : decode cX11_tongue 239 = .ok (.iload_n 1, 1) := by decide +kernel
theorem dX11_tongue_240 : decode cX11_tongue 240 = .ok (.ireturn, 1) := by decide +kernel
theorem dX11_allSets_0 : decode cX11_allSets 0 = .ok (.iconst 1, 1) := by decide +kernel
theorem dX11_allSets_1 : decode cX11_allSets 1 = .ok (.aload_n 0, 1) := by decide +kernel
theorem dX11_allSets_2 : decode cX11_allSets 2 = .ok (.getfield 51, 3) := by decide +kernel
theorem dX11_allSets_5 : decode cX11_allSets 5 = .ok (.ishl, 1) := by decide +kernel
theorem dX11_allSets_6 : decode cX11_allSets 6 = .ok (.iconst 1, 1) := by decide +kernel
theorem dX11_allSets_7 : decode cX11_allSets 7 = .ok (.isub, 1) := by decide +kernel
theorem dX11_allSets_8 : decode cX11_allSets 8 = .ok (.ireturn, 1) := by decide +kernel
theorem dX11_valueOf_0 : decode cX11_valueOf 0 = .ok (.iload_n 1, 1) := by decide +kernel
theorem dX11_valueOf_1 : decode cX11_valueOf 1 = .ok (.istore_n 3, 1) := by decide +kernel
theorem dX11_valueOf_2 : decode cX11_valueOf 2 = .ok (.iconst 0, 1) := by decide +kernel
theorem dX11_valueOf_3 : decode cX11_valueOf 3 = .ok (.istore 4, 2) := by decide +kernel
theorem dX11_valueOf_5 : decode cX11_valueOf 5 = .ok (.iload 4, 2) := by decide +kernel
theorem dX11_valueOf_7 : decode cX11_valueOf 7 = .ok (.iload_n 2, 1) := by decide +kernel
theorem dX11_valueOf_8 : decode cX11_valueOf 8 = .ok (.if_icmp .ge 19, 3) := by decide +kernel
theorem dX11_valueOf_11 : decode cX11_valueOf 11 = .ok (.iload_n 3, 1) := by decide +kernel
theorem dX11_valueOf_12 : decode cX11_valueOf 12 = .ok (.aload_n 0, 1) := by decide +kernel
theorem dX11_valueOf_13 : decode cX11_valueOf 13 = .ok (.getfield 13, 3) := by decide +kernel
theorem dX11_valueOf_16 : decode cX11_valueOf 16 = .ok (.iload 4, 2) := by decide +kernel
theorem dX11_valueOf_18 : decode cX11_valueOf 18 = .ok (.iaload, 1) := by decide +kernel
theorem dX11_valueOf_19 : decode cX11_valueOf 19 = .ok (.idiv, 1) := by decide +kernel
theorem dX11_valueOf_20 : decode cX11_valueOf 20 = .ok (.istore_n 3, 1) := by decide +kernel
theorem dX11_valueOf_21 : decode cX11_valueOf 21 = .ok (.iinc 4 1, 3) := by decide +kernel
theorem dX11_valueOf_24 : decode cX11_valueOf 24 = .ok (.goto (-19), 3) := by decide +kernel
theorem dX11_valueOf_27 : decode cX11_valueOf 27 = .ok (.iload_n 3, 1) := by decide +kernel
theorem dX11_valueOf_28 : decode cX11_valueOf 28 = .ok (.aload_n 0, 1) := by decide +kernel
theorem dX11_valueOf_29 : decode cX11_valueOf 29 = .ok (.getfield 13, 3) := by decide +kernel
theorem dX11_valueOf_32 : decode cX11_valueOf 32 = .ok (.iload_n 2, 1) := by decide +kernel
theorem dX11_valueOf_33 : decode cX11_valueOf 33 = .ok (.iaload, 1) := by decide +kernel
theorem dX11_valueOf_34 : decode cX11_valueOf 34 = .ok (.irem, 1) := by decide +kernel
theorem dX11_valueOf_35 : decode cX11_valueOf 35 = .ok (.ireturn, 1) := by decide +kernel
set_option maxRecDepth 20000 in
theorem ggX11_worldsOf_X11_valueOf : GoodIn wsX11_worldsOf wsX11_valueOf := goodIn_r _ [6, 7, 8, 9, 10, 11, 12, 13, 14, 15, 16, 17, 18, 19, 20, 21, 22, 23, 24, 25, 26, 27, 28, 29, 30, 31, 32] (by decide +kernel) (by decide +kernel)
set_option maxRecDepth 20000 in
theorem gX11_worldsOf_X11_valueOf : GoodIn wsX11_worldsOf (wsV RX11 98 RX11 yX11_valueOf wsX11_valueOf) := goodIn_app (goodIn_of _ (by decide +kernel)) ggX11_worldsOf_X11_valueOf
theorem dX11_worldsOf_0 : decode cX11_worldsOf 0 = .ok (.iconst 0, 1) := by decide +kernel
theorem dX11_worldsOf_1 : decode cX11_worldsOf 1 = .ok (.istore_n 3, 1) := by decide +kernel
theorem dX11_worldsOf_2 : decode cX11_worldsOf 2 = .ok (.iconst 0, 1) := by decide +kernel
theorem dX11_worldsOf_3 : decode cX11_worldsOf 3 = .ok (.istore 4, 2) := by decide +kernel
theorem dX11_worldsOf_5 : decode cX11_worldsOf 5 = .ok (.iload 4, 2) := by decide +kernel
theorem dX11_worldsOf_7 : decode cX11_worldsOf 7 = .ok (.aload_n 0, 1) := by decide +kernel
theorem dX11_worldsOf_8 : decode cX11_worldsOf 8 = .ok (.getfield 51, 3) := by decide +kernel
theorem dX11_worldsOf_11 : decode cX11_worldsOf 11 = .ok (.if_icmp .ge 31, 3) := by decide +kernel
theorem dX11_worldsOf_14 : decode cX11_worldsOf 14 = .ok (.iload_n 3, 1) := by decide +kernel
theorem dX11_worldsOf_15 : decode cX11_worldsOf 15 = .ok (.aload_n 0, 1) := by decide +kernel
theorem dX11_worldsOf_16 : decode cX11_worldsOf 16 = .ok (.iload 4, 2) := by decide +kernel
theorem dX11_worldsOf_18 : decode cX11_worldsOf 18 = .ok (.iload_n 1, 1) := by decide +kernel
theorem dX11_worldsOf_19 : decode cX11_worldsOf 19 = .ok (.invokevirtual 98, 3) := by decide +kernel
theorem dX11_worldsOf_22 : decode cX11_worldsOf 22 = .ok (.iload_n 2, 1) := by decide +kernel
theorem dX11_worldsOf_23 : decode cX11_worldsOf 23 = .ok (.if_icmp .ne 10, 3) := by decide +kernel
theorem dX11_worldsOf_26 : decode cX11_worldsOf 26 = .ok (.iconst 1, 1) := by decide +kernel
theorem dX11_worldsOf_27 : decode cX11_worldsOf 27 = .ok (.iload 4, 2) := by decide +kernel
theorem dX11_worldsOf_29 : decode cX11_worldsOf 29 = .ok (.ishl, 1) := by decide +kernel
theorem dX11_worldsOf_30 : decode cX11_worldsOf 30 = .ok (.goto 4, 3) := by decide +kernel
theorem dX11_worldsOf_33 : decode cX11_worldsOf 33 = .ok (.iconst 0, 1) := by decide +kernel
theorem dX11_worldsOf_34 : decode cX11_worldsOf 34 = .ok (.ior, 1) := by decide +kernel
theorem dX11_worldsOf_35 : decode cX11_worldsOf 35 = .ok (.istore_n 3, 1) := by decide +kernel
theorem dX11_worldsOf_36 : decode cX11_worldsOf 36 = .ok (.iinc 4 1, 3) := by decide +kernel
theorem dX11_worldsOf_39 : decode cX11_worldsOf 39 = .ok (.goto (-34), 3) := by decide +kernel
theorem dX11_worldsOf_42 : decode cX11_worldsOf 42 = .ok (.iload_n 3, 1) := by decide +kernel
theorem dX11_worldsOf_43 : decode cX11_worldsOf 43 = .ok (.ireturn, 1) := by decide +kernel
set_option maxRecDepth 20000 in
theorem ggX11_value_X11_in : GoodIn wsX11_value wsX11_in := goodIn_r _ [6] (by decide +kernel) (by decide +kernel)
set_option maxRecDepth 20000 in
theorem gX11_value_X11_in : GoodIn wsX11_value (va_wsS RX11 55 yX11_in wsX11_in) := goodIn_app (goodIn_of _ (by decide +kernel)) ggX11_value_X11_in
set_option maxRecDepth 20000 in
theorem ggX11_value_X11_valueOf : GoodIn wsX11_value wsX11_valueOf := goodIn_r _ [10, 11, 12, 13, 14, 15, 16, 17, 18, 19, 20, 21, 22, 23, 24, 25, 26, 27, 28, 29, 30, 31, 32, 33, 34, 35, 36] (by decide +kernel) (by decide +kernel)
set_option maxRecDepth 20000 in
theorem gX11_value_X11_valueOf : GoodIn wsX11_value (wsV RX11 98 RX11 yX11_valueOf wsX11_valueOf) := goodIn_app (goodIn_of _ (by decide +kernel)) ggX11_value_X11_valueOf
theorem dX11_value_0 : decode cX11_value 0 = .ok (.iload_n 1, 1) := by decide +kernel
theorem dX11_value_1 : decode cX11_value 1 = .ok (.iconst 0, 1) := by decide +kernel
theorem dX11_value_2 : decode cX11_value 2 = .ok (.aload_n 0, 1) := by decide +kernel
theorem dX11_value_3 : decode cX11_value 3 = .ok (.getfield 51, 3) := by decide +kernel
theorem dX11_value_6 : decode cX11_value 6 = .ok (.iconst 1, 1) := by decide +kernel
theorem dX11_value_7 : decode cX11_value 7 = .ok (.isub, 1) := by decide +kernel
theorem dX11_value_8 : decode cX11_value 8 = .ok (.invokestatic 55, 3) := by decide +kernel
theorem dX11_value_11 : decode cX11_value 11 = .ok (.ifCond .eq 26, 3) := by decide +kernel
theorem dX11_value_14 : decode cX11_value 14 = .ok (.iload_n 2, 1) := by decide +kernel
theorem dX11_value_15 : decode cX11_value 15 = .ok (.iconst 0, 1) := by decide +kernel
theorem dX11_value_16 : decode cX11_value 16 = .ok (.aload_n 0, 1) := by decide +kernel
theorem dX11_value_17 : decode cX11_value 17 = .ok (.getfield 95, 3) := by decide +kernel
theorem dX11_value_20 : decode cX11_value 20 = .ok (.iconst 1, 1) := by decide +kernel
theorem dX11_value_21 : decode cX11_value 21 = .ok (.isub, 1) := by decide +kernel
theorem dX11_value_22 : decode cX11_value 22 = .ok (.invokestatic 55, 3) := by decide +kernel
theorem dX11_value_25 : decode cX11_value 25 = .ok (.ifCond .eq 12, 3) := by decide +kernel
theorem dX11_value_28 : decode cX11_value 28 = .ok (.aload_n 0, 1) := by decide +kernel
theorem dX11_value_29 : decode cX11_value 29 = .ok (.iload_n 1, 1) := by decide +kernel
theorem dX11_value_30 : decode cX11_value 30 = .ok (.iload_n 2, 1) := by decide +kernel
theorem dX11_value_31 : decode cX11_value 31 = .ok (.invokevirtual 98, 3) := by decide +kernel
theorem dX11_value_34 : decode cX11_value 34 = .ok (.goto 4, 3) := by decide +kernel
theorem dX11_value_37 : decode cX11_value 37 = .ok (.iconst (-1), 1) := by decide +kernel
theorem dX11_value_38 : decode cX11_value 38 = .ok (.ireturn, 1) := by decide +kernel
set_option maxRecDepth 20000 in
theorem ggX11_open_X11_allSets : GoodIn wsX11_open wsX11_allSets := goodIn_r _ [8, 9, 10, 11, 12, 13, 14, 15, 16, 17, 18, 19, 20, 21, 22, 23, 24, 25, 26, 27, 28, 29, 30, 31, 32, 33, 34] (by decide +kernel) (by decide +kernel)
set_option maxRecDepth 20000 in
theorem gX11_open_X11_allSets : GoodIn wsX11_open (wsV RX11 105 RX11 yX11_allSets wsX11_allSets) := goodIn_app (goodIn_of _ (by decide +kernel)) ggX11_open_X11_allSets
theorem dX11_open_0 : decode cX11_open 0 = .ok (.aload_n 0, 1) := by decide +kernel
theorem dX11_open_1 : decode cX11_open 1 = .ok (.iload_n 1, 1) := by decide +kernel
theorem dX11_open_2 : decode cX11_open 2 = .ok (.putfield 102, 3) := by decide +kernel
theorem dX11_open_5 : decode cX11_open 5 = .ok (.aload_n 0, 1) := by decide +kernel
theorem dX11_open_6 : decode cX11_open 6 = .ok (.getfield 39, 3) := by decide +kernel
theorem dX11_open_9 : decode cX11_open 9 = .ok (.iload_n 1, 1) := by decide +kernel
theorem dX11_open_10 : decode cX11_open 10 = .ok (.iconst 0, 1) := by decide +kernel
theorem dX11_open_11 : decode cX11_open 11 = .ok (.iastore, 1) := by decide +kernel
theorem dX11_open_12 : decode cX11_open 12 = .ok (.aload_n 0, 1) := by decide +kernel
theorem dX11_open_13 : decode cX11_open 13 = .ok (.getfield 42, 3) := by decide +kernel
theorem dX11_open_16 : decode cX11_open 16 = .ok (.iload_n 1, 1) := by decide +kernel
theorem dX11_open_17 : decode cX11_open 17 = .ok (.aload_n 0, 1) := by decide +kernel
theorem dX11_open_18 : decode cX11_open 18 = .ok (.invokevirtual 105, 3) := by decide +kernel
theorem dX11_open_21 : decode cX11_open 21 = .ok (.iastore, 1) := by decide +kernel
theorem dX11_open_22 : decode cX11_open 22 = .ok (.return_, 1) := by decide +kernel
set_option maxRecDepth 20000 in
theorem ggX11_readFactor_X11_due : GoodIn wsX11_readFactor wsX11_due := goodIn_r _ [15, 4, 3, 16, 17, 18, 19, 14, 20, 21, 1, 22, 23, 24, 25, 26, 27, 28, 29, 30, 31, 32, 33, 34, 57, 58, 59, 60, 61, 62, 63, 64, 65, 66, 67, 68, 69, 70, 71, 72, 73, 74, 75, 76, 77, 78, 79, 80, 81] (by decide +kernel) (by decide +kernel)
set_option maxRecDepth 20000 in
theorem gX11_readFactor_X11_due : GoodIn wsX11_readFactor (wsV RX11 91 RX11 yX11_due wsX11_due) := goodIn_app (goodIn_of _ (by decide +kernel)) ggX11_readFactor_X11_due
set_option maxRecDepth 20000 in
theorem ggX11_readFactor_X11_open : GoodIn wsX11_readFactor wsX11_open := goodIn_r _ [38, 2, 39, 8, 40, 41, 42, 14, 43, 44, 57, 58, 59, 60, 61, 62, 63, 64, 65, 66, 67, 68, 69, 70, 71, 72, 73, 74, 75, 76, 77, 78, 79, 80, 81] (by decide +kernel) (by decide +kernel)
set_option maxRecDepth 20000 in
theorem gX11_readFactor_X11_open : GoodIn wsX11_readFactor (wsV RX11 108 RX11 yX11_open wsX11_open) := goodIn_app (goodIn_of _ (by decide +kernel)) ggX11_readFactor_X11_open
set_option maxRecDepth 20000 in
theorem ggX11_readFactor_X11_worldsOf : GoodIn wsX11_readFactor wsX11_worldsOf := goodIn_r _ [48, 44, 49, 50, 51, 14, 52, 7, 57, 58, 59, 60, 61, 62, 63, 64, 65, 66, 67, 68, 69, 70, 71, 72, 73, 74, 75, 76, 77, 78, 79, 80, 81] (by decide +kernel) (by decide +kernel)
set_option maxRecDepth 20000 in
theorem gX11_readFactor_X11_worldsOf : GoodIn wsX11_readFactor (wsV RX11 112 RX11 yX11_worldsOf wsX11_worldsOf) := goodIn_app (goodIn_of _ (by decide +kernel)) ggX11_readFactor_X11_worldsOf
set_option maxRecDepth 20000 in
theorem ggX11_readFactor_X11_close : GoodIn wsX11_readFactor wsX11_close := goodIn_r _ [56, 3, 1, 2, 39, 8, 17, 18, 19, 14, 20, 21, 16, 4, 22, 23, 24, 25, 26, 27, 28, 29, 30, 31, 32, 33, 34, 57, 58, 59, 60, 61, 62, 63, 64, 65, 66, 67, 68, 69, 70, 71, 72, 73, 74, 75, 76, 77, 78, 79, 80, 81] (by decide +kernel) (by decide +kernel)
set_option maxRecDepth 20000 in
theorem gX11_readFactor_X11_close : GoodIn wsX11_readFactor (wsV RX11 118 RX11 yX11_close wsX11_close) := goodIn_app (goodIn_of _ (by decide +kernel)) ggX11_readFactor_X11_close
theorem dX11_readFactor_0 : decode cX11_readFactor 0 = .ok (.aload_n 0, 1) := by decide +kernel
theorem dX11_readFactor_1 : decode cX11_readFactor 1 = .ok (.getfield 77, 3) := by decide +kernel
theorem dX11_readFactor_4 : decode cX11_readFactor 4 = .ok (.bipush 7, 2) := by decide +kernel
theorem dX11_readFactor_6 : decode cX11_readFactor 6 = .ok (.if_icmp .ne 42, 3) := by decide +kernel
theorem dX11_readFactor_9 : decode cX11_readFactor 9 = .ok (.aload_n 0, 1) := by decide +kernel
theorem dX11_readFactor_10 : decode cX11_readFactor 10 = .ok (.aload_n 0, 1) := by decide +kernel
theorem dX11_readFactor_11 : decode cX11_readFactor 11 = .ok (.getfield 102, 3) := by decide +kernel
theorem dX11_readFactor_14 : decode cX11_readFactor 14 = .ok (.bipush 9, 2) := by decide +kernel
theorem dX11_readFactor_16 : decode cX11_readFactor 16 = .ok (.if_icmp .ge 7, 3) := by decide +kernel
theorem dX11_readFactor_19 : decode cX11_readFactor 19 = .ok (.iconst 1, 1) := by decide +kernel
theorem dX11_readFactor_20 : decode cX11_readFactor 20 = .ok (.goto 4, 3) := by decide +kernel
theorem dX11_readFactor_23 : decode cX11_readFactor 23 = .ok (.iconst 0, 1) := by decide +kernel
theorem dX11_readFactor_24 : decode cX11_readFactor 24 = .ok (.invokevirtual 91, 3) := by decide +kernel
theorem dX11_readFactor_27 : decode cX11_readFactor 27 = .ok (.pop, 1) := by decide +kernel
theorem dX11_readFactor_28 : decode cX11_readFactor 28 = .ok (.aload_n 0, 1) := by decide +kernel
theorem dX11_readFactor_29 : decode cX11_readFactor 29 = .ok (.getfield 85, 3) := by decide +kernel
theorem dX11_readFactor_32 : decode cX11_readFactor 32 = .ok (.bipush (-9), 2) := by decide +kernel
theorem dX11_readFactor_34 : decode cX11_readFactor 34 = .ok (.if_icmp .ne 13, 3) := by decide +kernel
theorem dX11_readFactor_37 : decode cX11_readFactor 37 = .ok (.aload_n 0, 1) := by decide +kernel
theorem dX11_readFactor_38 : decode cX11_readFactor 38 = .ok (.aload_n 0, 1) := by decide +kernel
theorem dX11_readFactor_39 : decode cX11_readFactor 39 = .ok (.getfield 102, 3) := by decide +kernel
theorem dX11_readFactor_42 : decode cX11_readFactor 42 = .ok (.iconst 1, 1) := by decide +kernel
theorem dX11_readFactor_43 : decode cX11_readFactor 43 = .ok (.iadd, 1) := by decide +kernel
theorem dX11_readFactor_44 : decode cX11_readFactor 44 = .ok (.invokevirtual 108, 3) := by decide +kernel
theorem dX11_readFactor_47 : decode cX11_readFactor 47 = .ok (.return_, 1) := by decide +kernel
theorem dX11_readFactor_48 : decode cX11_readFactor 48 = .ok (.aload_n 0, 1) := by decide +kernel
theorem dX11_readFactor_49 : decode cX11_readFactor 49 = .ok (.getfield 74, 3) := by decide +kernel
theorem dX11_readFactor_52 : decode cX11_readFactor 52 = .ok (.istore_n 1, 1) := by decide +kernel
theorem dX11_readFactor_53 : decode cX11_readFactor 53 = .ok (.aload_n 0, 1) := by decide +kernel
theorem dX11_readFactor_54 : decode cX11_readFactor 54 = .ok (.getfield 77, 3) := by decide +kernel
theorem dX11_readFactor_57 : decode cX11_readFactor 57 = .ok (.iconst 2, 1) := by decide +kernel
theorem dX11_readFactor_58 : decode cX11_readFactor 58 = .ok (.if_icmp .ne 7, 3) := by decide +kernel
theorem dX11_readFactor_61 : decode cX11_readFactor 61 = .ok (.iconst 1, 1) := by decide +kernel
theorem dX11_readFactor_62 : decode cX11_readFactor 62 = .ok (.goto 4, 3) := by decide +kernel
theorem dX11_readFactor_65 : decode cX11_readFactor 65 = .ok (.iconst 0, 1) := by decide +kernel
theorem dX11_readFactor_66 : decode cX11_readFactor 66 = .ok (.istore_n 2, 1) := by decide +kernel
theorem dX11_readFactor_67 : decode cX11_readFactor 67 = .ok (.aload_n 0, 1) := by decide +kernel
theorem dX11_readFactor_68 : decode cX11_readFactor 68 = .ok (.iload_n 2, 1) := by decide +kernel
theorem dX11_readFactor_69 : decode cX11_readFactor 69 = .ok (.ifCond .ne 19, 3) := by decide +kernel
theorem dX11_readFactor_72 : decode cX11_readFactor 72 = .ok (.aload_n 0, 1) := by decide +kernel
theorem dX11_readFactor_73 : decode cX11_readFactor 73 = .ok (.getfield 77, 3) := by decide +kernel
theorem dX11_readFactor_76 : decode cX11_readFactor 76 = .ok (.iconst 1, 1) := by decide +kernel
theorem dX11_readFactor_77 : decode cX11_readFactor 77 = .ok (.if_icmp .ne 15, 3) := by decide +kernel
theorem dX11_readFactor_80 : decode cX11_readFactor 80 = .ok (.iload_n 1, 1) := by decide +kernel
theorem dX11_readFactor_81 : decode cX11_readFactor 81 = .ok (.aload_n 0, 1) := by decide +kernel
theorem dX11_readFactor_82 : decode cX11_readFactor 82 = .ok (.getfield 95, 3) := by decide +kernel
theorem dX11_readFactor_85 : decode cX11_readFactor 85 = .ok (.if_icmp .ge 7, 3) := by decide +kernel
theorem dX11_readFactor_88 : decode cX11_readFactor 88 = .ok (.iconst 1, 1) := by decide +kernel
theorem dX11_readFactor_89 : decode cX11_readFactor 89 = .ok (.goto 4, 3) := by decide +kernel
theorem dX11_readFactor_92 : decode cX11_readFactor 92 = .ok (.iconst 0, 1) := by decide +kernel
theorem dX11_readFactor_93 : decode cX11_readFactor 93 = .ok (.invokevirtual 91, 3) := by decide +kernel
theorem dX11_readFactor_96 : decode cX11_readFactor 96 = .ok (.pop, 1) := by decide +kernel
theorem dX11_readFactor_97 : decode cX11_readFactor 97 = .ok (.aload_n 0, 1) := by decide +kernel
theorem dX11_readFactor_98 : decode cX11_readFactor 98 = .ok (.getfield 85, 3) := by decide +kernel
theorem dX11_readFactor_101 : decode cX11_readFactor 101 = .ok (.bipush (-9), 2) := by decide +kernel
theorem dX11_readFactor_103 : decode cX11_readFactor 103 = .ok (.if_icmp .ne 41, 3) := by decide +kernel
theorem dX11_readFactor_106 : decode cX11_readFactor 106 = .ok (.aload_n 0, 1) := by decide +kernel
theorem dX11_readFactor_107 : decode cX11_readFactor 107 = .ok (.getfield 77, 3) := by decide +kernel
theorem dX11_readFactor_110 : decode cX11_readFactor 110 = .ok (.iconst 3, 1) := by decide +kernel
theorem dX11_readFactor_111 : decode cX11_readFactor 111 = .ok (.if_icmp .ne 33, 3) := by decide +kernel
theorem dX11_readFactor_114 : decode cX11_readFactor 114 = .ok (.aload_n 0, 1) := by decide +kernel
theorem dX11_readFactor_115 : decode cX11_readFactor 115 = .ok (.getfield 74, 3) := by decide +kernel
theorem dX11_readFactor_118 : decode cX11_readFactor 118 = .ok (.iload_n 2, 1) := by decide +kernel
theorem dX11_readFactor_119 : decode cX11_readFactor 119 = .ok (.ifCond .eq 12, 3) := by decide +kernel
theorem dX11_readFactor_122 : decode cX11_readFactor 122 = .ok (.aload_n 0, 1) := by decide +kernel
theorem dX11_readFactor_123 : decode cX11_readFactor 123 = .ok (.getfield 29, 3) := by decide +kernel
theorem dX11_readFactor_126 : decode cX11_readFactor 126 = .ok (.iconst 0, 1) := by decide +kernel
theorem dX11_readFactor_127 : decode cX11_readFactor 127 = .ok (.iaload, 1) := by decide +kernel
theorem dX11_readFactor_128 : decode cX11_readFactor 128 = .ok (.goto 9, 3) := by decide +kernel
theorem dX11_readFactor_131 : decode cX11_readFactor 131 = .ok (.aload_n 0, 1) := by decide +kernel
theorem dX11_readFactor_132 : decode cX11_readFactor 132 = .ok (.getfield 13, 3) := by decide +kernel
theorem dX11_readFactor_135 : decode cX11_readFactor 135 = .ok (.iload_n 1, 1) := by decide +kernel
theorem dX11_readFactor_136 : decode cX11_readFactor 136 = .ok (.iaload, 1) := by decide +kernel
theorem dX11_readFactor_137 : decode cX11_readFactor 137 = .ok (.if_icmp .ge 7, 3) := by decide +kernel
theorem dX11_readFactor_140 : decode cX11_readFactor 140 = .ok (.iconst 1, 1) := by decide +kernel
theorem dX11_readFactor_141 : decode cX11_readFactor 141 = .ok (.goto 4, 3) := by decide +kernel
theorem dX11_readFactor_144 : decode cX11_readFactor 144 = .ok (.iconst 0, 1) := by decide +kernel
theorem dX11_readFactor_145 : decode cX11_readFactor 145 = .ok (.istore_n 3, 1) := by decide +kernel
theorem dX11_readFactor_146 : decode cX11_readFactor 146 = .ok (.aload_n 0, 1) := by decide +kernel
theorem dX11_readFactor_147 : decode cX11_readFactor 147 = .ok (.iload_n 3, 1) := by decide +kernel
theorem dX11_readFactor_148 : decode cX11_readFactor 148 = .ok (.invokevirtual 91, 3) := by decide +kernel
theorem dX11_readFactor_151 : decode cX11_readFactor 151 = .ok (.istore 4, 2) := by decide +kernel
theorem dX11_readFactor_153 : decode cX11_readFactor 153 = .ok (.aload_n 0, 1) := by decide +kernel
theorem dX11_readFactor_154 : decode cX11_readFactor 154 = .ok (.getfield 85, 3) := by decide +kernel
theorem dX11_readFactor_157 : decode cX11_readFactor 157 = .ok (.bipush (-9), 2) := by decide +kernel
theorem dX11_readFactor_159 : decode cX11_readFactor 159 = .ok (.if_icmp .ne 50, 3) := by decide +kernel
theorem dX11_readFactor_162 : decode cX11_readFactor 162 = .ok (.aload_n 0, 1) := by decide +kernel
theorem dX11_readFactor_163 : decode cX11_readFactor 163 = .ok (.getfield 42, 3) := by decide +kernel
theorem dX11_readFactor_166 : decode cX11_readFactor 166 = .ok (.aload_n 0, 1) := by decide +kernel
theorem dX11_readFactor_167 : decode cX11_readFactor 167 = .ok (.getfield 102, 3) := by decide +kernel
theorem dX11_readFactor_170 : decode cX11_readFactor 170 = .ok (.dup2, 1) := by decide +kernel
theorem dX11_readFactor_171 : decode cX11_readFactor 171 = .ok (.iaload, 1) := by decide +kernel
theorem dX11_readFactor_172 : decode cX11_readFactor 172 = .ok (.iload_n 2, 1) := by decide +kernel
theorem dX11_readFactor_173 : decode cX11_readFactor 173 = .ok (.ifCond .eq 13, 3) := by decide +kernel
theorem dX11_readFactor_176 : decode cX11_readFactor 176 = .ok (.aload_n 0, 1) := by decide +kernel
theorem dX11_readFactor_177 : decode cX11_readFactor 177 = .ok (.getfield 32, 3) := by decide +kernel
theorem dX11_readFactor_180 : decode cX11_readFactor 180 = .ok (.iload 4, 2) := by decide +kernel
theorem dX11_readFactor_182 : decode cX11_readFactor 182 = .ok (.iaload, 1) := by decide +kernel
theorem dX11_readFactor_183 : decode cX11_readFactor 183 = .ok (.goto 10, 3) := by decide +kernel
theorem dX11_readFactor_186 : decode cX11_readFactor 186 = .ok (.aload_n 0, 1) := by decide +kernel
theorem dX11_readFactor_187 : decode cX11_readFactor 187 = .ok (.iload_n 1, 1) := by decide +kernel
theorem dX11_readFactor_188 : decode cX11_readFactor 188 = .ok (.iload 4, 2) := by decide +kernel
theorem dX11_readFactor_190 : decode cX11_readFactor 190 = .ok (.invokevirtual 112, 3) := by decide +kernel
theorem dX11_readFactor_193 : decode cX11_readFactor 193 = .ok (.iand, 1) := by decide +kernel
theorem dX11_readFactor_194 : decode cX11_readFactor 194 = .ok (.iastore, 1) := by decide +kernel
theorem dX11_readFactor_195 : decode cX11_readFactor 195 = .ok (.aload_n 0, 1) := by decide +kernel
theorem dX11_readFactor_196 : decode cX11_readFactor 196 = .ok (.dup, 1) := by decide +kernel
theorem dX11_readFactor_197 : decode cX11_readFactor 197 = .ok (.getfield 115, 3) := by decide +kernel
theorem dX11_readFactor_200 : decode cX11_readFactor 200 = .ok (.iconst 1, 1) := by decide +kernel
theorem dX11_readFactor_201 : decode cX11_readFactor 201 = .ok (.iadd, 1) := by decide +kernel
theorem dX11_readFactor_202 : decode cX11_readFactor 202 = .ok (.putfield 115, 3) := by decide +kernel
theorem dX11_readFactor_205 : decode cX11_readFactor 205 = .ok (.aload_n 0, 1) := by decide +kernel
theorem dX11_readFactor_206 : decode cX11_readFactor 206 = .ok (.invokevirtual 118, 3) := by decide +kernel
theorem dX11_readFactor_209 : decode cX11_readFactor 209 = .ok (.return_, 1) := by decide +kernel
set_option maxRecDepth 20000 in
theorem ggX11_close_X11_next : GoodIn wsX11_close wsX11_next := goodIn_r _ [10, 11, 12, 13, 2, 14, 15, 16, 17, 9, 18, 19, 20, 21, 22, 23, 24, 25, 26, 27, 28, 29, 30, 31, 32, 33, 34, 35, 36, 37, 38, 39, 40, 41, 42, 43, 44, 45, 46, 47, 48, 49, 50, 51] (by decide +kernel) (by decide +kernel)
set_option maxRecDepth 20000 in
theorem gX11_close_X11_next : GoodIn wsX11_close (wsV RX11 88 RX11 yX11_next wsX11_next) := goodIn_app (goodIn_of _ (by decide +kernel)) ggX11_close_X11_next
theorem dX11_close_0 : decode cX11_close 0 = .ok (.aload_n 0, 1) := by decide +kernel
theorem dX11_close_1 : decode cX11_close 1 = .ok (.getfield 85, 3) := by decide +kernel
theorem dX11_close_4 : decode cX11_close 4 = .ok (.bipush (-9), 2) := by decide +kernel
theorem dX11_close_6 : decode cX11_close 6 = .ok (.if_icmp .ne 69, 3) := by decide +kernel
theorem dX11_close_9 : decode cX11_close 9 = .ok (.aload_n 0, 1) := by decide +kernel
theorem dX11_close_10 : decode cX11_close 10 = .ok (.getfield 77, 3) := by decide +kernel
theorem dX11_close_13 : decode cX11_close 13 = .ok (.bipush 8, 2) := by decide +kernel
theorem dX11_close_15 : decode cX11_close 15 = .ok (.if_icmp .ne 60, 3) := by decide +kernel
theorem dX11_close_18 : decode cX11_close 18 = .ok (.aload_n 0, 1) := by decide +kernel
theorem dX11_close_19 : decode cX11_close 19 = .ok (.getfield 102, 3) := by decide +kernel
theorem dX11_close_22 : decode cX11_close 22 = .ok (.ifCond .le 53, 3) := by decide +kernel
theorem dX11_close_25 : decode cX11_close 25 = .ok (.aload_n 0, 1) := by decide +kernel
theorem dX11_close_26 : decode cX11_close 26 = .ok (.getfield 39, 3) := by decide +kernel
theorem dX11_close_29 : decode cX11_close 29 = .ok (.aload_n 0, 1) := by decide +kernel
theorem dX11_close_30 : decode cX11_close 30 = .ok (.getfield 102, 3) := by decide +kernel
theorem dX11_close_33 : decode cX11_close 33 = .ok (.iaload, 1) := by decide +kernel
theorem dX11_close_34 : decode cX11_close 34 = .ok (.aload_n 0, 1) := by decide +kernel
theorem dX11_close_35 : decode cX11_close 35 = .ok (.getfield 42, 3) := by decide +kernel
theorem dX11_close_38 : decode cX11_close 38 = .ok (.aload_n 0, 1) := by decide +kernel
theorem dX11_close_39 : decode cX11_close 39 = .ok (.getfield 102, 3) := by decide +kernel
theorem dX11_close_42 : decode cX11_close 42 = .ok (.iaload, 1) := by decide +kernel
theorem dX11_close_43 : decode cX11_close 43 = .ok (.ior, 1) := by decide +kernel
theorem dX11_close_44 : decode cX11_close 44 = .ok (.istore_n 1, 1) := by decide +kernel
theorem dX11_close_45 : decode cX11_close 45 = .ok (.aload_n 0, 1) := by decide +kernel
theorem dX11_close_46 : decode cX11_close 46 = .ok (.dup, 1) := by decide +kernel
theorem dX11_close_47 : decode cX11_close 47 = .ok (.getfield 102, 3) := by decide +kernel
theorem dX11_close_50 : decode cX11_close 50 = .ok (.iconst 1, 1) := by decide +kernel
theorem dX11_close_51 : decode cX11_close 51 = .ok (.isub, 1) := by decide +kernel
theorem dX11_close_52 : decode cX11_close 52 = .ok (.putfield 102, 3) := by decide +kernel
theorem dX11_close_55 : decode cX11_close 55 = .ok (.aload_n 0, 1) := by decide +kernel
theorem dX11_close_56 : decode cX11_close 56 = .ok (.getfield 42, 3) := by decide +kernel
theorem dX11_close_59 : decode cX11_close 59 = .ok (.aload_n 0, 1) := by decide +kernel
theorem dX11_close_60 : decode cX11_close 60 = .ok (.getfield 102, 3) := by decide +kernel
theorem dX11_close_63 : decode cX11_close 63 = .ok (.dup2, 1) := by decide +kernel
theorem dX11_close_64 : decode cX11_close 64 = .ok (.iaload, 1) := by decide +kernel
theorem dX11_close_65 : decode cX11_close 65 = .ok (.iload_n 1, 1) := by decide +kernel
theorem dX11_close_66 : decode cX11_close 66 = .ok (.iand, 1) := by decide +kernel
theorem dX11_close_67 : decode cX11_close 67 = .ok (.iastore, 1) := by decide +kernel
theorem dX11_close_68 : decode cX11_close 68 = .ok (.aload_n 0, 1) := by decide +kernel
theorem dX11_close_69 : decode cX11_close 69 = .ok (.invokevirtual 88, 3) := by decide +kernel
theorem dX11_close_72 : decode cX11_close 72 = .ok (.goto (-72), 3) := by decide +kernel
theorem dX11_close_75 : decode cX11_close 75 = .ok (.return_, 1) := by decide +kernel
set_option maxRecDepth 20000 in
theorem ggX11_say_X11_open : GoodIn wsX11_say wsX11_open := goodIn_r _ [16, 6, 7, 8, 17, 18, 19, 15, 20, 21, 64, 65, 66, 67, 68, 69, 70, 71, 72, 73, 74, 75, 76, 77, 78, 79, 80, 81, 82, 83, 84, 85, 86, 87, 88] (by decide +kernel) (by decide +kernel)
set_option maxRecDepth 20000 in
theorem gX11_say_X11_open : GoodIn wsX11_say (wsV RX11 108 RX11 yX11_open wsX11_open) := goodIn_app (goodIn_of _ (by decide +kernel)) ggX11_say_X11_open
set_option maxRecDepth 20000 in
theorem ggX11_say_X11_next : GoodIn wsX11_say wsX11_next := goodIn_r _ [25, 2, 26, 27, 5, 28, 29, 30, 31, 15, 32, 11, 33, 34, 35, 36, 37, 38, 39, 64, 65, 66, 67, 68, 69, 70, 71, 72, 73, 74, 75, 76, 77, 78, 79, 80, 81, 82, 83, 84, 85, 86, 87, 88] (by decide +kernel) (by decide +kernel)
set_option maxRecDepth 20000 in
theorem gX11_say_X11_next : GoodIn wsX11_say (wsV RX11 88 RX11 yX11_next wsX11_next) := goodIn_app (goodIn_of _ (by decide +kernel)) ggX11_say_X11_next
set_option maxRecDepth 20000 in
theorem ggX11_say_X11_readFactor : GoodIn wsX11_say wsX11_readFactor := goodIn_r _ [43, 5, 6, 3, 27, 44, 45, 46, 8, 47, 4, 48, 49, 50, 15, 51, 26, 22, 23, 24, 25, 2, 28, 29, 30, 31, 32, 11, 33, 34, 35, 36, 37, 38, 39, 12, 13, 14, 16, 7, 17, 18, 19, 20, 21, 52, 53, 54, 55, 56, 57, 58, 59, 60, 61, 62, 63, 64, 65, 66, 67, 68, 69, 70, 71, 72, 73, 74, 75, 76, 77, 78, 79, 80, 81, 82, 83, 84, 85, 86, 87, 88] (by decide +kernel) (by decide +kernel)
set_option maxRecDepth 20000 in
theorem gX11_say_X11_readFactor : GoodIn wsX11_say (wsV RX11 121 RX11 yX11_readFactor wsX11_readFactor) := goodIn_app (goodIn_of _ (by decide +kernel)) ggX11_say_X11_readFactor
set_option maxRecDepth 20000 in
theorem ggX11_say_X11_due : GoodIn wsX11_say wsX11_due := goodIn_r _ [51, 27, 3, 26, 22, 23, 24, 15, 25, 2, 5, 28, 29, 30, 31, 32, 11, 33, 34, 35, 36, 37, 38, 39, 64, 65, 66, 67, 68, 69, 70, 71, 72, 73, 74, 75, 76, 77, 78, 79, 80, 81, 82, 83, 84, 85, 86, 87, 88] (by decide +kernel) (by decide +kernel)
set_option maxRecDepth 20000 in
theorem gX11_say_X11_due : GoodIn wsX11_say (wsV RX11 91 RX11 yX11_due wsX11_due) := goodIn_app (goodIn_of _ (by decide +kernel)) ggX11_say_X11_due
set_option maxRecDepth 20000 in
theorem ggX11_say_X11_allSets : GoodIn wsX11_say wsX11_allSets := goodIn_r _ [20, 21, 64, 65, 66, 67, 68, 69, 70, 71, 72, 73, 74, 75, 76, 77, 78, 79, 80, 81, 82, 83, 84, 85, 86, 87, 88] (by decide +kernel) (by decide +kernel)
set_option maxRecDepth 20000 in
theorem gX11_say_X11_allSets : GoodIn wsX11_say (wsV RX11 105 RX11 yX11_allSets wsX11_allSets) := goodIn_app (goodIn_of _ (by decide +kernel)) ggX11_say_X11_allSets
theorem dX11_say_0 : decode cX11_say 0 = .ok (.aload_n 0, 1) := by decide +kernel
theorem dX11_say_1 : decode cX11_say 1 = .ok (.getfield 20, 3) := by decide +kernel
theorem dX11_say_4 : decode cX11_say 4 = .ok (.iconst 0, 1) := by decide +kernel
theorem dX11_say_5 : decode cX11_say 5 = .ok (.iaload, 1) := by decide +kernel
theorem dX11_say_6 : decode cX11_say 6 = .ok (.bipush 8, 2) := by decide +kernel
theorem dX11_say_8 : decode cX11_say 8 = .ok (.if_icmp .ne 6, 3) := by decide +kernel
theorem dX11_say_11 : decode cX11_say 11 = .ok (.bipush (-3), 2) := by decide +kernel
theorem dX11_say_13 : decode cX11_say 13 = .ok (.ireturn, 1) := by decide +kernel
theorem dX11_say_14 : decode cX11_say 14 = .ok (.aload_n 0, 1) := by decide +kernel
theorem dX11_say_15 : decode cX11_say 15 = .ok (.iconst 0, 1) := by decide +kernel
theorem dX11_say_16 : decode cX11_say 16 = .ok (.putfield 64, 3) := by decide +kernel
theorem dX11_say_19 : decode cX11_say 19 = .ok (.aload_n 0, 1) := by decide +kernel
theorem dX11_say_20 : decode cX11_say 20 = .ok (.bipush (-9), 2) := by decide +kernel
theorem dX11_say_22 : decode cX11_say 22 = .ok (.putfield 85, 3) := by decide +kernel
theorem dX11_say_25 : decode cX11_say 25 = .ok (.aload_n 0, 1) := by decide +kernel
theorem dX11_say_26 : decode cX11_say 26 = .ok (.iconst 0, 1) := by decide +kernel
theorem dX11_say_27 : decode cX11_say 27 = .ok (.putfield 115, 3) := by decide +kernel
theorem dX11_say_30 : decode cX11_say 30 = .ok (.aload_n 0, 1) := by decide +kernel
theorem dX11_say_31 : decode cX11_say 31 = .ok (.iconst 0, 1) := by decide +kernel
theorem dX11_say_32 : decode cX11_say 32 = .ok (.invokevirtual 108, 3) := by decide +kernel
theorem dX11_say_35 : decode cX11_say 35 = .ok (.aload_n 0, 1) := by decide +kernel
theorem dX11_say_36 : decode cX11_say 36 = .ok (.invokevirtual 88, 3) := by decide +kernel
theorem dX11_say_39 : decode cX11_say 39 = .ok (.iconst 1, 1) := by decide +kernel
theorem dX11_say_40 : decode cX11_say 40 = .ok (.istore_n 1, 1) := by decide +kernel
theorem dX11_say_41 : decode cX11_say 41 = .ok (.aload_n 0, 1) := by decide +kernel
theorem dX11_say_42 : decode cX11_say 42 = .ok (.getfield 85, 3) := by decide +kernel
theorem dX11_say_45 : decode cX11_say 45 = .ok (.bipush (-9), 2) := by decide +kernel
theorem dX11_say_47 : decode cX11_say 47 = .ok (.if_icmp .ne 152, 3) := by decide +kernel
theorem dX11_say_50 : decode cX11_say 50 = .ok (.iload_n 1, 1) := by decide +kernel
theorem dX11_say_51 : decode cX11_say 51 = .ok (.ifCond .eq 148, 3) := by decide +kernel
theorem dX11_say_54 : decode cX11_say 54 = .ok (.aload_n 0, 1) := by decide +kernel
theorem dX11_say_55 : decode cX11_say 55 = .ok (.getfield 77, 3) := by decide +kernel
theorem dX11_say_58 : decode cX11_say 58 = .ok (.bipush 7, 2) := by decide +kernel
theorem dX11_say_60 : decode cX11_say 60 = .ok (.if_icmp .ne 7, 3) := by decide +kernel
theorem dX11_say_63 : decode cX11_say 63 = .ok (.iconst 1, 1) := by decide +kernel
theorem dX11_say_64 : decode cX11_say 64 = .ok (.goto 4, 3) := by decide +kernel
theorem dX11_say_67 : decode cX11_say 67 = .ok (.iconst 0, 1) := by decide +kernel
theorem dX11_say_68 : decode cX11_say 68 = .ok (.istore_n 2, 1) := by decide +kernel
theorem dX11_say_69 : decode cX11_say 69 = .ok (.aload_n 0, 1) := by decide +kernel
theorem dX11_say_70 : decode cX11_say 70 = .ok (.invokevirtual 121, 3) := by decide +kernel
theorem dX11_say_73 : decode cX11_say 73 = .ok (.aload_n 0, 1) := by decide +kernel
theorem dX11_say_74 : decode cX11_say 74 = .ok (.getfield 85, 3) := by decide +kernel
theorem dX11_say_77 : decode cX11_say 77 = .ok (.bipush (-9), 2) := by decide +kernel
theorem dX11_say_79 : decode cX11_say 79 = .ok (.if_icmp .ne 117, 3) := by decide +kernel
theorem dX11_say_82 : decode cX11_say 82 = .ok (.iload_n 2, 1) := by decide +kernel
theorem dX11_say_83 : decode cX11_say 83 = .ok (.ifCond .ne 113, 3) := by decide +kernel
theorem dX11_say_86 : decode cX11_say 86 = .ok (.aload_n 0, 1) := by decide +kernel
theorem dX11_say_87 : decode cX11_say 87 = .ok (.getfield 77, 3) := by decide +kernel
theorem dX11_say_90 : decode cX11_say 90 = .ok (.bipush 9, 2) := by decide +kernel
theorem dX11_say_92 : decode cX11_say 92 = .ok (.if_icmp .ne 10, 3) := by decide +kernel
theorem dX11_say_95 : decode cX11_say 95 = .ok (.aload_n 0, 1) := by decide +kernel
theorem dX11_say_96 : decode cX11_say 96 = .ok (.getfield 102, 3) := by decide +kernel
theorem dX11_say_99 : decode cX11_say 99 = .ok (.ifCond .le 7, 3) := by decide +kernel
theorem dX11_say_102 : decode cX11_say 102 = .ok (.iconst 1, 1) := by decide +kernel
theorem dX11_say_103 : decode cX11_say 103 = .ok (.goto 4, 3) := by decide +kernel
theorem dX11_say_106 : decode cX11_say 106 = .ok (.iconst 0, 1) := by decide +kernel
theorem dX11_say_107 : decode cX11_say 107 = .ok (.istore_n 1, 1) := by decide +kernel
theorem dX11_say_108 : decode cX11_say 108 = .ok (.iload_n 1, 1) := by decide +kernel
theorem dX11_say_109 : decode cX11_say 109 = .ok (.ifCond .eq 87, 3) := by decide +kernel
theorem dX11_say_112 : decode cX11_say 112 = .ok (.aload_n 0, 1) := by decide +kernel
theorem dX11_say_113 : decode cX11_say 113 = .ok (.getfield 77, 3) := by decide +kernel
theorem dX11_say_116 : decode cX11_say 116 = .ok (.iconst 5, 1) := by decide +kernel
theorem dX11_say_117 : decode cX11_say 117 = .ok (.if_icmp .ne 7, 3) := by decide +kernel
theorem dX11_say_120 : decode cX11_say 120 = .ok (.iconst 1, 1) := by decide +kernel
theorem dX11_say_121 : decode cX11_say 121 = .ok (.goto 4, 3) := by decide +kernel
theorem dX11_say_124 : decode cX11_say 124 = .ok (.iconst 0, 1) := by decide +kernel
theorem dX11_say_125 : decode cX11_say 125 = .ok (.istore_n 3, 1) := by decide +kernel
theorem dX11_say_126 : decode cX11_say 126 = .ok (.aload_n 0, 1) := by decide +kernel
theorem dX11_say_127 : decode cX11_say 127 = .ok (.iload_n 3, 1) := by decide +kernel
theorem dX11_say_128 : decode cX11_say 128 = .ok (.ifCond .ne 12, 3) := by decide +kernel
theorem dX11_say_131 : decode cX11_say 131 = .ok (.aload_n 0, 1) := by decide +kernel
theorem dX11_say_132 : decode cX11_say 132 = .ok (.getfield 77, 3) := by decide +kernel
theorem dX11_say_135 : decode cX11_say 135 = .ok (.bipush 6, 2) := by decide +kernel
theorem dX11_say_137 : decode cX11_say 137 = .ok (.if_icmp .ne 7, 3) := by decide +kernel
theorem dX11_say_140 : decode cX11_say 140 = .ok (.iconst 1, 1) := by decide +kernel
theorem dX11_say_141 : decode cX11_say 141 = .ok (.goto 4, 3) := by decide +kernel
theorem dX11_say_144 : decode cX11_say 144 = .ok (.iconst 0, 1) := by decide +kernel
theorem dX11_say_145 : decode cX11_say 145 = .ok (.invokevirtual 91, 3) := by decide +kernel
theorem dX11_say_148 : decode cX11_say 148 = .ok (.pop, 1) := by decide +kernel
theorem dX11_say_149 : decode cX11_say 149 = .ok (.aload_n 0, 1) := by decide +kernel
theorem dX11_say_150 : decode cX11_say 150 = .ok (.getfield 85, 3) := by decide +kernel
theorem dX11_say_153 : decode cX11_say 153 = .ok (.bipush (-9), 2) := by decide +kernel
theorem dX11_say_155 : decode cX11_say 155 = .ok (.if_icmp .ne 41, 3) := by decide +kernel
theorem dX11_say_158 : decode cX11_say 158 = .ok (.iload_n 3, 1) := by decide +kernel
theorem dX11_say_159 : decode cX11_say 159 = .ok (.ifCond .eq 37, 3) := by decide +kernel
theorem dX11_say_162 : decode cX11_say 162 = .ok (.aload_n 0, 1) := by decide +kernel
theorem dX11_say_163 : decode cX11_say 163 = .ok (.getfield 39, 3) := by decide +kernel
theorem dX11_say_166 : decode cX11_say 166 = .ok (.aload_n 0, 1) := by decide +kernel
theorem dX11_say_167 : decode cX11_say 167 = .ok (.getfield 102, 3) := by decide +kernel
theorem dX11_say_170 : decode cX11_say 170 = .ok (.dup2, 1) := by decide +kernel
theorem dX11_say_171 : decode cX11_say 171 = .ok (.iaload, 1) := by decide +kernel
theorem dX11_say_172 : decode cX11_say 172 = .ok (.aload_n 0, 1) := by decide +kernel
theorem dX11_say_173 : decode cX11_say 173 = .ok (.getfield 42, 3) := by decide +kernel
theorem dX11_say_176 : decode cX11_say 176 = .ok (.aload_n 0, 1) := by decide +kernel
theorem dX11_say_177 : decode cX11_say 177 = .ok (.getfield 102, 3) := by decide +kernel
theorem dX11_say_180 : decode cX11_say 180 = .ok (.iaload, 1) := by decide +kernel
theorem dX11_say_181 : decode cX11_say 181 = .ok (.ior, 1) := by decide +kernel
theorem dX11_say_182 : decode cX11_say 182 = .ok (.iastore, 1) := by decide +kernel
theorem dX11_say_183 : decode cX11_say 183 = .ok (.aload_n 0, 1) := by decide +kernel
theorem dX11_say_184 : decode cX11_say 184 = .ok (.getfield 42, 3) := by decide +kernel
theorem dX11_say_187 : decode cX11_say 187 = .ok (.aload_n 0, 1) := by decide +kernel
theorem dX11_say_188 : decode cX11_say 188 = .ok (.getfield 102, 3) := by decide +kernel
theorem dX11_say_191 : decode cX11_say 191 = .ok (.aload_n 0, 1) := by decide +kernel
theorem dX11_say_192 : decode cX11_say 192 = .ok (.invokevirtual 105, 3) := by decide +kernel
theorem dX11_say_195 : decode cX11_say 195 = .ok (.iastore, 1) := by decide +kernel
theorem dX11_say_196 : decode cX11_say 196 = .ok (.goto (-155), 3) := by decide +kernel
theorem dX11_say_199 : decode cX11_say 199 = .ok (.aload_n 0, 1) := by decide +kernel
theorem dX11_say_200 : decode cX11_say 200 = .ok (.getfield 85, 3) := by decide +kernel
theorem dX11_say_203 : decode cX11_say 203 = .ok (.bipush (-9), 2) := by decide +kernel
theorem dX11_say_205 : decode cX11_say 205 = .ok (.if_icmp .eq 11, 3) := by decide +kernel
theorem dX11_say_208 : decode cX11_say 208 = .ok (.bipush (-10), 2) := by decide +kernel
theorem dX11_say_210 : decode cX11_say 210 = .ok (.aload_n 0, 1) := by decide +kernel
theorem dX11_say_211 : decode cX11_say 211 = .ok (.getfield 85, 3) := by decide +kernel
theorem dX11_say_214 : decode cX11_say 214 = .ok (.isub, 1) := by decide +kernel
theorem dX11_say_215 : decode cX11_say 215 = .ok (.ireturn, 1) := by decide +kernel
theorem dX11_say_216 : decode cX11_say 216 = .ok (.aload_n 0, 1) := by decide +kernel
theorem dX11_say_217 : decode cX11_say 217 = .ok (.getfield 23, 3) := by decide +kernel
theorem dX11_say_220 : decode cX11_say 220 = .ok (.aload_n 0, 1) := by decide +kernel
theorem dX11_say_221 : decode cX11_say 221 = .ok (.getfield 20, 3) := by decide +kernel
theorem dX11_say_224 : decode cX11_say 224 = .ok (.iconst 0, 1) := by decide +kernel
theorem dX11_say_225 : decode cX11_say 225 = .ok (.iaload, 1) := by decide +kernel
theorem dX11_say_226 : decode cX11_say 226 = .ok (.aload_n 0, 1) := by decide +kernel
theorem dX11_say_227 : decode cX11_say 227 = .ok (.getfield 39, 3) := by decide +kernel
theorem dX11_say_230 : decode cX11_say 230 = .ok (.iconst 0, 1) := by decide +kernel
theorem dX11_say_231 : decode cX11_say 231 = .ok (.iaload, 1) := by decide +kernel
theorem dX11_say_232 : decode cX11_say 232 = .ok (.aload_n 0, 1) := by decide +kernel
theorem dX11_say_233 : decode cX11_say 233 = .ok (.getfield 42, 3) := by decide +kernel
theorem dX11_say_236 : decode cX11_say 236 = .ok (.iconst 0, 1) := by decide +kernel
theorem dX11_say_237 : decode cX11_say 237 = .ok (.iaload, 1) := by decide +kernel
theorem dX11_say_238 : decode cX11_say 238 = .ok (.ior, 1) := by decide +kernel
theorem dX11_say_239 : decode cX11_say 239 = .ok (.iastore, 1) := by decide +kernel
theorem dX11_say_240 : decode cX11_say 240 = .ok (.aload_n 0, 1) := by decide +kernel
theorem dX11_say_241 : decode cX11_say 241 = .ok (.getfield 26, 3) := by decide +kernel
theorem dX11_say_244 : decode cX11_say 244 = .ok (.aload_n 0, 1) := by decide +kernel
theorem dX11_say_245 : decode cX11_say 245 = .ok (.getfield 20, 3) := by decide +kernel
theorem dX11_say_248 : decode cX11_say 248 = .ok (.iconst 0, 1) := by decide +kernel
theorem dX11_say_249 : decode cX11_say 249 = .ok (.iaload, 1) := by decide +kernel
theorem dX11_say_250 : decode cX11_say 250 = .ok (.aload_n 0, 1) := by decide +kernel
theorem dX11_say_251 : decode cX11_say 251 = .ok (.getfield 115, 3) := by decide +kernel
theorem dX11_say_254 : decode cX11_say 254 = .ok (.iastore, 1) := by decide +kernel
theorem dX11_say_255 : decode cX11_say 255 = .ok (.aload_n 0, 1) := by decide +kernel
theorem dX11_say_256 : decode cX11_say 256 = .ok (.getfield 20, 3) := by decide +kernel
theorem dX11_say_259 : decode cX11_say 259 = .ok (.iconst 0, 1) := by decide +kernel
theorem dX11_say_260 : decode cX11_say 260 = .ok (.dup2, 1) := by decide +kernel
theorem dX11_say_261 : decode cX11_say 261 = .ok (.iaload, 1) := by decide +kernel
theorem dX11_say_262 : decode cX11_say 262 = .ok (.iconst 1, 1) := by decide +kernel
theorem dX11_say_263 : decode cX11_say 263 = .ok (.iadd, 1) := by decide +kernel
theorem dX11_say_264 : decode cX11_say 264 = .ok (.iastore, 1) := by decide +kernel
theorem dX11_say_265 : decode cX11_say 265 = .ok (.aload_n 0, 1) := by decide +kernel
theorem dX11_say_266 : decode cX11_say 266 = .ok (.iconst 0, 1) := by decide +kernel
theorem dX11_say_267 : decode cX11_say 267 = .ok (.putfield 59, 3) := by decide +kernel
theorem dX11_say_270 : decode cX11_say 270 = .ok (.aload_n 0, 1) := by decide +kernel
theorem dX11_say_271 : decode cX11_say 271 = .ok (.getfield 20, 3) := by decide +kernel
theorem dX11_say_274 : decode cX11_say 274 = .ok (.iconst 0, 1) := by decide +kernel
theorem dX11_say_275 : decode cX11_say 275 = .ok (.iaload, 1) := by decide +kernel
theorem dX11_say_276 : decode cX11_say 276 = .ok (.ireturn, 1) := by decide +kernel
theorem dX11_unsay_0 : decode cX11_unsay 0 = .ok (.aload_n 0, 1) := by decide +kernel
theorem dX11_unsay_1 : decode cX11_unsay 1 = .ok (.getfield 20, 3) := by decide +kernel
theorem dX11_unsay_4 : decode cX11_unsay 4 = .ok (.iconst 0, 1) := by decide +kernel
theorem dX11_unsay_5 : decode cX11_unsay 5 = .ok (.iaload, 1) := by decide +kernel
theorem dX11_unsay_6 : decode cX11_unsay 6 = .ok (.ifCond .ne 6, 3) := by decide +kernel
theorem dX11_unsay_9 : decode cX11_unsay 9 = .ok (.bipush (-2), 2) := by decide +kernel
theorem dX11_unsay_11 : decode cX11_unsay 11 = .ok (.ireturn, 1) := by decide +kernel
theorem dX11_unsay_12 : decode cX11_unsay 12 = .ok (.aload_n 0, 1) := by decide +kernel
theorem dX11_unsay_13 : decode cX11_unsay 13 = .ok (.getfield 20, 3) := by decide +kernel
theorem dX11_unsay_16 : decode cX11_unsay 16 = .ok (.iconst 0, 1) := by decide +kernel
theorem dX11_unsay_17 : decode cX11_unsay 17 = .ok (.dup2, 1) := by decide +kernel
theorem dX11_unsay_18 : decode cX11_unsay 18 = .ok (.iaload, 1) := by decide +kernel
theorem dX11_unsay_19 : decode cX11_unsay 19 = .ok (.iconst 1, 1) := by decide +kernel
theorem dX11_unsay_20 : decode cX11_unsay 20 = .ok (.isub, 1) := by decide +kernel
theorem dX11_unsay_21 : decode cX11_unsay 21 = .ok (.iastore, 1) := by decide +kernel
theorem dX11_unsay_22 : decode cX11_unsay 22 = .ok (.aload_n 0, 1) := by decide +kernel
theorem dX11_unsay_23 : decode cX11_unsay 23 = .ok (.getfield 20, 3) := by decide +kernel
theorem dX11_unsay_26 : decode cX11_unsay 26 = .ok (.iconst 0, 1) := by decide +kernel
theorem dX11_unsay_27 : decode cX11_unsay 27 = .ok (.iaload, 1) := by decide +kernel
theorem dX11_unsay_28 : decode cX11_unsay 28 = .ok (.ireturn, 1) := by decide +kernel
set_option maxRecDepth 20000 in
theorem ggX11_isSet_X11_allSets : GoodIn wsX11_isSet wsX11_allSets := goodIn_r _ [5, 6, 10, 11, 12, 13, 14, 15, 16, 17, 18, 19, 20, 21, 22, 23, 24, 25, 26, 27, 28, 29, 30, 31, 32, 33, 34] (by decide +kernel) (by decide +kernel)
set_option maxRecDepth 20000 in
theorem gX11_isSet_X11_allSets : GoodIn wsX11_isSet (wsV RX11 105 RX11 yX11_allSets wsX11_allSets) := goodIn_app (goodIn_of _ (by decide +kernel)) ggX11_isSet_X11_allSets
set_option maxRecDepth 20000 in
theorem ggX11_isSet_X11_in : GoodIn wsX11_isSet wsX11_in := goodIn_r _ [9] (by decide +kernel) (by decide +kernel)
set_option maxRecDepth 20000 in
theorem gX11_isSet_X11_in : GoodIn wsX11_isSet (va_wsS RX11 55 yX11_in wsX11_in) := goodIn_app (goodIn_of _ (by decide +kernel)) ggX11_isSet_X11_in
theorem dX11_isSet_0 : decode cX11_isSet 0 = .ok (.iload_n 1, 1) := by decide +kernel
theorem dX11_isSet_1 : decode cX11_isSet 1 = .ok (.iconst 0, 1) := by decide +kernel
theorem dX11_isSet_2 : decode cX11_isSet 2 = .ok (.aload_n 0, 1) := by decide +kernel
theorem dX11_isSet_3 : decode cX11_isSet 3 = .ok (.invokevirtual 105, 3) := by decide +kernel
theorem dX11_isSet_6 : decode cX11_isSet 6 = .ok (.invokestatic 55, 3) := by decide +kernel
theorem dX11_isSet_9 : decode cX11_isSet 9 = .ok (.ireturn, 1) := by decide +kernel
set_option maxRecDepth 20000 in
theorem ggX11_word_X11_isSet : GoodIn wsX11_word wsX11_isSet := goodIn_r _ [7, 8, 9, 10, 6, 11, 12, 13, 14, 15, 16, 17, 18, 19, 20, 21, 22, 23, 24, 25, 26, 27, 28, 29, 30, 31, 32, 33, 34, 35, 36, 37, 38, 39, 40] (by decide +kernel) (by decide +kernel)
set_option maxRecDepth 20000 in
theorem gX11_word_X11_isSet : GoodIn wsX11_word (wsV RX11 124 RX11 yX11_isSet wsX11_isSet) := goodIn_app (goodIn_of _ (by decide +kernel)) ggX11_word_X11_isSet
theorem dX11_word_0 : decode cX11_word 0 = .ok (.aload_n 0, 1) := by decide +kernel
theorem dX11_word_1 : decode cX11_word 1 = .ok (.iload_n 1, 1) := by decide +kernel
theorem dX11_word_2 : decode cX11_word 2 = .ok (.invokevirtual 124, 3) := by decide +kernel
theorem dX11_word_5 : decode cX11_word 5 = .ok (.ifCond .ne 5, 3) := by decide +kernel
theorem dX11_word_8 : decode cX11_word 8 = .ok (.iconst (-1), 1) := by decide +kernel
theorem dX11_word_9 : decode cX11_word 9 = .ok (.ireturn, 1) := by decide +kernel
theorem dX11_word_10 : decode cX11_word 10 = .ok (.aload_n 0, 1) := by decide +kernel
theorem dX11_word_11 : decode cX11_word 11 = .ok (.getfield 29, 3) := by decide +kernel
theorem dX11_word_14 : decode cX11_word 14 = .ok (.iconst 0, 1) := by decide +kernel
theorem dX11_word_15 : decode cX11_word 15 = .ok (.iaload, 1) := by decide +kernel
theorem dX11_word_16 : decode cX11_word 16 = .ok (.iconst 3, 1) := by decide +kernel
theorem dX11_word_17 : decode cX11_word 17 = .ok (.if_icmp .ne 6, 3) := by decide +kernel
theorem dX11_word_20 : decode cX11_word 20 = .ok (.bipush (-3), 2) := by decide +kernel
theorem dX11_word_22 : decode cX11_word 22 = .ok (.ireturn, 1) := by decide +kernel
theorem dX11_word_23 : decode cX11_word 23 = .ok (.aload_n 0, 1) := by decide +kernel
theorem dX11_word_24 : decode cX11_word 24 = .ok (.getfield 32, 3) := by decide +kernel
theorem dX11_word_27 : decode cX11_word 27 = .ok (.aload_n 0, 1) := by decide +kernel
theorem dX11_word_28 : decode cX11_word 28 = .ok (.getfield 29, 3) := by decide +kernel
theorem dX11_word_31 : decode cX11_word 31 = .ok (.iconst 0, 1) := by decide +kernel
theorem dX11_word_32 : decode cX11_word 32 = .ok (.iaload, 1) := by decide +kernel
theorem dX11_word_33 : decode cX11_word 33 = .ok (.iload_n 1, 1) := by decide +kernel
theorem dX11_word_34 : decode cX11_word 34 = .ok (.iastore, 1) := by decide +kernel
theorem dX11_word_35 : decode cX11_word 35 = .ok (.aload_n 0, 1) := by decide +kernel
theorem dX11_word_36 : decode cX11_word 36 = .ok (.getfield 29, 3) := by decide +kernel
theorem dX11_word_39 : decode cX11_word 39 = .ok (.iconst 0, 1) := by decide +kernel
theorem dX11_word_40 : decode cX11_word 40 = .ok (.dup2, 1) := by decide +kernel
theorem dX11_word_41 : decode cX11_word 41 = .ok (.iaload, 1) := by decide +kernel
theorem dX11_word_42 : decode cX11_word 42 = .ok (.iconst 1, 1) := by decide +kernel
theorem dX11_word_43 : decode cX11_word 43 = .ok (.iadd, 1) := by decide +kernel
theorem dX11_word_44 : decode cX11_word 44 = .ok (.iastore, 1) := by decide +kernel
theorem dX11_word_45 : decode cX11_word 45 = .ok (.aload_n 0, 1) := by decide +kernel
theorem dX11_word_46 : decode cX11_word 46 = .ok (.getfield 29, 3) := by decide +kernel
theorem dX11_word_49 : decode cX11_word 49 = .ok (.iconst 0, 1) := by decide +kernel
theorem dX11_word_50 : decode cX11_word 50 = .ok (.iaload, 1) := by decide +kernel
theorem dX11_word_51 : decode cX11_word 51 = .ok (.ireturn, 1) := by decide +kernel
theorem dX11_unword_0 : decode cX11_unword 0 = .ok (.aload_n 0, 1) := by decide +kernel
theorem dX11_unword_1 : decode cX11_unword 1 = .ok (.getfield 29, 3) := by decide +kernel
theorem dX11_unword_4 : decode cX11_unword 4 = .ok (.iconst 0, 1) := by decide +kernel
theorem dX11_unword_5 : decode cX11_unword 5 = .ok (.iaload, 1) := by decide +kernel
theorem dX11_unword_6 : decode cX11_unword 6 = .ok (.istore_n 1, 1) := by decide +kernel
theorem dX11_unword_7 : decode cX11_unword 7 = .ok (.aload_n 0, 1) := by decide +kernel
theorem dX11_unword_8 : decode cX11_unword 8 = .ok (.getfield 29, 3) := by decide +kernel
theorem dX11_unword_11 : decode cX11_unword 11 = .ok (.iconst 0, 1) := by decide +kernel
theorem dX11_unword_12 : decode cX11_unword 12 = .ok (.iconst 0, 1) := by decide +kernel
theorem dX11_unword_13 : decode cX11_unword 13 = .ok (.iastore, 1) := by decide +kernel
theorem dX11_unword_14 : decode cX11_unword 14 = .ok (.iload_n 1, 1) := by decide +kernel
theorem dX11_unword_15 : decode cX11_unword 15 = .ok (.ireturn, 1) := by decide +kernel
set_option maxRecDepth 20000 in
theorem ggX11_isSaying_X11_in : GoodIn wsX11_isSaying wsX11_in := goodIn_r _ [5] (by decide +kernel) (by decide +kernel)
set_option maxRecDepth 20000 in
theorem gX11_isSaying_X11_in : GoodIn wsX11_isSaying (va_wsS RX11 55 yX11_in wsX11_in) := goodIn_app (goodIn_of _ (by decide +kernel)) ggX11_isSaying_X11_in
theorem dX11_isSaying_0 : decode cX11_isSaying 0 = .ok (.iload_n 1, 1) := by decide +kernel
theorem dX11_isSaying_1 : decode cX11_isSaying 1 = .ok (.iconst 0, 1) := by decide +kernel
theorem dX11_isSaying_2 : decode cX11_isSaying 2 = .ok (.aload_n 0, 1) := by decide +kernel
theorem dX11_isSaying_3 : decode cX11_isSaying 3 = .ok (.getfield 20, 3) := by decide +kernel
theorem dX11_isSaying_6 : decode cX11_isSaying 6 = .ok (.iconst 0, 1) := by decide +kernel
theorem dX11_isSaying_7 : decode cX11_isSaying 7 = .ok (.iaload, 1) := by decide +kernel
theorem dX11_isSaying_8 : decode cX11_isSaying 8 = .ok (.iconst 1, 1) := by decide +kernel
theorem dX11_isSaying_9 : decode cX11_isSaying 9 = .ok (.isub, 1) := by decide +kernel
theorem dX11_isSaying_10 : decode cX11_isSaying 10 = .ok (.invokestatic 55, 3) := by decide +kernel
theorem dX11_isSaying_13 : decode cX11_isSaying 13 = .ok (.ireturn, 1) := by decide +kernel
set_option maxRecDepth 20000 in
theorem ggX11_saying_X11_isSaying : GoodIn wsX11_saying wsX11_isSaying := goodIn_r _ [7, 8, 9, 10, 6, 11, 12, 13, 14, 15, 16, 17, 18, 19, 20, 21, 22, 23, 24, 25, 26, 27, 28, 29, 30, 31, 32, 33, 34, 35, 36] (by decide +kernel) (by decide +kernel)
set_option maxRecDepth 20000 in
theorem gX11_saying_X11_isSaying : GoodIn wsX11_saying (wsV RX11 128 RX11 yX11_isSaying wsX11_isSaying) := goodIn_app (goodIn_of _ (by decide +kernel)) ggX11_saying_X11_isSaying
set_option maxRecDepth 20000 in
theorem ggX11_saying_X11_in : GoodIn wsX11_saying wsX11_in := goodIn_r _ [11] (by decide +kernel) (by decide +kernel)
set_option maxRecDepth 20000 in
theorem gX11_saying_X11_in : GoodIn wsX11_saying (va_wsS RX11 55 yX11_in wsX11_in) := goodIn_app (goodIn_of _ (by decide +kernel)) ggX11_saying_X11_in
theorem dX11_saying_0 : decode cX11_saying 0 = .ok (.aload_n 0, 1) := by decide +kernel
theorem dX11_saying_1 : decode cX11_saying 1 = .ok (.iload_n 1, 1) := by decide +kernel
theorem dX11_saying_2 : decode cX11_saying 2 = .ok (.invokevirtual 128, 3) := by decide +kernel
theorem dX11_saying_5 : decode cX11_saying 5 = .ok (.ifCond .eq 34, 3) := by decide +kernel
theorem dX11_saying_8 : decode cX11_saying 8 = .ok (.iload_n 2, 1) := by decide +kernel
theorem dX11_saying_9 : decode cX11_saying 9 = .ok (.iconst 0, 1) := by decide +kernel
theorem dX11_saying_10 : decode cX11_saying 10 = .ok (.iconst 1, 1) := by decide +kernel
theorem dX11_saying_11 : decode cX11_saying 11 = .ok (.invokestatic 55, 3) := by decide +kernel
theorem dX11_saying_14 : decode cX11_saying 14 = .ok (.ifCond .eq 25, 3) := by decide +kernel
theorem dX11_saying_17 : decode cX11_saying 17 = .ok (.iload_n 2, 1) := by decide +kernel
theorem dX11_saying_18 : decode cX11_saying 18 = .ok (.ifCond .ne 12, 3) := by decide +kernel
theorem dX11_saying_21 : decode cX11_saying 21 = .ok (.aload_n 0, 1) := by decide +kernel
theorem dX11_saying_22 : decode cX11_saying 22 = .ok (.getfield 23, 3) := by decide +kernel
theorem dX11_saying_25 : decode cX11_saying 25 = .ok (.iload_n 1, 1) := by decide +kernel
theorem dX11_saying_26 : decode cX11_saying 26 = .ok (.iaload, 1) := by decide +kernel
theorem dX11_saying_27 : decode cX11_saying 27 = .ok (.goto 13, 3) := by decide +kernel
theorem dX11_saying_30 : decode cX11_saying 30 = .ok (.aload_n 0, 1) := by decide +kernel
theorem dX11_saying_31 : decode cX11_saying 31 = .ok (.getfield 26, 3) := by decide +kernel
theorem dX11_saying_34 : decode cX11_saying 34 = .ok (.iload_n 1, 1) := by decide +kernel
theorem dX11_saying_35 : decode cX11_saying 35 = .ok (.iaload, 1) := by decide +kernel
theorem dX11_saying_36 : decode cX11_saying 36 = .ok (.goto 4, 3) := by decide +kernel
theorem dX11_saying_39 : decode cX11_saying 39 = .ok (.iconst (-1), 1) := by decide +kernel
theorem dX11_saying_40 : decode cX11_saying 40 = .ok (.ireturn, 1) := by decide +kernel
set_option maxRecDepth 20000 in
theorem ggX11_alike_X11_isSaying : GoodIn wsX11_alike wsX11_isSaying := goodIn_r _ [6, 7, 8, 9, 5, 10, 11, 12, 13, 14, 15, 16, 17, 18, 19, 20, 21, 22, 23, 24, 25, 26, 27, 28, 29, 30, 31, 32, 33, 34, 35] (by decide +kernel) (by decide +kernel)
set_option maxRecDepth 20000 in
theorem gX11_alike_X11_isSaying : GoodIn wsX11_alike (wsV RX11 128 RX11 yX11_isSaying wsX11_isSaying) := goodIn_app (goodIn_of _ (by decide +kernel)) ggX11_alike_X11_isSaying
theorem dX11_alike_0 : decode cX11_alike 0 = .ok (.aload_n 0, 1) := by decide +kernel
theorem dX11_alike_1 : decode cX11_alike 1 = .ok (.iload_n 1, 1) := by decide +kernel
theorem dX11_alike_2 : decode cX11_alike 2 = .ok (.invokevirtual 128, 3) := by decide +kernel
theorem dX11_alike_5 : decode cX11_alike 5 = .ok (.ifCond .eq 34, 3) := by decide +kernel
theorem dX11_alike_8 : decode cX11_alike 8 = .ok (.aload_n 0, 1) := by decide +kernel
theorem dX11_alike_9 : decode cX11_alike 9 = .ok (.iload_n 2, 1) := by decide +kernel
theorem dX11_alike_10 : decode cX11_alike 10 = .ok (.invokevirtual 128, 3) := by decide +kernel
theorem dX11_alike_13 : decode cX11_alike 13 = .ok (.ifCond .eq 26, 3) := by decide +kernel
theorem dX11_alike_16 : decode cX11_alike 16 = .ok (.aload_n 0, 1) := by decide +kernel
theorem dX11_alike_17 : decode cX11_alike 17 = .ok (.getfield 23, 3) := by decide +kernel
theorem dX11_alike_20 : decode cX11_alike 20 = .ok (.iload_n 1, 1) := by decide +kernel
theorem dX11_alike_21 : decode cX11_alike 21 = .ok (.iaload, 1) := by decide +kernel
theorem dX11_alike_22 : decode cX11_alike 22 = .ok (.aload_n 0, 1) := by decide +kernel
theorem dX11_alike_23 : decode cX11_alike 23 = .ok (.getfield 23, 3) := by decide +kernel
theorem dX11_alike_26 : decode cX11_alike 26 = .ok (.iload_n 2, 1) := by decide +kernel
theorem dX11_alike_27 : decode cX11_alike 27 = .ok (.iaload, 1) := by decide +kernel
theorem dX11_alike_28 : decode cX11_alike 28 = .ok (.if_icmp .ne 7, 3) := by decide +kernel
theorem dX11_alike_31 : decode cX11_alike 31 = .ok (.iconst 1, 1) := by decide +kernel
theorem dX11_alike_32 : decode cX11_alike 32 = .ok (.goto 8, 3) := by decide +kernel
theorem dX11_alike_35 : decode cX11_alike 35 = .ok (.iconst 0, 1) := by decide +kernel
theorem dX11_alike_36 : decode cX11_alike 36 = .ok (.goto 4, 3) := by decide +kernel
theorem dX11_alike_39 : decode cX11_alike 39 = .ok (.iconst (-1), 1) := by decide +kernel
theorem dX11_alike_40 : decode cX11_alike 40 = .ok (.ireturn, 1) := by decide +kernel
