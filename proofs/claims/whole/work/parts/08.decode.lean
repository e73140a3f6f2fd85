theorem dX11_find_0 : decode cX11_find 0 = .ok (.aload_n 0, 1) := by decide +kernel
theorem dX11_find_1 : decode cX11_find 1 = .ok (.getfield 45, 3) := by decide +kernel
theorem dX11_find_4 : decode cX11_find 4 = .ok (.iload_n 1, 1) := by decide +kernel
theorem dX11_find_5 : decode cX11_find 5 = .ok (.iaload, 1) := by decide +kernel
theorem dX11_find_6 : decode cX11_find 6 = .ok (.ifCond .ne 30, 3) := by decide +kernel
theorem dX11_find_9 : decode cX11_find 9 = .ok (.aload_n 0, 1) := by decide +kernel
theorem dX11_find_10 : decode cX11_find 10 = .ok (.getfield 45, 3) := by decide +kernel
theorem dX11_find_13 : decode cX11_find 13 = .ok (.iload_n 1, 1) := by decide +kernel
theorem dX11_find_14 : decode cX11_find 14 = .ok (.iload_n 2, 1) := by decide +kernel
theorem dX11_find_15 : decode cX11_find 15 = .ok (.iastore, 1) := by decide +kernel
theorem dX11_find_16 : decode cX11_find 16 = .ok (.aload_n 0, 1) := by decide +kernel
theorem dX11_find_17 : decode cX11_find 17 = .ok (.getfield 48, 3) := by decide +kernel
theorem dX11_find_20 : decode cX11_find 20 = .ok (.aload_n 0, 1) := by decide +kernel
theorem dX11_find_21 : decode cX11_find 21 = .ok (.getfield 131, 3) := by decide +kernel
theorem dX11_find_24 : decode cX11_find 24 = .ok (.iload_n 1, 1) := by decide +kernel
theorem dX11_find_25 : decode cX11_find 25 = .ok (.iastore, 1) := by decide +kernel
theorem dX11_find_26 : decode cX11_find 26 = .ok (.aload_n 0, 1) := by decide +kernel
theorem dX11_find_27 : decode cX11_find 27 = .ok (.dup, 1) := by decide +kernel
theorem dX11_find_28 : decode cX11_find 28 = .ok (.getfield 131, 3) := by decide +kernel
theorem dX11_find_31 : decode cX11_find 31 = .ok (.iconst 1, 1) := by decide +kernel
theorem dX11_find_32 : decode cX11_find 32 = .ok (.iadd, 1) := by decide +kernel
theorem dX11_find_33 : decode cX11_find 33 = .ok (.putfield 131, 3) := by decide +kernel
theorem dX11_find_36 : decode cX11_find 36 = .ok (.return_, 1) := by decide +kernel
set_option maxRecDepth 20000 in
theorem ggX11_findAll_X11_worldsOf : GoodIn wsX11_findAll wsX11_worldsOf := goodIn_r _ [12, 13, 14, 15, 16, 11, 17, 4, 22, 23, 24, 25, 26, 27, 28, 29, 30, 31, 32, 33, 34, 35, 36, 37, 38, 39, 40, 41, 42, 43, 44, 45, 46] (by decide +kernel) (by decide +kernel)
set_option maxRecDepth 20000 in
theorem gX11_findAll_X11_worldsOf : GoodIn wsX11_findAll (wsV RX11 112 RX11 yX11_worldsOf wsX11_worldsOf) := goodIn_app (goodIn_of _ (by decide +kernel)) ggX11_findAll_X11_worldsOf
set_option maxRecDepth 20000 in
theorem ggX11_findAll_X11_find : GoodIn wsX11_findAll wsX11_find := goodIn_r _ [21, 1, 7, 2, 22, 23, 24, 25, 26, 27, 28, 29, 30, 31, 32, 33, 34, 35, 36, 37, 38, 39, 40, 41, 42, 43, 44, 45, 46] (by decide +kernel) (by decide +kernel)
set_option maxRecDepth 20000 in
theorem gX11_findAll_X11_find : GoodIn wsX11_findAll (wsV RX11 134 RX11 yX11_find wsX11_find) := goodIn_app (goodIn_of _ (by decide +kernel)) ggX11_findAll_X11_find
theorem dX11_findAll_0 : decode cX11_findAll 0 = .ok (.iconst 0, 1) := by decide +kernel
theorem dX11_findAll_1 : decode cX11_findAll 1 = .ok (.istore_n 2, 1) := by decide +kernel
theorem dX11_findAll_2 : decode cX11_findAll 2 = .ok (.iload_n 2, 1) := by decide +kernel
theorem dX11_findAll_3 : decode cX11_findAll 3 = .ok (.sipush 512, 3) := by decide +kernel
theorem dX11_findAll_6 : decode cX11_findAll 6 = .ok (.if_icmp .ge 16, 3) := by decide +kernel
theorem dX11_findAll_9 : decode cX11_findAll 9 = .ok (.aload_n 0, 1) := by decide +kernel
theorem dX11_findAll_10 : decode cX11_findAll 10 = .ok (.getfield 45, 3) := by decide +kernel
theorem dX11_findAll_13 : decode cX11_findAll 13 = .ok (.iload_n 2, 1) := by decide +kernel
theorem dX11_findAll_14 : decode cX11_findAll 14 = .ok (.iconst 0, 1) := by decide +kernel
theorem dX11_findAll_15 : decode cX11_findAll 15 = .ok (.iastore, 1) := by decide +kernel
theorem dX11_findAll_16 : decode cX11_findAll 16 = .ok (.iinc 2 1, 3) := by decide +kernel
theorem dX11_findAll_19 : decode cX11_findAll 19 = .ok (.goto (-17), 3) := by decide +kernel
theorem dX11_findAll_22 : decode cX11_findAll 22 = .ok (.aload_n 0, 1) := by decide +kernel
theorem dX11_findAll_23 : decode cX11_findAll 23 = .ok (.iconst 0, 1) := by decide +kernel
theorem dX11_findAll_24 : decode cX11_findAll 24 = .ok (.putfield 131, 3) := by decide +kernel
theorem dX11_findAll_27 : decode cX11_findAll 27 = .ok (.iconst 0, 1) := by decide +kernel
theorem dX11_findAll_28 : decode cX11_findAll 28 = .ok (.istore_n 2, 1) := by decide +kernel
theorem dX11_findAll_29 : decode cX11_findAll 29 = .ok (.iload_n 2, 1) := by decide +kernel
theorem dX11_findAll_30 : decode cX11_findAll 30 = .ok (.aload_n 0, 1) := by decide +kernel
theorem dX11_findAll_31 : decode cX11_findAll 31 = .ok (.getfield 95, 3) := by decide +kernel
theorem dX11_findAll_34 : decode cX11_findAll 34 = .ok (.if_icmp .ge 38, 3) := by decide +kernel
theorem dX11_findAll_37 : decode cX11_findAll 37 = .ok (.iconst 0, 1) := by decide +kernel
theorem dX11_findAll_38 : decode cX11_findAll 38 = .ok (.istore_n 3, 1) := by decide +kernel
theorem dX11_findAll_39 : decode cX11_findAll 39 = .ok (.iload_n 3, 1) := by decide +kernel
theorem dX11_findAll_40 : decode cX11_findAll 40 = .ok (.aload_n 0, 1) := by decide +kernel
theorem dX11_findAll_41 : decode cX11_findAll 41 = .ok (.getfield 13, 3) := by decide +kernel
theorem dX11_findAll_44 : decode cX11_findAll 44 = .ok (.iload_n 2, 1) := by decide +kernel
theorem dX11_findAll_45 : decode cX11_findAll 45 = .ok (.iaload, 1) := by decide +kernel
theorem dX11_findAll_46 : decode cX11_findAll 46 = .ok (.if_icmp .ge 20, 3) := by decide +kernel
theorem dX11_findAll_49 : decode cX11_findAll 49 = .ok (.aload_n 0, 1) := by decide +kernel
theorem dX11_findAll_50 : decode cX11_findAll 50 = .ok (.aload_n 0, 1) := by decide +kernel
theorem dX11_findAll_51 : decode cX11_findAll 51 = .ok (.iload_n 2, 1) := by decide +kernel
theorem dX11_findAll_52 : decode cX11_findAll 52 = .ok (.iload_n 3, 1) := by decide +kernel
theorem dX11_findAll_53 : decode cX11_findAll 53 = .ok (.invokevirtual 112, 3) := by decide +kernel
theorem dX11_findAll_56 : decode cX11_findAll 56 = .ok (.iconst 1, 1) := by decide +kernel
theorem dX11_findAll_57 : decode cX11_findAll 57 = .ok (.invokevirtual 134, 3) := by decide +kernel
theorem dX11_findAll_60 : decode cX11_findAll 60 = .ok (.iinc 3 1, 3) := by decide +kernel
theorem dX11_findAll_63 : decode cX11_findAll 63 = .ok (.goto (-24), 3) := by decide +kernel
theorem dX11_findAll_66 : decode cX11_findAll 66 = .ok (.iinc 2 1, 3) := by decide +kernel
theorem dX11_findAll_69 : decode cX11_findAll 69 = .ok (.goto (-40), 3) := by decide +kernel
theorem dX11_findAll_72 : decode cX11_findAll 72 = .ok (.iconst 0, 1) := by decide +kernel
theorem dX11_findAll_73 : decode cX11_findAll 73 = .ok (.istore_n 2, 1) := by decide +kernel
theorem dX11_findAll_74 : decode cX11_findAll 74 = .ok (.iload_n 2, 1) := by decide +kernel
theorem dX11_findAll_75 : decode cX11_findAll 75 = .ok (.aload_n 0, 1) := by decide +kernel
theorem dX11_findAll_76 : decode cX11_findAll 76 = .ok (.getfield 29, 3) := by decide +kernel
theorem dX11_findAll_79 : decode cX11_findAll 79 = .ok (.iconst 0, 1) := by decide +kernel
theorem dX11_findAll_80 : decode cX11_findAll 80 = .ok (.iaload, 1) := by decide +kernel
theorem dX11_findAll_81 : decode cX11_findAll 81 = .ok (.if_icmp .ge 20, 3) := by decide +kernel
theorem dX11_findAll_84 : decode cX11_findAll 84 = .ok (.aload_n 0, 1) := by decide +kernel
theorem dX11_findAll_85 : decode cX11_findAll 85 = .ok (.aload_n 0, 1) := by decide +kernel
theorem dX11_findAll_86 : decode cX11_findAll 86 = .ok (.getfield 32, 3) := by decide +kernel
theorem dX11_findAll_89 : decode cX11_findAll 89 = .ok (.iload_n 2, 1) := by decide +kernel
theorem dX11_findAll_90 : decode cX11_findAll 90 = .ok (.iaload, 1) := by decide +kernel
theorem dX11_findAll_91 : decode cX11_findAll 91 = .ok (.iconst 1, 1) := by decide +kernel
theorem dX11_findAll_92 : decode cX11_findAll 92 = .ok (.invokevirtual 134, 3) := by decide +kernel
theorem dX11_findAll_95 : decode cX11_findAll 95 = .ok (.iinc 2 1, 3) := by decide +kernel
theorem dX11_findAll_98 : decode cX11_findAll 98 = .ok (.goto (-24), 3) := by decide +kernel
theorem dX11_findAll_101 : decode cX11_findAll 101 = .ok (.iload_n 1, 1) := by decide +kernel
theorem dX11_findAll_102 : decode cX11_findAll 102 = .ok (.ifCond .lt 9, 3) := by decide +kernel
theorem dX11_findAll_105 : decode cX11_findAll 105 = .ok (.aload_n 0, 1) := by decide +kernel
theorem dX11_findAll_106 : decode cX11_findAll 106 = .ok (.iload_n 1, 1) := by decide +kernel
theorem dX11_findAll_107 : decode cX11_findAll 107 = .ok (.iconst 1, 1) := by decide +kernel
theorem dX11_findAll_108 : decode cX11_findAll 108 = .ok (.invokevirtual 134, 3) := by decide +kernel
theorem dX11_findAll_111 : decode cX11_findAll 111 = .ok (.iconst 2, 1) := by decide +kernel
theorem dX11_findAll_112 : decode cX11_findAll 112 = .ok (.istore_n 2, 1) := by decide +kernel
theorem dX11_findAll_113 : decode cX11_findAll 113 = .ok (.aload_n 0, 1) := by decide +kernel
theorem dX11_findAll_114 : decode cX11_findAll 114 = .ok (.getfield 131, 3) := by decide +kernel
theorem dX11_findAll_117 : decode cX11_findAll 117 = .ok (.ifCond .le 136, 3) := by decide +kernel
theorem dX11_findAll_120 : decode cX11_findAll 120 = .ok (.iload_n 2, 1) := by decide +kernel
theorem dX11_findAll_121 : decode cX11_findAll 121 = .ok (.iconst 2, 1) := by decide +kernel
theorem dX11_findAll_122 : decode cX11_findAll 122 = .ok (.aload_n 0, 1) := by decide +kernel
theorem dX11_findAll_123 : decode cX11_findAll 123 = .ok (.getfield 45, 3) := by decide +kernel
theorem dX11_findAll_126 : decode cX11_findAll 126 = .ok (.aload_n 0, 1) := by decide +kernel
theorem dX11_findAll_127 : decode cX11_findAll 127 = .ok (.getfield 48, 3) := by decide +kernel
theorem dX11_findAll_130 : decode cX11_findAll 130 = .ok (.aload_n 0, 1) := by decide +kernel
theorem dX11_findAll_131 : decode cX11_findAll 131 = .ok (.getfield 131, 3) := by decide +kernel
theorem dX11_findAll_134 : decode cX11_findAll 134 = .ok (.iconst 1, 1) := by decide +kernel
theorem dX11_findAll_135 : decode cX11_findAll 135 = .ok (.isub, 1) := by decide +kernel
theorem dX11_findAll_136 : decode cX11_findAll 136 = .ok (.iaload, 1) := by decide +kernel
theorem dX11_findAll_137 : decode cX11_findAll 137 = .ok (.iaload, 1) := by decide +kernel
theorem dX11_findAll_138 : decode cX11_findAll 138 = .ok (.imul, 1) := by decide +kernel
theorem dX11_findAll_139 : decode cX11_findAll 139 = .ok (.if_icmp .gt 114, 3) := by decide +kernel
theorem dX11_findAll_142 : decode cX11_findAll 142 = .ok (.aload_n 0, 1) := by decide +kernel
theorem dX11_findAll_143 : decode cX11_findAll 143 = .ok (.getfield 131, 3) := by decide +kernel
theorem dX11_findAll_146 : decode cX11_findAll 146 = .ok (.istore_n 3, 1) := by decide +kernel
theorem dX11_findAll_147 : decode cX11_findAll 147 = .ok (.iconst 0, 1) := by decide +kernel
theorem dX11_findAll_148 : decode cX11_findAll 148 = .ok (.istore 4, 2) := by decide +kernel
theorem dX11_findAll_150 : decode cX11_findAll 150 = .ok (.iload 4, 2) := by decide +kernel
theorem dX11_findAll_152 : decode cX11_findAll 152 = .ok (.iload_n 3, 1) := by decide +kernel
theorem dX11_findAll_153 : decode cX11_findAll 153 = .ok (.if_icmp .ge 94, 3) := by decide +kernel
theorem dX11_findAll_156 : decode cX11_findAll 156 = .ok (.iconst 0, 1) := by decide +kernel
theorem dX11_findAll_157 : decode cX11_findAll 157 = .ok (.istore 5, 2) := by decide +kernel
theorem dX11_findAll_159 : decode cX11_findAll 159 = .ok (.iload 5, 2) := by decide +kernel
theorem dX11_findAll_161 : decode cX11_findAll 161 = .ok (.iload 4, 2) := by decide +kernel
theorem dX11_findAll_163 : decode cX11_findAll 163 = .ok (.if_icmp .gt 78, 3) := by decide +kernel
theorem dX11_findAll_166 : decode cX11_findAll 166 = .ok (.aload_n 0, 1) := by decide +kernel
theorem dX11_findAll_167 : decode cX11_findAll 167 = .ok (.getfield 45, 3) := by decide +kernel
theorem dX11_findAll_170 : decode cX11_findAll 170 = .ok (.aload_n 0, 1) := by decide +kernel
theorem dX11_findAll_171 : decode cX11_findAll 171 = .ok (.getfield 48, 3) := by decide +kernel
theorem dX11_findAll_174 : decode cX11_findAll 174 = .ok (.iload 4, 2) := by decide +kernel
theorem dX11_findAll_176 : decode cX11_findAll 176 = .ok (.iaload, 1) := by decide +kernel
theorem dX11_findAll_177 : decode cX11_findAll 177 = .ok (.iaload, 1) := by decide +kernel
theorem dX11_findAll_178 : decode cX11_findAll 178 = .ok (.aload_n 0, 1) := by decide +kernel
theorem dX11_findAll_179 : decode cX11_findAll 179 = .ok (.getfield 45, 3) := by decide +kernel
theorem dX11_findAll_182 : decode cX11_findAll 182 = .ok (.aload_n 0, 1) := by decide +kernel
theorem dX11_findAll_183 : decode cX11_findAll 183 = .ok (.getfield 48, 3) := by decide +kernel
theorem dX11_findAll_186 : decode cX11_findAll 186 = .ok (.iload 5, 2) := by decide +kernel
theorem dX11_findAll_188 : decode cX11_findAll 188 = .ok (.iaload, 1) := by decide +kernel
theorem dX11_findAll_189 : decode cX11_findAll 189 = .ok (.iaload, 1) := by decide +kernel
theorem dX11_findAll_190 : decode cX11_findAll 190 = .ok (.iadd, 1) := by decide +kernel
theorem dX11_findAll_191 : decode cX11_findAll 191 = .ok (.iload_n 2, 1) := by decide +kernel
theorem dX11_findAll_192 : decode cX11_findAll 192 = .ok (.if_icmp .ne 43, 3) := by decide +kernel
theorem dX11_findAll_195 : decode cX11_findAll 195 = .ok (.aload_n 0, 1) := by decide +kernel
theorem dX11_findAll_196 : decode cX11_findAll 196 = .ok (.aload_n 0, 1) := by decide +kernel
theorem dX11_findAll_197 : decode cX11_findAll 197 = .ok (.getfield 48, 3) := by decide +kernel
theorem dX11_findAll_200 : decode cX11_findAll 200 = .ok (.iload 4, 2) := by decide +kernel
theorem dX11_findAll_202 : decode cX11_findAll 202 = .ok (.iaload, 1) := by decide +kernel
theorem dX11_findAll_203 : decode cX11_findAll 203 = .ok (.aload_n 0, 1) := by decide +kernel
theorem dX11_findAll_204 : decode cX11_findAll 204 = .ok (.getfield 48, 3) := by decide +kernel
theorem dX11_findAll_207 : decode cX11_findAll 207 = .ok (.iload 5, 2) := by decide +kernel
theorem dX11_findAll_209 : decode cX11_findAll 209 = .ok (.iaload, 1) := by decide +kernel
theorem dX11_findAll_210 : decode cX11_findAll 210 = .ok (.iand, 1) := by decide +kernel
theorem dX11_findAll_211 : decode cX11_findAll 211 = .ok (.iload_n 2, 1) := by decide +kernel
theorem dX11_findAll_212 : decode cX11_findAll 212 = .ok (.invokevirtual 134, 3) := by decide +kernel
theorem dX11_findAll_215 : decode cX11_findAll 215 = .ok (.aload_n 0, 1) := by decide +kernel
theorem dX11_findAll_216 : decode cX11_findAll 216 = .ok (.aload_n 0, 1) := by decide +kernel
theorem dX11_findAll_217 : decode cX11_findAll 217 = .ok (.getfield 48, 3) := by decide +kernel
theorem dX11_findAll_220 : decode cX11_findAll 220 = .ok (.iload 4, 2) := by decide +kernel
theorem dX11_findAll_222 : decode cX11_findAll 222 = .ok (.iaload, 1) := by decide +kernel
theorem dX11_findAll_223 : decode cX11_findAll 223 = .ok (.aload_n 0, 1) := by decide +kernel
theorem dX11_findAll_224 : decode cX11_findAll 224 = .ok (.getfield 48, 3) := by decide +kernel
theorem dX11_findAll_227 : decode cX11_findAll 227 = .ok (.iload 5, 2) := by decide +kernel
theorem dX11_findAll_229 : decode cX11_findAll 229 = .ok (.iaload, 1) := by decide +kernel
theorem dX11_findAll_230 : decode cX11_findAll 230 = .ok (.ior, 1) := by decide +kernel
theorem dX11_findAll_231 : decode cX11_findAll 231 = .ok (.iload_n 2, 1) := by decide +kernel
theorem dX11_findAll_232 : decode cX11_findAll 232 = .ok (.invokevirtual 134, 3) := by decide +kernel
theorem dX11_findAll_235 : decode cX11_findAll 235 = .ok (.iinc 5 1, 3) := by decide +kernel
theorem dX11_findAll_238 : decode cX11_findAll 238 = .ok (.goto (-79), 3) := by decide +kernel
theorem dX11_findAll_241 : decode cX11_findAll 241 = .ok (.iinc 4 1, 3) := by decide +kernel
theorem dX11_findAll_244 : decode cX11_findAll 244 = .ok (.goto (-94), 3) := by decide +kernel
theorem dX11_findAll_247 : decode cX11_findAll 247 = .ok (.iinc 2 1, 3) := by decide +kernel
theorem dX11_findAll_250 : decode cX11_findAll 250 = .ok (.goto (-137), 3) := by decide +kernel
theorem dX11_findAll_253 : decode cX11_findAll 253 = .ok (.return_, 1) := by decide +kernel
theorem dX11_lengthOf_0 : decode cX11_lengthOf 0 = .ok (.aload_n 0, 1) := by decide +kernel
theorem dX11_lengthOf_1 : decode cX11_lengthOf 1 = .ok (.getfield 45, 3) := by decide +kernel
theorem dX11_lengthOf_4 : decode cX11_lengthOf 4 = .ok (.iload_n 1, 1) := by decide +kernel
theorem dX11_lengthOf_5 : decode cX11_lengthOf 5 = .ok (.iaload, 1) := by decide +kernel
theorem dX11_lengthOf_6 : decode cX11_lengthOf 6 = .ok (.ifCond .ne 8, 3) := by decide +kernel
theorem dX11_lengthOf_9 : decode cX11_lengthOf 9 = .ok (.bipush (-9), 2) := by decide +kernel
theorem dX11_lengthOf_11 : decode cX11_lengthOf 11 = .ok (.goto 9, 3) := by decide +kernel
theorem dX11_lengthOf_14 : decode cX11_lengthOf 14 = .ok (.aload_n 0, 1) := by decide +kernel
theorem dX11_lengthOf_15 : decode cX11_lengthOf 15 = .ok (.getfield 45, 3) := by decide +kernel
theorem dX11_lengthOf_18 : decode cX11_lengthOf 18 = .ok (.iload_n 1, 1) := by decide +kernel
theorem dX11_lengthOf_19 : decode cX11_lengthOf 19 = .ok (.iaload, 1) := by decide +kernel
theorem dX11_lengthOf_20 : decode cX11_lengthOf 20 = .ok (.ireturn, 1) := by decide +kernel
set_option maxRecDepth 20000 in
theorem ggX11_shortest_X11_isSet : GoodIn wsX11_shortest wsX11_isSet := goodIn_r _ [5, 6, 7, 8, 4, 9, 10, 11, 12, 13, 41, 42, 43, 44, 45, 46, 47, 48, 49, 50, 51, 52, 53, 54, 55, 56, 57, 58, 59, 60, 61, 62, 63, 64, 65] (by decide +kernel) (by decide +kernel)
set_option maxRecDepth 20000 in
theorem gX11_shortest_X11_isSet : GoodIn wsX11_shortest (wsV RX11 124 RX11 yX11_isSet wsX11_isSet) := goodIn_app (goodIn_of _ (by decide +kernel)) ggX11_shortest_X11_isSet
set_option maxRecDepth 20000 in
theorem ggX11_shortest_X11_findAll : GoodIn wsX11_shortest wsX11_findAll := goodIn_r _ [17, 18, 19, 20, 21, 22, 23, 24, 25, 26, 27, 4, 28, 10, 29, 30, 31, 32, 33, 34, 35, 36, 41, 42, 43, 44, 45, 46, 47, 48, 49, 50, 51, 52, 53, 54, 55, 56, 57, 58, 59, 60, 61, 62, 63, 64, 65] (by decide +kernel) (by decide +kernel)
set_option maxRecDepth 20000 in
theorem gX11_shortest_X11_findAll : GoodIn wsX11_shortest (wsV RX11 138 RX11 yX11_findAll wsX11_findAll) := goodIn_app (goodIn_of _ (by decide +kernel)) ggX11_shortest_X11_findAll
set_option maxRecDepth 20000 in
theorem ggX11_shortest_X11_lengthOf : GoodIn wsX11_shortest wsX11_lengthOf := goodIn_r _ [40, 18, 41, 42, 43, 44, 45, 46, 47, 48, 49, 50, 51, 52, 53, 54, 55, 56, 57, 58, 59, 60, 61, 62, 63, 64, 65] (by decide +kernel) (by decide +kernel)
set_option maxRecDepth 20000 in
theorem gX11_shortest_X11_lengthOf : GoodIn wsX11_shortest (wsV RX11 141 RX11 yX11_lengthOf wsX11_lengthOf) := goodIn_app (goodIn_of _ (by decide +kernel)) ggX11_shortest_X11_lengthOf
theorem dX11_shortest_0 : decode cX11_shortest 0 = .ok (.aload_n 0, 1) := by decide +kernel
theorem dX11_shortest_1 : decode cX11_shortest 1 = .ok (.iload_n 1, 1) := by decide +kernel
theorem dX11_shortest_2 : decode cX11_shortest 2 = .ok (.invokevirtual 124, 3) := by decide +kernel
theorem dX11_shortest_5 : decode cX11_shortest 5 = .ok (.ifCond .ne 5, 3) := by decide +kernel
theorem dX11_shortest_8 : decode cX11_shortest 8 = .ok (.iconst (-1), 1) := by decide +kernel
theorem dX11_shortest_9 : decode cX11_shortest 9 = .ok (.ireturn, 1) := by decide +kernel
theorem dX11_shortest_10 : decode cX11_shortest 10 = .ok (.aload_n 0, 1) := by decide +kernel
theorem dX11_shortest_11 : decode cX11_shortest 11 = .ok (.iconst (-1), 1) := by decide +kernel
theorem dX11_shortest_12 : decode cX11_shortest 12 = .ok (.invokevirtual 138, 3) := by decide +kernel
theorem dX11_shortest_15 : decode cX11_shortest 15 = .ok (.aload_n 0, 1) := by decide +kernel
theorem dX11_shortest_16 : decode cX11_shortest 16 = .ok (.iload_n 1, 1) := by decide +kernel
theorem dX11_shortest_17 : decode cX11_shortest 17 = .ok (.invokevirtual 141, 3) := by decide +kernel
theorem dX11_shortest_20 : decode cX11_shortest 20 = .ok (.ireturn, 1) := by decide +kernel
set_option maxRecDepth 20000 in
theorem ggX11_signBy_X11_worldsOf : GoodIn wsX11_signBy wsX11_worldsOf := goodIn_r _ [8, 9, 10, 11, 12, 7, 13, 2, 14, 15, 16, 17, 18, 19, 20, 21, 22, 23, 24, 25, 26, 27, 28, 29, 30, 31, 32, 33, 34, 35, 36, 37, 38] (by decide +kernel) (by decide +kernel)
set_option maxRecDepth 20000 in
theorem gX11_signBy_X11_worldsOf : GoodIn wsX11_signBy (wsV RX11 112 RX11 yX11_worldsOf wsX11_worldsOf) := goodIn_app (goodIn_of _ (by decide +kernel)) ggX11_signBy_X11_worldsOf
theorem dX11_signBy_0 : decode cX11_signBy 0 = .ok (.iconst 0, 1) := by decide +kernel
theorem dX11_signBy_1 : decode cX11_signBy 1 = .ok (.istore_n 2, 1) := by decide +kernel
theorem dX11_signBy_2 : decode cX11_signBy 2 = .ok (.iload_n 2, 1) := by decide +kernel
theorem dX11_signBy_3 : decode cX11_signBy 3 = .ok (.aload_n 0, 1) := by decide +kernel
theorem dX11_signBy_4 : decode cX11_signBy 4 = .ok (.getfield 95, 3) := by decide +kernel
theorem dX11_signBy_7 : decode cX11_signBy 7 = .ok (.if_icmp .ge 44, 3) := by decide +kernel
theorem dX11_signBy_10 : decode cX11_signBy 10 = .ok (.iconst 0, 1) := by decide +kernel
theorem dX11_signBy_11 : decode cX11_signBy 11 = .ok (.istore_n 3, 1) := by decide +kernel
theorem dX11_signBy_12 : decode cX11_signBy 12 = .ok (.iload_n 3, 1) := by decide +kernel
theorem dX11_signBy_13 : decode cX11_signBy 13 = .ok (.aload_n 0, 1) := by decide +kernel
theorem dX11_signBy_14 : decode cX11_signBy 14 = .ok (.getfield 13, 3) := by decide +kernel
theorem dX11_signBy_17 : decode cX11_signBy 17 = .ok (.iload_n 2, 1) := by decide +kernel
theorem dX11_signBy_18 : decode cX11_signBy 18 = .ok (.iaload, 1) := by decide +kernel
theorem dX11_signBy_19 : decode cX11_signBy 19 = .ok (.if_icmp .ge 26, 3) := by decide +kernel
theorem dX11_signBy_22 : decode cX11_signBy 22 = .ok (.aload_n 0, 1) := by decide +kernel
theorem dX11_signBy_23 : decode cX11_signBy 23 = .ok (.iload_n 2, 1) := by decide +kernel
theorem dX11_signBy_24 : decode cX11_signBy 24 = .ok (.iload_n 3, 1) := by decide +kernel
theorem dX11_signBy_25 : decode cX11_signBy 25 = .ok (.invokevirtual 112, 3) := by decide +kernel
theorem dX11_signBy_28 : decode cX11_signBy 28 = .ok (.iload_n 1, 1) := by decide +kernel
theorem dX11_signBy_29 : decode cX11_signBy 29 = .ok (.if_icmp .ne 10, 3) := by decide +kernel
theorem dX11_signBy_32 : decode cX11_signBy 32 = .ok (.bipush 10, 2) := by decide +kernel
theorem dX11_signBy_34 : decode cX11_signBy 34 = .ok (.iload_n 2, 1) := by decide +kernel
theorem dX11_signBy_35 : decode cX11_signBy 35 = .ok (.imul, 1) := by decide +kernel
theorem dX11_signBy_36 : decode cX11_signBy 36 = .ok (.iload_n 3, 1) := by decide +kernel
theorem dX11_signBy_37 : decode cX11_signBy 37 = .ok (.iadd, 1) := by decide +kernel
theorem dX11_signBy_38 : decode cX11_signBy 38 = .ok (.ireturn, 1) := by decide +kernel
theorem dX11_signBy_39 : decode cX11_signBy 39 = .ok (.iinc 3 1, 3) := by decide +kernel
theorem dX11_signBy_42 : decode cX11_signBy 42 = .ok (.goto (-30), 3) := by decide +kernel
theorem dX11_signBy_45 : decode cX11_signBy 45 = .ok (.iinc 2 1, 3) := by decide +kernel
theorem dX11_signBy_48 : decode cX11_signBy 48 = .ok (.goto (-46), 3) := by decide +kernel
theorem dX11_signBy_51 : decode cX11_signBy 51 = .ok (.iconst 0, 1) := by decide +kernel
theorem dX11_signBy_52 : decode cX11_signBy 52 = .ok (.istore_n 2, 1) := by decide +kernel
theorem dX11_signBy_53 : decode cX11_signBy 53 = .ok (.aload_n 0, 1) := by decide +kernel
theorem dX11_signBy_54 : decode cX11_signBy 54 = .ok (.getfield 32, 3) := by decide +kernel
theorem dX11_signBy_57 : decode cX11_signBy 57 = .ok (.iload_n 2, 1) := by decide +kernel
theorem dX11_signBy_58 : decode cX11_signBy 58 = .ok (.iaload, 1) := by decide +kernel
theorem dX11_signBy_59 : decode cX11_signBy 59 = .ok (.iload_n 1, 1) := by decide +kernel
theorem dX11_signBy_60 : decode cX11_signBy 60 = .ok (.if_icmp .eq 9, 3) := by decide +kernel
theorem dX11_signBy_63 : decode cX11_signBy 63 = .ok (.iinc 2 1, 3) := by decide +kernel
theorem dX11_signBy_66 : decode cX11_signBy 66 = .ok (.goto (-13), 3) := by decide +kernel
theorem dX11_signBy_69 : decode cX11_signBy 69 = .ok (.bipush 30, 2) := by decide +kernel
theorem dX11_signBy_71 : decode cX11_signBy 71 = .ok (.iload_n 2, 1) := by decide +kernel
theorem dX11_signBy_72 : decode cX11_signBy 72 = .ok (.iadd, 1) := by decide +kernel
theorem dX11_signBy_73 : decode cX11_signBy 73 = .ok (.ireturn, 1) := by decide +kernel
set_option maxRecDepth 20000 in
theorem ggX11_made_X11_isSet : GoodIn wsX11_made wsX11_isSet := goodIn_r _ [6, 7, 8, 9, 5, 10, 11, 12, 13, 14, 41, 42, 43, 44, 45, 46, 47, 48, 49, 50, 51, 52, 53, 54, 55, 56, 57, 58, 59, 60, 61, 62, 63, 64, 65] (by decide +kernel) (by decide +kernel)
set_option maxRecDepth 20000 in
theorem gX11_made_X11_isSet : GoodIn wsX11_made (wsV RX11 124 RX11 yX11_isSet wsX11_isSet) := goodIn_app (goodIn_of _ (by decide +kernel)) ggX11_made_X11_isSet
set_option maxRecDepth 20000 in
theorem ggX11_made_X11_in : GoodIn wsX11_made wsX11_in := goodIn_r _ [14] (by decide +kernel) (by decide +kernel)
set_option maxRecDepth 20000 in
theorem gX11_made_X11_in : GoodIn wsX11_made (va_wsS RX11 55 yX11_in wsX11_in) := goodIn_app (goodIn_of _ (by decide +kernel)) ggX11_made_X11_in
set_option maxRecDepth 20000 in
theorem ggX11_made_X11_findAll : GoodIn wsX11_made wsX11_findAll := goodIn_r _ [18, 1, 19, 20, 21, 22, 23, 24, 25, 26, 27, 5, 28, 11, 29, 30, 31, 32, 33, 34, 35, 36, 41, 42, 43, 44, 45, 46, 47, 48, 49, 50, 51, 52, 53, 54, 55, 56, 57, 58, 59, 60, 61, 62, 63, 64, 65] (by decide +kernel) (by decide +kernel)
set_option maxRecDepth 20000 in
theorem gX11_made_X11_findAll : GoodIn wsX11_made (wsV RX11 138 RX11 yX11_findAll wsX11_findAll) := goodIn_app (goodIn_of _ (by decide +kernel)) ggX11_made_X11_findAll
set_option maxRecDepth 20000 in
theorem ggX11_made_X11_signBy : GoodIn wsX11_made wsX11_signBy := goodIn_r _ [40, 20, 21, 23, 25, 26, 27, 5, 28, 11, 29, 30, 31, 32, 41, 42, 43, 44, 45, 46, 47, 48, 49, 50, 51, 52, 53, 54, 55, 56, 57, 58, 59, 60, 61, 62, 63, 64, 65] (by decide +kernel) (by decide +kernel)
set_option maxRecDepth 20000 in
theorem gX11_made_X11_signBy : GoodIn wsX11_made (wsV RX11 144 RX11 yX11_signBy wsX11_signBy) := goodIn_app (goodIn_of _ (by decide +kernel)) ggX11_made_X11_signBy
set_option maxRecDepth 20000 in
theorem ggX11_made_X11_allSets : GoodIn wsX11_made wsX11_allSets := goodIn_r _ [10, 11, 41, 42, 43, 44, 45, 46, 47, 48, 49, 50, 51, 52, 53, 54, 55, 56, 57, 58, 59, 60, 61, 62, 63, 64, 65] (by decide +kernel) (by decide +kernel)
set_option maxRecDepth 20000 in
theorem gX11_made_X11_allSets : GoodIn wsX11_made (wsV RX11 105 RX11 yX11_allSets wsX11_allSets) := goodIn_app (goodIn_of _ (by decide +kernel)) ggX11_made_X11_allSets
theorem dX11_made_0 : decode cX11_made 0 = .ok (.aload_n 0, 1) := by decide +kernel
theorem dX11_made_1 : decode cX11_made 1 = .ok (.iload_n 1, 1) := by decide +kernel
theorem dX11_made_2 : decode cX11_made 2 = .ok (.invokevirtual 124, 3) := by decide +kernel
theorem dX11_made_5 : decode cX11_made 5 = .ok (.ifCond .eq 12, 3) := by decide +kernel
theorem dX11_made_8 : decode cX11_made 8 = .ok (.iload_n 2, 1) := by decide +kernel
theorem dX11_made_9 : decode cX11_made 9 = .ok (.iconst 0, 1) := by decide +kernel
theorem dX11_made_10 : decode cX11_made 10 = .ok (.iconst 2, 1) := by decide +kernel
theorem dX11_made_11 : decode cX11_made 11 = .ok (.invokestatic 55, 3) := by decide +kernel
theorem dX11_made_14 : decode cX11_made 14 = .ok (.ifCond .ne 5, 3) := by decide +kernel
theorem dX11_made_17 : decode cX11_made 17 = .ok (.iconst (-1), 1) := by decide +kernel
theorem dX11_made_18 : decode cX11_made 18 = .ok (.ireturn, 1) := by decide +kernel
theorem dX11_made_19 : decode cX11_made 19 = .ok (.aload_n 0, 1) := by decide +kernel
theorem dX11_made_20 : decode cX11_made 20 = .ok (.iconst (-1), 1) := by decide +kernel
theorem dX11_made_21 : decode cX11_made 21 = .ok (.invokevirtual 138, 3) := by decide +kernel
theorem dX11_made_24 : decode cX11_made 24 = .ok (.aload_n 0, 1) := by decide +kernel
theorem dX11_made_25 : decode cX11_made 25 = .ok (.getfield 45, 3) := by decide +kernel
theorem dX11_made_28 : decode cX11_made 28 = .ok (.iload_n 1, 1) := by decide +kernel
theorem dX11_made_29 : decode cX11_made 29 = .ok (.iaload, 1) := by decide +kernel
theorem dX11_made_30 : decode cX11_made 30 = .ok (.ifCond .ne 6, 3) := by decide +kernel
theorem dX11_made_33 : decode cX11_made 33 = .ok (.bipush (-9), 2) := by decide +kernel
theorem dX11_made_35 : decode cX11_made 35 = .ok (.ireturn, 1) := by decide +kernel
theorem dX11_made_36 : decode cX11_made 36 = .ok (.aload_n 0, 1) := by decide +kernel
theorem dX11_made_37 : decode cX11_made 37 = .ok (.getfield 45, 3) := by decide +kernel
theorem dX11_made_40 : decode cX11_made 40 = .ok (.iload_n 1, 1) := by decide +kernel
theorem dX11_made_41 : decode cX11_made 41 = .ok (.iaload, 1) := by decide +kernel
theorem dX11_made_42 : decode cX11_made 42 = .ok (.iconst 1, 1) := by decide +kernel
theorem dX11_made_43 : decode cX11_made 43 = .ok (.if_icmp .ne 18, 3) := by decide +kernel
theorem dX11_made_46 : decode cX11_made 46 = .ok (.iload_n 2, 1) := by decide +kernel
theorem dX11_made_47 : decode cX11_made 47 = .ok (.iconst 1, 1) := by decide +kernel
theorem dX11_made_48 : decode cX11_made 48 = .ok (.if_icmp .ne 11, 3) := by decide +kernel
theorem dX11_made_51 : decode cX11_made 51 = .ok (.aload_n 0, 1) := by decide +kernel
theorem dX11_made_52 : decode cX11_made 52 = .ok (.iload_n 1, 1) := by decide +kernel
theorem dX11_made_53 : decode cX11_made 53 = .ok (.invokevirtual 144, 3) := by decide +kernel
theorem dX11_made_56 : decode cX11_made 56 = .ok (.goto 4, 3) := by decide +kernel
theorem dX11_made_59 : decode cX11_made 59 = .ok (.iconst 0, 1) := by decide +kernel
theorem dX11_made_60 : decode cX11_made 60 = .ok (.ireturn, 1) := by decide +kernel
theorem dX11_made_61 : decode cX11_made 61 = .ok (.iconst 1, 1) := by decide +kernel
theorem dX11_made_62 : decode cX11_made 62 = .ok (.istore_n 3, 1) := by decide +kernel
theorem dX11_made_63 : decode cX11_made 63 = .ok (.iload_n 3, 1) := by decide +kernel
theorem dX11_made_64 : decode cX11_made 64 = .ok (.iconst 2, 1) := by decide +kernel
theorem dX11_made_65 : decode cX11_made 65 = .ok (.if_icmp .gt 144, 3) := by decide +kernel
theorem dX11_made_68 : decode cX11_made 68 = .ok (.iconst 0, 1) := by decide +kernel
theorem dX11_made_69 : decode cX11_made 69 = .ok (.istore 4, 2) := by decide +kernel
theorem dX11_made_71 : decode cX11_made 71 = .ok (.iload 4, 2) := by decide +kernel
theorem dX11_made_73 : decode cX11_made 73 = .ok (.aload_n 0, 1) := by decide +kernel
theorem dX11_made_74 : decode cX11_made 74 = .ok (.invokevirtual 105, 3) := by decide +kernel
theorem dX11_made_77 : decode cX11_made 77 = .ok (.if_icmp .gt 126, 3) := by decide +kernel
theorem dX11_made_80 : decode cX11_made 80 = .ok (.iconst 0, 1) := by decide +kernel
theorem dX11_made_81 : decode cX11_made 81 = .ok (.istore 5, 2) := by decide +kernel
theorem dX11_made_83 : decode cX11_made 83 = .ok (.iload 5, 2) := by decide +kernel
theorem dX11_made_85 : decode cX11_made 85 = .ok (.aload_n 0, 1) := by decide +kernel
theorem dX11_made_86 : decode cX11_made 86 = .ok (.invokevirtual 105, 3) := by decide +kernel
theorem dX11_made_89 : decode cX11_made 89 = .ok (.if_icmp .gt 108, 3) := by decide +kernel
theorem dX11_made_92 : decode cX11_made 92 = .ok (.aload_n 0, 1) := by decide +kernel
theorem dX11_made_93 : decode cX11_made 93 = .ok (.getfield 45, 3) := by decide +kernel
theorem dX11_made_96 : decode cX11_made 96 = .ok (.iload 4, 2) := by decide +kernel
theorem dX11_made_98 : decode cX11_made 98 = .ok (.iaload, 1) := by decide +kernel
theorem dX11_made_99 : decode cX11_made 99 = .ok (.ifCond .le 98, 3) := by decide +kernel
theorem dX11_made_102 : decode cX11_made 102 = .ok (.aload_n 0, 1) := by decide +kernel
theorem dX11_made_103 : decode cX11_made 103 = .ok (.getfield 45, 3) := by decide +kernel
theorem dX11_made_106 : decode cX11_made 106 = .ok (.iload 5, 2) := by decide +kernel
theorem dX11_made_108 : decode cX11_made 108 = .ok (.iaload, 1) := by decide +kernel
theorem dX11_made_109 : decode cX11_made 109 = .ok (.ifCond .le 53, 3) := by decide +kernel
theorem dX11_made_112 : decode cX11_made 112 = .ok (.aload_n 0, 1) := by decide +kernel
theorem dX11_made_113 : decode cX11_made 113 = .ok (.getfield 45, 3) := by decide +kernel
theorem dX11_made_116 : decode cX11_made 116 = .ok (.iload 4, 2) := by decide +kernel
theorem dX11_made_118 : decode cX11_made 118 = .ok (.iaload, 1) := by decide +kernel
theorem dX11_made_119 : decode cX11_made 119 = .ok (.aload_n 0, 1) := by decide +kernel
theorem dX11_made_120 : decode cX11_made 120 = .ok (.getfield 45, 3) := by decide +kernel
theorem dX11_made_123 : decode cX11_made 123 = .ok (.iload 5, 2) := by decide +kernel
theorem dX11_made_125 : decode cX11_made 125 = .ok (.iaload, 1) := by decide +kernel
theorem dX11_made_126 : decode cX11_made 126 = .ok (.iadd, 1) := by decide +kernel
theorem dX11_made_127 : decode cX11_made 127 = .ok (.aload_n 0, 1) := by decide +kernel
theorem dX11_made_128 : decode cX11_made 128 = .ok (.getfield 45, 3) := by decide +kernel
theorem dX11_made_131 : decode cX11_made 131 = .ok (.iload_n 1, 1) := by decide +kernel
theorem dX11_made_132 : decode cX11_made 132 = .ok (.iaload, 1) := by decide +kernel
theorem dX11_made_133 : decode cX11_made 133 = .ok (.if_icmp .ne 29, 3) := by decide +kernel
theorem dX11_made_136 : decode cX11_made 136 = .ok (.iload_n 3, 1) := by decide +kernel
theorem dX11_made_137 : decode cX11_made 137 = .ok (.iconst 1, 1) := by decide +kernel
theorem dX11_made_138 : decode cX11_made 138 = .ok (.if_icmp .ne 11, 3) := by decide +kernel
theorem dX11_made_141 : decode cX11_made 141 = .ok (.iload 4, 2) := by decide +kernel
theorem dX11_made_143 : decode cX11_made 143 = .ok (.iload 5, 2) := by decide +kernel
theorem dX11_made_145 : decode cX11_made 145 = .ok (.iand, 1) := by decide +kernel
theorem dX11_made_146 : decode cX11_made 146 = .ok (.goto 8, 3) := by decide +kernel
theorem dX11_made_149 : decode cX11_made 149 = .ok (.iload 4, 2) := by decide +kernel
theorem dX11_made_151 : decode cX11_made 151 = .ok (.iload 5, 2) := by decide +kernel
theorem dX11_made_153 : decode cX11_made 153 = .ok (.ior, 1) := by decide +kernel
theorem dX11_made_154 : decode cX11_made 154 = .ok (.iload_n 1, 1) := by decide +kernel
theorem dX11_made_155 : decode cX11_made 155 = .ok (.if_icmp .ne 7, 3) := by decide +kernel
theorem dX11_made_158 : decode cX11_made 158 = .ok (.iconst 1, 1) := by decide +kernel
theorem dX11_made_159 : decode cX11_made 159 = .ok (.goto 4, 3) := by decide +kernel
theorem dX11_made_162 : decode cX11_made 162 = .ok (.iconst 0, 1) := by decide +kernel
theorem dX11_made_163 : decode cX11_made 163 = .ok (.istore 6, 2) := by decide +kernel
theorem dX11_made_165 : decode cX11_made 165 = .ok (.iload 6, 2) := by decide +kernel
theorem dX11_made_167 : decode cX11_made 167 = .ok (.ifCond .eq 24, 3) := by decide +kernel
theorem dX11_made_170 : decode cX11_made 170 = .ok (.iload_n 2, 1) := by decide +kernel
theorem dX11_made_171 : decode cX11_made 171 = .ok (.ifCond .ne 7, 3) := by decide +kernel
theorem dX11_made_174 : decode cX11_made 174 = .ok (.iload_n 3, 1) := by decide +kernel
theorem dX11_made_175 : decode cX11_made 175 = .ok (.goto 15, 3) := by decide +kernel
theorem dX11_made_178 : decode cX11_made 178 = .ok (.iload_n 2, 1) := by decide +kernel
theorem dX11_made_179 : decode cX11_made 179 = .ok (.iconst 1, 1) := by decide +kernel
theorem dX11_made_180 : decode cX11_made 180 = .ok (.if_icmp .ne 8, 3) := by decide +kernel
theorem dX11_made_183 : decode cX11_made 183 = .ok (.iload 4, 2) := by decide +kernel
theorem dX11_made_185 : decode cX11_made 185 = .ok (.goto 5, 3) := by decide +kernel
theorem dX11_made_188 : decode cX11_made 188 = .ok (.iload 5, 2) := by decide +kernel
theorem dX11_made_190 : decode cX11_made 190 = .ok (.ireturn, 1) := by decide +kernel
theorem dX11_made_191 : decode cX11_made 191 = .ok (.iinc 5 1, 3) := by decide +kernel
theorem dX11_made_194 : decode cX11_made 194 = .ok (.goto (-111), 3) := by decide +kernel
theorem dX11_made_197 : decode cX11_made 197 = .ok (.iinc 4 1, 3) := by decide +kernel
theorem dX11_made_200 : decode cX11_made 200 = .ok (.goto (-129), 3) := by decide +kernel
theorem dX11_made_203 : decode cX11_made 203 = .ok (.iinc 3 1, 3) := by decide +kernel
theorem dX11_made_206 : decode cX11_made 206 = .ok (.goto (-143), 3) := by decide +kernel
theorem dX11_made_209 : decode cX11_made 209 = .ok (.bipush (-9), 2) := by decide +kernel
theorem dX11_made_211 : decode cX11_made 211 = .ok (.ireturn, 1) := by decide +kernel
set_option maxRecDepth 20000 in
theorem ggX11_cubeOf_X11_allSets : GoodIn wsX11_cubeOf wsX11_allSets := goodIn_r _ [7, 8, 17, 18, 19, 20, 21, 22, 23, 24, 25, 26, 27, 28, 29, 30, 31, 32, 33, 34, 35, 36, 37, 38, 39, 40, 41] (by decide +kernel) (by decide +kernel)
set_option maxRecDepth 20000 in
theorem gX11_cubeOf_X11_allSets : GoodIn wsX11_cubeOf (wsV RX11 105 RX11 yX11_allSets wsX11_allSets) := goodIn_app (goodIn_of _ (by decide +kernel)) ggX11_cubeOf_X11_allSets
set_option maxRecDepth 20000 in
theorem ggX11_cubeOf_X11_worldsOf : GoodIn wsX11_cubeOf wsX11_worldsOf := goodIn_r _ [12, 8, 13, 14, 15, 6, 16, 2, 17, 18, 19, 20, 21, 22, 23, 24, 25, 26, 27, 28, 29, 30, 31, 32, 33, 34, 35, 36, 37, 38, 39, 40, 41] (by decide +kernel) (by decide +kernel)
set_option maxRecDepth 20000 in
theorem gX11_cubeOf_X11_worldsOf : GoodIn wsX11_cubeOf (wsV RX11 112 RX11 yX11_worldsOf wsX11_worldsOf) := goodIn_app (goodIn_of _ (by decide +kernel)) ggX11_cubeOf_X11_worldsOf
theorem dX11_cubeOf_0 : decode cX11_cubeOf 0 = .ok (.iload_n 1, 1) := by decide +kernel
theorem dX11_cubeOf_1 : decode cX11_cubeOf 1 = .ok (.istore_n 2, 1) := by decide +kernel
theorem dX11_cubeOf_2 : decode cX11_cubeOf 2 = .ok (.aload_n 0, 1) := by decide +kernel
theorem dX11_cubeOf_3 : decode cX11_cubeOf 3 = .ok (.invokevirtual 105, 3) := by decide +kernel
theorem dX11_cubeOf_6 : decode cX11_cubeOf 6 = .ok (.istore_n 3, 1) := by decide +kernel
theorem dX11_cubeOf_7 : decode cX11_cubeOf 7 = .ok (.iconst 0, 1) := by decide +kernel
theorem dX11_cubeOf_8 : decode cX11_cubeOf 8 = .ok (.istore 4, 2) := by decide +kernel
theorem dX11_cubeOf_10 : decode cX11_cubeOf 10 = .ok (.iload 4, 2) := by decide +kernel
theorem dX11_cubeOf_12 : decode cX11_cubeOf 12 = .ok (.aload_n 0, 1) := by decide +kernel
theorem dX11_cubeOf_13 : decode cX11_cubeOf 13 = .ok (.getfield 95, 3) := by decide +kernel
theorem dX11_cubeOf_16 : decode cX11_cubeOf 16 = .ok (.if_icmp .ge 64, 3) := by decide +kernel
theorem dX11_cubeOf_19 : decode cX11_cubeOf 19 = .ok (.iload_n 2, 1) := by decide +kernel
theorem dX11_cubeOf_20 : decode cX11_cubeOf 20 = .ok (.aload_n 0, 1) := by decide +kernel
theorem dX11_cubeOf_21 : decode cX11_cubeOf 21 = .ok (.getfield 13, 3) := by decide +kernel
theorem dX11_cubeOf_24 : decode cX11_cubeOf 24 = .ok (.iload 4, 2) := by decide +kernel
theorem dX11_cubeOf_26 : decode cX11_cubeOf 26 = .ok (.iaload, 1) := by decide +kernel
theorem dX11_cubeOf_27 : decode cX11_cubeOf 27 = .ok (.iconst 1, 1) := by decide +kernel
theorem dX11_cubeOf_28 : decode cX11_cubeOf 28 = .ok (.iadd, 1) := by decide +kernel
theorem dX11_cubeOf_29 : decode cX11_cubeOf 29 = .ok (.irem, 1) := by decide +kernel
theorem dX11_cubeOf_30 : decode cX11_cubeOf 30 = .ok (.istore 5, 2) := by decide +kernel
theorem dX11_cubeOf_32 : decode cX11_cubeOf 32 = .ok (.iload_n 2, 1) := by decide +kernel
theorem dX11_cubeOf_33 : decode cX11_cubeOf 33 = .ok (.aload_n 0, 1) := by decide +kernel
theorem dX11_cubeOf_34 : decode cX11_cubeOf 34 = .ok (.getfield 13, 3) := by decide +kernel
theorem dX11_cubeOf_37 : decode cX11_cubeOf 37 = .ok (.iload 4, 2) := by decide +kernel
theorem dX11_cubeOf_39 : decode cX11_cubeOf 39 = .ok (.iaload, 1) := by decide +kernel
theorem dX11_cubeOf_40 : decode cX11_cubeOf 40 = .ok (.iconst 1, 1) := by decide +kernel
theorem dX11_cubeOf_41 : decode cX11_cubeOf 41 = .ok (.iadd, 1) := by decide +kernel
theorem dX11_cubeOf_42 : decode cX11_cubeOf 42 = .ok (.idiv, 1) := by decide +kernel
theorem dX11_cubeOf_43 : decode cX11_cubeOf 43 = .ok (.istore_n 2, 1) := by decide +kernel
theorem dX11_cubeOf_44 : decode cX11_cubeOf 44 = .ok (.iload_n 3, 1) := by decide +kernel
theorem dX11_cubeOf_45 : decode cX11_cubeOf 45 = .ok (.iload 5, 2) := by decide +kernel
theorem dX11_cubeOf_47 : decode cX11_cubeOf 47 = .ok (.aload_n 0, 1) := by decide +kernel
theorem dX11_cubeOf_48 : decode cX11_cubeOf 48 = .ok (.getfield 13, 3) := by decide +kernel
theorem dX11_cubeOf_51 : decode cX11_cubeOf 51 = .ok (.iload 4, 2) := by decide +kernel
theorem dX11_cubeOf_53 : decode cX11_cubeOf 53 = .ok (.iaload, 1) := by decide +kernel
theorem dX11_cubeOf_54 : decode cX11_cubeOf 54 = .ok (.if_icmp .ne 10, 3) := by decide +kernel
theorem dX11_cubeOf_57 : decode cX11_cubeOf 57 = .ok (.aload_n 0, 1) := by decide +kernel
theorem dX11_cubeOf_58 : decode cX11_cubeOf 58 = .ok (.invokevirtual 105, 3) := by decide +kernel
theorem dX11_cubeOf_61 : decode cX11_cubeOf 61 = .ok (.goto 11, 3) := by decide +kernel
theorem dX11_cubeOf_64 : decode cX11_cubeOf 64 = .ok (.aload_n 0, 1) := by decide +kernel
theorem dX11_cubeOf_65 : decode cX11_cubeOf 65 = .ok (.iload 4, 2) := by decide +kernel
theorem dX11_cubeOf_67 : decode cX11_cubeOf 67 = .ok (.iload 5, 2) := by decide +kernel
theorem dX11_cubeOf_69 : decode cX11_cubeOf 69 = .ok (.invokevirtual 112, 3) := by decide +kernel
theorem dX11_cubeOf_72 : decode cX11_cubeOf 72 = .ok (.iand, 1) := by decide +kernel
theorem dX11_cubeOf_73 : decode cX11_cubeOf 73 = .ok (.istore_n 3, 1) := by decide +kernel
theorem dX11_cubeOf_74 : decode cX11_cubeOf 74 = .ok (.iinc 4 1, 3) := by decide +kernel
theorem dX11_cubeOf_77 : decode cX11_cubeOf 77 = .ok (.goto (-67), 3) := by decide +kernel
theorem dX11_cubeOf_80 : decode cX11_cubeOf 80 = .ok (.iload_n 3, 1) := by decide +kernel
theorem dX11_cubeOf_81 : decode cX11_cubeOf 81 = .ok (.ireturn, 1) := by decide +kernel
theorem dX11_cubes_0 : decode cX11_cubes 0 = .ok (.iconst 1, 1) := by decide +kernel
theorem dX11_cubes_1 : decode cX11_cubes 1 = .ok (.istore_n 1, 1) := by decide +kernel
theorem dX11_cubes_2 : decode cX11_cubes 2 = .ok (.iconst 0, 1) := by decide +kernel
theorem dX11_cubes_3 : decode cX11_cubes 3 = .ok (.istore_n 2, 1) := by decide +kernel
theorem dX11_cubes_4 : decode cX11_cubes 4 = .ok (.iload_n 2, 1) := by decide +kernel
theorem dX11_cubes_5 : decode cX11_cubes 5 = .ok (.aload_n 0, 1) := by decide +kernel
theorem dX11_cubes_6 : decode cX11_cubes 6 = .ok (.getfield 95, 3) := by decide +kernel
theorem dX11_cubes_9 : decode cX11_cubes 9 = .ok (.if_icmp .ge 20, 3) := by decide +kernel
theorem dX11_cubes_12 : decode cX11_cubes 12 = .ok (.iload_n 1, 1) := by decide +kernel
theorem dX11_cubes_13 : decode cX11_cubes 13 = .ok (.aload_n 0, 1) := by decide +kernel
theorem dX11_cubes_14 : decode cX11_cubes 14 = .ok (.getfield 13, 3) := by decide +kernel
theorem dX11_cubes_17 : decode cX11_cubes 17 = .ok (.iload_n 2, 1) := by decide +kernel
theorem dX11_cubes_18 : decode cX11_cubes 18 = .ok (.iaload, 1) := by decide +kernel
theorem dX11_cubes_19 : decode cX11_cubes 19 = .ok (.iconst 1, 1) := by decide +kernel
theorem dX11_cubes_20 : decode cX11_cubes 20 = .ok (.iadd, 1) := by decide +kernel
theorem dX11_cubes_21 : decode cX11_cubes 21 = .ok (.imul, 1) := by decide +kernel
theorem dX11_cubes_22 : decode cX11_cubes 22 = .ok (.istore_n 1, 1) := by decide +kernel
theorem dX11_cubes_23 : decode cX11_cubes 23 = .ok (.iinc 2 1, 3) := by decide +kernel
theorem dX11_cubes_26 : decode cX11_cubes 26 = .ok (.goto (-22), 3) := by decide +kernel
theorem dX11_cubes_29 : decode cX11_cubes 29 = .ok (.iload_n 1, 1) := by decide +kernel
theorem dX11_cubes_30 : decode cX11_cubes 30 = .ok (.ireturn, 1) := by decide +kernel
set_option maxRecDepth 20000 in
theorem ggX11_isTerm_X11_cubes : GoodIn wsX11_isTerm wsX11_cubes := goodIn_r _ [5, 6, 7, 25, 26, 27, 28, 29, 30, 31, 32, 33, 34, 35, 36, 37, 38, 39, 40, 41, 42, 43, 44, 45, 46, 47, 48, 49] (by decide +kernel) (by decide +kernel)
set_option maxRecDepth 20000 in
theorem gX11_isTerm_X11_cubes : GoodIn wsX11_isTerm (wsV RX11 147 RX11 yX11_cubes wsX11_cubes) := goodIn_app (goodIn_of _ (by decide +kernel)) ggX11_isTerm_X11_cubes
set_option maxRecDepth 20000 in
theorem ggX11_isTerm_X11_cubeOf : GoodIn wsX11_isTerm wsX11_cubeOf := goodIn_r _ [11, 6, 7, 12, 13, 14, 4, 15, 16, 17, 18, 19, 20, 21, 22, 23, 24, 25, 26, 27, 28, 29, 30, 31, 32, 33, 34, 35, 36, 37, 38, 39, 40, 41, 42, 43, 44, 45, 46, 47, 48, 49] (by decide +kernel) (by decide +kernel)
set_option maxRecDepth 20000 in
theorem gX11_isTerm_X11_cubeOf : GoodIn wsX11_isTerm (wsV RX11 150 RX11 yX11_cubeOf wsX11_cubeOf) := goodIn_app (goodIn_of _ (by decide +kernel)) ggX11_isTerm_X11_cubeOf
theorem dX11_isTerm_0 : decode cX11_isTerm 0 = .ok (.iload_n 1, 1) := by decide +kernel
theorem dX11_isTerm_1 : decode cX11_isTerm 1 = .ok (.iload_n 2, 1) := by decide +kernel
theorem dX11_isTerm_2 : decode cX11_isTerm 2 = .ok (.iconst (-1), 1) := by decide +kernel
theorem dX11_isTerm_3 : decode cX11_isTerm 3 = .ok (.ixor, 1) := by decide +kernel
theorem dX11_isTerm_4 : decode cX11_isTerm 4 = .ok (.iand, 1) := by decide +kernel
theorem dX11_isTerm_5 : decode cX11_isTerm 5 = .ok (.ifCond .ne 7, 3) := by decide +kernel
theorem dX11_isTerm_8 : decode cX11_isTerm 8 = .ok (.iconst 1, 1) := by decide +kernel
theorem dX11_isTerm_9 : decode cX11_isTerm 9 = .ok (.goto 4, 3) := by decide +kernel
theorem dX11_isTerm_12 : decode cX11_isTerm 12 = .ok (.iconst 0, 1) := by decide +kernel
theorem dX11_isTerm_13 : decode cX11_isTerm 13 = .ok (.istore_n 3, 1) := by decide +kernel
theorem dX11_isTerm_14 : decode cX11_isTerm 14 = .ok (.iconst 0, 1) := by decide +kernel
theorem dX11_isTerm_15 : decode cX11_isTerm 15 = .ok (.istore 4, 2) := by decide +kernel
theorem dX11_isTerm_17 : decode cX11_isTerm 17 = .ok (.iload 4, 2) := by decide +kernel
theorem dX11_isTerm_19 : decode cX11_isTerm 19 = .ok (.aload_n 0, 1) := by decide +kernel
theorem dX11_isTerm_20 : decode cX11_isTerm 20 = .ok (.invokevirtual 147, 3) := by decide +kernel
theorem dX11_isTerm_23 : decode cX11_isTerm 23 = .ok (.if_icmp .ge 51, 3) := by decide +kernel
theorem dX11_isTerm_26 : decode cX11_isTerm 26 = .ok (.iload_n 3, 1) := by decide +kernel
theorem dX11_isTerm_27 : decode cX11_isTerm 27 = .ok (.ifCond .eq 47, 3) := by decide +kernel
theorem dX11_isTerm_30 : decode cX11_isTerm 30 = .ok (.aload_n 0, 1) := by decide +kernel
theorem dX11_isTerm_31 : decode cX11_isTerm 31 = .ok (.iload 4, 2) := by decide +kernel
theorem dX11_isTerm_33 : decode cX11_isTerm 33 = .ok (.invokevirtual 150, 3) := by decide +kernel
theorem dX11_isTerm_36 : decode cX11_isTerm 36 = .ok (.istore 5, 2) := by decide +kernel
theorem dX11_isTerm_38 : decode cX11_isTerm 38 = .ok (.iload 5, 2) := by decide +kernel
theorem dX11_isTerm_40 : decode cX11_isTerm 40 = .ok (.iload_n 1, 1) := by decide +kernel
theorem dX11_isTerm_41 : decode cX11_isTerm 41 = .ok (.if_icmp .eq 21, 3) := by decide +kernel
theorem dX11_isTerm_44 : decode cX11_isTerm 44 = .ok (.iload 5, 2) := by decide +kernel
theorem dX11_isTerm_46 : decode cX11_isTerm 46 = .ok (.iload_n 2, 1) := by decide +kernel
theorem dX11_isTerm_47 : decode cX11_isTerm 47 = .ok (.iconst (-1), 1) := by decide +kernel
theorem dX11_isTerm_48 : decode cX11_isTerm 48 = .ok (.ixor, 1) := by decide +kernel
theorem dX11_isTerm_49 : decode cX11_isTerm 49 = .ok (.iand, 1) := by decide +kernel
theorem dX11_isTerm_50 : decode cX11_isTerm 50 = .ok (.ifCond .ne 12, 3) := by decide +kernel
theorem dX11_isTerm_53 : decode cX11_isTerm 53 = .ok (.iload_n 1, 1) := by decide +kernel
theorem dX11_isTerm_54 : decode cX11_isTerm 54 = .ok (.iload 5, 2) := by decide +kernel
theorem dX11_isTerm_56 : decode cX11_isTerm 56 = .ok (.iconst (-1), 1) := by decide +kernel
theorem dX11_isTerm_57 : decode cX11_isTerm 57 = .ok (.ixor, 1) := by decide +kernel
theorem dX11_isTerm_58 : decode cX11_isTerm 58 = .ok (.iand, 1) := by decide +kernel
theorem dX11_isTerm_59 : decode cX11_isTerm 59 = .ok (.ifCond .eq 7, 3) := by decide +kernel
theorem dX11_isTerm_62 : decode cX11_isTerm 62 = .ok (.iconst 1, 1) := by decide +kernel
theorem dX11_isTerm_63 : decode cX11_isTerm 63 = .ok (.goto 4, 3) := by decide +kernel
theorem dX11_isTerm_66 : decode cX11_isTerm 66 = .ok (.iconst 0, 1) := by decide +kernel
theorem dX11_isTerm_67 : decode cX11_isTerm 67 = .ok (.istore_n 3, 1) := by decide +kernel
theorem dX11_isTerm_68 : decode cX11_isTerm 68 = .ok (.iinc 4 1, 3) := by decide +kernel
theorem dX11_isTerm_71 : decode cX11_isTerm 71 = .ok (.goto (-54), 3) := by decide +kernel
theorem dX11_isTerm_74 : decode cX11_isTerm 74 = .ok (.iload_n 3, 1) := by decide +kernel
theorem dX11_isTerm_75 : decode cX11_isTerm 75 = .ok (.ireturn, 1) := by decide +kernel
set_option maxRecDepth 20000 in
theorem ggX11_terms_X11_isSet : GoodIn wsX11_terms wsX11_isSet := goodIn_r _ [5, 6, 7, 8, 4, 9, 10, 11, 12, 13, 36, 37, 38, 39, 40, 41, 42, 43, 44, 45, 46, 47, 48, 49, 50, 51, 52, 53, 54, 55, 56, 57, 58, 59, 60] (by decide +kernel) (by decide +kernel)
set_option maxRecDepth 20000 in
theorem gX11_terms_X11_isSet : GoodIn wsX11_terms (wsV RX11 124 RX11 yX11_isSet wsX11_isSet) := goodIn_app (goodIn_of _ (by decide +kernel)) ggX11_terms_X11_isSet
set_option maxRecDepth 20000 in
theorem ggX11_terms_X11_allSets : GoodIn wsX11_terms wsX11_allSets := goodIn_r _ [9, 10, 36, 37, 38, 39, 40, 41, 42, 43, 44, 45, 46, 47, 48, 49, 50, 51, 52, 53, 54, 55, 56, 57, 58, 59, 60] (by decide +kernel) (by decide +kernel)
set_option maxRecDepth 20000 in
theorem gX11_terms_X11_allSets : GoodIn wsX11_terms (wsV RX11 105 RX11 yX11_allSets wsX11_allSets) := goodIn_app (goodIn_of _ (by decide +kernel)) ggX11_terms_X11_allSets
set_option maxRecDepth 20000 in
theorem ggX11_terms_X11_cubes : GoodIn wsX11_terms wsX11_cubes := goodIn_r _ [17, 18, 19, 36, 37, 38, 39, 40, 41, 42, 43, 44, 45, 46, 47, 48, 49, 50, 51, 52, 53, 54, 55, 56, 57, 58, 59, 60] (by decide +kernel) (by decide +kernel)
set_option maxRecDepth 20000 in
theorem gX11_terms_X11_cubes : GoodIn wsX11_terms (wsV RX11 147 RX11 yX11_cubes wsX11_cubes) := goodIn_app (goodIn_of _ (by decide +kernel)) ggX11_terms_X11_cubes
set_option maxRecDepth 20000 in
theorem ggX11_terms_X11_cubeOf : GoodIn wsX11_terms wsX11_cubeOf := goodIn_r _ [23, 18, 19, 6, 7, 8, 4, 9, 10, 24, 25, 26, 27, 28, 29, 30, 31, 36, 37, 38, 39, 40, 41, 42, 43, 44, 45, 46, 47, 48, 49, 50, 51, 52, 53, 54, 55, 56, 57, 58, 59, 60] (by decide +kernel) (by decide +kernel)
set_option maxRecDepth 20000 in
theorem gX11_terms_X11_cubeOf : GoodIn wsX11_terms (wsV RX11 150 RX11 yX11_cubeOf wsX11_cubeOf) := goodIn_app (goodIn_of _ (by decide +kernel)) ggX11_terms_X11_cubeOf
set_option maxRecDepth 20000 in
theorem ggX11_terms_X11_isTerm : GoodIn wsX11_terms wsX11_isTerm := goodIn_r _ [35, 14, 15, 16, 4, 17, 18, 19, 20, 21, 22, 23, 6, 7, 8, 9, 10, 24, 25, 26, 27, 28, 29, 30, 31, 36, 37, 38, 39, 40, 41, 42, 43, 44, 45, 46, 47, 48, 49, 50, 51, 52, 53, 54, 55, 56, 57, 58, 59, 60] (by decide +kernel) (by decide +kernel)
set_option maxRecDepth 20000 in
theorem gX11_terms_X11_isTerm : GoodIn wsX11_terms (wsV RX11 153 RX11 yX11_isTerm wsX11_isTerm) := goodIn_app (goodIn_of _ (by decide +kernel)) ggX11_terms_X11_isTerm
theorem dX11_terms_0 : decode cX11_terms 0 = .ok (.aload_n 0, 1) := by decide +kernel
theorem dX11_terms_1 : decode cX11_terms 1 = .ok (.iload_n 1, 1) := by decide +kernel
theorem dX11_terms_2 : decode cX11_terms 2 = .ok (.invokevirtual 124, 3) := by decide +kernel
theorem dX11_terms_5 : decode cX11_terms 5 = .ok (.ifCond .eq 8, 3) := by decide +kernel
theorem dX11_terms_8 : decode cX11_terms 8 = .ok (.iload_n 2, 1) := by decide +kernel
theorem dX11_terms_9 : decode cX11_terms 9 = .ok (.iconst (-1), 1) := by decide +kernel
theorem dX11_terms_10 : decode cX11_terms 10 = .ok (.if_icmp .ge 5, 3) := by decide +kernel
theorem dX11_terms_13 : decode cX11_terms 13 = .ok (.iconst (-1), 1) := by decide +kernel
theorem dX11_terms_14 : decode cX11_terms 14 = .ok (.ireturn, 1) := by decide +kernel
theorem dX11_terms_15 : decode cX11_terms 15 = .ok (.iconst 0, 1) := by decide +kernel
theorem dX11_terms_16 : decode cX11_terms 16 = .ok (.istore_n 3, 1) := by decide +kernel
theorem dX11_terms_17 : decode cX11_terms 17 = .ok (.iconst 1, 1) := by decide +kernel
theorem dX11_terms_18 : decode cX11_terms 18 = .ok (.istore 4, 2) := by decide +kernel
theorem dX11_terms_20 : decode cX11_terms 20 = .ok (.iload 4, 2) := by decide +kernel
theorem dX11_terms_22 : decode cX11_terms 22 = .ok (.aload_n 0, 1) := by decide +kernel
theorem dX11_terms_23 : decode cX11_terms 23 = .ok (.invokevirtual 105, 3) := by decide +kernel
theorem dX11_terms_26 : decode cX11_terms 26 = .ok (.if_icmp .gt 79, 3) := by decide +kernel
theorem dX11_terms_29 : decode cX11_terms 29 = .ok (.iconst 0, 1) := by decide +kernel
theorem dX11_terms_30 : decode cX11_terms 30 = .ok (.istore 5, 2) := by decide +kernel
theorem dX11_terms_32 : decode cX11_terms 32 = .ok (.iconst 0, 1) := by decide +kernel
theorem dX11_terms_33 : decode cX11_terms 33 = .ok (.istore 6, 2) := by decide +kernel
theorem dX11_terms_35 : decode cX11_terms 35 = .ok (.iload 6, 2) := by decide +kernel
theorem dX11_terms_37 : decode cX11_terms 37 = .ok (.aload_n 0, 1) := by decide +kernel
theorem dX11_terms_38 : decode cX11_terms 38 = .ok (.invokevirtual 147, 3) := by decide +kernel
theorem dX11_terms_41 : decode cX11_terms 41 = .ok (.if_icmp .ge 32, 3) := by decide +kernel
theorem dX11_terms_44 : decode cX11_terms 44 = .ok (.iload 5, 2) := by decide +kernel
theorem dX11_terms_46 : decode cX11_terms 46 = .ok (.ifCond .ne 14, 3) := by decide +kernel
theorem dX11_terms_49 : decode cX11_terms 49 = .ok (.aload_n 0, 1) := by decide +kernel
theorem dX11_terms_50 : decode cX11_terms 50 = .ok (.iload 6, 2) := by decide +kernel
theorem dX11_terms_52 : decode cX11_terms 52 = .ok (.invokevirtual 150, 3) := by decide +kernel
theorem dX11_terms_55 : decode cX11_terms 55 = .ok (.iload 4, 2) := by decide +kernel
theorem dX11_terms_57 : decode cX11_terms 57 = .ok (.if_icmp .ne 7, 3) := by decide +kernel
theorem dX11_terms_60 : decode cX11_terms 60 = .ok (.iconst 1, 1) := by decide +kernel
theorem dX11_terms_61 : decode cX11_terms 61 = .ok (.goto 4, 3) := by decide +kernel
theorem dX11_terms_64 : decode cX11_terms 64 = .ok (.iconst 0, 1) := by decide +kernel
theorem dX11_terms_65 : decode cX11_terms 65 = .ok (.istore 5, 2) := by decide +kernel
theorem dX11_terms_67 : decode cX11_terms 67 = .ok (.iinc 6 1, 3) := by decide +kernel
theorem dX11_terms_70 : decode cX11_terms 70 = .ok (.goto (-35), 3) := by decide +kernel
theorem dX11_terms_73 : decode cX11_terms 73 = .ok (.iload 5, 2) := by decide +kernel
theorem dX11_terms_75 : decode cX11_terms 75 = .ok (.ifCond .eq 24, 3) := by decide +kernel
theorem dX11_terms_78 : decode cX11_terms 78 = .ok (.aload_n 0, 1) := by decide +kernel
theorem dX11_terms_79 : decode cX11_terms 79 = .ok (.iload 4, 2) := by decide +kernel
theorem dX11_terms_81 : decode cX11_terms 81 = .ok (.iload_n 1, 1) := by decide +kernel
theorem dX11_terms_82 : decode cX11_terms 82 = .ok (.invokevirtual 153, 3) := by decide +kernel
theorem dX11_terms_85 : decode cX11_terms 85 = .ok (.ifCond .eq 14, 3) := by decide +kernel
theorem dX11_terms_88 : decode cX11_terms 88 = .ok (.iload_n 3, 1) := by decide +kernel
theorem dX11_terms_89 : decode cX11_terms 89 = .ok (.iload_n 2, 1) := by decide +kernel
theorem dX11_terms_90 : decode cX11_terms 90 = .ok (.if_icmp .ne 6, 3) := by decide +kernel
theorem dX11_terms_93 : decode cX11_terms 93 = .ok (.iload 4, 2) := by decide +kernel
theorem dX11_terms_95 : decode cX11_terms 95 = .ok (.ireturn, 1) := by decide +kernel
theorem dX11_terms_96 : decode cX11_terms 96 = .ok (.iinc 3 1, 3) := by decide +kernel
theorem dX11_terms_99 : decode cX11_terms 99 = .ok (.iinc 4 1, 3) := by decide +kernel
theorem dX11_terms_102 : decode cX11_terms 102 = .ok (.goto (-82), 3) := by decide +kernel
theorem dX11_terms_105 : decode cX11_terms 105 = .ok (.iload_n 2, 1) := by decide +kernel
theorem dX11_terms_106 : decode cX11_terms 106 = .ok (.iconst (-1), 1) := by decide +kernel
theorem dX11_terms_107 : decode cX11_terms 107 = .ok (.if_icmp .ne 7, 3) := by decide +kernel
theorem dX11_terms_110 : decode cX11_terms 110 = .ok (.iload_n 3, 1) := by decide +kernel
theorem dX11_terms_111 : decode cX11_terms 111 = .ok (.goto 4, 3) := by decide +kernel
theorem dX11_terms_114 : decode cX11_terms 114 = .ok (.iconst (-1), 1) := by decide +kernel
theorem dX11_terms_115 : decode cX11_terms 115 = .ok (.ireturn, 1) := by decide +kernel
set_option maxRecDepth 20000 in
theorem ggX11_refusal_X11_isSet : GoodIn wsX11_refusal wsX11_isSet := goodIn_r _ [5, 6, 7, 8, 4, 9, 10, 11, 12, 13, 41, 42, 43, 44, 45, 46, 47, 48, 49, 50, 51, 52, 53, 54, 55, 56, 57, 58, 59, 60, 61, 62, 63, 64, 65] (by decide +kernel) (by decide +kernel)
set_option maxRecDepth 20000 in
theorem gX11_refusal_X11_isSet : GoodIn wsX11_refusal (wsV RX11 124 RX11 yX11_isSet wsX11_isSet) := goodIn_app (goodIn_of _ (by decide +kernel)) ggX11_refusal_X11_isSet
set_option maxRecDepth 20000 in
theorem ggX11_refusal_X11_findAll : GoodIn wsX11_refusal wsX11_findAll := goodIn_r _ [17, 18, 19, 20, 21, 22, 23, 24, 25, 26, 27, 4, 28, 10, 29, 30, 31, 32, 33, 34, 35, 36, 41, 42, 43, 44, 45, 46, 47, 48, 49, 50, 51, 52, 53, 54, 55, 56, 57, 58, 59, 60, 61, 62, 63, 64, 65] (by decide +kernel) (by decide +kernel)
set_option maxRecDepth 20000 in
theorem gX11_refusal_X11_findAll : GoodIn wsX11_refusal (wsV RX11 138 RX11 yX11_findAll wsX11_findAll) := goodIn_app (goodIn_of _ (by decide +kernel)) ggX11_refusal_X11_findAll
set_option maxRecDepth 20000 in
theorem ggX11_refusal_X11_allSets : GoodIn wsX11_refusal wsX11_allSets := goodIn_r _ [9, 10, 41, 42, 43, 44, 45, 46, 47, 48, 49, 50, 51, 52, 53, 54, 55, 56, 57, 58, 59, 60, 61, 62, 63, 64, 65] (by decide +kernel) (by decide +kernel)
set_option maxRecDepth 20000 in
theorem gX11_refusal_X11_allSets : GoodIn wsX11_refusal (wsV RX11 105 RX11 yX11_allSets wsX11_allSets) := goodIn_app (goodIn_of _ (by decide +kernel)) ggX11_refusal_X11_allSets
set_option maxRecDepth 20000 in
theorem ggX11_refusal_X11_lengthOf : GoodIn wsX11_refusal wsX11_lengthOf := goodIn_r _ [40, 18, 41, 42, 43, 44, 45, 46, 47, 48, 49, 50, 51, 52, 53, 54, 55, 56, 57, 58, 59, 60, 61, 62, 63, 64, 65] (by decide +kernel) (by decide +kernel)
set_option maxRecDepth 20000 in
theorem gX11_refusal_X11_lengthOf : GoodIn wsX11_refusal (wsV RX11 141 RX11 yX11_lengthOf wsX11_lengthOf) := goodIn_app (goodIn_of _ (by decide +kernel)) ggX11_refusal_X11_lengthOf
theorem dX11_refusal_0 : decode cX11_refusal 0 = .ok (.aload_n 0, 1) := by decide +kernel
theorem dX11_refusal_1 : decode cX11_refusal 1 = .ok (.iload_n 1, 1) := by decide +kernel
theorem dX11_refusal_2 : decode cX11_refusal 2 = .ok (.invokevirtual 124, 3) := by decide +kernel
theorem dX11_refusal_5 : decode cX11_refusal 5 = .ok (.ifCond .ne 5, 3) := by decide +kernel
theorem dX11_refusal_8 : decode cX11_refusal 8 = .ok (.iconst (-1), 1) := by decide +kernel
theorem dX11_refusal_9 : decode cX11_refusal 9 = .ok (.ireturn, 1) := by decide +kernel
theorem dX11_refusal_10 : decode cX11_refusal 10 = .ok (.aload_n 0, 1) := by decide +kernel
theorem dX11_refusal_11 : decode cX11_refusal 11 = .ok (.iconst (-1), 1) := by decide +kernel
theorem dX11_refusal_12 : decode cX11_refusal 12 = .ok (.invokevirtual 138, 3) := by decide +kernel
theorem dX11_refusal_15 : decode cX11_refusal 15 = .ok (.aload_n 0, 1) := by decide +kernel
theorem dX11_refusal_16 : decode cX11_refusal 16 = .ok (.aload_n 0, 1) := by decide +kernel
theorem dX11_refusal_17 : decode cX11_refusal 17 = .ok (.invokevirtual 105, 3) := by decide +kernel
theorem dX11_refusal_20 : decode cX11_refusal 20 = .ok (.iload_n 1, 1) := by decide +kernel
theorem dX11_refusal_21 : decode cX11_refusal 21 = .ok (.iconst (-1), 1) := by decide +kernel
theorem dX11_refusal_22 : decode cX11_refusal 22 = .ok (.ixor, 1) := by decide +kernel
theorem dX11_refusal_23 : decode cX11_refusal 23 = .ok (.iand, 1) := by decide +kernel
theorem dX11_refusal_24 : decode cX11_refusal 24 = .ok (.invokevirtual 141, 3) := by decide +kernel
theorem dX11_refusal_27 : decode cX11_refusal 27 = .ok (.ireturn, 1) := by decide +kernel
set_option maxRecDepth 20000 in
theorem ggX11_worst_X11_in : GoodIn wsX11_worst wsX11_in := goodIn_r _ [6] (by decide +kernel) (by decide +kernel)
set_option maxRecDepth 20000 in
theorem gX11_worst_X11_in : GoodIn wsX11_worst (va_wsS RX11 55 yX11_in wsX11_in) := goodIn_app (goodIn_of _ (by decide +kernel)) ggX11_worst_X11_in
set_option maxRecDepth 20000 in
theorem ggX11_worst_X11_findAll : GoodIn wsX11_worst wsX11_findAll := goodIn_r _ [10, 11, 12, 1, 2, 13, 14, 15, 16, 17, 18, 5, 19, 20, 21, 22, 23, 24, 25, 26, 27, 28, 37, 38, 39, 40, 41, 42, 43, 44, 45, 46, 47, 48, 49, 50, 51, 52, 53, 54, 55, 56, 57, 58, 59, 60, 61] (by decide +kernel) (by decide +kernel)
set_option maxRecDepth 20000 in
theorem gX11_worst_X11_findAll : GoodIn wsX11_worst (wsV RX11 138 RX11 yX11_findAll wsX11_findAll) := goodIn_app (goodIn_of _ (by decide +kernel)) ggX11_worst_X11_findAll
set_option maxRecDepth 20000 in
theorem ggX11_worst_X11_allSets : GoodIn wsX11_worst wsX11_allSets := goodIn_r _ [32, 20, 37, 38, 39, 40, 41, 42, 43, 44, 45, 46, 47, 48, 49, 50, 51, 52, 53, 54, 55, 56, 57, 58, 59, 60, 61] (by decide +kernel) (by decide +kernel)
set_option maxRecDepth 20000 in
theorem gX11_worst_X11_allSets : GoodIn wsX11_worst (wsV RX11 105 RX11 yX11_allSets wsX11_allSets) := goodIn_app (goodIn_of _ (by decide +kernel)) ggX11_worst_X11_allSets
set_option maxRecDepth 20000 in
theorem ggX11_worst_X11_worldsOf : GoodIn wsX11_worst wsX11_worldsOf := goodIn_r _ [19, 20, 21, 22, 23, 5, 24, 2, 37, 38, 39, 40, 41, 42, 43, 44, 45, 46, 47, 48, 49, 50, 51, 52, 53, 54, 55, 56, 57, 58, 59, 60, 61] (by decide +kernel) (by decide +kernel)
set_option maxRecDepth 20000 in
theorem gX11_worst_X11_worldsOf : GoodIn wsX11_worst (wsV RX11 112 RX11 yX11_worldsOf wsX11_worldsOf) := goodIn_app (goodIn_of _ (by decide +kernel)) ggX11_worst_X11_worldsOf
set_option maxRecDepth 20000 in
theorem ggX11_worst_X11_lengthOf : GoodIn wsX11_worst wsX11_lengthOf := goodIn_r _ [36, 11, 37, 38, 39, 40, 41, 42, 43, 44, 45, 46, 47, 48, 49, 50, 51, 52, 53, 54, 55, 56, 57, 58, 59, 60, 61] (by decide +kernel) (by decide +kernel)
set_option maxRecDepth 20000 in
theorem gX11_worst_X11_lengthOf : GoodIn wsX11_worst (wsV RX11 141 RX11 yX11_lengthOf wsX11_lengthOf) := goodIn_app (goodIn_of _ (by decide +kernel)) ggX11_worst_X11_lengthOf
theorem dX11_worst_0 : decode cX11_worst 0 = .ok (.iload_n 1, 1) := by decide +kernel
theorem dX11_worst_1 : decode cX11_worst 1 = .ok (.iconst 0, 1) := by decide +kernel
theorem dX11_worst_2 : decode cX11_worst 2 = .ok (.iconst 1, 1) := by decide +kernel
theorem dX11_worst_3 : decode cX11_worst 3 = .ok (.invokestatic 55, 3) := by decide +kernel
theorem dX11_worst_6 : decode cX11_worst 6 = .ok (.ifCond .ne 5, 3) := by decide +kernel
theorem dX11_worst_9 : decode cX11_worst 9 = .ok (.iconst (-1), 1) := by decide +kernel
theorem dX11_worst_10 : decode cX11_worst 10 = .ok (.ireturn, 1) := by decide +kernel
theorem dX11_worst_11 : decode cX11_worst 11 = .ok (.aload_n 0, 1) := by decide +kernel
theorem dX11_worst_12 : decode cX11_worst 12 = .ok (.iconst (-1), 1) := by decide +kernel
theorem dX11_worst_13 : decode cX11_worst 13 = .ok (.invokevirtual 138, 3) := by decide +kernel
theorem dX11_worst_16 : decode cX11_worst 16 = .ok (.bipush (-9), 2) := by decide +kernel
theorem dX11_worst_18 : decode cX11_worst 18 = .ok (.istore_n 2, 1) := by decide +kernel
theorem dX11_worst_19 : decode cX11_worst 19 = .ok (.bipush (-9), 2) := by decide +kernel
theorem dX11_worst_21 : decode cX11_worst 21 = .ok (.istore_n 3, 1) := by decide +kernel
theorem dX11_worst_22 : decode cX11_worst 22 = .ok (.iconst 0, 1) := by decide +kernel
theorem dX11_worst_23 : decode cX11_worst 23 = .ok (.istore 4, 2) := by decide +kernel
theorem dX11_worst_25 : decode cX11_worst 25 = .ok (.iload 4, 2) := by decide +kernel
theorem dX11_worst_27 : decode cX11_worst 27 = .ok (.aload_n 0, 1) := by decide +kernel
theorem dX11_worst_28 : decode cX11_worst 28 = .ok (.getfield 95, 3) := by decide +kernel
theorem dX11_worst_31 : decode cX11_worst 31 = .ok (.if_icmp .ge 83, 3) := by decide +kernel
theorem dX11_worst_34 : decode cX11_worst 34 = .ok (.iconst 0, 1) := by decide +kernel
theorem dX11_worst_35 : decode cX11_worst 35 = .ok (.istore 5, 2) := by decide +kernel
theorem dX11_worst_37 : decode cX11_worst 37 = .ok (.iload 5, 2) := by decide +kernel
theorem dX11_worst_39 : decode cX11_worst 39 = .ok (.aload_n 0, 1) := by decide +kernel
theorem dX11_worst_40 : decode cX11_worst 40 = .ok (.getfield 13, 3) := by decide +kernel
theorem dX11_worst_43 : decode cX11_worst 43 = .ok (.iload 4, 2) := by decide +kernel
theorem dX11_worst_45 : decode cX11_worst 45 = .ok (.iaload, 1) := by decide +kernel
theorem dX11_worst_46 : decode cX11_worst 46 = .ok (.if_icmp .ge 62, 3) := by decide +kernel
theorem dX11_worst_49 : decode cX11_worst 49 = .ok (.aload_n 0, 1) := by decide +kernel
theorem dX11_worst_50 : decode cX11_worst 50 = .ok (.aload_n 0, 1) := by decide +kernel
theorem dX11_worst_51 : decode cX11_worst 51 = .ok (.invokevirtual 105, 3) := by decide +kernel
theorem dX11_worst_54 : decode cX11_worst 54 = .ok (.aload_n 0, 1) := by decide +kernel
theorem dX11_worst_55 : decode cX11_worst 55 = .ok (.iload 4, 2) := by decide +kernel
theorem dX11_worst_57 : decode cX11_worst 57 = .ok (.iload 5, 2) := by decide +kernel
theorem dX11_worst_59 : decode cX11_worst 59 = .ok (.invokevirtual 112, 3) := by decide +kernel
theorem dX11_worst_62 : decode cX11_worst 62 = .ok (.iconst (-1), 1) := by decide +kernel
theorem dX11_worst_63 : decode cX11_worst 63 = .ok (.ixor, 1) := by decide +kernel
theorem dX11_worst_64 : decode cX11_worst 64 = .ok (.iand, 1) := by decide +kernel
theorem dX11_worst_65 : decode cX11_worst 65 = .ok (.invokevirtual 141, 3) := by decide +kernel
theorem dX11_worst_68 : decode cX11_worst 68 = .ok (.istore 6, 2) := by decide +kernel
theorem dX11_worst_70 : decode cX11_worst 70 = .ok (.iload 6, 2) := by decide +kernel
theorem dX11_worst_72 : decode cX11_worst 72 = .ok (.iload_n 3, 1) := by decide +kernel
theorem dX11_worst_73 : decode cX11_worst 73 = .ok (.if_icmp .le 14, 3) := by decide +kernel
theorem dX11_worst_76 : decode cX11_worst 76 = .ok (.bipush 10, 2) := by decide +kernel
theorem dX11_worst_78 : decode cX11_worst 78 = .ok (.iload 4, 2) := by decide +kernel
theorem dX11_worst_80 : decode cX11_worst 80 = .ok (.imul, 1) := by decide +kernel
theorem dX11_worst_81 : decode cX11_worst 81 = .ok (.iload 5, 2) := by decide +kernel
theorem dX11_worst_83 : decode cX11_worst 83 = .ok (.iadd, 1) := by decide +kernel
theorem dX11_worst_84 : decode cX11_worst 84 = .ok (.goto 4, 3) := by decide +kernel
theorem dX11_worst_87 : decode cX11_worst 87 = .ok (.iload_n 2, 1) := by decide +kernel
theorem dX11_worst_88 : decode cX11_worst 88 = .ok (.istore_n 2, 1) := by decide +kernel
theorem dX11_worst_89 : decode cX11_worst 89 = .ok (.iload 6, 2) := by decide +kernel
theorem dX11_worst_91 : decode cX11_worst 91 = .ok (.iload_n 3, 1) := by decide +kernel
theorem dX11_worst_92 : decode cX11_worst 92 = .ok (.if_icmp .le 8, 3) := by decide +kernel
theorem dX11_worst_95 : decode cX11_worst 95 = .ok (.iload 6, 2) := by decide +kernel
theorem dX11_worst_97 : decode cX11_worst 97 = .ok (.goto 4, 3) := by decide +kernel
theorem dX11_worst_100 : decode cX11_worst 100 = .ok (.iload_n 3, 1) := by decide +kernel
theorem dX11_worst_101 : decode cX11_worst 101 = .ok (.istore_n 3, 1) := by decide +kernel
theorem dX11_worst_102 : decode cX11_worst 102 = .ok (.iinc 5 1, 3) := by decide +kernel
theorem dX11_worst_105 : decode cX11_worst 105 = .ok (.goto (-68), 3) := by decide +kernel
theorem dX11_worst_108 : decode cX11_worst 108 = .ok (.iinc 4 1, 3) := by decide +kernel
theorem dX11_worst_111 : decode cX11_worst 111 = .ok (.goto (-86), 3) := by decide +kernel
theorem dX11_worst_114 : decode cX11_worst 114 = .ok (.iload_n 1, 1) := by decide +kernel
theorem dX11_worst_115 : decode cX11_worst 115 = .ok (.ifCond .ne 7, 3) := by decide +kernel
theorem dX11_worst_118 : decode cX11_worst 118 = .ok (.iload_n 2, 1) := by decide +kernel
theorem dX11_worst_119 : decode cX11_worst 119 = .ok (.goto 4, 3) := by decide +kernel
theorem dX11_worst_122 : decode cX11_worst 122 = .ok (.iload_n 3, 1) := by decide +kernel
theorem dX11_worst_123 : decode cX11_worst 123 = .ok (.ireturn, 1) := by decide +kernel
set_option maxRecDepth 20000 in
theorem ggX11_allRefusals_X11_allSets : GoodIn wsX11_allRefusals wsX11_allSets := goodIn_r _ [7, 8, 22, 23, 24, 25, 26, 27, 28, 29, 30, 31, 32, 33, 34, 35, 36, 37, 38, 39, 40, 41, 42, 43, 44, 45, 46] (by decide +kernel) (by decide +kernel)
set_option maxRecDepth 20000 in
theorem gX11_allRefusals_X11_allSets : GoodIn wsX11_allRefusals (wsV RX11 105 RX11 yX11_allSets wsX11_allSets) := goodIn_app (goodIn_of _ (by decide +kernel)) ggX11_allRefusals_X11_allSets
set_option maxRecDepth 20000 in
theorem ggX11_allRefusals_X11_worldsOf : GoodIn wsX11_allRefusals wsX11_worldsOf := goodIn_r _ [12, 8, 13, 14, 15, 6, 16, 2, 22, 23, 24, 25, 26, 27, 28, 29, 30, 31, 32, 33, 34, 35, 36, 37, 38, 39, 40, 41, 42, 43, 44, 45, 46] (by decide +kernel) (by decide +kernel)
set_option maxRecDepth 20000 in
theorem gX11_allRefusals_X11_worldsOf : GoodIn wsX11_allRefusals (wsV RX11 112 RX11 yX11_worldsOf wsX11_worldsOf) := goodIn_app (goodIn_of _ (by decide +kernel)) ggX11_allRefusals_X11_worldsOf
set_option maxRecDepth 20000 in
theorem ggX11_allRefusals_X11_lengthOf : GoodIn wsX11_allRefusals wsX11_lengthOf := goodIn_r _ [20, 21, 22, 23, 24, 25, 26, 27, 28, 29, 30, 31, 32, 33, 34, 35, 36, 37, 38, 39, 40, 41, 42, 43, 44, 45, 46] (by decide +kernel) (by decide +kernel)
set_option maxRecDepth 20000 in
theorem gX11_allRefusals_X11_lengthOf : GoodIn wsX11_allRefusals (wsV RX11 141 RX11 yX11_lengthOf wsX11_lengthOf) := goodIn_app (goodIn_of _ (by decide +kernel)) ggX11_allRefusals_X11_lengthOf
theorem dX11_allRefusals_0 : decode cX11_allRefusals 0 = .ok (.iconst 0, 1) := by decide +kernel
theorem dX11_allRefusals_1 : decode cX11_allRefusals 1 = .ok (.istore_n 1, 1) := by decide +kernel
theorem dX11_allRefusals_2 : decode cX11_allRefusals 2 = .ok (.iconst 0, 1) := by decide +kernel
theorem dX11_allRefusals_3 : decode cX11_allRefusals 3 = .ok (.istore_n 2, 1) := by decide +kernel
theorem dX11_allRefusals_4 : decode cX11_allRefusals 4 = .ok (.iload_n 2, 1) := by decide +kernel
theorem dX11_allRefusals_5 : decode cX11_allRefusals 5 = .ok (.aload_n 0, 1) := by decide +kernel
theorem dX11_allRefusals_6 : decode cX11_allRefusals 6 = .ok (.getfield 95, 3) := by decide +kernel
theorem dX11_allRefusals_9 : decode cX11_allRefusals 9 = .ok (.if_icmp .ge 47, 3) := by decide +kernel
theorem dX11_allRefusals_12 : decode cX11_allRefusals 12 = .ok (.iconst 0, 1) := by decide +kernel
theorem dX11_allRefusals_13 : decode cX11_allRefusals 13 = .ok (.istore_n 3, 1) := by decide +kernel
theorem dX11_allRefusals_14 : decode cX11_allRefusals 14 = .ok (.iload_n 3, 1) := by decide +kernel
theorem dX11_allRefusals_15 : decode cX11_allRefusals 15 = .ok (.aload_n 0, 1) := by decide +kernel
theorem dX11_allRefusals_16 : decode cX11_allRefusals 16 = .ok (.getfield 13, 3) := by decide +kernel
theorem dX11_allRefusals_19 : decode cX11_allRefusals 19 = .ok (.iload_n 2, 1) := by decide +kernel
theorem dX11_allRefusals_20 : decode cX11_allRefusals 20 = .ok (.iaload, 1) := by decide +kernel
theorem dX11_allRefusals_21 : decode cX11_allRefusals 21 = .ok (.if_icmp .ge 29, 3) := by decide +kernel
theorem dX11_allRefusals_24 : decode cX11_allRefusals 24 = .ok (.iload_n 1, 1) := by decide +kernel
theorem dX11_allRefusals_25 : decode cX11_allRefusals 25 = .ok (.aload_n 0, 1) := by decide +kernel
theorem dX11_allRefusals_26 : decode cX11_allRefusals 26 = .ok (.aload_n 0, 1) := by decide +kernel
theorem dX11_allRefusals_27 : decode cX11_allRefusals 27 = .ok (.invokevirtual 105, 3) := by decide +kernel
theorem dX11_allRefusals_30 : decode cX11_allRefusals 30 = .ok (.aload_n 0, 1) := by decide +kernel
theorem dX11_allRefusals_31 : decode cX11_allRefusals 31 = .ok (.iload_n 2, 1) := by decide +kernel
theorem dX11_allRefusals_32 : decode cX11_allRefusals 32 = .ok (.iload_n 3, 1) := by decide +kernel
theorem dX11_allRefusals_33 : decode cX11_allRefusals 33 = .ok (.invokevirtual 112, 3) := by decide +kernel
theorem dX11_allRefusals_36 : decode cX11_allRefusals 36 = .ok (.iconst (-1), 1) := by decide +kernel
theorem dX11_allRefusals_37 : decode cX11_allRefusals 37 = .ok (.ixor, 1) := by decide +kernel
theorem dX11_allRefusals_38 : decode cX11_allRefusals 38 = .ok (.iand, 1) := by decide +kernel
theorem dX11_allRefusals_39 : decode cX11_allRefusals 39 = .ok (.invokevirtual 141, 3) := by decide +kernel
theorem dX11_allRefusals_42 : decode cX11_allRefusals 42 = .ok (.iadd, 1) := by decide +kernel
theorem dX11_allRefusals_43 : decode cX11_allRefusals 43 = .ok (.istore_n 1, 1) := by decide +kernel
theorem dX11_allRefusals_44 : decode cX11_allRefusals 44 = .ok (.iinc 3 1, 3) := by decide +kernel
theorem dX11_allRefusals_47 : decode cX11_allRefusals 47 = .ok (.goto (-33), 3) := by decide +kernel
theorem dX11_allRefusals_50 : decode cX11_allRefusals 50 = .ok (.iinc 2 1, 3) := by decide +kernel
theorem dX11_allRefusals_53 : decode cX11_allRefusals 53 = .ok (.goto (-49), 3) := by decide +kernel
theorem dX11_allRefusals_56 : decode cX11_allRefusals 56 = .ok (.iload_n 1, 1) := by decide +kernel
theorem dX11_allRefusals_57 : decode cX11_allRefusals 57 = .ok (.ireturn, 1) := by decide +kernel
set_option maxRecDepth 20000 in
theorem ggX11_saves_X11_in : GoodIn wsX11_saves wsX11_in := goodIn_r _ [7] (by decide +kernel) (by decide +kernel)
set_option maxRecDepth 20000 in
theorem gX11_saves_X11_in : GoodIn wsX11_saves (va_wsS RX11 55 yX11_in wsX11_in) := goodIn_app (goodIn_of _ (by decide +kernel)) ggX11_saves_X11_in
set_option maxRecDepth 20000 in
theorem ggX11_saves_X11_allSets : GoodIn wsX11_saves wsX11_allSets := goodIn_r _ [11, 12, 41, 42, 43, 44, 45, 46, 47, 48, 49, 50, 51, 52, 53, 54, 55, 56, 57, 58, 59, 60, 61, 62, 63, 64, 65] (by decide +kernel) (by decide +kernel)
set_option maxRecDepth 20000 in
theorem gX11_saves_X11_allSets : GoodIn wsX11_saves (wsV RX11 105 RX11 yX11_allSets wsX11_allSets) := goodIn_app (goodIn_of _ (by decide +kernel)) ggX11_saves_X11_allSets
set_option maxRecDepth 20000 in
theorem ggX11_saves_X11_worldsOf : GoodIn wsX11_saves wsX11_worldsOf := goodIn_r _ [16, 12, 17, 18, 19, 6, 20, 3, 41, 42, 43, 44, 45, 46, 47, 48, 49, 50, 51, 52, 53, 54, 55, 56, 57, 58, 59, 60, 61, 62, 63, 64, 65] (by decide +kernel) (by decide +kernel)
set_option maxRecDepth 20000 in
theorem gX11_saves_X11_worldsOf : GoodIn wsX11_saves (wsV RX11 112 RX11 yX11_worldsOf wsX11_worldsOf) := goodIn_app (goodIn_of _ (by decide +kernel)) ggX11_saves_X11_worldsOf
set_option maxRecDepth 20000 in
theorem ggX11_saves_X11_findAll : GoodIn wsX11_saves wsX11_findAll := goodIn_r _ [24, 25, 26, 2, 3, 1, 27, 28, 13, 14, 15, 6, 16, 12, 17, 18, 19, 20, 29, 30, 31, 32, 41, 42, 43, 44, 45, 46, 47, 48, 49, 50, 51, 52, 53, 54, 55, 56, 57, 58, 59, 60, 61, 62, 63, 64, 65] (by decide +kernel) (by decide +kernel)
set_option maxRecDepth 20000 in
theorem gX11_saves_X11_findAll : GoodIn wsX11_saves (wsV RX11 138 RX11 yX11_findAll wsX11_findAll) := goodIn_app (goodIn_of _ (by decide +kernel)) ggX11_saves_X11_findAll
set_option maxRecDepth 20000 in
theorem ggX11_saves_X11_allRefusals : GoodIn wsX11_saves wsX11_allRefusals := goodIn_r _ [36, 2, 3, 8, 9, 10, 6, 11, 12, 13, 14, 15, 16, 17, 18, 19, 20, 37, 38, 39, 40, 25, 41, 42, 43, 44, 45, 46, 47, 48, 49, 50, 51, 52, 53, 54, 55, 56, 57, 58, 59, 60, 61, 62, 63, 64, 65] (by decide +kernel) (by decide +kernel)
set_option maxRecDepth 20000 in
theorem gX11_saves_X11_allRefusals : GoodIn wsX11_saves (wsV RX11 157 RX11 yX11_allRefusals wsX11_allRefusals) := goodIn_app (goodIn_of _ (by decide +kernel)) ggX11_saves_X11_allRefusals
theorem dX11_saves_0 : decode cX11_saves 0 = .ok (.iload_n 1, 1) := by decide +kernel
theorem dX11_saves_1 : decode cX11_saves 1 = .ok (.iconst 0, 1) := by decide +kernel
theorem dX11_saves_2 : decode cX11_saves 2 = .ok (.iconst 1, 1) := by decide +kernel
theorem dX11_saves_3 : decode cX11_saves 3 = .ok (.invokestatic 55, 3) := by decide +kernel
theorem dX11_saves_6 : decode cX11_saves 6 = .ok (.ifCond .ne 5, 3) := by decide +kernel
theorem dX11_saves_9 : decode cX11_saves 9 = .ok (.iconst (-1), 1) := by decide +kernel
theorem dX11_saves_10 : decode cX11_saves 10 = .ok (.ireturn, 1) := by decide +kernel
theorem dX11_saves_11 : decode cX11_saves 11 = .ok (.aload_n 0, 1) := by decide +kernel
theorem dX11_saves_12 : decode cX11_saves 12 = .ok (.getfield 29, 3) := by decide +kernel
theorem dX11_saves_15 : decode cX11_saves 15 = .ok (.iconst 0, 1) := by decide +kernel
theorem dX11_saves_16 : decode cX11_saves 16 = .ok (.iaload, 1) := by decide +kernel
theorem dX11_saves_17 : decode cX11_saves 17 = .ok (.iconst 3, 1) := by decide +kernel
theorem dX11_saves_18 : decode cX11_saves 18 = .ok (.if_icmp .ne 6, 3) := by decide +kernel
theorem dX11_saves_21 : decode cX11_saves 21 = .ok (.bipush (-3), 2) := by decide +kernel
theorem dX11_saves_23 : decode cX11_saves 23 = .ok (.ireturn, 1) := by decide +kernel
theorem dX11_saves_24 : decode cX11_saves 24 = .ok (.bipush (-9), 2) := by decide +kernel
theorem dX11_saves_26 : decode cX11_saves 26 = .ok (.istore_n 2, 1) := by decide +kernel
theorem dX11_saves_27 : decode cX11_saves 27 = .ok (.bipush (-9), 2) := by decide +kernel
theorem dX11_saves_29 : decode cX11_saves 29 = .ok (.istore_n 3, 1) := by decide +kernel
theorem dX11_saves_30 : decode cX11_saves 30 = .ok (.iconst 0, 1) := by decide +kernel
theorem dX11_saves_31 : decode cX11_saves 31 = .ok (.istore 4, 2) := by decide +kernel
theorem dX11_saves_33 : decode cX11_saves 33 = .ok (.iload 4, 2) := by decide +kernel
theorem dX11_saves_35 : decode cX11_saves 35 = .ok (.aload_n 0, 1) := by decide +kernel
theorem dX11_saves_36 : decode cX11_saves 36 = .ok (.getfield 95, 3) := by decide +kernel
theorem dX11_saves_39 : decode cX11_saves 39 = .ok (.if_icmp .ge 79, 3) := by decide +kernel
theorem dX11_saves_42 : decode cX11_saves 42 = .ok (.iconst 0, 1) := by decide +kernel
theorem dX11_saves_43 : decode cX11_saves 43 = .ok (.istore 5, 2) := by decide +kernel
theorem dX11_saves_45 : decode cX11_saves 45 = .ok (.iload 5, 2) := by decide +kernel
theorem dX11_saves_47 : decode cX11_saves 47 = .ok (.aload_n 0, 1) := by decide +kernel
theorem dX11_saves_48 : decode cX11_saves 48 = .ok (.getfield 13, 3) := by decide +kernel
theorem dX11_saves_51 : decode cX11_saves 51 = .ok (.iload 4, 2) := by decide +kernel
theorem dX11_saves_53 : decode cX11_saves 53 = .ok (.iaload, 1) := by decide +kernel
theorem dX11_saves_54 : decode cX11_saves 54 = .ok (.if_icmp .ge 58, 3) := by decide +kernel
theorem dX11_saves_57 : decode cX11_saves 57 = .ok (.aload_n 0, 1) := by decide +kernel
theorem dX11_saves_58 : decode cX11_saves 58 = .ok (.aload_n 0, 1) := by decide +kernel
theorem dX11_saves_59 : decode cX11_saves 59 = .ok (.invokevirtual 105, 3) := by decide +kernel
theorem dX11_saves_62 : decode cX11_saves 62 = .ok (.aload_n 0, 1) := by decide +kernel
theorem dX11_saves_63 : decode cX11_saves 63 = .ok (.iload 4, 2) := by decide +kernel
theorem dX11_saves_65 : decode cX11_saves 65 = .ok (.iload 5, 2) := by decide +kernel
theorem dX11_saves_67 : decode cX11_saves 67 = .ok (.invokevirtual 112, 3) := by decide +kernel
theorem dX11_saves_70 : decode cX11_saves 70 = .ok (.iconst (-1), 1) := by decide +kernel
theorem dX11_saves_71 : decode cX11_saves 71 = .ok (.ixor, 1) := by decide +kernel
theorem dX11_saves_72 : decode cX11_saves 72 = .ok (.iand, 1) := by decide +kernel
theorem dX11_saves_73 : decode cX11_saves 73 = .ok (.invokevirtual 138, 3) := by decide +kernel
theorem dX11_saves_76 : decode cX11_saves 76 = .ok (.aload_n 0, 1) := by decide +kernel
theorem dX11_saves_77 : decode cX11_saves 77 = .ok (.invokevirtual 157, 3) := by decide +kernel
theorem dX11_saves_80 : decode cX11_saves 80 = .ok (.istore 6, 2) := by decide +kernel
theorem dX11_saves_82 : decode cX11_saves 82 = .ok (.iload_n 3, 1) := by decide +kernel
theorem dX11_saves_83 : decode cX11_saves 83 = .ok (.bipush (-9), 2) := by decide +kernel
theorem dX11_saves_85 : decode cX11_saves 85 = .ok (.if_icmp .eq 9, 3) := by decide +kernel
theorem dX11_saves_88 : decode cX11_saves 88 = .ok (.iload 6, 2) := by decide +kernel
theorem dX11_saves_90 : decode cX11_saves 90 = .ok (.iload_n 3, 1) := by decide +kernel
theorem dX11_saves_91 : decode cX11_saves 91 = .ok (.if_icmp .ge 15, 3) := by decide +kernel
theorem dX11_saves_94 : decode cX11_saves 94 = .ok (.bipush 10, 2) := by decide +kernel
theorem dX11_saves_96 : decode cX11_saves 96 = .ok (.iload 4, 2) := by decide +kernel
theorem dX11_saves_98 : decode cX11_saves 98 = .ok (.imul, 1) := by decide +kernel
theorem dX11_saves_99 : decode cX11_saves 99 = .ok (.iload 5, 2) := by decide +kernel
theorem dX11_saves_101 : decode cX11_saves 101 = .ok (.iadd, 1) := by decide +kernel
theorem dX11_saves_102 : decode cX11_saves 102 = .ok (.istore_n 2, 1) := by decide +kernel
theorem dX11_saves_103 : decode cX11_saves 103 = .ok (.iload 6, 2) := by decide +kernel
theorem dX11_saves_105 : decode cX11_saves 105 = .ok (.istore_n 3, 1) := by decide +kernel
theorem dX11_saves_106 : decode cX11_saves 106 = .ok (.iinc 5 1, 3) := by decide +kernel
theorem dX11_saves_109 : decode cX11_saves 109 = .ok (.goto (-64), 3) := by decide +kernel
theorem dX11_saves_112 : decode cX11_saves 112 = .ok (.iinc 4 1, 3) := by decide +kernel
theorem dX11_saves_115 : decode cX11_saves 115 = .ok (.goto (-82), 3) := by decide +kernel
theorem dX11_saves_118 : decode cX11_saves 118 = .ok (.iload_n 1, 1) := by decide +kernel
theorem dX11_saves_119 : decode cX11_saves 119 = .ok (.ifCond .ne 7, 3) := by decide +kernel
theorem dX11_saves_122 : decode cX11_saves 122 = .ok (.iload_n 2, 1) := by decide +kernel
theorem dX11_saves_123 : decode cX11_saves 123 = .ok (.goto 4, 3) := by decide +kernel
theorem dX11_saves_126 : decode cX11_saves 126 = .ok (.iload_n 3, 1) := by decide +kernel
theorem dX11_saves_127 : decode cX11_saves 127 = .ok (.ireturn, 1) := by decide +kernel
set_option maxRecDepth 20000 in
theorem ggX11_contractBut_X11_allSets : GoodIn wsX11_contractBut wsX11_allSets := goodIn_r _ [7, 8, 9, 10, 11, 12, 13, 14, 15, 16, 17, 18, 19, 20, 21, 22, 23, 24, 25, 26, 27, 28, 29, 30, 31, 32, 33] (by decide +kernel) (by decide +kernel)
set_option maxRecDepth 20000 in
theorem gX11_contractBut_X11_allSets : GoodIn wsX11_contractBut (wsV RX11 105 RX11 yX11_allSets wsX11_allSets) := goodIn_app (goodIn_of _ (by decide +kernel)) ggX11_contractBut_X11_allSets
theorem dX11_contractBut_0 : decode cX11_contractBut 0 = .ok (.aload_n 0, 1) := by decide +kernel
theorem dX11_contractBut_1 : decode cX11_contractBut 1 = .ok (.invokevirtual 105, 3) := by decide +kernel
theorem dX11_contractBut_4 : decode cX11_contractBut 4 = .ok (.istore_n 2, 1) := by decide +kernel
theorem dX11_contractBut_5 : decode cX11_contractBut 5 = .ok (.iconst 0, 1) := by decide +kernel
theorem dX11_contractBut_6 : decode cX11_contractBut 6 = .ok (.istore_n 3, 1) := by decide +kernel
theorem dX11_contractBut_7 : decode cX11_contractBut 7 = .ok (.iload_n 3, 1) := by decide +kernel
theorem dX11_contractBut_8 : decode cX11_contractBut 8 = .ok (.aload_n 0, 1) := by decide +kernel
theorem dX11_contractBut_9 : decode cX11_contractBut 9 = .ok (.getfield 20, 3) := by decide +kernel
theorem dX11_contractBut_12 : decode cX11_contractBut 12 = .ok (.iconst 0, 1) := by decide +kernel
theorem dX11_contractBut_13 : decode cX11_contractBut 13 = .ok (.iaload, 1) := by decide +kernel
theorem dX11_contractBut_14 : decode cX11_contractBut 14 = .ok (.if_icmp .ge 30, 3) := by decide +kernel
theorem dX11_contractBut_17 : decode cX11_contractBut 17 = .ok (.iload_n 2, 1) := by decide +kernel
theorem dX11_contractBut_18 : decode cX11_contractBut 18 = .ok (.iload_n 3, 1) := by decide +kernel
theorem dX11_contractBut_19 : decode cX11_contractBut 19 = .ok (.iload_n 1, 1) := by decide +kernel
theorem dX11_contractBut_20 : decode cX11_contractBut 20 = .ok (.if_icmp .ne 10, 3) := by decide +kernel
theorem dX11_contractBut_23 : decode cX11_contractBut 23 = .ok (.aload_n 0, 1) := by decide +kernel
theorem dX11_contractBut_24 : decode cX11_contractBut 24 = .ok (.invokevirtual 105, 3) := by decide +kernel
theorem dX11_contractBut_27 : decode cX11_contractBut 27 = .ok (.goto 9, 3) := by decide +kernel
theorem dX11_contractBut_30 : decode cX11_contractBut 30 = .ok (.aload_n 0, 1) := by decide +kernel
theorem dX11_contractBut_31 : decode cX11_contractBut 31 = .ok (.getfield 23, 3) := by decide +kernel
theorem dX11_contractBut_34 : decode cX11_contractBut 34 = .ok (.iload_n 3, 1) := by decide +kernel
theorem dX11_contractBut_35 : decode cX11_contractBut 35 = .ok (.iaload, 1) := by decide +kernel
theorem dX11_contractBut_36 : decode cX11_contractBut 36 = .ok (.iand, 1) := by decide +kernel
theorem dX11_contractBut_37 : decode cX11_contractBut 37 = .ok (.istore_n 2, 1) := by decide +kernel
theorem dX11_contractBut_38 : decode cX11_contractBut 38 = .ok (.iinc 3 1, 3) := by decide +kernel
theorem dX11_contractBut_41 : decode cX11_contractBut 41 = .ok (.goto (-34), 3) := by decide +kernel
theorem dX11_contractBut_44 : decode cX11_contractBut 44 = .ok (.iload_n 2, 1) := by decide +kernel
theorem dX11_contractBut_45 : decode cX11_contractBut 45 = .ok (.ireturn, 1) := by decide +kernel
set_option maxRecDepth 20000 in
theorem ggX11_contract_X11_contractBut : GoodIn wsX11_contract wsX11_contractBut := goodIn_r _ [5, 6, 7, 8, 9, 10, 4, 11, 12, 13, 14, 15, 16, 17, 18, 19, 20, 21, 22, 23, 24, 25, 26, 27, 28, 29, 30, 31, 32, 33, 34, 35, 36, 37] (by decide +kernel) (by decide +kernel)
set_option maxRecDepth 20000 in
theorem gX11_contract_X11_contractBut : GoodIn wsX11_contract (wsV RX11 160 RX11 yX11_contractBut wsX11_contractBut) := goodIn_app (goodIn_of _ (by decide +kernel)) ggX11_contract_X11_contractBut
theorem dX11_contract_0 : decode cX11_contract 0 = .ok (.aload_n 0, 1) := by decide +kernel
theorem dX11_contract_1 : decode cX11_contract 1 = .ok (.bipush (-9), 2) := by decide +kernel
theorem dX11_contract_3 : decode cX11_contract 3 = .ok (.invokevirtual 160, 3) := by decide +kernel
theorem dX11_contract_6 : decode cX11_contract 6 = .ok (.ireturn, 1) := by decide +kernel
set_option maxRecDepth 20000 in
theorem ggX11_gap_X11_isSet : GoodIn wsX11_gap wsX11_isSet := goodIn_r _ [5, 6, 7, 8, 4, 9, 10, 11, 12, 13, 20, 21, 22, 23, 24, 25, 26, 27, 28, 29, 30, 31, 32, 33, 34, 35, 36, 37, 38, 39, 40, 41, 42, 43, 44] (by decide +kernel) (by decide +kernel)
set_option maxRecDepth 20000 in
theorem gX11_gap_X11_isSet : GoodIn wsX11_gap (wsV RX11 124 RX11 yX11_isSet wsX11_isSet) := goodIn_app (goodIn_of _ (by decide +kernel)) ggX11_gap_X11_isSet
set_option maxRecDepth 20000 in
theorem ggX11_gap_X11_contractBut : GoodIn wsX11_gap wsX11_contractBut := goodIn_r _ [17, 18, 19, 6, 7, 8, 4, 9, 10, 20, 21, 22, 23, 24, 25, 26, 27, 28, 29, 30, 31, 32, 33, 34, 35, 36, 37, 38, 39, 40, 41, 42, 43, 44] (by decide +kernel) (by decide +kernel)
set_option maxRecDepth 20000 in
theorem gX11_gap_X11_contractBut : GoodIn wsX11_gap (wsV RX11 160 RX11 yX11_contractBut wsX11_contractBut) := goodIn_app (goodIn_of _ (by decide +kernel)) ggX11_gap_X11_contractBut
theorem dX11_gap_0 : decode cX11_gap 0 = .ok (.aload_n 0, 1) := by decide +kernel
theorem dX11_gap_1 : decode cX11_gap 1 = .ok (.iload_n 1, 1) := by decide +kernel
theorem dX11_gap_2 : decode cX11_gap 2 = .ok (.invokevirtual 124, 3) := by decide +kernel
theorem dX11_gap_5 : decode cX11_gap 5 = .ok (.ifCond .eq 16, 3) := by decide +kernel
theorem dX11_gap_8 : decode cX11_gap 8 = .ok (.aload_n 0, 1) := by decide +kernel
theorem dX11_gap_9 : decode cX11_gap 9 = .ok (.bipush (-9), 2) := by decide +kernel
theorem dX11_gap_11 : decode cX11_gap 11 = .ok (.invokevirtual 160, 3) := by decide +kernel
theorem dX11_gap_14 : decode cX11_gap 14 = .ok (.iload_n 1, 1) := by decide +kernel
theorem dX11_gap_15 : decode cX11_gap 15 = .ok (.iconst (-1), 1) := by decide +kernel
theorem dX11_gap_16 : decode cX11_gap 16 = .ok (.ixor, 1) := by decide +kernel
theorem dX11_gap_17 : decode cX11_gap 17 = .ok (.iand, 1) := by decide +kernel
theorem dX11_gap_18 : decode cX11_gap 18 = .ok (.goto 4, 3) := by decide +kernel
theorem dX11_gap_21 : decode cX11_gap 21 = .ok (.iconst (-1), 1) := by decide +kernel
theorem dX11_gap_22 : decode cX11_gap 22 = .ok (.ireturn, 1) := by decide +kernel
set_option maxRecDepth 20000 in
theorem ggX11_clause_X11_isSet : GoodIn wsX11_clause wsX11_isSet := goodIn_r _ [6, 7, 8, 9, 5, 10, 11, 12, 13, 14, 43, 44, 45, 46, 47, 48, 49, 50, 51, 52, 53, 54, 55, 56, 57, 58, 59, 60, 61, 62, 63, 64, 65, 66, 67] (by decide +kernel) (by decide +kernel)
set_option maxRecDepth 20000 in
theorem gX11_clause_X11_isSet : GoodIn wsX11_clause (wsV RX11 124 RX11 yX11_isSet wsX11_isSet) := goodIn_app (goodIn_of _ (by decide +kernel)) ggX11_clause_X11_isSet
set_option maxRecDepth 20000 in
theorem ggX11_clause_X11_in : GoodIn wsX11_clause wsX11_in := goodIn_r _ [14] (by decide +kernel) (by decide +kernel)
set_option maxRecDepth 20000 in
theorem gX11_clause_X11_in : GoodIn wsX11_clause (va_wsS RX11 55 yX11_in wsX11_in) := goodIn_app (goodIn_of _ (by decide +kernel)) ggX11_clause_X11_in
set_option maxRecDepth 20000 in
theorem ggX11_clause_X11_findAll : GoodIn wsX11_clause wsX11_findAll := goodIn_r _ [18, 1, 19, 20, 21, 22, 23, 24, 25, 26, 27, 5, 28, 11, 29, 30, 31, 32, 33, 34, 35, 36, 43, 44, 45, 46, 47, 48, 49, 50, 51, 52, 53, 54, 55, 56, 57, 58, 59, 60, 61, 62, 63, 64, 65, 66, 67] (by decide +kernel) (by decide +kernel)
set_option maxRecDepth 20000 in
theorem gX11_clause_X11_findAll : GoodIn wsX11_clause (wsV RX11 138 RX11 yX11_findAll wsX11_findAll) := goodIn_app (goodIn_of _ (by decide +kernel)) ggX11_clause_X11_findAll
set_option maxRecDepth 20000 in
theorem ggX11_clause_X11_contractBut : GoodIn wsX11_clause wsX11_contractBut := goodIn_r _ [40, 41, 42, 7, 8, 9, 5, 10, 11, 43, 44, 45, 46, 47, 48, 49, 50, 51, 52, 53, 54, 55, 56, 57, 58, 59, 60, 61, 62, 63, 64, 65, 66, 67] (by decide +kernel) (by decide +kernel)
set_option maxRecDepth 20000 in
theorem gX11_clause_X11_contractBut : GoodIn wsX11_clause (wsV RX11 160 RX11 yX11_contractBut wsX11_contractBut) := goodIn_app (goodIn_of _ (by decide +kernel)) ggX11_clause_X11_contractBut
set_option maxRecDepth 20000 in
theorem ggX11_clause_X11_allSets : GoodIn wsX11_clause wsX11_allSets := goodIn_r _ [10, 11, 43, 44, 45, 46, 47, 48, 49, 50, 51, 52, 53, 54, 55, 56, 57, 58, 59, 60, 61, 62, 63, 64, 65, 66, 67] (by decide +kernel) (by decide +kernel)
set_option maxRecDepth 20000 in
theorem gX11_clause_X11_allSets : GoodIn wsX11_clause (wsV RX11 105 RX11 yX11_allSets wsX11_allSets) := goodIn_app (goodIn_of _ (by decide +kernel)) ggX11_clause_X11_allSets
theorem dX11_clause_0 : decode cX11_clause 0 = .ok (.aload_n 0, 1) := by decide +kernel
theorem dX11_clause_1 : decode cX11_clause 1 = .ok (.iload_n 1, 1) := by decide +kernel
theorem dX11_clause_2 : decode cX11_clause 2 = .ok (.invokevirtual 124, 3) := by decide +kernel
theorem dX11_clause_5 : decode cX11_clause 5 = .ok (.ifCond .eq 12, 3) := by decide +kernel
theorem dX11_clause_8 : decode cX11_clause 8 = .ok (.iload_n 2, 1) := by decide +kernel
theorem dX11_clause_9 : decode cX11_clause 9 = .ok (.iconst 0, 1) := by decide +kernel
theorem dX11_clause_10 : decode cX11_clause 10 = .ok (.iconst 1, 1) := by decide +kernel
theorem dX11_clause_11 : decode cX11_clause 11 = .ok (.invokestatic 55, 3) := by decide +kernel
theorem dX11_clause_14 : decode cX11_clause 14 = .ok (.ifCond .ne 5, 3) := by decide +kernel
theorem dX11_clause_17 : decode cX11_clause 17 = .ok (.iconst (-1), 1) := by decide +kernel
theorem dX11_clause_18 : decode cX11_clause 18 = .ok (.ireturn, 1) := by decide +kernel
theorem dX11_clause_19 : decode cX11_clause 19 = .ok (.aload_n 0, 1) := by decide +kernel
theorem dX11_clause_20 : decode cX11_clause 20 = .ok (.iconst (-1), 1) := by decide +kernel
theorem dX11_clause_21 : decode cX11_clause 21 = .ok (.invokevirtual 138, 3) := by decide +kernel
theorem dX11_clause_24 : decode cX11_clause 24 = .ok (.aload_n 0, 1) := by decide +kernel
theorem dX11_clause_25 : decode cX11_clause 25 = .ok (.bipush (-9), 2) := by decide +kernel
theorem dX11_clause_27 : decode cX11_clause 27 = .ok (.invokevirtual 160, 3) := by decide +kernel
theorem dX11_clause_30 : decode cX11_clause 30 = .ok (.istore_n 3, 1) := by decide +kernel
theorem dX11_clause_31 : decode cX11_clause 31 = .ok (.bipush (-9), 2) := by decide +kernel
theorem dX11_clause_33 : decode cX11_clause 33 = .ok (.istore 4, 2) := by decide +kernel
theorem dX11_clause_35 : decode cX11_clause 35 = .ok (.iconst 0, 1) := by decide +kernel
theorem dX11_clause_36 : decode cX11_clause 36 = .ok (.istore 5, 2) := by decide +kernel
theorem dX11_clause_38 : decode cX11_clause 38 = .ok (.iload 5, 2) := by decide +kernel
theorem dX11_clause_40 : decode cX11_clause 40 = .ok (.aload_n 0, 1) := by decide +kernel
theorem dX11_clause_41 : decode cX11_clause 41 = .ok (.invokevirtual 105, 3) := by decide +kernel
theorem dX11_clause_44 : decode cX11_clause 44 = .ok (.if_icmp .gt 74, 3) := by decide +kernel
theorem dX11_clause_47 : decode cX11_clause 47 = .ok (.aload_n 0, 1) := by decide +kernel
theorem dX11_clause_48 : decode cX11_clause 48 = .ok (.getfield 45, 3) := by decide +kernel
theorem dX11_clause_51 : decode cX11_clause 51 = .ok (.iload 5, 2) := by decide +kernel
theorem dX11_clause_53 : decode cX11_clause 53 = .ok (.iaload, 1) := by decide +kernel
theorem dX11_clause_54 : decode cX11_clause 54 = .ok (.ifCond .le 17, 3) := by decide +kernel
theorem dX11_clause_57 : decode cX11_clause 57 = .ok (.iload_n 3, 1) := by decide +kernel
theorem dX11_clause_58 : decode cX11_clause 58 = .ok (.iload 5, 2) := by decide +kernel
theorem dX11_clause_60 : decode cX11_clause 60 = .ok (.iand, 1) := by decide +kernel
theorem dX11_clause_61 : decode cX11_clause 61 = .ok (.iload_n 3, 1) := by decide +kernel
theorem dX11_clause_62 : decode cX11_clause 62 = .ok (.iload_n 1, 1) := by decide +kernel
theorem dX11_clause_63 : decode cX11_clause 63 = .ok (.iand, 1) := by decide +kernel
theorem dX11_clause_64 : decode cX11_clause 64 = .ok (.if_icmp .ne 7, 3) := by decide +kernel
theorem dX11_clause_67 : decode cX11_clause 67 = .ok (.iconst 1, 1) := by decide +kernel
theorem dX11_clause_68 : decode cX11_clause 68 = .ok (.goto 4, 3) := by decide +kernel
theorem dX11_clause_71 : decode cX11_clause 71 = .ok (.iconst 0, 1) := by decide +kernel
theorem dX11_clause_72 : decode cX11_clause 72 = .ok (.istore 6, 2) := by decide +kernel
theorem dX11_clause_74 : decode cX11_clause 74 = .ok (.iload 6, 2) := by decide +kernel
theorem dX11_clause_76 : decode cX11_clause 76 = .ok (.ifCond .eq 32, 3) := by decide +kernel
theorem dX11_clause_79 : decode cX11_clause 79 = .ok (.iload 4, 2) := by decide +kernel
theorem dX11_clause_81 : decode cX11_clause 81 = .ok (.bipush (-9), 2) := by decide +kernel
theorem dX11_clause_83 : decode cX11_clause 83 = .ok (.if_icmp .eq 20, 3) := by decide +kernel
theorem dX11_clause_86 : decode cX11_clause 86 = .ok (.aload_n 0, 1) := by decide +kernel
theorem dX11_clause_87 : decode cX11_clause 87 = .ok (.getfield 45, 3) := by decide +kernel
theorem dX11_clause_90 : decode cX11_clause 90 = .ok (.iload 5, 2) := by decide +kernel
theorem dX11_clause_92 : decode cX11_clause 92 = .ok (.iaload, 1) := by decide +kernel
theorem dX11_clause_93 : decode cX11_clause 93 = .ok (.aload_n 0, 1) := by decide +kernel
theorem dX11_clause_94 : decode cX11_clause 94 = .ok (.getfield 45, 3) := by decide +kernel
theorem dX11_clause_97 : decode cX11_clause 97 = .ok (.iload 4, 2) := by decide +kernel
theorem dX11_clause_99 : decode cX11_clause 99 = .ok (.iaload, 1) := by decide +kernel
theorem dX11_clause_100 : decode cX11_clause 100 = .ok (.if_icmp .ge 8, 3) := by decide +kernel
theorem dX11_clause_103 : decode cX11_clause 103 = .ok (.iload 5, 2) := by decide +kernel
theorem dX11_clause_105 : decode cX11_clause 105 = .ok (.goto 5, 3) := by decide +kernel
theorem dX11_clause_108 : decode cX11_clause 108 = .ok (.iload 4, 2) := by decide +kernel
theorem dX11_clause_110 : decode cX11_clause 110 = .ok (.istore 4, 2) := by decide +kernel
theorem dX11_clause_112 : decode cX11_clause 112 = .ok (.iinc 5 1, 3) := by decide +kernel
theorem dX11_clause_115 : decode cX11_clause 115 = .ok (.goto (-77), 3) := by decide +kernel
theorem dX11_clause_118 : decode cX11_clause 118 = .ok (.iload 4, 2) := by decide +kernel
theorem dX11_clause_120 : decode cX11_clause 120 = .ok (.bipush (-9), 2) := by decide +kernel
theorem dX11_clause_122 : decode cX11_clause 122 = .ok (.if_icmp .eq 7, 3) := by decide +kernel
theorem dX11_clause_125 : decode cX11_clause 125 = .ok (.iload_n 2, 1) := by decide +kernel
theorem dX11_clause_126 : decode cX11_clause 126 = .ok (.ifCond .ne 8, 3) := by decide +kernel
theorem dX11_clause_129 : decode cX11_clause 129 = .ok (.iload 4, 2) := by decide +kernel
theorem dX11_clause_131 : decode cX11_clause 131 = .ok (.goto 10, 3) := by decide +kernel
theorem dX11_clause_134 : decode cX11_clause 134 = .ok (.aload_n 0, 1) := by decide +kernel
theorem dX11_clause_135 : decode cX11_clause 135 = .ok (.getfield 45, 3) := by decide +kernel
theorem dX11_clause_138 : decode cX11_clause 138 = .ok (.iload 4, 2) := by decide +kernel
theorem dX11_clause_140 : decode cX11_clause 140 = .ok (.iaload, 1) := by decide +kernel
theorem dX11_clause_141 : decode cX11_clause 141 = .ok (.ireturn, 1) := by decide +kernel
