theorem dX10_endsOf_94 : decode cX10_endsOf 94 = .ok (.iload 6, 2) := by decide +kernel
theorem dX10_endsOf_96 : decode cX10_endsOf 96 = .ok (.iconst 3, 1) := by decide +kernel
theorem dX10_endsOf_97 : decode cX10_endsOf 97 = .ok (.if_icmp .ge 19, 3) := by decide +kernel
theorem dX10_endsOf_100 : decode cX10_endsOf 100 = .ok (.iload 6, 2) := by decide +kernel
theorem dX10_endsOf_102 : decode cX10_endsOf 102 = .ok (.iconst 1, 1) := by decide +kernel
theorem dX10_endsOf_103 : decode cX10_endsOf 103 = .ok (.if_icmp .ne 9, 3) := by decide +kernel
theorem dX10_endsOf_106 : decode cX10_endsOf 106 = .ok (.iload_n 3, 1) := by decide +kernel
theorem dX10_endsOf_107 : decode cX10_endsOf 107 = .ok (.bipush (-9), 2) := by decide +kernel
theorem dX10_endsOf_109 : decode cX10_endsOf 109 = .ok (.if_icmp .ne 7, 3) := by decide +kernel
theorem dX10_endsOf_112 : decode cX10_endsOf 112 = .ok (.iconst 1, 1) := by decide +kernel
theorem dX10_endsOf_113 : decode cX10_endsOf 113 = .ok (.goto 4, 3) := by decide +kernel
theorem dX10_endsOf_116 : decode cX10_endsOf 116 = .ok (.iconst 0, 1) := by decide +kernel
theorem dX10_endsOf_117 : decode cX10_endsOf 117 = .ok (.istore 4, 2) := by decide +kernel
theorem dX10_endsOf_119 : decode cX10_endsOf 119 = .ok (.iload 6, 2) := by decide +kernel
theorem dX10_endsOf_121 : decode cX10_endsOf 121 = .ok (.iconst 1, 1) := by decide +kernel
theorem dX10_endsOf_122 : decode cX10_endsOf 122 = .ok (.if_icmp .ne 20, 3) := by decide +kernel
theorem dX10_endsOf_125 : decode cX10_endsOf 125 = .ok (.iload_n 2, 1) := by decide +kernel
theorem dX10_endsOf_126 : decode cX10_endsOf 126 = .ok (.bipush (-9), 2) := by decide +kernel
theorem dX10_endsOf_128 : decode cX10_endsOf 128 = .ok (.if_icmp .eq 14, 3) := by decide +kernel
theorem dX10_endsOf_131 : decode cX10_endsOf 131 = .ok (.iload_n 3, 1) := by decide +kernel
theorem dX10_endsOf_132 : decode cX10_endsOf 132 = .ok (.bipush (-9), 2) := by decide +kernel
theorem dX10_endsOf_134 : decode cX10_endsOf 134 = .ok (.if_icmp .ne 8, 3) := by decide +kernel
theorem dX10_endsOf_137 : decode cX10_endsOf 137 = .ok (.iload 5, 2) := by decide +kernel
theorem dX10_endsOf_139 : decode cX10_endsOf 139 = .ok (.goto 4, 3) := by decide +kernel
theorem dX10_endsOf_142 : decode cX10_endsOf 142 = .ok (.iload_n 3, 1) := by decide +kernel
theorem dX10_endsOf_143 : decode cX10_endsOf 143 = .ok (.istore_n 3, 1) := by decide +kernel
theorem dX10_endsOf_144 : decode cX10_endsOf 144 = .ok (.iload 6, 2) := by decide +kernel
theorem dX10_endsOf_146 : decode cX10_endsOf 146 = .ok (.iconst 1, 1) := by decide +kernel
theorem dX10_endsOf_147 : decode cX10_endsOf 147 = .ok (.if_icmp .ne 14, 3) := by decide +kernel
theorem dX10_endsOf_150 : decode cX10_endsOf 150 = .ok (.iload_n 2, 1) := by decide +kernel
theorem dX10_endsOf_151 : decode cX10_endsOf 151 = .ok (.bipush (-9), 2) := by decide +kernel
theorem dX10_endsOf_153 : decode cX10_endsOf 153 = .ok (.if_icmp .ne 8, 3) := by decide +kernel
theorem dX10_endsOf_156 : decode cX10_endsOf 156 = .ok (.iload 5, 2) := by decide +kernel
theorem dX10_endsOf_158 : decode cX10_endsOf 158 = .ok (.goto 4, 3) := by decide +kernel
theorem dX10_endsOf_161 : decode cX10_endsOf 161 = .ok (.iload_n 2, 1) := by decide +kernel
theorem dX10_endsOf_162 : decode cX10_endsOf 162 = .ok (.istore_n 2, 1) := by decide +kernel
theorem dX10_endsOf_163 : decode cX10_endsOf 163 = .ok (.iinc 5 1, 3) := by decide +kernel
theorem dX10_endsOf_166 : decode cX10_endsOf 166 = .ok (.goto (-146), 3) := by decide +kernel
theorem dX10_endsOf_169 : decode cX10_endsOf 169 = .ok (.iload 4, 2) := by decide +kernel
theorem dX10_endsOf_171 : decode cX10_endsOf 171 = .ok (.ifCond .eq 9, 3) := by decide +kernel
theorem dX10_endsOf_174 : decode cX10_endsOf 174 = .ok (.iload_n 3, 1) := by decide +kernel
theorem dX10_endsOf_175 : decode cX10_endsOf 175 = .ok (.bipush (-9), 2) := by decide +kernel
theorem dX10_endsOf_177 : decode cX10_endsOf 177 = .ok (.if_icmp .ne 5, 3) := by decide +kernel
theorem dX10_endsOf_180 : decode cX10_endsOf 180 = .ok (.iconst 0, 1) := by decide +kernel
theorem dX10_endsOf_181 : decode cX10_endsOf 181 = .ok (.ireturn, 1) := by decide +kernel
theorem dX10_endsOf_182 : decode cX10_endsOf 182 = .ok (.iload_n 1, 1) := by decide +kernel
theorem dX10_endsOf_183 : decode cX10_endsOf 183 = .ok (.istore 5, 2) := by decide +kernel
theorem dX10_endsOf_185 : decode cX10_endsOf 185 = .ok (.iload_n 2, 1) := by decide +kernel
theorem dX10_endsOf_186 : decode cX10_endsOf 186 = .ok (.istore 6, 2) := by decide +kernel
theorem dX10_endsOf_188 : decode cX10_endsOf 188 = .ok (.iconst 0, 1) := by decide +kernel
theorem dX10_endsOf_189 : decode cX10_endsOf 189 = .ok (.istore 7, 2) := by decide +kernel
theorem dX10_endsOf_191 : decode cX10_endsOf 191 = .ok (.iload 7, 2) := by decide +kernel
theorem dX10_endsOf_193 : decode cX10_endsOf 193 = .ok (.bipush 6, 2) := by decide +kernel
theorem dX10_endsOf_195 : decode cX10_endsOf 195 = .ok (.if_icmp .ge 122, 3) := by decide +kernel
theorem dX10_endsOf_198 : decode cX10_endsOf 198 = .ok (.bipush (-9), 2) := by decide +kernel
theorem dX10_endsOf_200 : decode cX10_endsOf 200 = .ok (.istore 8, 2) := by decide +kernel
theorem dX10_endsOf_202 : decode cX10_endsOf 202 = .ok (.iconst 0, 1) := by decide +kernel
theorem dX10_endsOf_203 : decode cX10_endsOf 203 = .ok (.istore 9, 2) := by decide +kernel
theorem dX10_endsOf_205 : decode cX10_endsOf 205 = .ok (.iload 9, 2) := by decide +kernel
theorem dX10_endsOf_207 : decode cX10_endsOf 207 = .ok (.bipush 6, 2) := by decide +kernel
theorem dX10_endsOf_209 : decode cX10_endsOf 209 = .ok (.if_icmp .ge 53, 3) := by decide +kernel
theorem dX10_endsOf_212 : decode cX10_endsOf 212 = .ok (.iload 5, 2) := by decide +kernel
theorem dX10_endsOf_214 : decode cX10_endsOf 214 = .ok (.iload 9, 2) := by decide +kernel
theorem dX10_endsOf_216 : decode cX10_endsOf 216 = .ok (.ishr, 1) := by decide +kernel
theorem dX10_endsOf_217 : decode cX10_endsOf 217 = .ok (.iconst 1, 1) := by decide +kernel
theorem dX10_endsOf_218 : decode cX10_endsOf 218 = .ok (.iand, 1) := by decide +kernel
theorem dX10_endsOf_219 : decode cX10_endsOf 219 = .ok (.iconst 1, 1) := by decide +kernel
theorem dX10_endsOf_220 : decode cX10_endsOf 220 = .ok (.if_icmp .ne 32, 3) := by decide +kernel
theorem dX10_endsOf_223 : decode cX10_endsOf 223 = .ok (.aload_n 0, 1) := by decide +kernel
theorem dX10_endsOf_224 : decode cX10_endsOf 224 = .ok (.getfield 16, 3) := by decide +kernel
theorem dX10_endsOf_227 : decode cX10_endsOf 227 = .ok (.iload 9, 2) := by decide +kernel
theorem dX10_endsOf_229 : decode cX10_endsOf 229 = .ok (.iaload, 1) := by decide +kernel
theorem dX10_endsOf_230 : decode cX10_endsOf 230 = .ok (.iload 6, 2) := by decide +kernel
theorem dX10_endsOf_232 : decode cX10_endsOf 232 = .ok (.if_icmp .eq 15, 3) := by decide +kernel
theorem dX10_endsOf_235 : decode cX10_endsOf 235 = .ok (.aload_n 0, 1) := by decide +kernel
theorem dX10_endsOf_236 : decode cX10_endsOf 236 = .ok (.getfield 19, 3) := by decide +kernel
theorem dX10_endsOf_239 : decode cX10_endsOf 239 = .ok (.iload 9, 2) := by decide +kernel
theorem dX10_endsOf_241 : decode cX10_endsOf 241 = .ok (.iaload, 1) := by decide +kernel
theorem dX10_endsOf_242 : decode cX10_endsOf 242 = .ok (.iload 6, 2) := by decide +kernel
theorem dX10_endsOf_244 : decode cX10_endsOf 244 = .ok (.if_icmp .ne 8, 3) := by decide +kernel
theorem dX10_endsOf_247 : decode cX10_endsOf 247 = .ok (.iload 9, 2) := by decide +kernel
theorem dX10_endsOf_249 : decode cX10_endsOf 249 = .ok (.goto 5, 3) := by decide +kernel
theorem dX10_endsOf_252 : decode cX10_endsOf 252 = .ok (.iload 8, 2) := by decide +kernel
theorem dX10_endsOf_254 : decode cX10_endsOf 254 = .ok (.istore 8, 2) := by decide +kernel
theorem dX10_endsOf_256 : decode cX10_endsOf 256 = .ok (.iinc 9 1, 3) := by decide +kernel
theorem dX10_endsOf_259 : decode cX10_endsOf 259 = .ok (.goto (-54), 3) := by decide +kernel
theorem dX10_endsOf_262 : decode cX10_endsOf 262 = .ok (.iload 8, 2) := by decide +kernel
theorem dX10_endsOf_264 : decode cX10_endsOf 264 = .ok (.bipush (-9), 2) := by decide +kernel
theorem dX10_endsOf_266 : decode cX10_endsOf 266 = .ok (.if_icmp .eq 45, 3) := by decide +kernel
theorem dX10_endsOf_269 : decode cX10_endsOf 269 = .ok (.iload 5, 2) := by decide +kernel
theorem dX10_endsOf_271 : decode cX10_endsOf 271 = .ok (.iconst 1, 1) := by decide +kernel
theorem dX10_endsOf_272 : decode cX10_endsOf 272 = .ok (.iload 8, 2) := by decide +kernel
theorem dX10_endsOf_274 : decode cX10_endsOf 274 = .ok (.ishl, 1) := by decide +kernel
theorem dX10_endsOf_275 : decode cX10_endsOf 275 = .ok (.iconst (-1), 1) := by decide +kernel
theorem dX10_endsOf_276 : decode cX10_endsOf 276 = .ok (.ixor, 1) := by decide +kernel
theorem dX10_endsOf_277 : decode cX10_endsOf 277 = .ok (.iand, 1) := by decide +kernel
theorem dX10_endsOf_278 : decode cX10_endsOf 278 = .ok (.istore 5, 2) := by decide +kernel
theorem dX10_endsOf_280 : decode cX10_endsOf 280 = .ok (.aload_n 0, 1) := by decide +kernel
theorem dX10_endsOf_281 : decode cX10_endsOf 281 = .ok (.getfield 16, 3) := by decide +kernel
theorem dX10_endsOf_284 : decode cX10_endsOf 284 = .ok (.iload 8, 2) := by decide +kernel
theorem dX10_endsOf_286 : decode cX10_endsOf 286 = .ok (.iaload, 1) := by decide +kernel
theorem dX10_endsOf_287 : decode cX10_endsOf 287 = .ok (.iload 6, 2) := by decide +kernel
theorem dX10_endsOf_289 : decode cX10_endsOf 289 = .ok (.if_icmp .ne 13, 3) := by decide +kernel
theorem dX10_endsOf_292 : decode cX10_endsOf 292 = .ok (.aload_n 0, 1) := by decide +kernel
theorem dX10_endsOf_293 : decode cX10_endsOf 293 = .ok (.getfield 19, 3) := by decide +kernel
theorem dX10_endsOf_296 : decode cX10_endsOf 296 = .ok (.iload 8, 2) := by decide +kernel
theorem dX10_endsOf_298 : decode cX10_endsOf 298 = .ok (.iaload, 1) := by decide +kernel
theorem dX10_endsOf_299 : decode cX10_endsOf 299 = .ok (.goto 10, 3) := by decide +kernel
theorem dX10_endsOf_302 : decode cX10_endsOf 302 = .ok (.aload_n 0, 1) := by decide +kernel
theorem dX10_endsOf_303 : decode cX10_endsOf 303 = .ok (.getfield 16, 3) := by decide +kernel
theorem dX10_endsOf_306 : decode cX10_endsOf 306 = .ok (.iload 8, 2) := by decide +kernel
theorem dX10_endsOf_308 : decode cX10_endsOf 308 = .ok (.iaload, 1) := by decide +kernel
theorem dX10_endsOf_309 : decode cX10_endsOf 309 = .ok (.istore 6, 2) := by decide +kernel
theorem dX10_endsOf_311 : decode cX10_endsOf 311 = .ok (.iinc 7 1, 3) := by decide +kernel
theorem dX10_endsOf_314 : decode cX10_endsOf 314 = .ok (.goto (-123), 3) := by decide +kernel
theorem dX10_endsOf_317 : decode cX10_endsOf 317 = .ok (.iload 5, 2) := by decide +kernel
theorem dX10_endsOf_319 : decode cX10_endsOf 319 = .ok (.ifCond .ne 13, 3) := by decide +kernel
theorem dX10_endsOf_322 : decode cX10_endsOf 322 = .ok (.iconst 5, 1) := by decide +kernel
theorem dX10_endsOf_323 : decode cX10_endsOf 323 = .ok (.iload_n 2, 1) := by decide +kernel
theorem dX10_endsOf_324 : decode cX10_endsOf 324 = .ok (.imul, 1) := by decide +kernel
theorem dX10_endsOf_325 : decode cX10_endsOf 325 = .ok (.iload_n 3, 1) := by decide +kernel
theorem dX10_endsOf_326 : decode cX10_endsOf 326 = .ok (.iadd, 1) := by decide +kernel
theorem dX10_endsOf_327 : decode cX10_endsOf 327 = .ok (.iconst 1, 1) := by decide +kernel
theorem dX10_endsOf_328 : decode cX10_endsOf 328 = .ok (.iadd, 1) := by decide +kernel
theorem dX10_endsOf_329 : decode cX10_endsOf 329 = .ok (.goto 4, 3) := by decide +kernel
theorem dX10_endsOf_332 : decode cX10_endsOf 332 = .ok (.iconst 0, 1) := by decide +kernel
theorem dX10_endsOf_333 : decode cX10_endsOf 333 = .ok (.ireturn, 1) := by decide +kernel
theorem dX10_isLane_0 : decode cX10_isLane 0 = .ok (.iload_n 1, 1) := by decide +kernel
theorem dX10_isLane_1 : decode cX10_isLane 1 = .ok (.iconst 0, 1) := by decide +kernel
theorem dX10_isLane_2 : decode cX10_isLane 2 = .ok (.aload_n 0, 1) := by decide +kernel
theorem dX10_isLane_3 : decode cX10_isLane 3 = .ok (.getfield 13, 3) := by decide +kernel
theorem dX10_isLane_6 : decode cX10_isLane 6 = .ok (.iconst 1, 1) := by decide +kernel
theorem dX10_isLane_7 : decode cX10_isLane 7 = .ok (.iaload, 1) := by decide +kernel
theorem dX10_isLane_8 : decode cX10_isLane 8 = .ok (.iconst 1, 1) := by decide +kernel
theorem dX10_isLane_9 : decode cX10_isLane 9 = .ok (.isub, 1) := by decide +kernel
theorem dX10_isLane_10 : decode cX10_isLane 10 = .ok (.invokestatic 93, 3) := by decide +kernel
theorem dX10_isLane_13 : decode cX10_isLane 13 = .ok (.ireturn, 1) := by decide +kernel
theorem dX10_isMap_0 : decode cX10_isMap 0 = .ok (.iload_n 1, 1) := by decide +kernel
theorem dX10_isMap_1 : decode cX10_isMap 1 = .ok (.iconst 0, 1) := by decide +kernel
theorem dX10_isMap_2 : decode cX10_isMap 2 = .ok (.aload_n 0, 1) := by decide +kernel
theorem dX10_isMap_3 : decode cX10_isMap 3 = .ok (.getfield 28, 3) := by decide +kernel
theorem dX10_isMap_6 : decode cX10_isMap 6 = .ok (.bipush 6, 2) := by decide +kernel
theorem dX10_isMap_8 : decode cX10_isMap 8 = .ok (.iaload, 1) := by decide +kernel
theorem dX10_isMap_9 : decode cX10_isMap 9 = .ok (.iconst 1, 1) := by decide +kernel
theorem dX10_isMap_10 : decode cX10_isMap 10 = .ok (.isub, 1) := by decide +kernel
theorem dX10_isMap_11 : decode cX10_isMap 11 = .ok (.invokestatic 93, 3) := by decide +kernel
theorem dX10_isMap_14 : decode cX10_isMap 14 = .ok (.ireturn, 1) := by decide +kernel
theorem dX10_isPlace_0 : decode cX10_isPlace 0 = .ok (.iload_n 1, 1) := by decide +kernel
theorem dX10_isPlace_1 : decode cX10_isPlace 1 = .ok (.iconst 0, 1) := by decide +kernel
theorem dX10_isPlace_2 : decode cX10_isPlace 2 = .ok (.aload_n 0, 1) := by decide +kernel
theorem dX10_isPlace_3 : decode cX10_isPlace 3 = .ok (.getfield 13, 3) := by decide +kernel
theorem dX10_isPlace_6 : decode cX10_isPlace 6 = .ok (.iconst 0, 1) := by decide +kernel
theorem dX10_isPlace_7 : decode cX10_isPlace 7 = .ok (.iaload, 1) := by decide +kernel
theorem dX10_isPlace_8 : decode cX10_isPlace 8 = .ok (.iconst 1, 1) := by decide +kernel
theorem dX10_isPlace_9 : decode cX10_isPlace 9 = .ok (.isub, 1) := by decide +kernel
theorem dX10_isPlace_10 : decode cX10_isPlace 10 = .ok (.invokestatic 93, 3) := by decide +kernel
theorem dX10_isPlace_13 : decode cX10_isPlace 13 = .ok (.ireturn, 1) := by decide +kernel
theorem dX10_lanesOf_0 : decode cX10_lanesOf 0 = .ok (.iconst 0, 1) := by decide +kernel
theorem dX10_lanesOf_1 : decode cX10_lanesOf 1 = .ok (.istore_n 3, 1) := by decide +kernel
theorem dX10_lanesOf_2 : decode cX10_lanesOf 2 = .ok (.iconst 1, 1) := by decide +kernel
theorem dX10_lanesOf_3 : decode cX10_lanesOf 3 = .ok (.istore 4, 2) := by decide +kernel
theorem dX10_lanesOf_5 : decode cX10_lanesOf 5 = .ok (.iload 4, 2) := by decide +kernel
theorem dX10_lanesOf_7 : decode cX10_lanesOf 7 = .ok (.iload_n 2, 1) := by decide +kernel
theorem dX10_lanesOf_8 : decode cX10_lanesOf 8 = .ok (.if_icmp .ge 45, 3) := by decide +kernel
theorem dX10_lanesOf_11 : decode cX10_lanesOf 11 = .ok (.iload_n 3, 1) := by decide +kernel
theorem dX10_lanesOf_12 : decode cX10_lanesOf 12 = .ok (.iconst 1, 1) := by decide +kernel
theorem dX10_lanesOf_13 : decode cX10_lanesOf 13 = .ok (.aload_n 0, 1) := by decide +kernel
theorem dX10_lanesOf_14 : decode cX10_lanesOf 14 = .ok (.iconst 0, 1) := by decide +kernel
theorem dX10_lanesOf_15 : decode cX10_lanesOf 15 = .ok (.aload_n 0, 1) := by decide +kernel
theorem dX10_lanesOf_16 : decode cX10_lanesOf 16 = .ok (.getfield 13, 3) := by decide +kernel
theorem dX10_lanesOf_19 : decode cX10_lanesOf 19 = .ok (.iconst 1, 1) := by decide +kernel
theorem dX10_lanesOf_20 : decode cX10_lanesOf 20 = .ok (.iaload, 1) := by decide +kernel
theorem dX10_lanesOf_21 : decode cX10_lanesOf 21 = .ok (.aload_n 0, 1) := by decide +kernel
theorem dX10_lanesOf_22 : decode cX10_lanesOf 22 = .ok (.getfield 28, 3) := by decide +kernel
theorem dX10_lanesOf_25 : decode cX10_lanesOf 25 = .ok (.iload_n 1, 1) := by decide +kernel
theorem dX10_lanesOf_26 : decode cX10_lanesOf 26 = .ok (.iload 4, 2) := by decide +kernel
theorem dX10_lanesOf_28 : decode cX10_lanesOf 28 = .ok (.iadd, 1) := by decide +kernel
theorem dX10_lanesOf_29 : decode cX10_lanesOf 29 = .ok (.iconst 1, 1) := by decide +kernel
theorem dX10_lanesOf_30 : decode cX10_lanesOf 30 = .ok (.isub, 1) := by decide +kernel
theorem dX10_lanesOf_31 : decode cX10_lanesOf 31 = .ok (.iaload, 1) := by decide +kernel
theorem dX10_lanesOf_32 : decode cX10_lanesOf 32 = .ok (.aload_n 0, 1) := by decide +kernel
theorem dX10_lanesOf_33 : decode cX10_lanesOf 33 = .ok (.getfield 28, 3) := by decide +kernel
theorem dX10_lanesOf_36 : decode cX10_lanesOf 36 = .ok (.iload_n 1, 1) := by decide +kernel
theorem dX10_lanesOf_37 : decode cX10_lanesOf 37 = .ok (.iload 4, 2) := by decide +kernel
theorem dX10_lanesOf_39 : decode cX10_lanesOf 39 = .ok (.iadd, 1) := by decide +kernel
theorem dX10_lanesOf_40 : decode cX10_lanesOf 40 = .ok (.iaload, 1) := by decide +kernel
theorem dX10_lanesOf_41 : decode cX10_lanesOf 41 = .ok (.invokevirtual 134, 3) := by decide +kernel
theorem dX10_lanesOf_44 : decode cX10_lanesOf 44 = .ok (.ishl, 1) := by decide +kernel
theorem dX10_lanesOf_45 : decode cX10_lanesOf 45 = .ok (.ior, 1) := by decide +kernel
theorem dX10_lanesOf_46 : decode cX10_lanesOf 46 = .ok (.istore_n 3, 1) := by decide +kernel
theorem dX10_lanesOf_47 : decode cX10_lanesOf 47 = .ok (.iinc 4 1, 3) := by decide +kernel
theorem dX10_lanesOf_50 : decode cX10_lanesOf 50 = .ok (.goto (-45), 3) := by decide +kernel
theorem dX10_lanesOf_53 : decode cX10_lanesOf 53 = .ok (.iload_n 3, 1) := by decide +kernel
theorem dX10_lanesOf_54 : decode cX10_lanesOf 54 = .ok (.ireturn, 1) := by decide +kernel
theorem dX10_mapLanes_0 : decode cX10_mapLanes 0 = .ok (.aload_n 0, 1) := by decide +kernel
theorem dX10_mapLanes_1 : decode cX10_mapLanes 1 = .ok (.bipush 11, 2) := by decide +kernel
theorem dX10_mapLanes_3 : decode cX10_mapLanes 3 = .ok (.iconst 5, 1) := by decide +kernel
theorem dX10_mapLanes_4 : decode cX10_mapLanes 4 = .ok (.iload_n 1, 1) := by decide +kernel
theorem dX10_mapLanes_5 : decode cX10_mapLanes 5 = .ok (.imul, 1) := by decide +kernel
theorem dX10_mapLanes_6 : decode cX10_mapLanes 6 = .ok (.iadd, 1) := by decide +kernel
theorem dX10_mapLanes_7 : decode cX10_mapLanes 7 = .ok (.aload_n 0, 1) := by decide +kernel
theorem dX10_mapLanes_8 : decode cX10_mapLanes 8 = .ok (.getfield 28, 3) := by decide +kernel
theorem dX10_mapLanes_11 : decode cX10_mapLanes 11 = .ok (.bipush 7, 2) := by decide +kernel
theorem dX10_mapLanes_13 : decode cX10_mapLanes 13 = .ok (.iload_n 1, 1) := by decide +kernel
theorem dX10_mapLanes_14 : decode cX10_mapLanes 14 = .ok (.iadd, 1) := by decide +kernel
theorem dX10_mapLanes_15 : decode cX10_mapLanes 15 = .ok (.iaload, 1) := by decide +kernel
theorem dX10_mapLanes_16 : decode cX10_mapLanes 16 = .ok (.invokevirtual 164, 3) := by decide +kernel
theorem dX10_mapLanes_19 : decode cX10_mapLanes 19 = .ok (.ireturn, 1) := by decide +kernel
theorem dX10_measures_0 : decode cX10_measures 0 = .ok (.iconst 0, 1) := by decide +kernel
theorem dX10_measures_1 : decode cX10_measures 1 = .ok (.istore_n 2, 1) := by decide +kernel
theorem dX10_measures_2 : decode cX10_measures 2 = .ok (.iload_n 2, 1) := by decide +kernel
theorem dX10_measures_3 : decode cX10_measures 3 = .ok (.bipush 26, 2) := by decide +kernel
theorem dX10_measures_5 : decode cX10_measures 5 = .ok (.if_icmp .ge 17, 3) := by decide +kernel
theorem dX10_measures_8 : decode cX10_measures 8 = .ok (.aload_n 0, 1) := by decide +kernel
theorem dX10_measures_9 : decode cX10_measures 9 = .ok (.getfield 62, 3) := by decide +kernel
theorem dX10_measures_12 : decode cX10_measures 12 = .ok (.iload_n 2, 1) := by decide +kernel
theorem dX10_measures_13 : decode cX10_measures 13 = .ok (.ldc 167, 2) := by decide +kernel
theorem dX10_measures_15 : decode cX10_measures 15 = .ok (.iastore, 1) := by decide +kernel
theorem dX10_measures_16 : decode cX10_measures 16 = .ok (.iinc 2 1, 3) := by decide +kernel
theorem dX10_measures_19 : decode cX10_measures 19 = .ok (.goto (-17), 3) := by decide +kernel
theorem dX10_measures_22 : decode cX10_measures 22 = .ok (.iconst 1, 1) := by decide +kernel
theorem dX10_measures_23 : decode cX10_measures 23 = .ok (.istore_n 2, 1) := by decide +kernel
theorem dX10_measures_24 : decode cX10_measures 24 = .ok (.iload_n 2, 1) := by decide +kernel
theorem dX10_measures_25 : decode cX10_measures 25 = .ok (.iconst 1, 1) := by decide +kernel
theorem dX10_measures_26 : decode cX10_measures 26 = .ok (.aload_n 0, 1) := by decide +kernel
theorem dX10_measures_27 : decode cX10_measures 27 = .ok (.getfield 13, 3) := by decide +kernel
theorem dX10_measures_30 : decode cX10_measures 30 = .ok (.iconst 1, 1) := by decide +kernel
theorem dX10_measures_31 : decode cX10_measures 31 = .ok (.iaload, 1) := by decide +kernel
theorem dX10_measures_32 : decode cX10_measures 32 = .ok (.ishl, 1) := by decide +kernel
theorem dX10_measures_33 : decode cX10_measures 33 = .ok (.if_icmp .ge 34, 3) := by decide +kernel
theorem dX10_measures_36 : decode cX10_measures 36 = .ok (.aload_n 0, 1) := by decide +kernel
theorem dX10_measures_37 : decode cX10_measures 37 = .ok (.getfield 50, 3) := by decide +kernel
theorem dX10_measures_40 : decode cX10_measures 40 = .ok (.iload_n 2, 1) := by decide +kernel
theorem dX10_measures_41 : decode cX10_measures 41 = .ok (.aload_n 0, 1) := by decide +kernel
theorem dX10_measures_42 : decode cX10_measures 42 = .ok (.getfield 50, 3) := by decide +kernel
theorem dX10_measures_45 : decode cX10_measures 45 = .ok (.iload_n 2, 1) := by decide +kernel
theorem dX10_measures_46 : decode cX10_measures 46 = .ok (.iload_n 2, 1) := by decide +kernel
theorem dX10_measures_47 : decode cX10_measures 47 = .ok (.iconst 1, 1) := by decide +kernel
theorem dX10_measures_48 : decode cX10_measures 48 = .ok (.isub, 1) := by decide +kernel
theorem dX10_measures_49 : decode cX10_measures 49 = .ok (.iand, 1) := by decide +kernel
theorem dX10_measures_50 : decode cX10_measures 50 = .ok (.iaload, 1) := by decide +kernel
theorem dX10_measures_51 : decode cX10_measures 51 = .ok (.aload_n 1, 1) := by decide +kernel
theorem dX10_measures_52 : decode cX10_measures 52 = .ok (.aload_n 0, 1) := by decide +kernel
theorem dX10_measures_53 : decode cX10_measures 53 = .ok (.getfield 53, 3) := by decide +kernel
theorem dX10_measures_56 : decode cX10_measures 56 = .ok (.iload_n 2, 1) := by decide +kernel
theorem dX10_measures_57 : decode cX10_measures 57 = .ok (.iaload, 1) := by decide +kernel
theorem dX10_measures_58 : decode cX10_measures 58 = .ok (.iaload, 1) := by decide +kernel
theorem dX10_measures_59 : decode cX10_measures 59 = .ok (.iadd, 1) := by decide +kernel
theorem dX10_measures_60 : decode cX10_measures 60 = .ok (.iastore, 1) := by decide +kernel
theorem dX10_measures_61 : decode cX10_measures 61 = .ok (.iinc 2 1, 3) := by decide +kernel
theorem dX10_measures_64 : decode cX10_measures 64 = .ok (.goto (-40), 3) := by decide +kernel
theorem dX10_measures_67 : decode cX10_measures 67 = .ok (.iconst 0, 1) := by decide +kernel
theorem dX10_measures_68 : decode cX10_measures 68 = .ok (.istore_n 2, 1) := by decide +kernel
theorem dX10_measures_69 : decode cX10_measures 69 = .ok (.iload_n 2, 1) := by decide +kernel
theorem dX10_measures_70 : decode cX10_measures 70 = .ok (.aload_n 0, 1) := by decide +kernel
theorem dX10_measures_71 : decode cX10_measures 71 = .ok (.getfield 152, 3) := by decide +kernel
theorem dX10_measures_74 : decode cX10_measures 74 = .ok (.if_icmp .ge 67, 3) := by decide +kernel
theorem dX10_measures_77 : decode cX10_measures 77 = .ok (.aload_n 0, 1) := by decide +kernel
theorem dX10_measures_78 : decode cX10_measures 78 = .ok (.getfield 56, 3) := by decide +kernel
theorem dX10_measures_81 : decode cX10_measures 81 = .ok (.iload_n 2, 1) := by decide +kernel
theorem dX10_measures_82 : decode cX10_measures 82 = .ok (.iaload, 1) := by decide +kernel
theorem dX10_measures_83 : decode cX10_measures 83 = .ok (.istore_n 3, 1) := by decide +kernel
theorem dX10_measures_84 : decode cX10_measures 84 = .ok (.aload_n 0, 1) := by decide +kernel
theorem dX10_measures_85 : decode cX10_measures 85 = .ok (.getfield 62, 3) := by decide +kernel
theorem dX10_measures_88 : decode cX10_measures 88 = .ok (.aload_n 0, 1) := by decide +kernel
theorem dX10_measures_89 : decode cX10_measures 89 = .ok (.getfield 47, 3) := by decide +kernel
theorem dX10_measures_92 : decode cX10_measures 92 = .ok (.iload_n 3, 1) := by decide +kernel
theorem dX10_measures_93 : decode cX10_measures 93 = .ok (.iaload, 1) := by decide +kernel
theorem dX10_measures_94 : decode cX10_measures 94 = .ok (.aload_n 0, 1) := by decide +kernel
theorem dX10_measures_95 : decode cX10_measures 95 = .ok (.getfield 50, 3) := by decide +kernel
theorem dX10_measures_98 : decode cX10_measures 98 = .ok (.iload_n 3, 1) := by decide +kernel
theorem dX10_measures_99 : decode cX10_measures 99 = .ok (.iaload, 1) := by decide +kernel
theorem dX10_measures_100 : decode cX10_measures 100 = .ok (.aload_n 0, 1) := by decide +kernel
theorem dX10_measures_101 : decode cX10_measures 101 = .ok (.getfield 62, 3) := by decide +kernel
theorem dX10_measures_104 : decode cX10_measures 104 = .ok (.aload_n 0, 1) := by decide +kernel
theorem dX10_measures_105 : decode cX10_measures 105 = .ok (.getfield 47, 3) := by decide +kernel
theorem dX10_measures_108 : decode cX10_measures 108 = .ok (.iload_n 3, 1) := by decide +kernel
theorem dX10_measures_109 : decode cX10_measures 109 = .ok (.iaload, 1) := by decide +kernel
theorem dX10_measures_110 : decode cX10_measures 110 = .ok (.iaload, 1) := by decide +kernel
theorem dX10_measures_111 : decode cX10_measures 111 = .ok (.if_icmp .ge 12, 3) := by decide +kernel
theorem dX10_measures_114 : decode cX10_measures 114 = .ok (.aload_n 0, 1) := by decide +kernel
theorem dX10_measures_115 : decode cX10_measures 115 = .ok (.getfield 50, 3) := by decide +kernel
theorem dX10_measures_118 : decode cX10_measures 118 = .ok (.iload_n 3, 1) := by decide +kernel
theorem dX10_measures_119 : decode cX10_measures 119 = .ok (.iaload, 1) := by decide +kernel
theorem dX10_measures_120 : decode cX10_measures 120 = .ok (.goto 14, 3) := by decide +kernel
theorem dX10_measures_123 : decode cX10_measures 123 = .ok (.aload_n 0, 1) := by decide +kernel
theorem dX10_measures_124 : decode cX10_measures 124 = .ok (.getfield 62, 3) := by decide +kernel
theorem dX10_measures_127 : decode cX10_measures 127 = .ok (.aload_n 0, 1) := by decide +kernel
theorem dX10_measures_128 : decode cX10_measures 128 = .ok (.getfield 47, 3) := by decide +kernel
theorem dX10_measures_131 : decode cX10_measures 131 = .ok (.iload_n 3, 1) := by decide +kernel
theorem dX10_measures_132 : decode cX10_measures 132 = .ok (.iaload, 1) := by decide +kernel
theorem dX10_measures_133 : decode cX10_measures 133 = .ok (.iaload, 1) := by decide +kernel
theorem dX10_measures_134 : decode cX10_measures 134 = .ok (.iastore, 1) := by decide +kernel
theorem dX10_measures_135 : decode cX10_measures 135 = .ok (.iinc 2 1, 3) := by decide +kernel
theorem dX10_measures_138 : decode cX10_measures 138 = .ok (.goto (-69), 3) := by decide +kernel
theorem dX10_measures_141 : decode cX10_measures 141 = .ok (.return_, 1) := by decide +kernel
theorem dX10_holds_0 : decode cX10_holds 0 = .ok (.aload_n 0, 1) := by decide +kernel
theorem dX10_holds_1 : decode cX10_holds 1 = .ok (.getfield 50, 3) := by decide +kernel
theorem dX10_holds_4 : decode cX10_holds 4 = .ok (.iload_n 1, 1) := by decide +kernel
theorem dX10_holds_5 : decode cX10_holds 5 = .ok (.iaload, 1) := by decide +kernel
theorem dX10_holds_6 : decode cX10_holds 6 = .ok (.aload_n 0, 1) := by decide +kernel
theorem dX10_holds_7 : decode cX10_holds 7 = .ok (.getfield 62, 3) := by decide +kernel
theorem dX10_holds_10 : decode cX10_holds 10 = .ok (.aload_n 0, 1) := by decide +kernel
theorem dX10_holds_11 : decode cX10_holds 11 = .ok (.getfield 47, 3) := by decide +kernel
theorem dX10_holds_14 : decode cX10_holds 14 = .ok (.iload_n 1, 1) := by decide +kernel
theorem dX10_holds_15 : decode cX10_holds 15 = .ok (.iaload, 1) := by decide +kernel
theorem dX10_holds_16 : decode cX10_holds 16 = .ok (.iaload, 1) := by decide +kernel
theorem dX10_holds_17 : decode cX10_holds 17 = .ok (.if_icmp .ne 7, 3) := by decide +kernel
theorem dX10_holds_20 : decode cX10_holds 20 = .ok (.iconst 1, 1) := by decide +kernel
theorem dX10_holds_21 : decode cX10_holds 21 = .ok (.goto 4, 3) := by decide +kernel
theorem dX10_holds_24 : decode cX10_holds 24 = .ok (.iconst 0, 1) := by decide +kernel
theorem dX10_holds_25 : decode cX10_holds 25 = .ok (.ireturn, 1) := by decide +kernel
theorem dX10_mapsBy_0 : decode cX10_mapsBy 0 = .ok (.iconst 0, 1) := by decide +kernel
theorem dX10_mapsBy_1 : decode cX10_mapsBy 1 = .ok (.istore_n 2, 1) := by decide +kernel
theorem dX10_mapsBy_2 : decode cX10_mapsBy 2 = .ok (.iconst 0, 1) := by decide +kernel
theorem dX10_mapsBy_3 : decode cX10_mapsBy 3 = .ok (.istore_n 3, 1) := by decide +kernel
theorem dX10_mapsBy_4 : decode cX10_mapsBy 4 = .ok (.iload_n 3, 1) := by decide +kernel
theorem dX10_mapsBy_5 : decode cX10_mapsBy 5 = .ok (.aload_n 0, 1) := by decide +kernel
theorem dX10_mapsBy_6 : decode cX10_mapsBy 6 = .ok (.getfield 28, 3) := by decide +kernel
theorem dX10_mapsBy_9 : decode cX10_mapsBy 9 = .ok (.bipush 6, 2) := by decide +kernel
theorem dX10_mapsBy_11 : decode cX10_mapsBy 11 = .ok (.iaload, 1) := by decide +kernel
theorem dX10_mapsBy_12 : decode cX10_mapsBy 12 = .ok (.if_icmp .ge 21, 3) := by decide +kernel
theorem dX10_mapsBy_15 : decode cX10_mapsBy 15 = .ok (.iload_n 2, 1) := by decide +kernel
theorem dX10_mapsBy_16 : decode cX10_mapsBy 16 = .ok (.aload_n 0, 1) := by decide +kernel
theorem dX10_mapsBy_17 : decode cX10_mapsBy 17 = .ok (.iload_n 3, 1) := by decide +kernel
theorem dX10_mapsBy_18 : decode cX10_mapsBy 18 = .ok (.invokevirtual 168, 3) := by decide +kernel
theorem dX10_mapsBy_21 : decode cX10_mapsBy 21 = .ok (.iload_n 1, 1) := by decide +kernel
theorem dX10_mapsBy_22 : decode cX10_mapsBy 22 = .ok (.ishr, 1) := by decide +kernel
theorem dX10_mapsBy_23 : decode cX10_mapsBy 23 = .ok (.iconst 1, 1) := by decide +kernel
theorem dX10_mapsBy_24 : decode cX10_mapsBy 24 = .ok (.iand, 1) := by decide +kernel
theorem dX10_mapsBy_25 : decode cX10_mapsBy 25 = .ok (.iadd, 1) := by decide +kernel
theorem dX10_mapsBy_26 : decode cX10_mapsBy 26 = .ok (.istore_n 2, 1) := by decide +kernel
theorem dX10_mapsBy_27 : decode cX10_mapsBy 27 = .ok (.iinc 3 1, 3) := by decide +kernel
theorem dX10_mapsBy_30 : decode cX10_mapsBy 30 = .ok (.goto (-26), 3) := by decide +kernel
theorem dX10_mapsBy_33 : decode cX10_mapsBy 33 = .ok (.iload_n 2, 1) := by decide +kernel
theorem dX10_mapsBy_34 : decode cX10_mapsBy 34 = .ok (.ireturn, 1) := by decide +kernel
theorem dX10_lane_0 : decode cX10_lane 0 = .ok (.aload_n 0, 1) := by decide +kernel
theorem dX10_lane_1 : decode cX10_lane 1 = .ok (.iconst 0, 1) := by decide +kernel
theorem dX10_lane_2 : decode cX10_lane 2 = .ok (.putfield 89, 3) := by decide +kernel
theorem dX10_lane_5 : decode cX10_lane 5 = .ok (.aload_n 0, 1) := by decide +kernel
theorem dX10_lane_6 : decode cX10_lane 6 = .ok (.iload_n 1, 1) := by decide +kernel
theorem dX10_lane_7 : decode cX10_lane 7 = .ok (.invokevirtual 171, 3) := by decide +kernel
theorem dX10_lane_10 : decode cX10_lane 10 = .ok (.ifCond .eq 12, 3) := by decide +kernel
theorem dX10_lane_13 : decode cX10_lane 13 = .ok (.iload_n 2, 1) := by decide +kernel
theorem dX10_lane_14 : decode cX10_lane 14 = .ok (.iconst 0, 1) := by decide +kernel
theorem dX10_lane_15 : decode cX10_lane 15 = .ok (.iconst 4, 1) := by decide +kernel
theorem dX10_lane_16 : decode cX10_lane 16 = .ok (.invokestatic 93, 3) := by decide +kernel
theorem dX10_lane_19 : decode cX10_lane 19 = .ok (.ifCond .ne 5, 3) := by decide +kernel
theorem dX10_lane_22 : decode cX10_lane 22 = .ok (.iconst (-1), 1) := by decide +kernel
theorem dX10_lane_23 : decode cX10_lane 23 = .ok (.ireturn, 1) := by decide +kernel
theorem dX10_lane_24 : decode cX10_lane 24 = .ok (.iload_n 2, 1) := by decide +kernel
theorem dX10_lane_25 : decode cX10_lane 25 = .ok (.ifCond .ne 12, 3) := by decide +kernel
theorem dX10_lane_28 : decode cX10_lane 28 = .ok (.aload_n 0, 1) := by decide +kernel
theorem dX10_lane_29 : decode cX10_lane 29 = .ok (.getfield 16, 3) := by decide +kernel
theorem dX10_lane_32 : decode cX10_lane 32 = .ok (.iload_n 1, 1) := by decide +kernel
theorem dX10_lane_33 : decode cX10_lane 33 = .ok (.iaload, 1) := by decide +kernel
theorem dX10_lane_34 : decode cX10_lane 34 = .ok (.goto 52, 3) := by decide +kernel
theorem dX10_lane_37 : decode cX10_lane 37 = .ok (.iload_n 2, 1) := by decide +kernel
theorem dX10_lane_38 : decode cX10_lane 38 = .ok (.iconst 1, 1) := by decide +kernel
theorem dX10_lane_39 : decode cX10_lane 39 = .ok (.if_icmp .ne 12, 3) := by decide +kernel
theorem dX10_lane_42 : decode cX10_lane 42 = .ok (.aload_n 0, 1) := by decide +kernel
theorem dX10_lane_43 : decode cX10_lane 43 = .ok (.getfield 19, 3) := by decide +kernel
theorem dX10_lane_46 : decode cX10_lane 46 = .ok (.iload_n 1, 1) := by decide +kernel
theorem dX10_lane_47 : decode cX10_lane 47 = .ok (.iaload, 1) := by decide +kernel
theorem dX10_lane_48 : decode cX10_lane 48 = .ok (.goto 38, 3) := by decide +kernel
theorem dX10_lane_51 : decode cX10_lane 51 = .ok (.iload_n 2, 1) := by decide +kernel
theorem dX10_lane_52 : decode cX10_lane 52 = .ok (.iconst 2, 1) := by decide +kernel
theorem dX10_lane_53 : decode cX10_lane 53 = .ok (.if_icmp .ne 14, 3) := by decide +kernel
theorem dX10_lane_56 : decode cX10_lane 56 = .ok (.aload_n 0, 1) := by decide +kernel
theorem dX10_lane_57 : decode cX10_lane 57 = .ok (.getfield 28, 3) := by decide +kernel
theorem dX10_lane_60 : decode cX10_lane 60 = .ok (.iconst 0, 1) := by decide +kernel
theorem dX10_lane_61 : decode cX10_lane 61 = .ok (.iload_n 1, 1) := by decide +kernel
theorem dX10_lane_62 : decode cX10_lane 62 = .ok (.iadd, 1) := by decide +kernel
theorem dX10_lane_63 : decode cX10_lane 63 = .ok (.iaload, 1) := by decide +kernel
theorem dX10_lane_64 : decode cX10_lane 64 = .ok (.goto 22, 3) := by decide +kernel
theorem dX10_lane_67 : decode cX10_lane 67 = .ok (.iload_n 2, 1) := by decide +kernel
theorem dX10_lane_68 : decode cX10_lane 68 = .ok (.iconst 3, 1) := by decide +kernel
theorem dX10_lane_69 : decode cX10_lane 69 = .ok (.if_icmp .ne 12, 3) := by decide +kernel
theorem dX10_lane_72 : decode cX10_lane 72 = .ok (.aload_n 0, 1) := by decide +kernel
theorem dX10_lane_73 : decode cX10_lane 73 = .ok (.getfield 22, 3) := by decide +kernel
theorem dX10_lane_76 : decode cX10_lane 76 = .ok (.iload_n 1, 1) := by decide +kernel
theorem dX10_lane_77 : decode cX10_lane 77 = .ok (.iaload, 1) := by decide +kernel
theorem dX10_lane_78 : decode cX10_lane 78 = .ok (.goto 8, 3) := by decide +kernel
theorem dX10_lane_81 : decode cX10_lane 81 = .ok (.aload_n 0, 1) := by decide +kernel
theorem dX10_lane_82 : decode cX10_lane 82 = .ok (.iload_n 1, 1) := by decide +kernel
theorem dX10_lane_83 : decode cX10_lane 83 = .ok (.invokevirtual 175, 3) := by decide +kernel
theorem dX10_lane_86 : decode cX10_lane 86 = .ok (.ireturn, 1) := by decide +kernel
theorem dX10_map_0 : decode cX10_map 0 = .ok (.aload_n 0, 1) := by decide +kernel
theorem dX10_map_1 : decode cX10_map 1 = .ok (.iconst 0, 1) := by decide +kernel
theorem dX10_map_2 : decode cX10_map 2 = .ok (.putfield 89, 3) := by decide +kernel
theorem dX10_map_5 : decode cX10_map 5 = .ok (.aload_n 0, 1) := by decide +kernel
theorem dX10_map_6 : decode cX10_map 6 = .ok (.iload_n 1, 1) := by decide +kernel
theorem dX10_map_7 : decode cX10_map 7 = .ok (.invokevirtual 178, 3) := by decide +kernel
theorem dX10_map_10 : decode cX10_map 10 = .ok (.ifCond .eq 12, 3) := by decide +kernel
theorem dX10_map_13 : decode cX10_map 13 = .ok (.iload_n 2, 1) := by decide +kernel
theorem dX10_map_14 : decode cX10_map 14 = .ok (.iconst 0, 1) := by decide +kernel
theorem dX10_map_15 : decode cX10_map 15 = .ok (.iconst 2, 1) := by decide +kernel
theorem dX10_map_16 : decode cX10_map 16 = .ok (.invokestatic 93, 3) := by decide +kernel
theorem dX10_map_19 : decode cX10_map 19 = .ok (.ifCond .ne 5, 3) := by decide +kernel
theorem dX10_map_22 : decode cX10_map 22 = .ok (.iconst (-1), 1) := by decide +kernel
theorem dX10_map_23 : decode cX10_map 23 = .ok (.ireturn, 1) := by decide +kernel
theorem dX10_map_24 : decode cX10_map 24 = .ok (.aload_n 0, 1) := by decide +kernel
theorem dX10_map_25 : decode cX10_map 25 = .ok (.aload_n 0, 1) := by decide +kernel
theorem dX10_map_26 : decode cX10_map 26 = .ok (.getfield 28, 3) := by decide +kernel
theorem dX10_map_29 : decode cX10_map 29 = .ok (.invokevirtual 181, 3) := by decide +kernel
theorem dX10_map_32 : decode cX10_map 32 = .ok (.iload_n 2, 1) := by decide +kernel
theorem dX10_map_33 : decode cX10_map 33 = .ok (.ifCond .ne 15, 3) := by decide +kernel
theorem dX10_map_36 : decode cX10_map 36 = .ok (.aload_n 0, 1) := by decide +kernel
theorem dX10_map_37 : decode cX10_map 37 = .ok (.getfield 28, 3) := by decide +kernel
theorem dX10_map_40 : decode cX10_map 40 = .ok (.bipush 7, 2) := by decide +kernel
theorem dX10_map_42 : decode cX10_map 42 = .ok (.iload_n 1, 1) := by decide +kernel
theorem dX10_map_43 : decode cX10_map 43 = .ok (.iadd, 1) := by decide +kernel
theorem dX10_map_44 : decode cX10_map 44 = .ok (.iaload, 1) := by decide +kernel
theorem dX10_map_45 : decode cX10_map 45 = .ok (.goto 38, 3) := by decide +kernel
theorem dX10_map_48 : decode cX10_map 48 = .ok (.iload_n 2, 1) := by decide +kernel
theorem dX10_map_49 : decode cX10_map 49 = .ok (.iconst 1, 1) := by decide +kernel
theorem dX10_map_50 : decode cX10_map 50 = .ok (.if_icmp .ne 16, 3) := by decide +kernel
theorem dX10_map_53 : decode cX10_map 53 = .ok (.aload_n 0, 1) := by decide +kernel
theorem dX10_map_54 : decode cX10_map 54 = .ok (.getfield 50, 3) := by decide +kernel
theorem dX10_map_57 : decode cX10_map 57 = .ok (.aload_n 0, 1) := by decide +kernel
theorem dX10_map_58 : decode cX10_map 58 = .ok (.iload_n 1, 1) := by decide +kernel
theorem dX10_map_59 : decode cX10_map 59 = .ok (.invokevirtual 168, 3) := by decide +kernel
theorem dX10_map_62 : decode cX10_map 62 = .ok (.iaload, 1) := by decide +kernel
theorem dX10_map_63 : decode cX10_map 63 = .ok (.goto 20, 3) := by decide +kernel
theorem dX10_map_66 : decode cX10_map 66 = .ok (.aload_n 0, 1) := by decide +kernel
theorem dX10_map_67 : decode cX10_map 67 = .ok (.aload_n 0, 1) := by decide +kernel
theorem dX10_map_68 : decode cX10_map 68 = .ok (.iload_n 1, 1) := by decide +kernel
theorem dX10_map_69 : decode cX10_map 69 = .ok (.invokevirtual 168, 3) := by decide +kernel
theorem dX10_map_72 : decode cX10_map 72 = .ok (.invokevirtual 185, 3) := by decide +kernel
theorem dX10_map_75 : decode cX10_map 75 = .ok (.ifCond .eq 7, 3) := by decide +kernel
theorem dX10_map_78 : decode cX10_map 78 = .ok (.iconst 1, 1) := by decide +kernel
theorem dX10_map_79 : decode cX10_map 79 = .ok (.goto 4, 3) := by decide +kernel
theorem dX10_map_82 : decode cX10_map 82 = .ok (.iconst 0, 1) := by decide +kernel
theorem dX10_map_83 : decode cX10_map 83 = .ok (.ireturn, 1) := by decide +kernel
theorem dX10_place_0 : decode cX10_place 0 = .ok (.aload_n 0, 1) := by decide +kernel
theorem dX10_place_1 : decode cX10_place 1 = .ok (.iconst 0, 1) := by decide +kernel
theorem dX10_place_2 : decode cX10_place 2 = .ok (.putfield 89, 3) := by decide +kernel
theorem dX10_place_5 : decode cX10_place 5 = .ok (.iload_n 1, 1) := by decide +kernel
theorem dX10_place_6 : decode cX10_place 6 = .ok (.iconst (-1), 1) := by decide +kernel
theorem dX10_place_7 : decode cX10_place 7 = .ok (.if_icmp .eq 11, 3) := by decide +kernel
theorem dX10_place_10 : decode cX10_place 10 = .ok (.aload_n 0, 1) := by decide +kernel
theorem dX10_place_11 : decode cX10_place 11 = .ok (.iload_n 1, 1) := by decide +kernel
theorem dX10_place_12 : decode cX10_place 12 = .ok (.invokevirtual 178, 3) := by decide +kernel
theorem dX10_place_15 : decode cX10_place 15 = .ok (.ifCond .eq 12, 3) := by decide +kernel
theorem dX10_place_18 : decode cX10_place 18 = .ok (.iload_n 2, 1) := by decide +kernel
theorem dX10_place_19 : decode cX10_place 19 = .ok (.iconst 0, 1) := by decide +kernel
theorem dX10_place_20 : decode cX10_place 20 = .ok (.iconst 4, 1) := by decide +kernel
theorem dX10_place_21 : decode cX10_place 21 = .ok (.invokestatic 93, 3) := by decide +kernel
theorem dX10_place_24 : decode cX10_place 24 = .ok (.ifCond .ne 5, 3) := by decide +kernel
theorem dX10_place_27 : decode cX10_place 27 = .ok (.iconst (-1), 1) := by decide +kernel
theorem dX10_place_28 : decode cX10_place 28 = .ok (.ireturn, 1) := by decide +kernel
theorem dX10_place_29 : decode cX10_place 29 = .ok (.iload_n 1, 1) := by decide +kernel
theorem dX10_place_30 : decode cX10_place 30 = .ok (.iconst (-1), 1) := by decide +kernel
theorem dX10_place_31 : decode cX10_place 31 = .ok (.if_icmp .ne 29, 3) := by decide +kernel
theorem dX10_place_34 : decode cX10_place 34 = .ok (.iload_n 2, 1) := by decide +kernel
theorem dX10_place_35 : decode cX10_place 35 = .ok (.aload_n 0, 1) := by decide +kernel
theorem dX10_place_36 : decode cX10_place 36 = .ok (.getfield 28, 3) := by decide +kernel
theorem dX10_place_39 : decode cX10_place 39 = .ok (.bipush 36, 2) := by decide +kernel
theorem dX10_place_41 : decode cX10_place 41 = .ok (.iaload, 1) := by decide +kernel
theorem dX10_place_42 : decode cX10_place 42 = .ok (.if_icmp .ge 15, 3) := by decide +kernel
theorem dX10_place_45 : decode cX10_place 45 = .ok (.aload_n 0, 1) := by decide +kernel
theorem dX10_place_46 : decode cX10_place 46 = .ok (.getfield 28, 3) := by decide +kernel
theorem dX10_place_49 : decode cX10_place 49 = .ok (.bipush 31, 2) := by decide +kernel
theorem dX10_place_51 : decode cX10_place 51 = .ok (.iload_n 2, 1) := by decide +kernel
theorem dX10_place_52 : decode cX10_place 52 = .ok (.iadd, 1) := by decide +kernel
theorem dX10_place_53 : decode cX10_place 53 = .ok (.iaload, 1) := by decide +kernel
theorem dX10_place_54 : decode cX10_place 54 = .ok (.goto 5, 3) := by decide +kernel
theorem dX10_place_57 : decode cX10_place 57 = .ok (.bipush (-9), 2) := by decide +kernel
theorem dX10_place_59 : decode cX10_place 59 = .ok (.ireturn, 1) := by decide +kernel
theorem dX10_place_60 : decode cX10_place 60 = .ok (.iload_n 2, 1) := by decide +kernel
theorem dX10_place_61 : decode cX10_place 61 = .ok (.aload_n 0, 1) := by decide +kernel
theorem dX10_place_62 : decode cX10_place 62 = .ok (.getfield 28, 3) := by decide +kernel
theorem dX10_place_65 : decode cX10_place 65 = .ok (.bipush 7, 2) := by decide +kernel
theorem dX10_place_67 : decode cX10_place 67 = .ok (.iload_n 1, 1) := by decide +kernel
theorem dX10_place_68 : decode cX10_place 68 = .ok (.iadd, 1) := by decide +kernel
theorem dX10_place_69 : decode cX10_place 69 = .ok (.iaload, 1) := by decide +kernel
theorem dX10_place_70 : decode cX10_place 70 = .ok (.if_icmp .ge 19, 3) := by decide +kernel
theorem dX10_place_73 : decode cX10_place 73 = .ok (.aload_n 0, 1) := by decide +kernel
theorem dX10_place_74 : decode cX10_place 74 = .ok (.getfield 28, 3) := by decide +kernel
theorem dX10_place_77 : decode cX10_place 77 = .ok (.bipush 11, 2) := by decide +kernel
theorem dX10_place_79 : decode cX10_place 79 = .ok (.iconst 5, 1) := by decide +kernel
theorem dX10_place_80 : decode cX10_place 80 = .ok (.iload_n 1, 1) := by decide +kernel
theorem dX10_place_81 : decode cX10_place 81 = .ok (.imul, 1) := by decide +kernel
theorem dX10_place_82 : decode cX10_place 82 = .ok (.iadd, 1) := by decide +kernel
theorem dX10_place_83 : decode cX10_place 83 = .ok (.iload_n 2, 1) := by decide +kernel
theorem dX10_place_84 : decode cX10_place 84 = .ok (.iadd, 1) := by decide +kernel
theorem dX10_place_85 : decode cX10_place 85 = .ok (.iaload, 1) := by decide +kernel
theorem dX10_place_86 : decode cX10_place 86 = .ok (.goto 5, 3) := by decide +kernel
theorem dX10_place_89 : decode cX10_place 89 = .ok (.bipush (-9), 2) := by decide +kernel
theorem dX10_place_91 : decode cX10_place 91 = .ok (.ireturn, 1) := by decide +kernel
theorem dX10_now_0 : decode cX10_now 0 = .ok (.aload_n 0, 1) := by decide +kernel
theorem dX10_now_1 : decode cX10_now 1 = .ok (.iconst 0, 1) := by decide +kernel
theorem dX10_now_2 : decode cX10_now 2 = .ok (.putfield 89, 3) := by decide +kernel
theorem dX10_now_5 : decode cX10_now 5 = .ok (.iload_n 1, 1) := by decide +kernel
theorem dX10_now_6 : decode cX10_now 6 = .ok (.iconst 0, 1) := by decide +kernel
theorem dX10_now_7 : decode cX10_now 7 = .ok (.iconst 3, 1) := by decide +kernel
theorem dX10_now_8 : decode cX10_now 8 = .ok (.invokestatic 93, 3) := by decide +kernel
theorem dX10_now_11 : decode cX10_now 11 = .ok (.ifCond .ne 5, 3) := by decide +kernel
theorem dX10_now_14 : decode cX10_now 14 = .ok (.iconst (-1), 1) := by decide +kernel
theorem dX10_now_15 : decode cX10_now 15 = .ok (.ireturn, 1) := by decide +kernel
theorem dX10_now_16 : decode cX10_now 16 = .ok (.aload_n 0, 1) := by decide +kernel
theorem dX10_now_17 : decode cX10_now 17 = .ok (.aload_n 0, 1) := by decide +kernel
theorem dX10_now_18 : decode cX10_now 18 = .ok (.getfield 28, 3) := by decide +kernel
theorem dX10_now_21 : decode cX10_now 21 = .ok (.invokevirtual 181, 3) := by decide +kernel
theorem dX10_now_24 : decode cX10_now 24 = .ok (.iconst 0, 1) := by decide +kernel
theorem dX10_now_25 : decode cX10_now 25 = .ok (.istore_n 2, 1) := by decide +kernel
theorem dX10_now_26 : decode cX10_now 26 = .ok (.iconst 0, 1) := by decide +kernel
theorem dX10_now_27 : decode cX10_now 27 = .ok (.istore_n 3, 1) := by decide +kernel
theorem dX10_now_28 : decode cX10_now 28 = .ok (.iload_n 3, 1) := by decide +kernel
theorem dX10_now_29 : decode cX10_now 29 = .ok (.aload_n 0, 1) := by decide +kernel
theorem dX10_now_30 : decode cX10_now 30 = .ok (.getfield 28, 3) := by decide +kernel
theorem dX10_now_33 : decode cX10_now 33 = .ok (.bipush 6, 2) := by decide +kernel
theorem dX10_now_35 : decode cX10_now 35 = .ok (.iaload, 1) := by decide +kernel
theorem dX10_now_36 : decode cX10_now 36 = .ok (.if_icmp .ge 31, 3) := by decide +kernel
theorem dX10_now_39 : decode cX10_now 39 = .ok (.iload_n 2, 1) := by decide +kernel
theorem dX10_now_40 : decode cX10_now 40 = .ok (.aload_n 0, 1) := by decide +kernel
theorem dX10_now_41 : decode cX10_now 41 = .ok (.aload_n 0, 1) := by decide +kernel
theorem dX10_now_42 : decode cX10_now 42 = .ok (.iload_n 3, 1) := by decide +kernel
theorem dX10_now_43 : decode cX10_now 43 = .ok (.invokevirtual 168, 3) := by decide +kernel
theorem dX10_now_46 : decode cX10_now 46 = .ok (.invokevirtual 185, 3) := by decide +kernel
theorem dX10_now_49 : decode cX10_now 49 = .ok (.ifCond .eq 9, 3) := by decide +kernel
theorem dX10_now_52 : decode cX10_now 52 = .ok (.iconst 1, 1) := by decide +kernel
theorem dX10_now_53 : decode cX10_now 53 = .ok (.iload_n 3, 1) := by decide +kernel
theorem dX10_now_54 : decode cX10_now 54 = .ok (.ishl, 1) := by decide +kernel
theorem dX10_now_55 : decode cX10_now 55 = .ok (.goto 4, 3) := by decide +kernel
theorem dX10_now_58 : decode cX10_now 58 = .ok (.iconst 0, 1) := by decide +kernel
theorem dX10_now_59 : decode cX10_now 59 = .ok (.ior, 1) := by decide +kernel
theorem dX10_now_60 : decode cX10_now 60 = .ok (.istore_n 2, 1) := by decide +kernel
theorem dX10_now_61 : decode cX10_now 61 = .ok (.iinc 3 1, 3) := by decide +kernel
theorem dX10_now_64 : decode cX10_now 64 = .ok (.goto (-36), 3) := by decide +kernel
theorem dX10_now_67 : decode cX10_now 67 = .ok (.iload_n 1, 1) := by decide +kernel
theorem dX10_now_68 : decode cX10_now 68 = .ok (.ifCond .ne 7, 3) := by decide +kernel
theorem dX10_now_71 : decode cX10_now 71 = .ok (.iload_n 2, 1) := by decide +kernel
theorem dX10_now_72 : decode cX10_now 72 = .ok (.goto 37, 3) := by decide +kernel
theorem dX10_now_75 : decode cX10_now 75 = .ok (.iload_n 1, 1) := by decide +kernel
theorem dX10_now_76 : decode cX10_now 76 = .ok (.iconst 1, 1) := by decide +kernel
theorem dX10_now_77 : decode cX10_now 77 = .ok (.if_icmp .ne 13, 3) := by decide +kernel
theorem dX10_now_80 : decode cX10_now 80 = .ok (.aload_n 0, 1) := by decide +kernel
theorem dX10_now_81 : decode cX10_now 81 = .ok (.getfield 28, 3) := by decide +kernel
theorem dX10_now_84 : decode cX10_now 84 = .ok (.bipush 36, 2) := by decide +kernel
theorem dX10_now_86 : decode cX10_now 86 = .ok (.iaload, 1) := by decide +kernel
theorem dX10_now_87 : decode cX10_now 87 = .ok (.goto 22, 3) := by decide +kernel
theorem dX10_now_90 : decode cX10_now 90 = .ok (.iload_n 1, 1) := by decide +kernel
theorem dX10_now_91 : decode cX10_now 91 = .ok (.iconst 2, 1) := by decide +kernel
theorem dX10_now_92 : decode cX10_now 92 = .ok (.if_icmp .ne 13, 3) := by decide +kernel
theorem dX10_now_95 : decode cX10_now 95 = .ok (.aload_n 0, 1) := by decide +kernel
theorem dX10_now_96 : decode cX10_now 96 = .ok (.getfield 28, 3) := by decide +kernel
theorem dX10_now_99 : decode cX10_now 99 = .ok (.bipush 37, 2) := by decide +kernel
theorem dX10_now_101 : decode cX10_now 101 = .ok (.iaload, 1) := by decide +kernel
theorem dX10_now_102 : decode cX10_now 102 = .ok (.goto 7, 3) := by decide +kernel
theorem dX10_now_105 : decode cX10_now 105 = .ok (.aload_n 0, 1) := by decide +kernel
theorem dX10_now_106 : decode cX10_now 106 = .ok (.getfield 161, 3) := by decide +kernel
theorem dX10_now_109 : decode cX10_now 109 = .ok (.ireturn, 1) := by decide +kernel
theorem dX10_notes_0 : decode cX10_notes 0 = .ok (.aload_n 0, 1) := by decide +kernel
theorem dX10_notes_1 : decode cX10_notes 1 = .ok (.getfield 161, 3) := by decide +kernel
theorem dX10_notes_4 : decode cX10_notes 4 = .ok (.bipush 10, 2) := by decide +kernel
theorem dX10_notes_6 : decode cX10_notes 6 = .ok (.if_icmp .ne 39, 3) := by decide +kernel
theorem dX10_notes_9 : decode cX10_notes 9 = .ok (.iconst 0, 1) := by decide +kernel
theorem dX10_notes_10 : decode cX10_notes 10 = .ok (.istore_n 1, 1) := by decide +kernel
theorem dX10_notes_11 : decode cX10_notes 11 = .ok (.iload_n 1, 1) := by decide +kernel
theorem dX10_notes_12 : decode cX10_notes 12 = .ok (.sipush 342, 3) := by decide +kernel
theorem dX10_notes_15 : decode cX10_notes 15 = .ok (.if_icmp .ge 24, 3) := by decide +kernel
theorem dX10_notes_18 : decode cX10_notes 18 = .ok (.aload_n 0, 1) := by decide +kernel
theorem dX10_notes_19 : decode cX10_notes 19 = .ok (.getfield 38, 3) := by decide +kernel
theorem dX10_notes_22 : decode cX10_notes 22 = .ok (.iload_n 1, 1) := by decide +kernel
theorem dX10_notes_23 : decode cX10_notes 23 = .ok (.aload_n 0, 1) := by decide +kernel
theorem dX10_notes_24 : decode cX10_notes 24 = .ok (.getfield 38, 3) := by decide +kernel
theorem dX10_notes_27 : decode cX10_notes 27 = .ok (.iload_n 1, 1) := by decide +kernel
theorem dX10_notes_28 : decode cX10_notes 28 = .ok (.bipush 38, 2) := by decide +kernel
theorem dX10_notes_30 : decode cX10_notes 30 = .ok (.iadd, 1) := by decide +kernel
theorem dX10_notes_31 : decode cX10_notes 31 = .ok (.iaload, 1) := by decide +kernel
theorem dX10_notes_32 : decode cX10_notes 32 = .ok (.iastore, 1) := by decide +kernel
theorem dX10_notes_33 : decode cX10_notes 33 = .ok (.iinc 1 1, 3) := by decide +kernel
theorem dX10_notes_36 : decode cX10_notes 36 = .ok (.goto (-25), 3) := by decide +kernel
theorem dX10_notes_39 : decode cX10_notes 39 = .ok (.aload_n 0, 1) := by decide +kernel
theorem dX10_notes_40 : decode cX10_notes 40 = .ok (.bipush 9, 2) := by decide +kernel
theorem dX10_notes_42 : decode cX10_notes 42 = .ok (.putfield 161, 3) := by decide +kernel
theorem dX10_notes_45 : decode cX10_notes 45 = .ok (.iconst 0, 1) := by decide +kernel
theorem dX10_notes_46 : decode cX10_notes 46 = .ok (.istore_n 1, 1) := by decide +kernel
theorem dX10_notes_47 : decode cX10_notes 47 = .ok (.iload_n 1, 1) := by decide +kernel
theorem dX10_notes_48 : decode cX10_notes 48 = .ok (.bipush 38, 2) := by decide +kernel
theorem dX10_notes_50 : decode cX10_notes 50 = .ok (.if_icmp .ge 29, 3) := by decide +kernel
theorem dX10_notes_53 : decode cX10_notes 53 = .ok (.aload_n 0, 1) := by decide +kernel
theorem dX10_notes_54 : decode cX10_notes 54 = .ok (.getfield 38, 3) := by decide +kernel
theorem dX10_notes_57 : decode cX10_notes 57 = .ok (.bipush 38, 2) := by decide +kernel
theorem dX10_notes_59 : decode cX10_notes 59 = .ok (.aload_n 0, 1) := by decide +kernel
theorem dX10_notes_60 : decode cX10_notes 60 = .ok (.getfield 161, 3) := by decide +kernel
theorem dX10_notes_63 : decode cX10_notes 63 = .ok (.imul, 1) := by decide +kernel
theorem dX10_notes_64 : decode cX10_notes 64 = .ok (.iload_n 1, 1) := by decide +kernel
theorem dX10_notes_65 : decode cX10_notes 65 = .ok (.iadd, 1) := by decide +kernel
theorem dX10_notes_66 : decode cX10_notes 66 = .ok (.aload_n 0, 1) := by decide +kernel
theorem dX10_notes_67 : decode cX10_notes 67 = .ok (.getfield 28, 3) := by decide +kernel
theorem dX10_notes_70 : decode cX10_notes 70 = .ok (.iload_n 1, 1) := by decide +kernel
theorem dX10_notes_71 : decode cX10_notes 71 = .ok (.iaload, 1) := by decide +kernel
theorem dX10_notes_72 : decode cX10_notes 72 = .ok (.iastore, 1) := by decide +kernel
theorem dX10_notes_73 : decode cX10_notes 73 = .ok (.iinc 1 1, 3) := by decide +kernel
theorem dX10_notes_76 : decode cX10_notes 76 = .ok (.goto (-29), 3) := by decide +kernel
theorem dX10_notes_79 : decode cX10_notes 79 = .ok (.aload_n 0, 1) := by decide +kernel
theorem dX10_notes_80 : decode cX10_notes 80 = .ok (.dup, 1) := by decide +kernel
theorem dX10_notes_81 : decode cX10_notes 81 = .ok (.getfield 161, 3) := by decide +kernel
theorem dX10_notes_84 : decode cX10_notes 84 = .ok (.iconst 1, 1) := by decide +kernel
theorem dX10_notes_85 : decode cX10_notes 85 = .ok (.iadd, 1) := by decide +kernel
theorem dX10_notes_86 : decode cX10_notes 86 = .ok (.putfield 161, 3) := by decide +kernel
theorem dX10_notes_89 : decode cX10_notes 89 = .ok (.return_, 1) := by decide +kernel
theorem dX10_names_0 : decode cX10_names 0 = .ok (.aload_n 0, 1) := by decide +kernel
theorem dX10_names_1 : decode cX10_names 1 = .ok (.iconst 0, 1) := by decide +kernel
theorem dX10_names_2 : decode cX10_names 2 = .ok (.putfield 89, 3) := by decide +kernel
theorem dX10_names_5 : decode cX10_names 5 = .ok (.aload_n 0, 1) := by decide +kernel
theorem dX10_names_6 : decode cX10_names 6 = .ok (.iload_n 1, 1) := by decide +kernel
theorem dX10_names_7 : decode cX10_names 7 = .ok (.invokevirtual 188, 3) := by decide +kernel
theorem dX10_names_10 : decode cX10_names 10 = .ok (.ifCond .ne 5, 3) := by decide +kernel
theorem dX10_names_13 : decode cX10_names 13 = .ok (.iconst (-1), 1) := by decide +kernel
theorem dX10_names_14 : decode cX10_names 14 = .ok (.ireturn, 1) := by decide +kernel
theorem dX10_names_15 : decode cX10_names 15 = .ok (.aload_n 0, 1) := by decide +kernel
theorem dX10_names_16 : decode cX10_names 16 = .ok (.aload_n 0, 1) := by decide +kernel
theorem dX10_names_17 : decode cX10_names 17 = .ok (.getfield 28, 3) := by decide +kernel
theorem dX10_names_20 : decode cX10_names 20 = .ok (.bipush 31, 2) := by decide +kernel
theorem dX10_names_22 : decode cX10_names 22 = .ok (.aload_n 0, 1) := by decide +kernel
theorem dX10_names_23 : decode cX10_names 23 = .ok (.getfield 28, 3) := by decide +kernel
theorem dX10_names_26 : decode cX10_names 26 = .ok (.bipush 36, 2) := by decide +kernel
theorem dX10_names_28 : decode cX10_names 28 = .ok (.iaload, 1) := by decide +kernel
theorem dX10_names_29 : decode cX10_names 29 = .ok (.iload_n 1, 1) := by decide +kernel
theorem dX10_names_30 : decode cX10_names 30 = .ok (.iconst 0, 1) := by decide +kernel
theorem dX10_names_31 : decode cX10_names 31 = .ok (.aload_n 0, 1) := by decide +kernel
theorem dX10_names_32 : decode cX10_names 32 = .ok (.getfield 13, 3) := by decide +kernel
theorem dX10_names_35 : decode cX10_names 35 = .ok (.iconst 1, 1) := by decide +kernel
theorem dX10_names_36 : decode cX10_names 36 = .ok (.iaload, 1) := by decide +kernel
theorem dX10_names_37 : decode cX10_names 37 = .ok (.invokevirtual 138, 3) := by decide +kernel
theorem dX10_names_40 : decode cX10_names 40 = .ok (.ifCond .ne 6, 3) := by decide +kernel
theorem dX10_names_43 : decode cX10_names 43 = .ok (.bipush (-2), 2) := by decide +kernel
theorem dX10_names_45 : decode cX10_names 45 = .ok (.ireturn, 1) := by decide +kernel
theorem dX10_names_46 : decode cX10_names 46 = .ok (.aload_n 0, 1) := by decide +kernel
theorem dX10_names_47 : decode cX10_names 47 = .ok (.invokevirtual 191, 3) := by decide +kernel
theorem dX10_names_50 : decode cX10_names 50 = .ok (.aload_n 0, 1) := by decide +kernel
theorem dX10_names_51 : decode cX10_names 51 = .ok (.getfield 28, 3) := by decide +kernel
theorem dX10_names_54 : decode cX10_names 54 = .ok (.bipush 31, 2) := by decide +kernel
theorem dX10_names_56 : decode cX10_names 56 = .ok (.aload_n 0, 1) := by decide +kernel
theorem dX10_names_57 : decode cX10_names 57 = .ok (.getfield 28, 3) := by decide +kernel
theorem dX10_names_60 : decode cX10_names 60 = .ok (.bipush 36, 2) := by decide +kernel
theorem dX10_names_62 : decode cX10_names 62 = .ok (.iaload, 1) := by decide +kernel
theorem dX10_names_63 : decode cX10_names 63 = .ok (.iadd, 1) := by decide +kernel
theorem dX10_names_64 : decode cX10_names 64 = .ok (.iload_n 1, 1) := by decide +kernel
theorem dX10_names_65 : decode cX10_names 65 = .ok (.iastore, 1) := by decide +kernel
theorem dX10_names_66 : decode cX10_names 66 = .ok (.aload_n 0, 1) := by decide +kernel
theorem dX10_names_67 : decode cX10_names 67 = .ok (.getfield 28, 3) := by decide +kernel
theorem dX10_names_70 : decode cX10_names 70 = .ok (.bipush 36, 2) := by decide +kernel
theorem dX10_names_72 : decode cX10_names 72 = .ok (.dup2, 1) := by decide +kernel
theorem dX10_names_73 : decode cX10_names 73 = .ok (.iaload, 1) := by decide +kernel
theorem dX10_names_74 : decode cX10_names 74 = .ok (.iconst 1, 1) := by decide +kernel
theorem dX10_names_75 : decode cX10_names 75 = .ok (.iadd, 1) := by decide +kernel
