theorem dX4_seek_135 : decode cX4_seek 135 = .ok (.iconst 1, 1) := by decide +kernel
theorem dX4_seek_136 : decode cX4_seek 136 = .ok (.goto 22, 3) := by decide +kernel
theorem dX4_seek_139 : decode cX4_seek 139 = .ok (.iconst 0, 1) := by decide +kernel
theorem dX4_seek_140 : decode cX4_seek 140 = .ok (.goto 18, 3) := by decide +kernel
theorem dX4_seek_143 : decode cX4_seek 143 = .ok (.iload_n 3, 1) := by decide +kernel
theorem dX4_seek_144 : decode cX4_seek 144 = .ok (.aload_n 0, 1) := by decide +kernel
theorem dX4_seek_145 : decode cX4_seek 145 = .ok (.getfield 34, 3) := by decide +kernel
theorem dX4_seek_148 : decode cX4_seek 148 = .ok (.iload_n 1, 1) := by decide +kernel
theorem dX4_seek_149 : decode cX4_seek 149 = .ok (.iaload, 1) := by decide +kernel
theorem dX4_seek_150 : decode cX4_seek 150 = .ok (.if_icmp .ne 7, 3) := by decide +kernel
theorem dX4_seek_153 : decode cX4_seek 153 = .ok (.iconst 1, 1) := by decide +kernel
theorem dX4_seek_154 : decode cX4_seek 154 = .ok (.goto 4, 3) := by decide +kernel
theorem dX4_seek_157 : decode cX4_seek 157 = .ok (.iconst 0, 1) := by decide +kernel
theorem dX4_seek_158 : decode cX4_seek 158 = .ok (.istore 4, 2) := by decide +kernel
theorem dX4_seek_160 : decode cX4_seek 160 = .ok (.aload_n 0, 1) := by decide +kernel
theorem dX4_seek_161 : decode cX4_seek 161 = .ok (.getfield 55, 3) := by decide +kernel
theorem dX4_seek_164 : decode cX4_seek 164 = .ok (.iload_n 1, 1) := by decide +kernel
theorem dX4_seek_165 : decode cX4_seek 165 = .ok (.iaload, 1) := by decide +kernel
theorem dX4_seek_166 : decode cX4_seek 166 = .ok (.iload 4, 2) := by decide +kernel
theorem dX4_seek_168 : decode cX4_seek 168 = .ok (.ifCond .eq 7, 3) := by decide +kernel
theorem dX4_seek_171 : decode cX4_seek 171 = .ok (.iconst 0, 1) := by decide +kernel
theorem dX4_seek_172 : decode cX4_seek 172 = .ok (.goto 4, 3) := by decide +kernel
theorem dX4_seek_175 : decode cX4_seek 175 = .ok (.iconst 1, 1) := by decide +kernel
theorem dX4_seek_176 : decode cX4_seek 176 = .ok (.iadd, 1) := by decide +kernel
theorem dX4_seek_177 : decode cX4_seek 177 = .ok (.istore 5, 2) := by decide +kernel
theorem dX4_seek_179 : decode cX4_seek 179 = .ok (.aload_n 0, 1) := by decide +kernel
theorem dX4_seek_180 : decode cX4_seek 180 = .ok (.getfield 58, 3) := by decide +kernel
theorem dX4_seek_183 : decode cX4_seek 183 = .ok (.iload_n 1, 1) := by decide +kernel
theorem dX4_seek_184 : decode cX4_seek 184 = .ok (.iaload, 1) := by decide +kernel
theorem dX4_seek_185 : decode cX4_seek 185 = .ok (.iload_n 3, 1) := by decide +kernel
theorem dX4_seek_186 : decode cX4_seek 186 = .ok (.bipush 6, 2) := by decide +kernel
theorem dX4_seek_188 : decode cX4_seek 188 = .ok (.if_icmp .ge 17, 3) := by decide +kernel
theorem dX4_seek_191 : decode cX4_seek 191 = .ok (.iload_n 3, 1) := by decide +kernel
theorem dX4_seek_192 : decode cX4_seek 192 = .ok (.aload_n 0, 1) := by decide +kernel
theorem dX4_seek_193 : decode cX4_seek 193 = .ok (.getfield 34, 3) := by decide +kernel
theorem dX4_seek_196 : decode cX4_seek 196 = .ok (.iload_n 1, 1) := by decide +kernel
theorem dX4_seek_197 : decode cX4_seek 197 = .ok (.iaload, 1) := by decide +kernel
theorem dX4_seek_198 : decode cX4_seek 198 = .ok (.if_icmp .ge 7, 3) := by decide +kernel
theorem dX4_seek_201 : decode cX4_seek 201 = .ok (.iconst 1, 1) := by decide +kernel
theorem dX4_seek_202 : decode cX4_seek 202 = .ok (.goto 4, 3) := by decide +kernel
theorem dX4_seek_205 : decode cX4_seek 205 = .ok (.iconst 0, 1) := by decide +kernel
theorem dX4_seek_206 : decode cX4_seek 206 = .ok (.iadd, 1) := by decide +kernel
theorem dX4_seek_207 : decode cX4_seek 207 = .ok (.istore 6, 2) := by decide +kernel
theorem dX4_seek_209 : decode cX4_seek 209 = .ok (.iload 5, 2) := by decide +kernel
theorem dX4_seek_211 : decode cX4_seek 211 = .ok (.aload_n 0, 1) := by decide +kernel
theorem dX4_seek_212 : decode cX4_seek 212 = .ok (.getfield 89, 3) := by decide +kernel
theorem dX4_seek_215 : decode cX4_seek 215 = .ok (.if_icmp .gt (-192), 3) := by decide +kernel
theorem dX4_seek_218 : decode cX4_seek 218 = .ok (.iload 6, 2) := by decide +kernel
theorem dX4_seek_220 : decode cX4_seek 220 = .ok (.aload_n 0, 1) := by decide +kernel
theorem dX4_seek_221 : decode cX4_seek 221 = .ok (.getfield 92, 3) := by decide +kernel
theorem dX4_seek_224 : decode cX4_seek 224 = .ok (.if_icmp .le 6, 3) := by decide +kernel
theorem dX4_seek_227 : decode cX4_seek 227 = .ok (.goto (-204), 3) := by decide +kernel
theorem dX4_seek_230 : decode cX4_seek 230 = .ok (.iinc 1 1, 3) := by decide +kernel
theorem dX4_seek_233 : decode cX4_seek 233 = .ok (.aload_n 0, 1) := by decide +kernel
theorem dX4_seek_234 : decode cX4_seek 234 = .ok (.getfield 52, 3) := by decide +kernel
theorem dX4_seek_237 : decode cX4_seek 237 = .ok (.iload_n 1, 1) := by decide +kernel
theorem dX4_seek_238 : decode cX4_seek 238 = .ok (.iconst 0, 1) := by decide +kernel
theorem dX4_seek_239 : decode cX4_seek 239 = .ok (.iastore, 1) := by decide +kernel
theorem dX4_seek_240 : decode cX4_seek 240 = .ok (.aload_n 0, 1) := by decide +kernel
theorem dX4_seek_241 : decode cX4_seek 241 = .ok (.getfield 55, 3) := by decide +kernel
theorem dX4_seek_244 : decode cX4_seek 244 = .ok (.iload_n 1, 1) := by decide +kernel
theorem dX4_seek_245 : decode cX4_seek 245 = .ok (.iload 5, 2) := by decide +kernel
theorem dX4_seek_247 : decode cX4_seek 247 = .ok (.iastore, 1) := by decide +kernel
theorem dX4_seek_248 : decode cX4_seek 248 = .ok (.aload_n 0, 1) := by decide +kernel
theorem dX4_seek_249 : decode cX4_seek 249 = .ok (.getfield 58, 3) := by decide +kernel
theorem dX4_seek_252 : decode cX4_seek 252 = .ok (.iload_n 1, 1) := by decide +kernel
theorem dX4_seek_253 : decode cX4_seek 253 = .ok (.iload 6, 2) := by decide +kernel
theorem dX4_seek_255 : decode cX4_seek 255 = .ok (.iastore, 1) := by decide +kernel
theorem dX4_seek_256 : decode cX4_seek 256 = .ok (.goto (-233), 3) := by decide +kernel
theorem dX4_seek_259 : decode cX4_seek 259 = .ok (.iload_n 1, 1) := by decide +kernel
theorem dX4_seek_260 : decode cX4_seek 260 = .ok (.ifCond .ge 4, 3) := by decide +kernel
theorem dX4_seek_263 : decode cX4_seek 263 = .ok (.return_, 1) := by decide +kernel
theorem dX4_seek_264 : decode cX4_seek 264 = .ok (.aload_n 0, 1) := by decide +kernel
theorem dX4_seek_265 : decode cX4_seek 265 = .ok (.iconst 1, 1) := by decide +kernel
theorem dX4_seek_266 : decode cX4_seek 266 = .ok (.putfield 95, 3) := by decide +kernel
theorem dX4_seek_269 : decode cX4_seek 269 = .ok (.aload_n 0, 1) := by decide +kernel
theorem dX4_seek_270 : decode cX4_seek 270 = .ok (.aload_n 0, 1) := by decide +kernel
theorem dX4_seek_271 : decode cX4_seek 271 = .ok (.getfield 55, 3) := by decide +kernel
theorem dX4_seek_274 : decode cX4_seek 274 = .ok (.iload_n 1, 1) := by decide +kernel
theorem dX4_seek_275 : decode cX4_seek 275 = .ok (.iaload, 1) := by decide +kernel
theorem dX4_seek_276 : decode cX4_seek 276 = .ok (.putfield 99, 3) := by decide +kernel
theorem dX4_seek_279 : decode cX4_seek 279 = .ok (.iconst 0, 1) := by decide +kernel
theorem dX4_seek_280 : decode cX4_seek 280 = .ok (.istore_n 2, 1) := by decide +kernel
theorem dX4_seek_281 : decode cX4_seek 281 = .ok (.iload_n 2, 1) := by decide +kernel
theorem dX4_seek_282 : decode cX4_seek 282 = .ok (.aload_n 0, 1) := by decide +kernel
theorem dX4_seek_283 : decode cX4_seek 283 = .ok (.getfield 65, 3) := by decide +kernel
theorem dX4_seek_286 : decode cX4_seek 286 = .ok (.if_icmp .ge 21, 3) := by decide +kernel
theorem dX4_seek_289 : decode cX4_seek 289 = .ok (.aload_n 0, 1) := by decide +kernel
theorem dX4_seek_290 : decode cX4_seek 290 = .ok (.getfield 43, 3) := by decide +kernel
theorem dX4_seek_293 : decode cX4_seek 293 = .ok (.iload_n 2, 1) := by decide +kernel
theorem dX4_seek_294 : decode cX4_seek 294 = .ok (.aload_n 0, 1) := by decide +kernel
theorem dX4_seek_295 : decode cX4_seek 295 = .ok (.getfield 40, 3) := by decide +kernel
theorem dX4_seek_298 : decode cX4_seek 298 = .ok (.iload_n 2, 1) := by decide +kernel
theorem dX4_seek_299 : decode cX4_seek 299 = .ok (.iaload, 1) := by decide +kernel
theorem dX4_seek_300 : decode cX4_seek 300 = .ok (.iastore, 1) := by decide +kernel
theorem dX4_seek_301 : decode cX4_seek 301 = .ok (.iinc 2 1, 3) := by decide +kernel
theorem dX4_seek_304 : decode cX4_seek 304 = .ok (.goto (-23), 3) := by decide +kernel
theorem dX4_seek_307 : decode cX4_seek 307 = .ok (.return_, 1) := by decide +kernel
set_option maxRecDepth 20000 in
theorem ggX4_look_X4_begin : GoodIn wsX4_look wsX4_begin := goodIn_ca (goodIn_r _ [10, 4, 5, 11, 12, 13, 14, 15, 16, 17, 18, 38, 39, 40, 41, 42, 43, 44, 45, 46, 47, 48, 49, 50, 51, 52, 53, 54, 55, 56, 57, 58, 59, 60, 61, 62] (by decide +kernel) (by decide +kernel)) (goodIn_sub (fun _ h => List.mem_cons_of_mem _ (List.mem_append_right _ h)) (by decide +kernel))
set_option maxRecDepth 20000 in
theorem gX4_look_X4_begin : GoodIn wsX4_look (wsV RX4 102 RX4 yX4_begin wsX4_begin) := goodIn_app (goodIn_of _ (by decide +kernel)) ggX4_look_X4_begin
set_option maxRecDepth 20000 in
theorem ggX4_look_X4_seek : GoodIn wsX4_look wsX4_seek := goodIn_ca (goodIn_r _ [22, 23, 24, 25, 4, 11, 5, 26, 27, 2, 3, 1, 28, 29, 30, 31, 32, 9, 33, 34, 35, 36, 37, 13, 14, 17, 15, 18, 16, 38, 39, 40, 41, 42, 43, 44, 45, 46, 47, 48, 49, 50, 51, 52, 53, 54, 55, 56, 57, 58, 59, 60, 61, 62] (by decide +kernel) (by decide +kernel)) (goodIn_sub (fun _ h => List.mem_cons_of_mem _ (List.mem_append_right _ h)) (by decide +kernel))
set_option maxRecDepth 20000 in
theorem gX4_look_X4_seek : GoodIn wsX4_look (wsV RX4 105 RX4 yX4_seek wsX4_seek) := goodIn_app (goodIn_of _ (by decide +kernel)) ggX4_look_X4_seek
theorem dX4_look_0 : decode cX4_look 0 = .ok (.aload_n 0, 1) := by decide +kernel
theorem dX4_look_1 : decode cX4_look 1 = .ok (.iconst 0, 1) := by decide +kernel
theorem dX4_look_2 : decode cX4_look 2 = .ok (.putfield 95, 3) := by decide +kernel
theorem dX4_look_5 : decode cX4_look 5 = .ok (.aload_n 0, 1) := by decide +kernel
theorem dX4_look_6 : decode cX4_look 6 = .ok (.iload_n 1, 1) := by decide +kernel
theorem dX4_look_7 : decode cX4_look 7 = .ok (.putfield 89, 3) := by decide +kernel
theorem dX4_look_10 : decode cX4_look 10 = .ok (.aload_n 0, 1) := by decide +kernel
theorem dX4_look_11 : decode cX4_look 11 = .ok (.iload_n 2, 1) := by decide +kernel
theorem dX4_look_12 : decode cX4_look 12 = .ok (.putfield 92, 3) := by decide +kernel
theorem dX4_look_15 : decode cX4_look 15 = .ok (.aload_n 0, 1) := by decide +kernel
theorem dX4_look_16 : decode cX4_look 16 = .ok (.invokevirtual 102, 3) := by decide +kernel
theorem dX4_look_19 : decode cX4_look 19 = .ok (.iconst 1, 1) := by decide +kernel
theorem dX4_look_20 : decode cX4_look 20 = .ok (.istore_n 3, 1) := by decide +kernel
theorem dX4_look_21 : decode cX4_look 21 = .ok (.iconst 0, 1) := by decide +kernel
theorem dX4_look_22 : decode cX4_look 22 = .ok (.istore 4, 2) := by decide +kernel
theorem dX4_look_24 : decode cX4_look 24 = .ok (.iload 4, 2) := by decide +kernel
theorem dX4_look_26 : decode cX4_look 26 = .ok (.aload_n 0, 1) := by decide +kernel
theorem dX4_look_27 : decode cX4_look 27 = .ok (.getfield 65, 3) := by decide +kernel
theorem dX4_look_30 : decode cX4_look 30 = .ok (.if_icmp .ge 29, 3) := by decide +kernel
theorem dX4_look_33 : decode cX4_look 33 = .ok (.iload_n 3, 1) := by decide +kernel
theorem dX4_look_34 : decode cX4_look 34 = .ok (.ifCond .eq 17, 3) := by decide +kernel
theorem dX4_look_37 : decode cX4_look 37 = .ok (.aload_n 0, 1) := by decide +kernel
theorem dX4_look_38 : decode cX4_look 38 = .ok (.getfield 37, 3) := by decide +kernel
theorem dX4_look_41 : decode cX4_look 41 = .ok (.iload 4, 2) := by decide +kernel
theorem dX4_look_43 : decode cX4_look 43 = .ok (.iaload, 1) := by decide +kernel
theorem dX4_look_44 : decode cX4_look 44 = .ok (.ifCond .eq 7, 3) := by decide +kernel
theorem dX4_look_47 : decode cX4_look 47 = .ok (.iconst 1, 1) := by decide +kernel
theorem dX4_look_48 : decode cX4_look 48 = .ok (.goto 4, 3) := by decide +kernel
theorem dX4_look_51 : decode cX4_look 51 = .ok (.iconst 0, 1) := by decide +kernel
theorem dX4_look_52 : decode cX4_look 52 = .ok (.istore_n 3, 1) := by decide +kernel
theorem dX4_look_53 : decode cX4_look 53 = .ok (.iinc 4 1, 3) := by decide +kernel
theorem dX4_look_56 : decode cX4_look 56 = .ok (.goto (-32), 3) := by decide +kernel
theorem dX4_look_59 : decode cX4_look 59 = .ok (.iload_n 3, 1) := by decide +kernel
theorem dX4_look_60 : decode cX4_look 60 = .ok (.ifCond .eq 7, 3) := by decide +kernel
theorem dX4_look_63 : decode cX4_look 63 = .ok (.aload_n 0, 1) := by decide +kernel
theorem dX4_look_64 : decode cX4_look 64 = .ok (.invokevirtual 105, 3) := by decide +kernel
theorem dX4_look_67 : decode cX4_look 67 = .ok (.aload_n 0, 1) := by decide +kernel
theorem dX4_look_68 : decode cX4_look 68 = .ok (.getfield 95, 3) := by decide +kernel
theorem dX4_look_71 : decode cX4_look 71 = .ok (.ireturn, 1) := by decide +kernel
set_option maxRecDepth 20000 in
theorem ggX4_lookForBest_X4_look : GoodIn wsX4_lookForBest wsX4_look := goodIn_ca (goodIn_r _ [5, 6, 7, 8, 9, 10, 11, 12, 13, 4, 14, 15, 16, 17, 18, 19, 20, 21, 22, 23, 24, 25, 26, 27, 28, 29, 30, 31, 32, 33, 34, 35, 36, 37, 38, 39, 40, 41, 42, 43, 44, 45, 46, 47, 48, 49, 50, 51, 52, 53, 54, 55, 56, 57, 58, 59, 60, 61, 62, 63, 64, 65, 66] (by decide +kernel) (by decide +kernel)) (goodIn_sub (fun _ h => List.mem_cons_of_mem _ (List.mem_append_right _ h)) (by decide +kernel))
set_option maxRecDepth 20000 in
theorem gX4_lookForBest_X4_look : GoodIn wsX4_lookForBest (wsV RX4 108 RX4 yX4_look wsX4_look) := goodIn_app (goodIn_of _ (by decide +kernel)) ggX4_lookForBest_X4_look
theorem dX4_lookForBest_0 : decode cX4_lookForBest 0 = .ok (.aload_n 0, 1) := by decide +kernel
theorem dX4_lookForBest_1 : decode cX4_lookForBest 1 = .ok (.bipush 8, 2) := by decide +kernel
theorem dX4_lookForBest_3 : decode cX4_lookForBest 3 = .ok (.bipush 8, 2) := by decide +kernel
theorem dX4_lookForBest_5 : decode cX4_lookForBest 5 = .ok (.invokevirtual 108, 3) := by decide +kernel
theorem dX4_lookForBest_8 : decode cX4_lookForBest 8 = .ok (.ifCond .ne 5, 3) := by decide +kernel
theorem dX4_lookForBest_11 : decode cX4_lookForBest 11 = .ok (.iconst 0, 1) := by decide +kernel
theorem dX4_lookForBest_12 : decode cX4_lookForBest 12 = .ok (.ireturn, 1) := by decide +kernel
theorem dX4_lookForBest_13 : decode cX4_lookForBest 13 = .ok (.iconst 0, 1) := by decide +kernel
theorem dX4_lookForBest_14 : decode cX4_lookForBest 14 = .ok (.istore_n 1, 1) := by decide +kernel
theorem dX4_lookForBest_15 : decode cX4_lookForBest 15 = .ok (.iload_n 1, 1) := by decide +kernel
theorem dX4_lookForBest_16 : decode cX4_lookForBest 16 = .ok (.bipush 8, 2) := by decide +kernel
theorem dX4_lookForBest_18 : decode cX4_lookForBest 18 = .ok (.if_icmp .gt 41, 3) := by decide +kernel
theorem dX4_lookForBest_21 : decode cX4_lookForBest 21 = .ok (.aload_n 0, 1) := by decide +kernel
theorem dX4_lookForBest_22 : decode cX4_lookForBest 22 = .ok (.iload_n 1, 1) := by decide +kernel
theorem dX4_lookForBest_23 : decode cX4_lookForBest 23 = .ok (.bipush 8, 2) := by decide +kernel
theorem dX4_lookForBest_25 : decode cX4_lookForBest 25 = .ok (.invokevirtual 108, 3) := by decide +kernel
theorem dX4_lookForBest_28 : decode cX4_lookForBest 28 = .ok (.ifCond .ne 6, 3) := by decide +kernel
theorem dX4_lookForBest_31 : decode cX4_lookForBest 31 = .ok (.goto 22, 3) := by decide +kernel
theorem dX4_lookForBest_34 : decode cX4_lookForBest 34 = .ok (.iconst 0, 1) := by decide +kernel
theorem dX4_lookForBest_35 : decode cX4_lookForBest 35 = .ok (.istore_n 2, 1) := by decide +kernel
theorem dX4_lookForBest_36 : decode cX4_lookForBest 36 = .ok (.aload_n 0, 1) := by decide +kernel
theorem dX4_lookForBest_37 : decode cX4_lookForBest 37 = .ok (.iload_n 1, 1) := by decide +kernel
theorem dX4_lookForBest_38 : decode cX4_lookForBest 38 = .ok (.iload_n 2, 1) := by decide +kernel
theorem dX4_lookForBest_39 : decode cX4_lookForBest 39 = .ok (.invokevirtual 108, 3) := by decide +kernel
theorem dX4_lookForBest_42 : decode cX4_lookForBest 42 = .ok (.ifCond .ne 9, 3) := by decide +kernel
theorem dX4_lookForBest_45 : decode cX4_lookForBest 45 = .ok (.iinc 2 1, 3) := by decide +kernel
theorem dX4_lookForBest_48 : decode cX4_lookForBest 48 = .ok (.goto (-12), 3) := by decide +kernel
theorem dX4_lookForBest_51 : decode cX4_lookForBest 51 = .ok (.iconst 1, 1) := by decide +kernel
theorem dX4_lookForBest_52 : decode cX4_lookForBest 52 = .ok (.ireturn, 1) := by decide +kernel
theorem dX4_lookForBest_53 : decode cX4_lookForBest 53 = .ok (.iinc 1 1, 3) := by decide +kernel
theorem dX4_lookForBest_56 : decode cX4_lookForBest 56 = .ok (.goto (-41), 3) := by decide +kernel
theorem dX4_lookForBest_59 : decode cX4_lookForBest 59 = .ok (.iconst 0, 1) := by decide +kernel
theorem dX4_lookForBest_60 : decode cX4_lookForBest 60 = .ok (.ireturn, 1) := by decide +kernel
theorem dX4_tries_0 : decode cX4_tries 0 = .ok (.lconst 0, 1) := by decide +kernel
theorem dX4_tries_1 : decode cX4_tries 1 = .ok (.lstore_n 2, 1) := by decide +kernel
theorem dX4_tries_2 : decode cX4_tries 2 = .ok (.iconst 0, 1) := by decide +kernel
theorem dX4_tries_3 : decode cX4_tries 3 = .ok (.istore 4, 2) := by decide +kernel
theorem dX4_tries_5 : decode cX4_tries 5 = .ok (.iload 4, 2) := by decide +kernel
theorem dX4_tries_7 : decode cX4_tries 7 = .ok (.iconst 1, 1) := by decide +kernel
theorem dX4_tries_8 : decode cX4_tries 8 = .ok (.aload_n 0, 1) := by decide +kernel
theorem dX4_tries_9 : decode cX4_tries 9 = .ok (.getfield 65, 3) := by decide +kernel
theorem dX4_tries_12 : decode cX4_tries 12 = .ok (.ishl, 1) := by decide +kernel
theorem dX4_tries_13 : decode cX4_tries 13 = .ok (.if_icmp .ge 56, 3) := by decide +kernel
theorem dX4_tries_16 : decode cX4_tries 16 = .ok (.iconst 0, 1) := by decide +kernel
theorem dX4_tries_17 : decode cX4_tries 17 = .ok (.istore 5, 2) := by decide +kernel
theorem dX4_tries_19 : decode cX4_tries 19 = .ok (.iconst 0, 1) := by decide +kernel
theorem dX4_tries_20 : decode cX4_tries 20 = .ok (.istore 6, 2) := by decide +kernel
theorem dX4_tries_22 : decode cX4_tries 22 = .ok (.iload 6, 2) := by decide +kernel
theorem dX4_tries_24 : decode cX4_tries 24 = .ok (.aload_n 0, 1) := by decide +kernel
theorem dX4_tries_25 : decode cX4_tries 25 = .ok (.getfield 65, 3) := by decide +kernel
theorem dX4_tries_28 : decode cX4_tries 28 = .ok (.if_icmp .ge 21, 3) := by decide +kernel
theorem dX4_tries_31 : decode cX4_tries 31 = .ok (.iload 5, 2) := by decide +kernel
theorem dX4_tries_33 : decode cX4_tries 33 = .ok (.iload 4, 2) := by decide +kernel
theorem dX4_tries_35 : decode cX4_tries 35 = .ok (.iload 6, 2) := by decide +kernel
theorem dX4_tries_37 : decode cX4_tries 37 = .ok (.ishr, 1) := by decide +kernel
theorem dX4_tries_38 : decode cX4_tries 38 = .ok (.iconst 1, 1) := by decide +kernel
theorem dX4_tries_39 : decode cX4_tries 39 = .ok (.iand, 1) := by decide +kernel
theorem dX4_tries_40 : decode cX4_tries 40 = .ok (.iadd, 1) := by decide +kernel
theorem dX4_tries_41 : decode cX4_tries 41 = .ok (.istore 5, 2) := by decide +kernel
theorem dX4_tries_43 : decode cX4_tries 43 = .ok (.iinc 6 1, 3) := by decide +kernel
theorem dX4_tries_46 : decode cX4_tries 46 = .ok (.goto (-24), 3) := by decide +kernel
theorem dX4_tries_49 : decode cX4_tries 49 = .ok (.lload_n 2, 1) := by decide +kernel
theorem dX4_tries_50 : decode cX4_tries 50 = .ok (.iload 5, 2) := by decide +kernel
theorem dX4_tries_52 : decode cX4_tries 52 = .ok (.iload_n 1, 1) := by decide +kernel
theorem dX4_tries_53 : decode cX4_tries 53 = .ok (.if_icmp .gt 7, 3) := by decide +kernel
theorem dX4_tries_56 : decode cX4_tries 56 = .ok (.lconst 1, 1) := by decide +kernel
theorem dX4_tries_57 : decode cX4_tries 57 = .ok (.goto 4, 3) := by decide +kernel
theorem dX4_tries_60 : decode cX4_tries 60 = .ok (.lconst 0, 1) := by decide +kernel
theorem dX4_tries_61 : decode cX4_tries 61 = .ok (.ladd, 1) := by decide +kernel
theorem dX4_tries_62 : decode cX4_tries 62 = .ok (.lstore_n 2, 1) := by decide +kernel
theorem dX4_tries_63 : decode cX4_tries 63 = .ok (.iinc 4 1, 3) := by decide +kernel
theorem dX4_tries_66 : decode cX4_tries 66 = .ok (.goto (-61), 3) := by decide +kernel
theorem dX4_tries_69 : decode cX4_tries 69 = .ok (.lload_n 2, 1) := by decide +kernel
theorem dX4_tries_70 : decode cX4_tries 70 = .ok (.lreturn, 1) := by decide +kernel
theorem dX4_keep_0 : decode cX4_keep 0 = .ok (.aload_n 0, 1) := by decide +kernel
theorem dX4_keep_1 : decode cX4_keep 1 = .ok (.aload_n 0, 1) := by decide +kernel
theorem dX4_keep_2 : decode cX4_keep 2 = .ok (.getfield 65, 3) := by decide +kernel
theorem dX4_keep_5 : decode cX4_keep 5 = .ok (.putfield 111, 3) := by decide +kernel
theorem dX4_keep_8 : decode cX4_keep 8 = .ok (.iconst 0, 1) := by decide +kernel
theorem dX4_keep_9 : decode cX4_keep 9 = .ok (.istore_n 1, 1) := by decide +kernel
theorem dX4_keep_10 : decode cX4_keep 10 = .ok (.iconst 0, 1) := by decide +kernel
theorem dX4_keep_11 : decode cX4_keep 11 = .ok (.istore_n 2, 1) := by decide +kernel
theorem dX4_keep_12 : decode cX4_keep 12 = .ok (.iload_n 2, 1) := by decide +kernel
theorem dX4_keep_13 : decode cX4_keep 13 = .ok (.aload_n 0, 1) := by decide +kernel
theorem dX4_keep_14 : decode cX4_keep 14 = .ok (.getfield 65, 3) := by decide +kernel
theorem dX4_keep_17 : decode cX4_keep 17 = .ok (.if_icmp .ge 71, 3) := by decide +kernel
theorem dX4_keep_20 : decode cX4_keep 20 = .ok (.aload_n 0, 1) := by decide +kernel
theorem dX4_keep_21 : decode cX4_keep 21 = .ok (.getfield 46, 3) := by decide +kernel
theorem dX4_keep_24 : decode cX4_keep 24 = .ok (.iload_n 2, 1) := by decide +kernel
theorem dX4_keep_25 : decode cX4_keep 25 = .ok (.aload_n 0, 1) := by decide +kernel
theorem dX4_keep_26 : decode cX4_keep 26 = .ok (.getfield 43, 3) := by decide +kernel
theorem dX4_keep_29 : decode cX4_keep 29 = .ok (.iload_n 2, 1) := by decide +kernel
theorem dX4_keep_30 : decode cX4_keep 30 = .ok (.iaload, 1) := by decide +kernel
theorem dX4_keep_31 : decode cX4_keep 31 = .ok (.bipush 6, 2) := by decide +kernel
theorem dX4_keep_33 : decode cX4_keep 33 = .ok (.if_icmp .ne 7, 3) := by decide +kernel
theorem dX4_keep_36 : decode cX4_keep 36 = .ok (.iconst (-1), 1) := by decide +kernel
theorem dX4_keep_37 : decode cX4_keep 37 = .ok (.goto 9, 3) := by decide +kernel
theorem dX4_keep_40 : decode cX4_keep 40 = .ok (.aload_n 0, 1) := by decide +kernel
theorem dX4_keep_41 : decode cX4_keep 41 = .ok (.getfield 43, 3) := by decide +kernel
theorem dX4_keep_44 : decode cX4_keep 44 = .ok (.iload_n 2, 1) := by decide +kernel
theorem dX4_keep_45 : decode cX4_keep 45 = .ok (.iaload, 1) := by decide +kernel
theorem dX4_keep_46 : decode cX4_keep 46 = .ok (.iastore, 1) := by decide +kernel
theorem dX4_keep_47 : decode cX4_keep 47 = .ok (.aload_n 0, 1) := by decide +kernel
theorem dX4_keep_48 : decode cX4_keep 48 = .ok (.getfield 49, 3) := by decide +kernel
theorem dX4_keep_51 : decode cX4_keep 51 = .ok (.iload_n 2, 1) := by decide +kernel
theorem dX4_keep_52 : decode cX4_keep 52 = .ok (.aload_n 0, 1) := by decide +kernel
theorem dX4_keep_53 : decode cX4_keep 53 = .ok (.getfield 34, 3) := by decide +kernel
theorem dX4_keep_56 : decode cX4_keep 56 = .ok (.iload_n 2, 1) := by decide +kernel
theorem dX4_keep_57 : decode cX4_keep 57 = .ok (.iaload, 1) := by decide +kernel
theorem dX4_keep_58 : decode cX4_keep 58 = .ok (.iastore, 1) := by decide +kernel
theorem dX4_keep_59 : decode cX4_keep 59 = .ok (.iload_n 1, 1) := by decide +kernel
theorem dX4_keep_60 : decode cX4_keep 60 = .ok (.aload_n 0, 1) := by decide +kernel
theorem dX4_keep_61 : decode cX4_keep 61 = .ok (.getfield 46, 3) := by decide +kernel
theorem dX4_keep_64 : decode cX4_keep 64 = .ok (.iload_n 2, 1) := by decide +kernel
theorem dX4_keep_65 : decode cX4_keep 65 = .ok (.iaload, 1) := by decide +kernel
theorem dX4_keep_66 : decode cX4_keep 66 = .ok (.aload_n 0, 1) := by decide +kernel
theorem dX4_keep_67 : decode cX4_keep 67 = .ok (.getfield 49, 3) := by decide +kernel
theorem dX4_keep_70 : decode cX4_keep 70 = .ok (.iload_n 2, 1) := by decide +kernel
theorem dX4_keep_71 : decode cX4_keep 71 = .ok (.iaload, 1) := by decide +kernel
theorem dX4_keep_72 : decode cX4_keep 72 = .ok (.if_icmp .ne 7, 3) := by decide +kernel
theorem dX4_keep_75 : decode cX4_keep 75 = .ok (.iconst 0, 1) := by decide +kernel
theorem dX4_keep_76 : decode cX4_keep 76 = .ok (.goto 4, 3) := by decide +kernel
theorem dX4_keep_79 : decode cX4_keep 79 = .ok (.iconst 1, 1) := by decide +kernel
theorem dX4_keep_80 : decode cX4_keep 80 = .ok (.iadd, 1) := by decide +kernel
theorem dX4_keep_81 : decode cX4_keep 81 = .ok (.istore_n 1, 1) := by decide +kernel
theorem dX4_keep_82 : decode cX4_keep 82 = .ok (.iinc 2 1, 3) := by decide +kernel
theorem dX4_keep_85 : decode cX4_keep 85 = .ok (.goto (-73), 3) := by decide +kernel
theorem dX4_keep_88 : decode cX4_keep 88 = .ok (.iload_n 1, 1) := by decide +kernel
theorem dX4_keep_89 : decode cX4_keep 89 = .ok (.ireturn, 1) := by decide +kernel
set_option maxRecDepth 20000 in
theorem ggX4_solve_X4_lookForBest : GoodIn wsX4_solve wsX4_lookForBest := goodIn_ca (goodIn_r _ [10, 11, 12, 13, 9, 14, 15, 16, 17, 2, 18, 19, 20, 21, 22, 23, 24, 25, 26, 27, 28, 29, 30, 31, 32, 33, 34, 35, 36, 37, 38, 3, 5, 39, 40, 41, 42, 43, 44, 45, 46, 47, 59, 60, 61, 62, 63, 64, 65, 66, 67, 68, 69, 70, 71, 72, 73, 74, 75, 76, 77, 78, 79, 80, 81, 82, 83] (by decide +kernel) (by decide +kernel)) (goodIn_sub (fun _ h => List.mem_cons_of_mem _ (List.mem_append_right _ h)) (by decide +kernel))
set_option maxRecDepth 20000 in
theorem gX4_solve_X4_lookForBest : GoodIn wsX4_solve (wsV RX4 114 RX4 yX4_lookForBest wsX4_lookForBest) := goodIn_app (goodIn_of _ (by decide +kernel)) ggX4_solve_X4_lookForBest
set_option maxRecDepth 20000 in
theorem ggX4_solve_X4_tries : GoodIn wsX4_solve wsX4_tries := goodIn_r _ [51, 2, 59, 60, 61, 62, 63, 64, 65, 66, 67, 68, 69, 70, 71, 72, 73, 74, 75, 76, 77, 78, 79, 80, 81, 82, 83] (by decide +kernel) (by decide +kernel)
set_option maxRecDepth 20000 in
theorem gX4_solve_X4_tries : GoodIn wsX4_solve (wsV RX4 118 RX4 yX4_tries wsX4_tries) := goodIn_app (goodIn_of _ (by decide +kernel)) ggX4_solve_X4_tries
set_option maxRecDepth 20000 in
theorem ggX4_solve_X4_look : GoodIn wsX4_solve wsX4_look := goodIn_ca (goodIn_r _ [14, 15, 16, 17, 2, 18, 19, 20, 21, 9, 22, 23, 24, 25, 26, 27, 28, 29, 30, 31, 32, 33, 34, 35, 36, 37, 38, 3, 5, 39, 40, 41, 42, 43, 44, 45, 46, 47, 59, 60, 61, 62, 63, 64, 65, 66, 67, 68, 69, 70, 71, 72, 73, 74, 75, 76, 77, 78, 79, 80, 81, 82, 83] (by decide +kernel) (by decide +kernel)) (goodIn_sub (fun _ h => List.mem_cons_of_mem _ (List.mem_append_right _ h)) (by decide +kernel))
set_option maxRecDepth 20000 in
theorem gX4_solve_X4_look : GoodIn wsX4_solve (wsV RX4 108 RX4 yX4_look wsX4_look) := goodIn_app (goodIn_of _ (by decide +kernel)) ggX4_solve_X4_look
set_option maxRecDepth 20000 in
theorem ggX4_solve_X4_keep : GoodIn wsX4_solve wsX4_keep := goodIn_ca (goodIn_r _ [55, 2, 56, 57, 39, 58, 3, 59, 60, 61, 62, 63, 64, 65, 66, 67, 68, 69, 70, 71, 72, 73, 74, 75, 76, 77, 78, 79, 80, 81, 82, 83] (by decide +kernel) (by decide +kernel)) (goodIn_sub (fun _ h => List.mem_cons_of_mem _ (List.mem_append_right _ h)) (by decide +kernel))
set_option maxRecDepth 20000 in
theorem gX4_solve_X4_keep : GoodIn wsX4_solve (wsV RX4 122 RX4 yX4_keep wsX4_keep) := goodIn_app (goodIn_of _ (by decide +kernel)) ggX4_solve_X4_keep
theorem dX4_solve_0 : decode cX4_solve 0 = .ok (.aload_n 0, 1) := by decide +kernel
theorem dX4_solve_1 : decode cX4_solve 1 = .ok (.iconst 0, 1) := by decide +kernel
theorem dX4_solve_2 : decode cX4_solve 2 = .ok (.putfield 61, 3) := by decide +kernel
theorem dX4_solve_5 : decode cX4_solve 5 = .ok (.iload_n 1, 1) := by decide +kernel
theorem dX4_solve_6 : decode cX4_solve 6 = .ok (.ifCond .lt 15, 3) := by decide +kernel
theorem dX4_solve_9 : decode cX4_solve 9 = .ok (.iload_n 1, 1) := by decide +kernel
theorem dX4_solve_10 : decode cX4_solve 10 = .ok (.bipush 8, 2) := by decide +kernel
theorem dX4_solve_12 : decode cX4_solve 12 = .ok (.if_icmp .gt 9, 3) := by decide +kernel
theorem dX4_solve_15 : decode cX4_solve 15 = .ok (.lload_n 2, 1) := by decide +kernel
theorem dX4_solve_16 : decode cX4_solve 16 = .ok (.lconst 1, 1) := by decide +kernel
theorem dX4_solve_17 : decode cX4_solve 17 = .ok (.lcmp, 1) := by decide +kernel
theorem dX4_solve_18 : decode cX4_solve 18 = .ok (.ifCond .ge 6, 3) := by decide +kernel
theorem dX4_solve_21 : decode cX4_solve 21 = .ok (.bipush (-3), 2) := by decide +kernel
theorem dX4_solve_23 : decode cX4_solve 23 = .ok (.ireturn, 1) := by decide +kernel
theorem dX4_solve_24 : decode cX4_solve 24 = .ok (.iconst 0, 1) := by decide +kernel
theorem dX4_solve_25 : decode cX4_solve 25 = .ok (.istore 4, 2) := by decide +kernel
theorem dX4_solve_27 : decode cX4_solve 27 = .ok (.iload 4, 2) := by decide +kernel
theorem dX4_solve_29 : decode cX4_solve 29 = .ok (.aload_n 0, 1) := by decide +kernel
theorem dX4_solve_30 : decode cX4_solve 30 = .ok (.getfield 65, 3) := by decide +kernel
theorem dX4_solve_33 : decode cX4_solve 33 = .ok (.if_icmp .ge 23, 3) := by decide +kernel
theorem dX4_solve_36 : decode cX4_solve 36 = .ok (.aload_n 0, 1) := by decide +kernel
theorem dX4_solve_37 : decode cX4_solve 37 = .ok (.getfield 34, 3) := by decide +kernel
theorem dX4_solve_40 : decode cX4_solve 40 = .ok (.iload 4, 2) := by decide +kernel
theorem dX4_solve_42 : decode cX4_solve 42 = .ok (.aload_n 0, 1) := by decide +kernel
theorem dX4_solve_43 : decode cX4_solve 43 = .ok (.getfield 13, 3) := by decide +kernel
theorem dX4_solve_46 : decode cX4_solve 46 = .ok (.iload 4, 2) := by decide +kernel
theorem dX4_solve_48 : decode cX4_solve 48 = .ok (.iaload, 1) := by decide +kernel
theorem dX4_solve_49 : decode cX4_solve 49 = .ok (.iastore, 1) := by decide +kernel
theorem dX4_solve_50 : decode cX4_solve 50 = .ok (.iinc 4 1, 3) := by decide +kernel
theorem dX4_solve_53 : decode cX4_solve 53 = .ok (.goto (-26), 3) := by decide +kernel
theorem dX4_solve_56 : decode cX4_solve 56 = .ok (.aload_n 0, 1) := by decide +kernel
theorem dX4_solve_57 : decode cX4_solve 57 = .ok (.invokevirtual 114, 3) := by decide +kernel
theorem dX4_solve_60 : decode cX4_solve 60 = .ok (.istore 4, 2) := by decide +kernel
theorem dX4_solve_62 : decode cX4_solve 62 = .ok (.iload 4, 2) := by decide +kernel
theorem dX4_solve_64 : decode cX4_solve 64 = .ok (.ifCond .eq 15, 3) := by decide +kernel
theorem dX4_solve_67 : decode cX4_solve 67 = .ok (.aload_n 0, 1) := by decide +kernel
theorem dX4_solve_68 : decode cX4_solve 68 = .ok (.getfield 99, 3) := by decide +kernel
theorem dX4_solve_71 : decode cX4_solve 71 = .ok (.iload_n 1, 1) := by decide +kernel
theorem dX4_solve_72 : decode cX4_solve 72 = .ok (.if_icmp .gt 7, 3) := by decide +kernel
theorem dX4_solve_75 : decode cX4_solve 75 = .ok (.iconst 1, 1) := by decide +kernel
theorem dX4_solve_76 : decode cX4_solve 76 = .ok (.goto 4, 3) := by decide +kernel
theorem dX4_solve_79 : decode cX4_solve 79 = .ok (.iconst 0, 1) := by decide +kernel
theorem dX4_solve_80 : decode cX4_solve 80 = .ok (.istore 5, 2) := by decide +kernel
theorem dX4_solve_82 : decode cX4_solve 82 = .ok (.aload_n 0, 1) := by decide +kernel
theorem dX4_solve_83 : decode cX4_solve 83 = .ok (.iload 5, 2) := by decide +kernel
theorem dX4_solve_85 : decode cX4_solve 85 = .ok (.ifCond .eq 10, 3) := by decide +kernel
theorem dX4_solve_88 : decode cX4_solve 88 = .ok (.aload_n 0, 1) := by decide +kernel
theorem dX4_solve_89 : decode cX4_solve 89 = .ok (.getfield 99, 3) := by decide +kernel
theorem dX4_solve_92 : decode cX4_solve 92 = .ok (.goto 19, 3) := by decide +kernel
theorem dX4_solve_95 : decode cX4_solve 95 = .ok (.iload_n 1, 1) := by decide +kernel
theorem dX4_solve_96 : decode cX4_solve 96 = .ok (.aload_n 0, 1) := by decide +kernel
theorem dX4_solve_97 : decode cX4_solve 97 = .ok (.getfield 65, 3) := by decide +kernel
theorem dX4_solve_100 : decode cX4_solve 100 = .ok (.if_icmp .ge 7, 3) := by decide +kernel
theorem dX4_solve_103 : decode cX4_solve 103 = .ok (.iload_n 1, 1) := by decide +kernel
theorem dX4_solve_104 : decode cX4_solve 104 = .ok (.goto 7, 3) := by decide +kernel
theorem dX4_solve_107 : decode cX4_solve 107 = .ok (.aload_n 0, 1) := by decide +kernel
theorem dX4_solve_108 : decode cX4_solve 108 = .ok (.getfield 65, 3) := by decide +kernel
theorem dX4_solve_111 : decode cX4_solve 111 = .ok (.invokevirtual 118, 3) := by decide +kernel
theorem dX4_solve_114 : decode cX4_solve 114 = .ok (.lload_n 2, 1) := by decide +kernel
theorem dX4_solve_115 : decode cX4_solve 115 = .ok (.lcmp, 1) := by decide +kernel
theorem dX4_solve_116 : decode cX4_solve 116 = .ok (.ifCond .le 6, 3) := by decide +kernel
theorem dX4_solve_119 : decode cX4_solve 119 = .ok (.bipush (-2), 2) := by decide +kernel
theorem dX4_solve_121 : decode cX4_solve 121 = .ok (.ireturn, 1) := by decide +kernel
theorem dX4_solve_122 : decode cX4_solve 122 = .ok (.iload 4, 2) := by decide +kernel
theorem dX4_solve_124 : decode cX4_solve 124 = .ok (.ifCond .ne 5, 3) := by decide +kernel
theorem dX4_solve_127 : decode cX4_solve 127 = .ok (.iconst (-1), 1) := by decide +kernel
theorem dX4_solve_128 : decode cX4_solve 128 = .ok (.ireturn, 1) := by decide +kernel
theorem dX4_solve_129 : decode cX4_solve 129 = .ok (.iload 5, 2) := by decide +kernel
theorem dX4_solve_131 : decode cX4_solve 131 = .ok (.ifCond .ne 14, 3) := by decide +kernel
theorem dX4_solve_134 : decode cX4_solve 134 = .ok (.aload_n 0, 1) := by decide +kernel
theorem dX4_solve_135 : decode cX4_solve 135 = .ok (.bipush 8, 2) := by decide +kernel
theorem dX4_solve_137 : decode cX4_solve 137 = .ok (.bipush 8, 2) := by decide +kernel
theorem dX4_solve_139 : decode cX4_solve 139 = .ok (.invokevirtual 108, 3) := by decide +kernel
theorem dX4_solve_142 : decode cX4_solve 142 = .ok (.ifCond .eq 7, 3) := by decide +kernel
theorem dX4_solve_145 : decode cX4_solve 145 = .ok (.iconst 1, 1) := by decide +kernel
theorem dX4_solve_146 : decode cX4_solve 146 = .ok (.goto 4, 3) := by decide +kernel
theorem dX4_solve_149 : decode cX4_solve 149 = .ok (.iconst 0, 1) := by decide +kernel
theorem dX4_solve_150 : decode cX4_solve 150 = .ok (.istore 6, 2) := by decide +kernel
theorem dX4_solve_152 : decode cX4_solve 152 = .ok (.iload 6, 2) := by decide +kernel
theorem dX4_solve_154 : decode cX4_solve 154 = .ok (.ifCond .eq 10, 3) := by decide +kernel
theorem dX4_solve_157 : decode cX4_solve 157 = .ok (.aload_n 0, 1) := by decide +kernel
theorem dX4_solve_158 : decode cX4_solve 158 = .ok (.invokevirtual 122, 3) := by decide +kernel
theorem dX4_solve_161 : decode cX4_solve 161 = .ok (.goto 4, 3) := by decide +kernel
theorem dX4_solve_164 : decode cX4_solve 164 = .ok (.iconst (-1), 1) := by decide +kernel
theorem dX4_solve_165 : decode cX4_solve 165 = .ok (.ireturn, 1) := by decide +kernel
theorem dX4_chosen_0 : decode cX4_chosen 0 = .ok (.aload_n 0, 1) := by decide +kernel
theorem dX4_chosen_1 : decode cX4_chosen 1 = .ok (.iconst 0, 1) := by decide +kernel
theorem dX4_chosen_2 : decode cX4_chosen 2 = .ok (.putfield 61, 3) := by decide +kernel
theorem dX4_chosen_5 : decode cX4_chosen 5 = .ok (.iload_n 1, 1) := by decide +kernel
theorem dX4_chosen_6 : decode cX4_chosen 6 = .ok (.ifCond .lt 20, 3) := by decide +kernel
theorem dX4_chosen_9 : decode cX4_chosen 9 = .ok (.iload_n 1, 1) := by decide +kernel
theorem dX4_chosen_10 : decode cX4_chosen 10 = .ok (.aload_n 0, 1) := by decide +kernel
theorem dX4_chosen_11 : decode cX4_chosen 11 = .ok (.getfield 111, 3) := by decide +kernel
theorem dX4_chosen_14 : decode cX4_chosen 14 = .ok (.if_icmp .ge 12, 3) := by decide +kernel
theorem dX4_chosen_17 : decode cX4_chosen 17 = .ok (.aload_n 0, 1) := by decide +kernel
theorem dX4_chosen_18 : decode cX4_chosen 18 = .ok (.getfield 46, 3) := by decide +kernel
theorem dX4_chosen_21 : decode cX4_chosen 21 = .ok (.iload_n 1, 1) := by decide +kernel
theorem dX4_chosen_22 : decode cX4_chosen 22 = .ok (.iaload, 1) := by decide +kernel
theorem dX4_chosen_23 : decode cX4_chosen 23 = .ok (.goto 4, 3) := by decide +kernel
theorem dX4_chosen_26 : decode cX4_chosen 26 = .ok (.iconst (-1), 1) := by decide +kernel
theorem dX4_chosen_27 : decode cX4_chosen 27 = .ok (.ireturn, 1) := by decide +kernel
theorem dX4_down_0 : decode cX4_down 0 = .ok (.aload_n 0, 1) := by decide +kernel
theorem dX4_down_1 : decode cX4_down 1 = .ok (.iconst 0, 1) := by decide +kernel
theorem dX4_down_2 : decode cX4_down 2 = .ok (.putfield 61, 3) := by decide +kernel
theorem dX4_down_5 : decode cX4_down 5 = .ok (.iload_n 1, 1) := by decide +kernel
theorem dX4_down_6 : decode cX4_down 6 = .ok (.istore_n 2, 1) := by decide +kernel
theorem dX4_down_7 : decode cX4_down 7 = .ok (.iconst 0, 1) := by decide +kernel
theorem dX4_down_8 : decode cX4_down 8 = .ok (.istore_n 3, 1) := by decide +kernel
theorem dX4_down_9 : decode cX4_down 9 = .ok (.iload_n 3, 1) := by decide +kernel
theorem dX4_down_10 : decode cX4_down 10 = .ok (.aload_n 0, 1) := by decide +kernel
theorem dX4_down_11 : decode cX4_down 11 = .ok (.getfield 111, 3) := by decide +kernel
theorem dX4_down_14 : decode cX4_down 14 = .ok (.if_icmp .ge 50, 3) := by decide +kernel
theorem dX4_down_17 : decode cX4_down 17 = .ok (.iload_n 1, 1) := by decide +kernel
theorem dX4_down_18 : decode cX4_down 18 = .ok (.ifCond .lt 46, 3) := by decide +kernel
theorem dX4_down_21 : decode cX4_down 21 = .ok (.aload_n 0, 1) := by decide +kernel
theorem dX4_down_22 : decode cX4_down 22 = .ok (.getfield 46, 3) := by decide +kernel
theorem dX4_down_25 : decode cX4_down 25 = .ok (.iload_n 3, 1) := by decide +kernel
theorem dX4_down_26 : decode cX4_down 26 = .ok (.iaload, 1) := by decide +kernel
theorem dX4_down_27 : decode cX4_down 27 = .ok (.iconst (-1), 1) := by decide +kernel
theorem dX4_down_28 : decode cX4_down 28 = .ok (.if_icmp .eq 30, 3) := by decide +kernel
theorem dX4_down_31 : decode cX4_down 31 = .ok (.aload_n 0, 1) := by decide +kernel
theorem dX4_down_32 : decode cX4_down 32 = .ok (.getfield 46, 3) := by decide +kernel
theorem dX4_down_35 : decode cX4_down 35 = .ok (.iload_n 3, 1) := by decide +kernel
theorem dX4_down_36 : decode cX4_down 36 = .ok (.iaload, 1) := by decide +kernel
theorem dX4_down_37 : decode cX4_down 37 = .ok (.aload_n 0, 1) := by decide +kernel
theorem dX4_down_38 : decode cX4_down 38 = .ok (.getfield 49, 3) := by decide +kernel
theorem dX4_down_41 : decode cX4_down 41 = .ok (.iload_n 3, 1) := by decide +kernel
theorem dX4_down_42 : decode cX4_down 42 = .ok (.iaload, 1) := by decide +kernel
theorem dX4_down_43 : decode cX4_down 43 = .ok (.if_icmp .lt 6, 3) := by decide +kernel
theorem dX4_down_46 : decode cX4_down 46 = .ok (.goto 12, 3) := by decide +kernel
theorem dX4_down_49 : decode cX4_down 49 = .ok (.iload_n 2, 1) := by decide +kernel
theorem dX4_down_50 : decode cX4_down 50 = .ok (.ifCond .ne 5, 3) := by decide +kernel
theorem dX4_down_53 : decode cX4_down 53 = .ok (.iload_n 3, 1) := by decide +kernel
theorem dX4_down_54 : decode cX4_down 54 = .ok (.ireturn, 1) := by decide +kernel
theorem dX4_down_55 : decode cX4_down 55 = .ok (.iinc 2 (-1), 3) := by decide +kernel
theorem dX4_down_58 : decode cX4_down 58 = .ok (.iinc 3 1, 3) := by decide +kernel
theorem dX4_down_61 : decode cX4_down 61 = .ok (.goto (-52), 3) := by decide +kernel
theorem dX4_down_64 : decode cX4_down 64 = .ok (.iconst (-1), 1) := by decide +kernel
theorem dX4_down_65 : decode cX4_down 65 = .ok (.ireturn, 1) := by decide +kernel
theorem dX4_digestOf_0 : decode cX4_digestOf 0 = .ok (.iload_n 0, 1) := by decide +kernel
theorem dX4_digestOf_1 : decode cX4_digestOf 1 = .ok (.iconst 1, 1) := by decide +kernel
theorem dX4_digestOf_2 : decode cX4_digestOf 2 = .ok (.iadd, 1) := by decide +kernel
theorem dX4_digestOf_3 : decode cX4_digestOf 3 = .ok (.i2l, 1) := by decide +kernel
theorem dX4_digestOf_4 : decode cX4_digestOf 4 = .ok (.ldc2_w 126, 3) := by decide +kernel
theorem dX4_digestOf_7 : decode cX4_digestOf 7 = .ok (.lmul, 1) := by decide +kernel
theorem dX4_digestOf_8 : decode cX4_digestOf 8 = .ok (.iload_n 1, 1) := by decide +kernel
theorem dX4_digestOf_9 : decode cX4_digestOf 9 = .ok (.i2l, 1) := by decide +kernel
theorem dX4_digestOf_10 : decode cX4_digestOf 10 = .ok (.ladd, 1) := by decide +kernel
theorem dX4_digestOf_11 : decode cX4_digestOf 11 = .ok (.lconst 1, 1) := by decide +kernel
theorem dX4_digestOf_12 : decode cX4_digestOf 12 = .ok (.ladd, 1) := by decide +kernel
theorem dX4_digestOf_13 : decode cX4_digestOf 13 = .ok (.ldc2_w 128, 3) := by decide +kernel
theorem dX4_digestOf_16 : decode cX4_digestOf 16 = .ok (.lmul, 1) := by decide +kernel
theorem dX4_digestOf_17 : decode cX4_digestOf 17 = .ok (.lreturn, 1) := by decide +kernel
set_option maxRecDepth 20000 in
theorem ggX4_lock_X4_digestOf : GoodIn wsX4_lock wsX4_digestOf := goodIn_r _ [9, 10, 11] (by decide +kernel) (by decide +kernel)
set_option maxRecDepth 20000 in
theorem gX4_lock_X4_digestOf : GoodIn wsX4_lock (va_wsS RX4 130 yX4_digestOf wsX4_digestOf) := goodIn_app (goodIn_of _ (by decide +kernel)) ggX4_lock_X4_digestOf
theorem dX4_lock_0 : decode cX4_lock 0 = .ok (.aload_n 0, 1) := by decide +kernel
theorem dX4_lock_1 : decode cX4_lock 1 = .ok (.iconst 0, 1) := by decide +kernel
theorem dX4_lock_2 : decode cX4_lock 2 = .ok (.putfield 61, 3) := by decide +kernel
theorem dX4_lock_5 : decode cX4_lock 5 = .ok (.iload_n 1, 1) := by decide +kernel
theorem dX4_lock_6 : decode cX4_lock 6 = .ok (.istore_n 3, 1) := by decide +kernel
theorem dX4_lock_7 : decode cX4_lock 7 = .ok (.iconst 0, 1) := by decide +kernel
theorem dX4_lock_8 : decode cX4_lock 8 = .ok (.istore 4, 2) := by decide +kernel
theorem dX4_lock_10 : decode cX4_lock 10 = .ok (.iload 4, 2) := by decide +kernel
theorem dX4_lock_12 : decode cX4_lock 12 = .ok (.aload_n 0, 1) := by decide +kernel
theorem dX4_lock_13 : decode cX4_lock 13 = .ok (.getfield 111, 3) := by decide +kernel
theorem dX4_lock_16 : decode cX4_lock 16 = .ok (.if_icmp .ge 43, 3) := by decide +kernel
theorem dX4_lock_19 : decode cX4_lock 19 = .ok (.aload_n 0, 1) := by decide +kernel
theorem dX4_lock_20 : decode cX4_lock 20 = .ok (.getfield 46, 3) := by decide +kernel
theorem dX4_lock_23 : decode cX4_lock 23 = .ok (.iload 4, 2) := by decide +kernel
theorem dX4_lock_25 : decode cX4_lock 25 = .ok (.iaload, 1) := by decide +kernel
theorem dX4_lock_26 : decode cX4_lock 26 = .ok (.iconst (-1), 1) := by decide +kernel
theorem dX4_lock_27 : decode cX4_lock 27 = .ok (.if_icmp .eq 7, 3) := by decide +kernel
theorem dX4_lock_30 : decode cX4_lock 30 = .ok (.iload_n 3, 1) := by decide +kernel
theorem dX4_lock_31 : decode cX4_lock 31 = .ok (.ifCond .le 28, 3) := by decide +kernel
theorem dX4_lock_34 : decode cX4_lock 34 = .ok (.iload_n 3, 1) := by decide +kernel
theorem dX4_lock_35 : decode cX4_lock 35 = .ok (.aload_n 0, 1) := by decide +kernel
theorem dX4_lock_36 : decode cX4_lock 36 = .ok (.getfield 46, 3) := by decide +kernel
theorem dX4_lock_39 : decode cX4_lock 39 = .ok (.iload 4, 2) := by decide +kernel
theorem dX4_lock_41 : decode cX4_lock 41 = .ok (.iaload, 1) := by decide +kernel
theorem dX4_lock_42 : decode cX4_lock 42 = .ok (.iconst (-1), 1) := by decide +kernel
theorem dX4_lock_43 : decode cX4_lock 43 = .ok (.if_icmp .ne 7, 3) := by decide +kernel
theorem dX4_lock_46 : decode cX4_lock 46 = .ok (.iconst 0, 1) := by decide +kernel
theorem dX4_lock_47 : decode cX4_lock 47 = .ok (.goto 4, 3) := by decide +kernel
theorem dX4_lock_50 : decode cX4_lock 50 = .ok (.iconst 1, 1) := by decide +kernel
theorem dX4_lock_51 : decode cX4_lock 51 = .ok (.isub, 1) := by decide +kernel
theorem dX4_lock_52 : decode cX4_lock 52 = .ok (.istore_n 3, 1) := by decide +kernel
theorem dX4_lock_53 : decode cX4_lock 53 = .ok (.iinc 4 1, 3) := by decide +kernel
theorem dX4_lock_56 : decode cX4_lock 56 = .ok (.goto (-46), 3) := by decide +kernel
theorem dX4_lock_59 : decode cX4_lock 59 = .ok (.iload_n 1, 1) := by decide +kernel
theorem dX4_lock_60 : decode cX4_lock 60 = .ok (.ifCond .lt 12, 3) := by decide +kernel
theorem dX4_lock_63 : decode cX4_lock 63 = .ok (.iload 4, 2) := by decide +kernel
theorem dX4_lock_65 : decode cX4_lock 65 = .ok (.aload_n 0, 1) := by decide +kernel
theorem dX4_lock_66 : decode cX4_lock 66 = .ok (.getfield 111, 3) := by decide +kernel
theorem dX4_lock_69 : decode cX4_lock 69 = .ok (.if_icmp .ne 5, 3) := by decide +kernel
theorem dX4_lock_72 : decode cX4_lock 72 = .ok (.iconst (-1), 1) := by decide +kernel
theorem dX4_lock_73 : decode cX4_lock 73 = .ok (.ireturn, 1) := by decide +kernel
theorem dX4_lock_74 : decode cX4_lock 74 = .ok (.iload_n 2, 1) := by decide +kernel
theorem dX4_lock_75 : decode cX4_lock 75 = .ok (.tableswitch 81 0 3 #[29, 32, 40, 58], 29) := by decide +kernel
theorem dX4_lock_104 : decode cX4_lock 104 = .ok (.iload 4, 2) := by decide +kernel
theorem dX4_lock_106 : decode cX4_lock 106 = .ok (.ireturn, 1) := by decide +kernel
theorem dX4_lock_107 : decode cX4_lock 107 = .ok (.aload_n 0, 1) := by decide +kernel
theorem dX4_lock_108 : decode cX4_lock 108 = .ok (.getfield 46, 3) := by decide +kernel
theorem dX4_lock_111 : decode cX4_lock 111 = .ok (.iload 4, 2) := by decide +kernel
theorem dX4_lock_113 : decode cX4_lock 113 = .ok (.iaload, 1) := by decide +kernel
theorem dX4_lock_114 : decode cX4_lock 114 = .ok (.ireturn, 1) := by decide +kernel
theorem dX4_lock_115 : decode cX4_lock 115 = .ok (.iload 4, 2) := by decide +kernel
theorem dX4_lock_117 : decode cX4_lock 117 = .ok (.aload_n 0, 1) := by decide +kernel
theorem dX4_lock_118 : decode cX4_lock 118 = .ok (.getfield 46, 3) := by decide +kernel
theorem dX4_lock_121 : decode cX4_lock 121 = .ok (.iload 4, 2) := by decide +kernel
theorem dX4_lock_123 : decode cX4_lock 123 = .ok (.iaload, 1) := by decide +kernel
theorem dX4_lock_124 : decode cX4_lock 124 = .ok (.invokestatic 130, 3) := by decide +kernel
theorem dX4_lock_127 : decode cX4_lock 127 = .ok (.ldc2_w 134, 3) := by decide +kernel
theorem dX4_lock_130 : decode cX4_lock 130 = .ok (.lrem, 1) := by decide +kernel
theorem dX4_lock_131 : decode cX4_lock 131 = .ok (.l2i, 1) := by decide +kernel
theorem dX4_lock_132 : decode cX4_lock 132 = .ok (.ireturn, 1) := by decide +kernel
theorem dX4_lock_133 : decode cX4_lock 133 = .ok (.aload_n 0, 1) := by decide +kernel
theorem dX4_lock_134 : decode cX4_lock 134 = .ok (.getfield 46, 3) := by decide +kernel
theorem dX4_lock_137 : decode cX4_lock 137 = .ok (.iload 4, 2) := by decide +kernel
theorem dX4_lock_139 : decode cX4_lock 139 = .ok (.iaload, 1) := by decide +kernel
theorem dX4_lock_140 : decode cX4_lock 140 = .ok (.aload_n 0, 1) := by decide +kernel
theorem dX4_lock_141 : decode cX4_lock 141 = .ok (.getfield 49, 3) := by decide +kernel
theorem dX4_lock_144 : decode cX4_lock 144 = .ok (.iload 4, 2) := by decide +kernel
theorem dX4_lock_146 : decode cX4_lock 146 = .ok (.iaload, 1) := by decide +kernel
theorem dX4_lock_147 : decode cX4_lock 147 = .ok (.if_icmp .ne 7, 3) := by decide +kernel
theorem dX4_lock_150 : decode cX4_lock 150 = .ok (.iconst 0, 1) := by decide +kernel
theorem dX4_lock_151 : decode cX4_lock 151 = .ok (.goto 4, 3) := by decide +kernel
theorem dX4_lock_154 : decode cX4_lock 154 = .ok (.iconst 1, 1) := by decide +kernel
theorem dX4_lock_155 : decode cX4_lock 155 = .ok (.ireturn, 1) := by decide +kernel
theorem dX4_lock_156 : decode cX4_lock 156 = .ok (.bipush (-2), 2) := by decide +kernel
theorem dX4_lock_158 : decode cX4_lock 158 = .ok (.ireturn, 1) := by decide +kernel
set_option maxRecDepth 20000 in
theorem ggX4_digest_X4_isName : GoodIn wsX4_digest wsX4_isName := goodIn_r _ [11, 12, 18, 19, 20, 21, 22, 23, 24, 25, 26, 27, 28, 29, 30, 31, 32, 33, 34, 35, 36, 37, 38, 39, 40, 41, 42] (by decide +kernel) (by decide +kernel)
set_option maxRecDepth 20000 in
theorem gX4_digest_X4_isName : GoodIn wsX4_digest (wsV RX4 73 RX4 yX4_isName wsX4_isName) := goodIn_app (goodIn_of _ (by decide +kernel)) ggX4_digest_X4_isName
set_option maxRecDepth 20000 in
theorem ggX4_digest_X4_digestOf : GoodIn wsX4_digest wsX4_digestOf := goodIn_r _ [15, 16, 17] (by decide +kernel) (by decide +kernel)
set_option maxRecDepth 20000 in
theorem gX4_digest_X4_digestOf : GoodIn wsX4_digest (va_wsS RX4 130 yX4_digestOf wsX4_digestOf) := goodIn_app (goodIn_of _ (by decide +kernel)) ggX4_digest_X4_digestOf
theorem dX4_digest_0 : decode cX4_digest 0 = .ok (.aload_n 0, 1) := by decide +kernel
theorem dX4_digest_1 : decode cX4_digest 1 = .ok (.iconst 0, 1) := by decide +kernel
theorem dX4_digest_2 : decode cX4_digest 2 = .ok (.putfield 61, 3) := by decide +kernel
theorem dX4_digest_5 : decode cX4_digest 5 = .ok (.aload_n 0, 1) := by decide +kernel
theorem dX4_digest_6 : decode cX4_digest 6 = .ok (.iload_n 1, 1) := by decide +kernel
theorem dX4_digest_7 : decode cX4_digest 7 = .ok (.invokevirtual 73, 3) := by decide +kernel
theorem dX4_digest_10 : decode cX4_digest 10 = .ok (.ifCond .ne 7, 3) := by decide +kernel
theorem dX4_digest_13 : decode cX4_digest 13 = .ok (.ldc2_w 136, 3) := by decide +kernel
theorem dX4_digest_16 : decode cX4_digest 16 = .ok (.lreturn, 1) := by decide +kernel
theorem dX4_digest_17 : decode cX4_digest 17 = .ok (.aload_n 0, 1) := by decide +kernel
theorem dX4_digest_18 : decode cX4_digest 18 = .ok (.getfield 13, 3) := by decide +kernel
theorem dX4_digest_21 : decode cX4_digest 21 = .ok (.iload_n 1, 1) := by decide +kernel
theorem dX4_digest_22 : decode cX4_digest 22 = .ok (.iaload, 1) := by decide +kernel
theorem dX4_digest_23 : decode cX4_digest 23 = .ok (.iconst (-1), 1) := by decide +kernel
theorem dX4_digest_24 : decode cX4_digest 24 = .ok (.if_icmp .eq 18, 3) := by decide +kernel
theorem dX4_digest_27 : decode cX4_digest 27 = .ok (.aload_n 0, 1) := by decide +kernel
theorem dX4_digest_28 : decode cX4_digest 28 = .ok (.getfield 13, 3) := by decide +kernel
theorem dX4_digest_31 : decode cX4_digest 31 = .ok (.iload_n 1, 1) := by decide +kernel
theorem dX4_digest_32 : decode cX4_digest 32 = .ok (.iaload, 1) := by decide +kernel
theorem dX4_digest_33 : decode cX4_digest 33 = .ok (.aload_n 0, 1) := by decide +kernel
theorem dX4_digest_34 : decode cX4_digest 34 = .ok (.getfield 7, 3) := by decide +kernel
theorem dX4_digest_37 : decode cX4_digest 37 = .ok (.iload_n 1, 1) := by decide +kernel
theorem dX4_digest_38 : decode cX4_digest 38 = .ok (.iaload, 1) := by decide +kernel
theorem dX4_digest_39 : decode cX4_digest 39 = .ok (.if_icmp .lt 7, 3) := by decide +kernel
theorem dX4_digest_42 : decode cX4_digest 42 = .ok (.ldc2_w 138, 3) := by decide +kernel
theorem dX4_digest_45 : decode cX4_digest 45 = .ok (.lreturn, 1) := by decide +kernel
theorem dX4_digest_46 : decode cX4_digest 46 = .ok (.iload_n 1, 1) := by decide +kernel
theorem dX4_digest_47 : decode cX4_digest 47 = .ok (.aload_n 0, 1) := by decide +kernel
theorem dX4_digest_48 : decode cX4_digest 48 = .ok (.getfield 13, 3) := by decide +kernel
theorem dX4_digest_51 : decode cX4_digest 51 = .ok (.iload_n 1, 1) := by decide +kernel
theorem dX4_digest_52 : decode cX4_digest 52 = .ok (.iaload, 1) := by decide +kernel
theorem dX4_digest_53 : decode cX4_digest 53 = .ok (.invokestatic 130, 3) := by decide +kernel
theorem dX4_digest_56 : decode cX4_digest 56 = .ok (.lstore 4, 2) := by decide +kernel
theorem dX4_digest_58 : decode cX4_digest 58 = .ok (.lload_n 2, 1) := by decide +kernel
theorem dX4_digest_59 : decode cX4_digest 59 = .ok (.lload 4, 2) := by decide +kernel
theorem dX4_digest_61 : decode cX4_digest 61 = .ok (.lcmp, 1) := by decide +kernel
theorem dX4_digest_62 : decode cX4_digest 62 = .ok (.ifCond .ne 25, 3) := by decide +kernel
theorem dX4_digest_65 : decode cX4_digest 65 = .ok (.aload_n 0, 1) := by decide +kernel
theorem dX4_digest_66 : decode cX4_digest 66 = .ok (.getfield 16, 3) := by decide +kernel
theorem dX4_digest_69 : decode cX4_digest 69 = .ok (.iload_n 1, 1) := by decide +kernel
theorem dX4_digest_70 : decode cX4_digest 70 = .ok (.dup2, 1) := by decide +kernel
theorem dX4_digest_71 : decode cX4_digest 71 = .ok (.iaload, 1) := by decide +kernel
theorem dX4_digest_72 : decode cX4_digest 72 = .ok (.iconst 1, 1) := by decide +kernel
theorem dX4_digest_73 : decode cX4_digest 73 = .ok (.aload_n 0, 1) := by decide +kernel
theorem dX4_digest_74 : decode cX4_digest 74 = .ok (.getfield 13, 3) := by decide +kernel
theorem dX4_digest_77 : decode cX4_digest 77 = .ok (.iload_n 1, 1) := by decide +kernel
theorem dX4_digest_78 : decode cX4_digest 78 = .ok (.iaload, 1) := by decide +kernel
theorem dX4_digest_79 : decode cX4_digest 79 = .ok (.ishl, 1) := by decide +kernel
theorem dX4_digest_80 : decode cX4_digest 80 = .ok (.iconst (-1), 1) := by decide +kernel
theorem dX4_digest_81 : decode cX4_digest 81 = .ok (.ixor, 1) := by decide +kernel
theorem dX4_digest_82 : decode cX4_digest 82 = .ok (.iand, 1) := by decide +kernel
theorem dX4_digest_83 : decode cX4_digest 83 = .ok (.iastore, 1) := by decide +kernel
theorem dX4_digest_84 : decode cX4_digest 84 = .ok (.goto 20, 3) := by decide +kernel
theorem dX4_digest_87 : decode cX4_digest 87 = .ok (.aload_n 0, 1) := by decide +kernel
theorem dX4_digest_88 : decode cX4_digest 88 = .ok (.getfield 16, 3) := by decide +kernel
theorem dX4_digest_91 : decode cX4_digest 91 = .ok (.iload_n 1, 1) := by decide +kernel
theorem dX4_digest_92 : decode cX4_digest 92 = .ok (.dup2, 1) := by decide +kernel
theorem dX4_digest_93 : decode cX4_digest 93 = .ok (.iaload, 1) := by decide +kernel
theorem dX4_digest_94 : decode cX4_digest 94 = .ok (.iconst 1, 1) := by decide +kernel
theorem dX4_digest_95 : decode cX4_digest 95 = .ok (.aload_n 0, 1) := by decide +kernel
theorem dX4_digest_96 : decode cX4_digest 96 = .ok (.getfield 13, 3) := by decide +kernel
theorem dX4_digest_99 : decode cX4_digest 99 = .ok (.iload_n 1, 1) := by decide +kernel
theorem dX4_digest_100 : decode cX4_digest 100 = .ok (.iaload, 1) := by decide +kernel
theorem dX4_digest_101 : decode cX4_digest 101 = .ok (.ishl, 1) := by decide +kernel
theorem dX4_digest_102 : decode cX4_digest 102 = .ok (.ior, 1) := by decide +kernel
theorem dX4_digest_103 : decode cX4_digest 103 = .ok (.iastore, 1) := by decide +kernel
theorem dX4_digest_104 : decode cX4_digest 104 = .ok (.lload 4, 2) := by decide +kernel
theorem dX4_digest_106 : decode cX4_digest 106 = .ok (.lreturn, 1) := by decide +kernel
set_option maxRecDepth 20000 in
theorem ggX4_merge_X4_lookForBest : GoodIn wsX4_merge wsX4_lookForBest := goodIn_ca (goodIn_r _ [11, 12, 13, 14, 10, 15, 16, 17, 18, 2, 19, 20, 21, 22, 23, 24, 6, 25, 26, 27, 28, 29, 30, 31, 32, 33, 34, 35, 36, 37, 38, 3, 39, 40, 41, 42, 43, 44, 45, 46, 47, 48, 55, 56, 57, 58, 59, 60, 61, 62, 63, 64, 65, 66, 67, 68, 69, 70, 71, 72, 73, 74, 75, 76, 77, 78, 79] (by decide +kernel) (by decide +kernel)) (goodIn_sub (fun _ h => List.mem_cons_of_mem _ (List.mem_append_right _ h)) (by decide +kernel))
set_option maxRecDepth 20000 in
theorem gX4_merge_X4_lookForBest : GoodIn wsX4_merge (wsV RX4 114 RX4 yX4_lookForBest wsX4_lookForBest) := goodIn_app (goodIn_of _ (by decide +kernel)) ggX4_merge_X4_lookForBest
set_option maxRecDepth 20000 in
theorem ggX4_merge_X4_keep : GoodIn wsX4_merge wsX4_keep := goodIn_ca (goodIn_r _ [52, 2, 53, 5, 40, 54, 3, 55, 56, 57, 58, 59, 60, 61, 62, 63, 64, 65, 66, 67, 68, 69, 70, 71, 72, 73, 74, 75, 76, 77, 78, 79] (by decide +kernel) (by decide +kernel)) (goodIn_sub (fun _ h => List.mem_cons_of_mem _ (List.mem_append_right _ h)) (by decide +kernel))
set_option maxRecDepth 20000 in
theorem gX4_merge_X4_keep : GoodIn wsX4_merge (wsV RX4 122 RX4 yX4_keep wsX4_keep) := goodIn_app (goodIn_of _ (by decide +kernel)) ggX4_merge_X4_keep
theorem dX4_merge_0 : decode cX4_merge 0 = .ok (.aload_n 0, 1) := by decide +kernel
theorem dX4_merge_1 : decode cX4_merge 1 = .ok (.iconst 0, 1) := by decide +kernel
theorem dX4_merge_2 : decode cX4_merge 2 = .ok (.putfield 61, 3) := by decide +kernel
theorem dX4_merge_5 : decode cX4_merge 5 = .ok (.iload_n 1, 1) := by decide +kernel
theorem dX4_merge_6 : decode cX4_merge 6 = .ok (.ifCond .lt 14, 3) := by decide +kernel
theorem dX4_merge_9 : decode cX4_merge 9 = .ok (.iload_n 1, 1) := by decide +kernel
theorem dX4_merge_10 : decode cX4_merge 10 = .ok (.iconst 3, 1) := by decide +kernel
theorem dX4_merge_11 : decode cX4_merge 11 = .ok (.aload_n 0, 1) := by decide +kernel
theorem dX4_merge_12 : decode cX4_merge 12 = .ok (.getfield 65, 3) := by decide +kernel
theorem dX4_merge_15 : decode cX4_merge 15 = .ok (.imul, 1) := by decide +kernel
theorem dX4_merge_16 : decode cX4_merge 16 = .ok (.ishr, 1) := by decide +kernel
theorem dX4_merge_17 : decode cX4_merge 17 = .ok (.ifCond .eq 6, 3) := by decide +kernel
theorem dX4_merge_20 : decode cX4_merge 20 = .ok (.bipush (-2), 2) := by decide +kernel
theorem dX4_merge_22 : decode cX4_merge 22 = .ok (.ireturn, 1) := by decide +kernel
theorem dX4_merge_23 : decode cX4_merge 23 = .ok (.iconst 0, 1) := by decide +kernel
theorem dX4_merge_24 : decode cX4_merge 24 = .ok (.istore_n 2, 1) := by decide +kernel
theorem dX4_merge_25 : decode cX4_merge 25 = .ok (.iload_n 2, 1) := by decide +kernel
theorem dX4_merge_26 : decode cX4_merge 26 = .ok (.aload_n 0, 1) := by decide +kernel
theorem dX4_merge_27 : decode cX4_merge 27 = .ok (.getfield 65, 3) := by decide +kernel
theorem dX4_merge_30 : decode cX4_merge 30 = .ok (.if_icmp .ge 46, 3) := by decide +kernel
theorem dX4_merge_33 : decode cX4_merge 33 = .ok (.iload_n 1, 1) := by decide +kernel
theorem dX4_merge_34 : decode cX4_merge 34 = .ok (.iconst 3, 1) := by decide +kernel
theorem dX4_merge_35 : decode cX4_merge 35 = .ok (.iload_n 2, 1) := by decide +kernel
theorem dX4_merge_36 : decode cX4_merge 36 = .ok (.imul, 1) := by decide +kernel
theorem dX4_merge_37 : decode cX4_merge 37 = .ok (.ishr, 1) := by decide +kernel
theorem dX4_merge_38 : decode cX4_merge 38 = .ok (.bipush 7, 2) := by decide +kernel
theorem dX4_merge_40 : decode cX4_merge 40 = .ok (.iand, 1) := by decide +kernel
theorem dX4_merge_41 : decode cX4_merge 41 = .ok (.iconst 1, 1) := by decide +kernel
theorem dX4_merge_42 : decode cX4_merge 42 = .ok (.isub, 1) := by decide +kernel
theorem dX4_merge_43 : decode cX4_merge 43 = .ok (.istore_n 3, 1) := by decide +kernel
theorem dX4_merge_44 : decode cX4_merge 44 = .ok (.aload_n 0, 1) := by decide +kernel
theorem dX4_merge_45 : decode cX4_merge 45 = .ok (.getfield 34, 3) := by decide +kernel
theorem dX4_merge_48 : decode cX4_merge 48 = .ok (.iload_n 2, 1) := by decide +kernel
theorem dX4_merge_49 : decode cX4_merge 49 = .ok (.iload_n 3, 1) := by decide +kernel
theorem dX4_merge_50 : decode cX4_merge 50 = .ok (.aload_n 0, 1) := by decide +kernel
theorem dX4_merge_51 : decode cX4_merge 51 = .ok (.getfield 13, 3) := by decide +kernel
theorem dX4_merge_54 : decode cX4_merge 54 = .ok (.iload_n 2, 1) := by decide +kernel
theorem dX4_merge_55 : decode cX4_merge 55 = .ok (.iaload, 1) := by decide +kernel
theorem dX4_merge_56 : decode cX4_merge 56 = .ok (.if_icmp .le 7, 3) := by decide +kernel
theorem dX4_merge_59 : decode cX4_merge 59 = .ok (.iload_n 3, 1) := by decide +kernel
theorem dX4_merge_60 : decode cX4_merge 60 = .ok (.goto 9, 3) := by decide +kernel
theorem dX4_merge_63 : decode cX4_merge 63 = .ok (.aload_n 0, 1) := by decide +kernel
theorem dX4_merge_64 : decode cX4_merge 64 = .ok (.getfield 13, 3) := by decide +kernel
theorem dX4_merge_67 : decode cX4_merge 67 = .ok (.iload_n 2, 1) := by decide +kernel
theorem dX4_merge_68 : decode cX4_merge 68 = .ok (.iaload, 1) := by decide +kernel
theorem dX4_merge_69 : decode cX4_merge 69 = .ok (.iastore, 1) := by decide +kernel
theorem dX4_merge_70 : decode cX4_merge 70 = .ok (.iinc 2 1, 3) := by decide +kernel
theorem dX4_merge_73 : decode cX4_merge 73 = .ok (.goto (-48), 3) := by decide +kernel
theorem dX4_merge_76 : decode cX4_merge 76 = .ok (.aload_n 0, 1) := by decide +kernel
theorem dX4_merge_77 : decode cX4_merge 77 = .ok (.invokevirtual 114, 3) := by decide +kernel
theorem dX4_merge_80 : decode cX4_merge 80 = .ok (.ifCond .ne 5, 3) := by decide +kernel
theorem dX4_merge_83 : decode cX4_merge 83 = .ok (.iconst 0, 1) := by decide +kernel
theorem dX4_merge_84 : decode cX4_merge 84 = .ok (.ireturn, 1) := by decide +kernel
theorem dX4_merge_85 : decode cX4_merge 85 = .ok (.aload_n 0, 1) := by decide +kernel
theorem dX4_merge_86 : decode cX4_merge 86 = .ok (.invokevirtual 122, 3) := by decide +kernel
theorem dX4_merge_89 : decode cX4_merge 89 = .ok (.istore_n 2, 1) := by decide +kernel
theorem dX4_merge_90 : decode cX4_merge 90 = .ok (.iconst 0, 1) := by decide +kernel
theorem dX4_merge_91 : decode cX4_merge 91 = .ok (.istore_n 3, 1) := by decide +kernel
theorem dX4_merge_92 : decode cX4_merge 92 = .ok (.iload_n 3, 1) := by decide +kernel
theorem dX4_merge_93 : decode cX4_merge 93 = .ok (.aload_n 0, 1) := by decide +kernel
theorem dX4_merge_94 : decode cX4_merge 94 = .ok (.getfield 65, 3) := by decide +kernel
theorem dX4_merge_97 : decode cX4_merge 97 = .ok (.if_icmp .ge 43, 3) := by decide +kernel
theorem dX4_merge_100 : decode cX4_merge 100 = .ok (.aload_n 0, 1) := by decide +kernel
theorem dX4_merge_101 : decode cX4_merge 101 = .ok (.getfield 46, 3) := by decide +kernel
theorem dX4_merge_104 : decode cX4_merge 104 = .ok (.iload_n 3, 1) := by decide +kernel
theorem dX4_merge_105 : decode cX4_merge 105 = .ok (.iaload, 1) := by decide +kernel
theorem dX4_merge_106 : decode cX4_merge 106 = .ok (.aload_n 0, 1) := by decide +kernel
theorem dX4_merge_107 : decode cX4_merge 107 = .ok (.getfield 13, 3) := by decide +kernel
theorem dX4_merge_110 : decode cX4_merge 110 = .ok (.iload_n 3, 1) := by decide +kernel
theorem dX4_merge_111 : decode cX4_merge 111 = .ok (.iaload, 1) := by decide +kernel
theorem dX4_merge_112 : decode cX4_merge 112 = .ok (.if_icmp .eq 10, 3) := by decide +kernel
theorem dX4_merge_115 : decode cX4_merge 115 = .ok (.aload_n 0, 1) := by decide +kernel
theorem dX4_merge_116 : decode cX4_merge 116 = .ok (.getfield 16, 3) := by decide +kernel
theorem dX4_merge_119 : decode cX4_merge 119 = .ok (.iload_n 3, 1) := by decide +kernel
theorem dX4_merge_120 : decode cX4_merge 120 = .ok (.iconst 0, 1) := by decide +kernel
theorem dX4_merge_121 : decode cX4_merge 121 = .ok (.iastore, 1) := by decide +kernel
theorem dX4_merge_122 : decode cX4_merge 122 = .ok (.aload_n 0, 1) := by decide +kernel
theorem dX4_merge_123 : decode cX4_merge 123 = .ok (.getfield 13, 3) := by decide +kernel
theorem dX4_merge_126 : decode cX4_merge 126 = .ok (.iload_n 3, 1) := by decide +kernel
theorem dX4_merge_127 : decode cX4_merge 127 = .ok (.aload_n 0, 1) := by decide +kernel
theorem dX4_merge_128 : decode cX4_merge 128 = .ok (.getfield 46, 3) := by decide +kernel
theorem dX4_merge_131 : decode cX4_merge 131 = .ok (.iload_n 3, 1) := by decide +kernel
theorem dX4_merge_132 : decode cX4_merge 132 = .ok (.iaload, 1) := by decide +kernel
theorem dX4_merge_133 : decode cX4_merge 133 = .ok (.iastore, 1) := by decide +kernel
theorem dX4_merge_134 : decode cX4_merge 134 = .ok (.iinc 3 1, 3) := by decide +kernel
theorem dX4_merge_137 : decode cX4_merge 137 = .ok (.goto (-45), 3) := by decide +kernel
theorem dX4_merge_140 : decode cX4_merge 140 = .ok (.iconst 1, 1) := by decide +kernel
theorem dX4_merge_141 : decode cX4_merge 141 = .ok (.ireturn, 1) := by decide +kernel
theorem dJx00060_init_a7421_0 : decode cJx00060_init_a7421 0 = .ok (.aload_n 0, 1) := by decide +kernel
theorem dJx00060_init_a7421_1 : decode cJx00060_init_a7421 1 = .ok (.aload_n 1, 1) := by decide +kernel
theorem dJx00060_init_a7421_2 : decode cJx00060_init_a7421 2 = .ok (.invokespecial 7, 3) := by decide +kernel
theorem dJx00060_init_a7421_5 : decode cJx00060_init_a7421 5 = .ok (.return_, 1) := by decide +kernel
theorem dJ9_max_7cf53_0 : decode cJ9_max_7cf53 0 = .ok (.iload_n 0, 1) := by decide +kernel
theorem dJ9_max_7cf53_1 : decode cJ9_max_7cf53 1 = .ok (.iload_n 1, 1) := by decide +kernel
theorem dJ9_max_7cf53_2 : decode cJ9_max_7cf53 2 = .ok (.if_icmp .lt 7, 3) := by decide +kernel
theorem dJ9_max_7cf53_5 : decode cJ9_max_7cf53 5 = .ok (.iload_n 0, 1) := by decide +kernel
theorem dJ9_max_7cf53_6 : decode cJ9_max_7cf53 6 = .ok (.goto 4, 3) := by decide +kernel
theorem dJ9_max_7cf53_9 : decode cJ9_max_7cf53 9 = .ok (.iload_n 1, 1) := by decide +kernel
theorem dJ9_max_7cf53_10 : decode cJ9_max_7cf53 10 = .ok (.ireturn, 1) := by decide +kernel
theorem dJ9_min_7cf53_0 : decode cJ9_min_7cf53 0 = .ok (.iload_n 0, 1) := by decide +kernel
theorem dJ9_min_7cf53_1 : decode cJ9_min_7cf53 1 = .ok (.iload_n 1, 1) := by decide +kernel
theorem dJ9_min_7cf53_2 : decode cJ9_min_7cf53 2 = .ok (.if_icmp .gt 7, 3) := by decide +kernel
theorem dJ9_min_7cf53_5 : decode cJ9_min_7cf53 5 = .ok (.iload_n 0, 1) := by decide +kernel
theorem dJ9_min_7cf53_6 : decode cJ9_min_7cf53 6 = .ok (.goto 4, 3) := by decide +kernel
theorem dJ9_min_7cf53_9 : decode cJ9_min_7cf53 9 = .ok (.iload_n 1, 1) := by decide +kernel
theorem dJ9_min_7cf53_10 : decode cJ9_min_7cf53 10 = .ok (.ireturn, 1) := by decide +kernel
theorem dJ7_fill_53178_0 : decode cJ7_fill_53178 0 = .ok (.iconst 0, 1) := by decide +kernel
theorem dJ7_fill_53178_1 : decode cJ7_fill_53178 1 = .ok (.istore_n 2, 1) := by decide +kernel
theorem dJ7_fill_53178_2 : decode cJ7_fill_53178 2 = .ok (.aload_n 0, 1) := by decide +kernel
theorem dJ7_fill_53178_3 : decode cJ7_fill_53178 3 = .ok (.arraylength, 1) := by decide +kernel
theorem dJ7_fill_53178_4 : decode cJ7_fill_53178 4 = .ok (.istore_n 3, 1) := by decide +kernel
theorem dJ7_fill_53178_5 : decode cJ7_fill_53178 5 = .ok (.iload_n 2, 1) := by decide +kernel
theorem dJ7_fill_53178_6 : decode cJ7_fill_53178 6 = .ok (.iload_n 3, 1) := by decide +kernel
theorem dJ7_fill_53178_7 : decode cJ7_fill_53178 7 = .ok (.if_icmp .ge 13, 3) := by decide +kernel
theorem dJ7_fill_53178_10 : decode cJ7_fill_53178 10 = .ok (.aload_n 0, 1) := by decide +kernel
theorem dJ7_fill_53178_11 : decode cJ7_fill_53178 11 = .ok (.iload_n 2, 1) := by decide +kernel
theorem dJ7_fill_53178_12 : decode cJ7_fill_53178 12 = .ok (.iload_n 1, 1) := by decide +kernel
theorem dJ7_fill_53178_13 : decode cJ7_fill_53178 13 = .ok (.iastore, 1) := by decide +kernel
theorem dJ7_fill_53178_14 : decode cJ7_fill_53178 14 = .ok (.iinc 2 1, 3) := by decide +kernel
theorem dJ7_fill_53178_17 : decode cJ7_fill_53178 17 = .ok (.goto (-12), 3) := by decide +kernel
theorem dJ7_fill_53178_20 : decode cJ7_fill_53178 20 = .ok (.return_, 1) := by decide +kernel
set_option maxRecDepth 20000 in
theorem ggL_row_X3_row : GoodIn wsL_row wsX3_row := goodIn_ca (goodIn_r _ [6, 7, 8, 9, 10, 11, 12, 13, 14, 15, 16, 17, 18, 19, 20, 21, 22, 23, 24, 25, 26, 27] (by decide +kernel) (by decide +kernel)) (goodIn_sub (fun _ h => List.mem_cons_of_mem _ (List.mem_append_right _ h)) (by decide +kernel))
set_option maxRecDepth 20000 in
theorem gL_row_X3_row : GoodIn wsL_row (wsV RL 7 RX3 yX3_row wsX3_row) := goodIn_app (goodIn_of _ (by decide +kernel)) ggL_row_X3_row
theorem dL_row_0 : decode cL_row 0 = .ok (.aload_n 2, 1) := by decide +kernel
theorem dL_row_1 : decode cL_row 1 = .ok (.iconst 0, 1) := by decide +kernel
theorem dL_row_2 : decode cL_row 2 = .ok (.aload_n 0, 1) := by decide +kernel
theorem dL_row_3 : decode cL_row 3 = .ok (.iload_n 1, 1) := by decide +kernel
theorem dL_row_4 : decode cL_row 4 = .ok (.invokevirtual 7, 3) := by decide +kernel
theorem dL_row_7 : decode cL_row 7 = .ok (.i2l, 1) := by decide +kernel
theorem dL_row_8 : decode cL_row 8 = .ok (.lastore, 1) := by decide +kernel
theorem dL_row_9 : decode cL_row 9 = .ok (.goto 6, 3) := by decide +kernel
theorem dL_row_12 : decode cL_row 12 = .ok (.astore_n 3, 1) := by decide +kernel
theorem dL_row_13 : decode cL_row 13 = .ok (.iconst 1, 1) := by decide +kernel
theorem dL_row_14 : decode cL_row 14 = .ok (.ireturn, 1) := by decide +kernel
theorem dL_row_15 : decode cL_row 15 = .ok (.iconst 0, 1) := by decide +kernel
theorem dL_row_16 : decode cL_row 16 = .ok (.ireturn, 1) := by decide +kernel
set_option maxRecDepth 20000 in
theorem ggL_law_X3_init : GoodIn wsL_law wsX3_init := goodIn_r _ [10, 11, 12, 13, 14, 15, 16, 17, 18, 19, 20, 21, 22, 23, 24, 25, 26, 27, 28, 29, 30, 31, 32, 33, 34, 35, 36, 37, 38, 39, 40, 41, 42, 43, 44, 45, 46, 47, 48, 49, 50, 51, 52, 53, 54, 55, 56, 57, 58, 59, 60, 61, 399, 400, 364, 365, 366, 367, 368, 369, 370, 371, 372, 373, 401, 402, 403, 404, 405, 406, 407, 408, 409, 410, 411, 412, 413] (by decide +kernel) (by decide +kernel)
set_option maxRecDepth 20000 in
theorem gL_law_X3_init : GoodIn wsL_law (wsX3_init) := ggL_law_X3_init
set_option maxRecDepth 20000 in
theorem ggL_law_X4_init : GoodIn wsL_law wsX4_init := goodIn_r _ [64, 65, 12, 13, 26, 66, 67, 68, 69, 70, 71, 72, 73, 74, 75, 76, 77, 78, 79, 80, 81, 82, 374, 375, 376, 377, 378, 379, 380, 381, 382, 383, 384, 385, 386, 387, 388, 389, 390, 391, 392, 393, 394, 395, 396, 397, 398] (by decide +kernel) (by decide +kernel)
set_option maxRecDepth 20000 in
theorem gL_law_X4_init : GoodIn wsL_law (wsX4_init) := ggL_law_X4_init
set_option maxRecDepth 20000 in
theorem ggL_law_X3_name : GoodIn wsL_law wsX3_name := goodIn_ca (goodIn_r _ [86, 32, 27, 28, 17, 87, 88, 2, 89, 90, 16, 91, 92, 37, 364, 365, 366, 367, 368, 369, 370, 371, 372, 373, 399, 400] (by decide +kernel) (by decide +kernel)) (goodIn_sub (fun _ h => List.mem_append_right _ h) (by decide +kernel))
set_option maxRecDepth 20000 in
theorem gL_law_X3_name : GoodIn wsL_law (wsV RL 19 RX3 yX3_name wsX3_name) := goodIn_app (goodIn_of _ (by decide +kernel)) ggL_law_X3_name
set_option maxRecDepth 20000 in
theorem ggL_law_X4_name : GoodIn wsL_law wsX4_name := goodIn_ca (goodIn_r _ [96, 97, 98, 66, 67, 374, 375, 376, 377, 378, 379, 380, 381, 382, 383, 384, 385, 386, 387, 388, 389, 390, 391, 392, 393, 394, 395, 396, 397, 398] (by decide +kernel) (by decide +kernel)) (goodIn_sub (fun _ h => List.mem_append_right _ h) (by decide +kernel))
set_option maxRecDepth 20000 in
theorem gL_law_X4_name : GoodIn wsL_law (wsV RL 23 RX4 yX4_name wsX4_name) := goodIn_app (goodIn_of _ (by decide +kernel)) ggL_law_X4_name
set_option maxRecDepth 20000 in
theorem ggL_law_X3_needs : GoodIn wsL_law wsX3_needs := goodIn_ca (goodIn_r _ [102, 27, 33, 17, 103, 104, 105, 2, 106, 32, 87, 88, 89, 107, 108, 109, 110, 16, 111, 112, 38, 113, 114, 115, 116, 37, 117, 118, 119, 120, 121, 122, 123, 31, 364, 365, 366, 367, 368, 369, 370, 371, 372, 373, 399, 400] (by decide +kernel) (by decide +kernel)) (goodIn_sub (fun _ h => List.mem_append_right _ h) (by decide +kernel))
set_option maxRecDepth 20000 in
theorem gL_law_X3_needs : GoodIn wsL_law (wsV RL 26 RX3 yX3_needs wsX3_needs) := goodIn_app (goodIn_of _ (by decide +kernel)) ggL_law_X3_needs
set_option maxRecDepth 20000 in
theorem ggL_law_X4_needs : GoodIn wsL_law wsX4_needs := goodIn_ca (goodIn_r _ [127, 97, 66, 128, 129, 130, 5, 131, 98, 132, 133, 134, 135, 136, 69, 70, 71, 72, 73, 137, 374, 375, 376, 377, 378, 379, 380, 381, 382, 383, 384, 385, 386, 387, 388, 389, 390, 391, 392, 393, 394, 395, 396, 397, 398] (by decide +kernel) (by decide +kernel)) (goodIn_sub (fun _ h => List.mem_append_right _ h) (by decide +kernel))
set_option maxRecDepth 20000 in
theorem gL_law_X4_needs : GoodIn wsL_law (wsV RL 30 RX4 yX4_needs wsX4_needs) := goodIn_app (goodIn_of _ (by decide +kernel)) ggL_law_X4_needs
set_option maxRecDepth 20000 in
theorem ggL_law_X3_want : GoodIn wsL_law wsX3_want := goodIn_ca (goodIn_r _ [141, 107, 108, 2, 109, 142, 143, 144, 145, 33, 17, 103, 104, 105, 106, 32, 114, 16, 115, 116, 37, 120, 121, 122, 123, 31, 364, 365, 366, 367, 368, 369, 370, 371, 372, 373, 399, 400] (by decide +kernel) (by decide +kernel)) (goodIn_sub (fun _ h => List.mem_append_right _ h) (by decide +kernel))
set_option maxRecDepth 20000 in
theorem gL_law_X3_want : GoodIn wsL_law (wsV RL 31 RX3 yX3_want wsX3_want) := goodIn_app (goodIn_of _ (by decide +kernel)) ggL_law_X3_want
set_option maxRecDepth 20000 in
theorem ggL_law_X4_want : GoodIn wsL_law wsX4_want := goodIn_ca (goodIn_r _ [149, 97, 128, 129, 130, 5, 131, 98, 132, 133, 134, 135, 136, 69, 70, 71, 72, 73, 137, 374, 375, 376, 377, 378, 379, 380, 381, 382, 383, 384, 385, 386, 387, 388, 389, 390, 391, 392, 393, 394, 395, 396, 397, 398] (by decide +kernel) (by decide +kernel)) (goodIn_sub (fun _ h => List.mem_append_right _ h) (by decide +kernel))
set_option maxRecDepth 20000 in
theorem gL_law_X4_want : GoodIn wsL_law (wsV RL 35 RX4 yX4_want wsX4_want) := goodIn_app (goodIn_of _ (by decide +kernel)) ggL_law_X4_want
set_option maxRecDepth 20000 in
theorem ggL_law_X3_force : GoodIn wsL_law wsX3_force := goodIn_ca (goodIn_r _ [153, 107, 108, 2, 109, 142, 143, 144, 145, 33, 17, 103, 104, 105, 106, 32, 114, 16, 115, 116, 37, 120, 121, 122, 123, 31, 364, 365, 366, 367, 368, 369, 370, 371, 372, 373, 399, 400] (by decide +kernel) (by decide +kernel)) (goodIn_sub (fun _ h => List.mem_append_right _ h) (by decide +kernel))
set_option maxRecDepth 20000 in
theorem gL_law_X3_force : GoodIn wsL_law (wsV RL 36 RX3 yX3_force wsX3_force) := goodIn_app (goodIn_of _ (by decide +kernel)) ggL_law_X3_force
set_option maxRecDepth 20000 in
theorem ggL_law_X4_force : GoodIn wsL_law wsX4_force := goodIn_ca (goodIn_r _ [157, 97, 128, 129, 130, 5, 131, 98, 132, 133, 134, 135, 136, 69, 70, 71, 72, 73, 137, 374, 375, 376, 377, 378, 379, 380, 381, 382, 383, 384, 385, 386, 387, 388, 389, 390, 391, 392, 393, 394, 395, 396, 397, 398] (by decide +kernel) (by decide +kernel)) (goodIn_sub (fun _ h => List.mem_append_right _ h) (by decide +kernel))
set_option maxRecDepth 20000 in
theorem gL_law_X4_force : GoodIn wsL_law (wsV RL 39 RX4 yX4_force wsX4_force) := goodIn_app (goodIn_of _ (by decide +kernel)) ggL_law_X4_force
set_option maxRecDepth 20000 in
theorem ggL_law_X3_group : GoodIn wsL_law wsX3_group := goodIn_ca (goodIn_r _ [161, 33, 17, 103, 104, 105, 2, 106, 32, 110, 16, 111, 112, 38, 113, 114, 115, 116, 37, 117, 118, 119, 120, 121, 122, 123, 31, 364, 365, 366, 367, 368, 369, 370, 371, 372, 373, 399, 400] (by decide +kernel) (by decide +kernel)) (goodIn_sub (fun _ h => List.mem_append_right _ h) (by decide +kernel))
set_option maxRecDepth 20000 in
theorem gL_law_X3_group : GoodIn wsL_law (wsV RL 40 RX3 yX3_group wsX3_group) := goodIn_app (goodIn_of _ (by decide +kernel)) ggL_law_X3_group
set_option maxRecDepth 20000 in
theorem ggL_law_X4_group : GoodIn wsL_law wsX4_group := goodIn_ca (goodIn_r _ [165, 97, 128, 129, 130, 5, 131, 98, 132, 133, 134, 135, 136, 69, 70, 71, 72, 73, 137, 374, 375, 376, 377, 378, 379, 380, 381, 382, 383, 384, 385, 386, 387, 388, 389, 390, 391, 392, 393, 394, 395, 396, 397, 398] (by decide +kernel) (by decide +kernel)) (goodIn_sub (fun _ h => List.mem_append_right _ h) (by decide +kernel))
set_option maxRecDepth 20000 in
theorem gL_law_X4_group : GoodIn wsL_law (wsV RL 43 RX4 yX4_group wsX4_group) := goodIn_app (goodIn_of _ (by decide +kernel)) ggL_law_X4_group
set_option maxRecDepth 20000 in
theorem ggL_law_X3_solve : GoodIn wsL_law wsX3_solve := goodIn_ca (goodIn_r _ [169, 21, 32, 28, 30, 170, 171, 172, 173, 25, 174, 20, 175, 176, 53, 177, 178, 179, 180, 50, 51, 52, 47, 46, 54, 181, 182, 183, 184, 185, 186, 187, 188, 49, 48, 189, 190, 191, 192, 193, 194, 195, 196, 2, 197, 198, 199, 200, 201, 202, 203, 118, 16, 119, 204, 205, 206, 207, 208, 209, 210, 211, 212, 213, 214, 215, 216, 217, 218, 219, 220, 221, 222, 223, 224, 225, 226, 227, 228, 24, 229, 230, 59, 60, 61, 58, 231, 232, 233, 364, 365, 366, 367, 368, 369, 370, 371, 372, 373, 401, 402, 403, 404, 405, 406, 407, 408, 409, 399, 400, 410, 411, 412, 413] (by decide +kernel) (by decide +kernel)) (goodIn_sub (fun _ h => List.mem_append_right _ h) (by decide +kernel))
set_option maxRecDepth 20000 in
theorem gL_law_X3_solve : GoodIn wsL_law (wsV RL 44 RX3 yX3_solve wsX3_solve) := goodIn_app (goodIn_of _ (by decide +kernel)) ggL_law_X3_solve
set_option maxRecDepth 20000 in
theorem ggL_law_X4_solve : GoodIn wsL_law wsX4_solve := goodIn_ca (goodIn_r _ [237, 97, 98, 74, 67, 238, 239, 240, 241, 5, 242, 243, 244, 245, 246, 247, 248, 249, 75, 250, 251, 252, 253, 66, 68, 136, 70, 69, 73, 72, 71, 254, 255, 256, 257, 80, 81, 82, 76, 77, 258, 259, 260, 261, 262, 263, 264, 265, 266, 267, 268, 269, 270, 271, 272, 273, 274, 78, 79, 374, 375, 376, 377, 378, 379, 380, 381, 382, 383, 384, 385, 386, 387, 388, 389, 390, 391, 392, 393, 394, 395, 396, 397, 398] (by decide +kernel) (by decide +kernel)) (goodIn_sub (fun _ h => List.mem_append_right _ h) (by decide +kernel))
set_option maxRecDepth 20000 in
theorem gL_law_X4_solve : GoodIn wsL_law (wsV RL 47 RX4 yX4_solve wsX4_solve) := goodIn_app (goodIn_of _ (by decide +kernel)) ggL_law_X4_solve
set_option maxRecDepth 20000 in
theorem ggL_law_X3_chosen : GoodIn wsL_law wsX3_chosen := goodIn_ca (goodIn_r _ [278, 25, 103, 104, 105, 2, 106, 32, 279, 280, 281, 364, 365, 366, 367, 368, 369, 370, 371, 372, 373, 410, 411, 412, 413] (by decide +kernel) (by decide +kernel)) (goodIn_sub (fun _ h => List.mem_append_right _ h) (by decide +kernel))
set_option maxRecDepth 20000 in
theorem gL_law_X3_chosen : GoodIn wsL_law (wsV RL 48 RX3 yX3_chosen wsX3_chosen) := goodIn_app (goodIn_of _ (by decide +kernel)) ggL_law_X3_chosen
set_option maxRecDepth 20000 in
theorem ggL_law_X4_chosen : GoodIn wsL_law wsX4_chosen := goodIn_ca (goodIn_r _ [285, 97, 274, 78, 374, 375, 376, 377, 378, 379, 380, 381, 382, 383, 384, 385, 386, 387, 388, 389, 390, 391, 392, 393, 394, 395, 396, 397, 398] (by decide +kernel) (by decide +kernel)) (goodIn_sub (fun _ h => List.mem_append_right _ h) (by decide +kernel))
set_option maxRecDepth 20000 in
theorem gL_law_X4_chosen : GoodIn wsL_law (wsV RL 51 RX4 yX4_chosen wsX4_chosen) := goodIn_app (goodIn_of _ (by decide +kernel)) ggL_law_X4_chosen
set_option maxRecDepth 20000 in
theorem ggL_law_X3_down : GoodIn wsL_law wsX3_down := goodIn_r _ [289, 25, 290, 291, 2, 292, 364, 365, 366, 367, 368, 369, 370, 371, 372, 373, 410, 411, 412, 413] (by decide +kernel) (by decide +kernel)
set_option maxRecDepth 20000 in
theorem gL_law_X3_down : GoodIn wsL_law (wsV RL 52 RX3 yX3_down wsX3_down) := goodIn_app (goodIn_of _ (by decide +kernel)) ggL_law_X3_down
set_option maxRecDepth 20000 in
theorem ggL_law_X4_down : GoodIn wsL_law wsX4_down := goodIn_ca (goodIn_r _ [296, 97, 274, 78, 79, 374, 375, 376, 377, 378, 379, 380, 381, 382, 383, 384, 385, 386, 387, 388, 389, 390, 391, 392, 393, 394, 395, 396, 397, 398] (by decide +kernel) (by decide +kernel)) (goodIn_sub (fun _ h => List.mem_append_right _ h) (by decide +kernel))
set_option maxRecDepth 20000 in
theorem gL_law_X4_down : GoodIn wsL_law (wsV RL 55 RX4 yX4_down wsX4_down) := goodIn_app (goodIn_of _ (by decide +kernel)) ggL_law_X4_down
set_option maxRecDepth 20000 in
theorem ggL_law_X3_lock : GoodIn wsL_law wsX3_lock := goodIn_ca (goodIn_r _ [300, 25, 301, 290, 291, 2, 292, 103, 104, 105, 106, 32, 279, 280, 281, 302, 303, 304, 305, 306, 364, 365, 366, 367, 368, 369, 370, 371, 372, 373, 410, 411, 412, 413] (by decide +kernel) (by decide +kernel)) (goodIn_sub (fun _ h => List.mem_append_right _ h) (by decide +kernel))
set_option maxRecDepth 20000 in
theorem gL_law_X3_lock : GoodIn wsL_law (wsV RL 56 RX3 yX3_lock wsX3_lock) := goodIn_app (goodIn_of _ (by decide +kernel)) ggL_law_X3_lock
set_option maxRecDepth 20000 in
theorem ggL_law_X4_lock : GoodIn wsL_law wsX4_lock := goodIn_ca (goodIn_r _ [310, 97, 274, 78, 311, 79, 312, 313, 5, 314, 315, 316, 374, 375, 376, 377, 378, 379, 380, 381, 382, 383, 384, 385, 386, 387, 388, 389, 390, 391, 392, 393, 394, 395, 396, 397, 398] (by decide +kernel) (by decide +kernel)) (goodIn_sub (fun _ h => List.mem_append_right _ h) (by decide +kernel))
set_option maxRecDepth 20000 in
theorem gL_law_X4_lock : GoodIn wsL_law (wsV RL 59 RX4 yX4_lock wsX4_lock) := goodIn_app (goodIn_of _ (by decide +kernel)) ggL_law_X4_lock
set_option maxRecDepth 20000 in
theorem ggL_law_X3_digest : GoodIn wsL_law wsX3_digest := goodIn_ca (goodIn_r _ [320, 321, 28, 27, 322, 30, 103, 104, 105, 2, 106, 32, 279, 280, 281, 302, 303, 304, 305, 306, 364, 365, 366, 367, 368, 369, 370, 371, 372, 373] (by decide +kernel) (by decide +kernel)) (goodIn_sub (fun _ h => List.mem_append_right _ h) (by decide +kernel))
set_option maxRecDepth 20000 in
theorem gL_law_X3_digest : GoodIn wsL_law (wsV RL 60 RX3 yX3_digest wsX3_digest) := goodIn_app (goodIn_of _ (by decide +kernel)) ggL_law_X3_digest
set_option maxRecDepth 20000 in
theorem ggL_law_X4_digest : GoodIn wsL_law wsX4_digest := goodIn_ca (goodIn_r _ [326, 97, 327, 67, 66, 328, 68, 128, 129, 130, 5, 131, 98, 312, 313, 314, 315, 316, 374, 375, 376, 377, 378, 379, 380, 381, 382, 383, 384, 385, 386, 387, 388, 389, 390, 391, 392, 393, 394, 395, 396, 397, 398] (by decide +kernel) (by decide +kernel)) (goodIn_sub (fun _ h => List.mem_append_right _ h) (by decide +kernel))
set_option maxRecDepth 20000 in
theorem gL_law_X4_digest : GoodIn wsL_law (wsV RL 64 RX4 yX4_digest wsX4_digest) := goodIn_app (goodIn_of _ (by decide +kernel)) ggL_law_X4_digest
set_option maxRecDepth 20000 in
theorem ggL_law_X3_merge : GoodIn wsL_law wsX3_merge := goodIn_ca (goodIn_r _ [332, 32, 29, 28, 333, 334, 172, 335, 21, 30, 25, 174, 20, 175, 176, 53, 177, 178, 179, 180, 50, 51, 52, 47, 46, 54, 181, 182, 183, 184, 185, 186, 187, 188, 49, 48, 189, 190, 191, 192, 193, 194, 195, 196, 2, 197, 198, 199, 200, 201, 202, 203, 118, 16, 119, 204, 205, 206, 207, 208, 209, 210, 211, 212, 213, 214, 215, 216, 217, 228, 24, 229, 230, 59, 60, 61, 58, 231, 232, 233, 336, 337, 338, 339, 364, 365, 366, 367, 368, 369, 370, 371, 372, 373, 401, 402, 403, 404, 405, 406, 407, 408, 409, 399, 400, 410, 411, 412, 413] (by decide +kernel) (by decide +kernel)) (goodIn_sub (fun _ h => List.mem_append_right _ h) (by decide +kernel))
set_option maxRecDepth 20000 in
theorem gL_law_X3_merge : GoodIn wsL_law (wsV RL 65 RX3 yX3_merge wsX3_merge) := goodIn_app (goodIn_of _ (by decide +kernel)) ggL_law_X3_merge
set_option maxRecDepth 20000 in
theorem ggL_law_X4_merge : GoodIn wsL_law wsX4_merge := goodIn_ca (goodIn_r _ [343, 97, 98, 74, 67, 78, 68, 239, 240, 241, 5, 242, 243, 244, 245, 246, 247, 248, 249, 75, 250, 251, 252, 253, 66, 136, 70, 69, 73, 72, 71, 254, 255, 256, 257, 80, 81, 82, 76, 238, 77, 258, 259, 260, 261, 262, 263, 264, 265, 270, 271, 272, 273, 274, 79, 374, 375, 376, 377, 378, 379, 380, 381, 382, 383, 384, 385, 386, 387, 388, 389, 390, 391, 392, 393, 394, 395, 396, 397, 398] (by decide +kernel) (by decide +kernel)) (goodIn_sub (fun _ h => List.mem_append_right _ h) (by decide +kernel))
set_option maxRecDepth 20000 in
theorem gL_law_X4_merge : GoodIn wsL_law (wsV RL 68 RX4 yX4_merge wsX4_merge) := goodIn_app (goodIn_of _ (by decide +kernel)) ggL_law_X4_merge
set_option maxRecDepth 20000 in
theorem ggL_law_L_row : GoodIn wsL_law wsL_row := goodIn_ca (goodIn_r _ [347, 348, 349, 350, 351, 2, 352, 33, 353, 354, 355, 31, 364, 365, 366, 367, 368, 369, 370, 371, 372, 373, 414, 415, 416, 417, 418, 419] (by decide +kernel) (by decide +kernel)) (goodIn_sub (fun _ h => List.mem_append_right _ h) (by decide +kernel))
set_option maxRecDepth 20000 in
theorem gL_law_L_row : GoodIn wsL_law (va_wsS RL 69 yL_row wsL_row) := goodIn_app (goodIn_of _ (by decide +kernel)) ggL_law_L_row
set_option maxRecDepth 20000 in
theorem ggL_law_X4_row : GoodIn wsL_law wsX4_row := goodIn_ca (goodIn_r _ [359, 136, 97, 69, 70, 71, 72, 374, 375, 376, 377, 378, 379, 380, 381, 382, 383, 384, 385, 386, 387, 388, 389, 390, 391, 392, 393, 394, 395, 396, 397, 398] (by decide +kernel) (by decide +kernel)) (goodIn_sub (fun _ h => List.mem_append_right _ h) (by decide +kernel))
set_option maxRecDepth 20000 in
theorem gL_law_X4_row : GoodIn wsL_law (wsV RL 74 RX4 yX4_row wsX4_row) := goodIn_app (goodIn_of _ (by decide +kernel)) ggL_law_X4_row
set_option maxRecDepth 20000 in
theorem ggL_law_X4_thrown : GoodIn wsL_law wsX4_thrown := goodIn_r _ [363, 97, 374, 375, 376, 377, 378, 379, 380, 381, 382, 383, 384, 385, 386, 387, 388, 389, 390, 391, 392, 393, 394, 395, 396, 397, 398] (by decide +kernel) (by decide +kernel)
set_option maxRecDepth 20000 in
theorem gL_law_X4_thrown : GoodIn wsL_law (wsV RL 75 RX4 yX4_thrown wsX4_thrown) := goodIn_app (goodIn_of _ (by decide +kernel)) ggL_law_X4_thrown
theorem dL_law_0 : decode cL_law 0 = .ok (.new 8, 3) := by decide +kernel
theorem dL_law_3 : decode cL_law 3 = .ok (.dup, 1) := by decide +kernel
theorem dL_law_4 : decode cL_law 4 = .ok (.invokespecial 15, 3) := by decide +kernel
theorem dL_law_7 : decode cL_law 7 = .ok (.astore_n 1, 1) := by decide +kernel
theorem dL_law_8 : decode cL_law 8 = .ok (.new 16, 3) := by decide +kernel
theorem dL_law_11 : decode cL_law 11 = .ok (.dup, 1) := by decide +kernel
theorem dL_law_12 : decode cL_law 12 = .ok (.invokespecial 18, 3) := by decide +kernel
theorem dL_law_15 : decode cL_law 15 = .ok (.astore_n 2, 1) := by decide +kernel
theorem dL_law_16 : decode cL_law 16 = .ok (.iconst 1, 1) := by decide +kernel
theorem dL_law_17 : decode cL_law 17 = .ok (.newarray .long, 2) := by decide +kernel
theorem dL_law_19 : decode cL_law 19 = .ok (.astore_n 3, 1) := by decide +kernel
theorem dL_law_20 : decode cL_law 20 = .ok (.iconst 0, 1) := by decide +kernel
theorem dL_law_21 : decode cL_law 21 = .ok (.istore 4, 2) := by decide +kernel
theorem dL_law_23 : decode cL_law 23 = .ok (.iload 4, 2) := by decide +kernel
theorem dL_law_25 : decode cL_law 25 = .ok (.aload_n 0, 1) := by decide +kernel
theorem dL_law_26 : decode cL_law 26 = .ok (.arraylength, 1) := by decide +kernel
theorem dL_law_27 : decode cL_law 27 = .ok (.bipush 6, 2) := by decide +kernel
theorem dL_law_29 : decode cL_law 29 = .ok (.isub, 1) := by decide +kernel
theorem dL_law_30 : decode cL_law 30 = .ok (.if_icmp .gt 692, 3) := by decide +kernel
theorem dL_law_33 : decode cL_law 33 = .ok (.aload_n 0, 1) := by decide +kernel
theorem dL_law_34 : decode cL_law 34 = .ok (.iload 4, 2) := by decide +kernel
theorem dL_law_36 : decode cL_law 36 = .ok (.iaload, 1) := by decide +kernel
theorem dL_law_37 : decode cL_law 37 = .ok (.bipush 15, 2) := by decide +kernel
theorem dL_law_39 : decode cL_law 39 = .ok (.iand, 1) := by decide +kernel
theorem dL_law_40 : decode cL_law 40 = .ok (.tableswitch 676 0 11 #[64, 101, 194, 263, 332, 369, 438, 463, 488, 525, 595, 620], 64) := by decide +kernel
theorem dL_law_104 : decode cL_law 104 = .ok (.aload_n 1, 1) := by decide +kernel
theorem dL_law_105 : decode cL_law 105 = .ok (.aload_n 0, 1) := by decide +kernel
theorem dL_law_106 : decode cL_law 106 = .ok (.iload 4, 2) := by decide +kernel
theorem dL_law_108 : decode cL_law 108 = .ok (.iconst 1, 1) := by decide +kernel
theorem dL_law_109 : decode cL_law 109 = .ok (.iadd, 1) := by decide +kernel
theorem dL_law_110 : decode cL_law 110 = .ok (.iaload, 1) := by decide +kernel
theorem dL_law_111 : decode cL_law 111 = .ok (.aload_n 0, 1) := by decide +kernel
theorem dL_law_112 : decode cL_law 112 = .ok (.iload 4, 2) := by decide +kernel
theorem dL_law_114 : decode cL_law 114 = .ok (.iconst 2, 1) := by decide +kernel
theorem dL_law_115 : decode cL_law 115 = .ok (.iadd, 1) := by decide +kernel
theorem dL_law_116 : decode cL_law 116 = .ok (.iaload, 1) := by decide +kernel
theorem dL_law_117 : decode cL_law 117 = .ok (.invokevirtual 19, 3) := by decide +kernel
theorem dL_law_120 : decode cL_law 120 = .ok (.aload_n 2, 1) := by decide +kernel
theorem dL_law_121 : decode cL_law 121 = .ok (.aload_n 0, 1) := by decide +kernel
theorem dL_law_122 : decode cL_law 122 = .ok (.iload 4, 2) := by decide +kernel
theorem dL_law_124 : decode cL_law 124 = .ok (.iconst 1, 1) := by decide +kernel
theorem dL_law_125 : decode cL_law 125 = .ok (.iadd, 1) := by decide +kernel
theorem dL_law_126 : decode cL_law 126 = .ok (.iaload, 1) := by decide +kernel
theorem dL_law_127 : decode cL_law 127 = .ok (.aload_n 0, 1) := by decide +kernel
theorem dL_law_128 : decode cL_law 128 = .ok (.iload 4, 2) := by decide +kernel
theorem dL_law_130 : decode cL_law 130 = .ok (.iconst 2, 1) := by decide +kernel
theorem dL_law_131 : decode cL_law 131 = .ok (.iadd, 1) := by decide +kernel
theorem dL_law_132 : decode cL_law 132 = .ok (.iaload, 1) := by decide +kernel
theorem dL_law_133 : decode cL_law 133 = .ok (.invokevirtual 23, 3) := by decide +kernel
theorem dL_law_136 : decode cL_law 136 = .ok (.if_icmp .eq 580, 3) := by decide +kernel
theorem dL_law_139 : decode cL_law 139 = .ok (.iconst 0, 1) := by decide +kernel
theorem dL_law_140 : decode cL_law 140 = .ok (.ireturn, 1) := by decide +kernel
theorem dL_law_141 : decode cL_law 141 = .ok (.aload_n 1, 1) := by decide +kernel
theorem dL_law_142 : decode cL_law 142 = .ok (.aload_n 0, 1) := by decide +kernel
theorem dL_law_143 : decode cL_law 143 = .ok (.iload 4, 2) := by decide +kernel
theorem dL_law_145 : decode cL_law 145 = .ok (.iconst 1, 1) := by decide +kernel
theorem dL_law_146 : decode cL_law 146 = .ok (.iadd, 1) := by decide +kernel
theorem dL_law_147 : decode cL_law 147 = .ok (.iaload, 1) := by decide +kernel
theorem dL_law_148 : decode cL_law 148 = .ok (.aload_n 0, 1) := by decide +kernel
theorem dL_law_149 : decode cL_law 149 = .ok (.iload 4, 2) := by decide +kernel
theorem dL_law_151 : decode cL_law 151 = .ok (.iconst 2, 1) := by decide +kernel
theorem dL_law_152 : decode cL_law 152 = .ok (.iadd, 1) := by decide +kernel
theorem dL_law_153 : decode cL_law 153 = .ok (.iaload, 1) := by decide +kernel
theorem dL_law_154 : decode cL_law 154 = .ok (.aload_n 0, 1) := by decide +kernel
theorem dL_law_155 : decode cL_law 155 = .ok (.iload 4, 2) := by decide +kernel
theorem dL_law_157 : decode cL_law 157 = .ok (.iconst 3, 1) := by decide +kernel
theorem dL_law_158 : decode cL_law 158 = .ok (.iadd, 1) := by decide +kernel
theorem dL_law_159 : decode cL_law 159 = .ok (.iaload, 1) := by decide +kernel
theorem dL_law_160 : decode cL_law 160 = .ok (.aload_n 0, 1) := by decide +kernel
theorem dL_law_161 : decode cL_law 161 = .ok (.iload 4, 2) := by decide +kernel
theorem dL_law_163 : decode cL_law 163 = .ok (.iconst 4, 1) := by decide +kernel
theorem dL_law_164 : decode cL_law 164 = .ok (.iadd, 1) := by decide +kernel
theorem dL_law_165 : decode cL_law 165 = .ok (.iaload, 1) := by decide +kernel
theorem dL_law_166 : decode cL_law 166 = .ok (.i2l, 1) := by decide +kernel
theorem dL_law_167 : decode cL_law 167 = .ok (.bipush 32, 2) := by decide +kernel
theorem dL_law_169 : decode cL_law 169 = .ok (.lshl, 1) := by decide +kernel
theorem dL_law_170 : decode cL_law 170 = .ok (.aload_n 0, 1) := by decide +kernel
theorem dL_law_171 : decode cL_law 171 = .ok (.iload 4, 2) := by decide +kernel
theorem dL_law_173 : decode cL_law 173 = .ok (.iconst 5, 1) := by decide +kernel
theorem dL_law_174 : decode cL_law 174 = .ok (.iadd, 1) := by decide +kernel
theorem dL_law_175 : decode cL_law 175 = .ok (.iaload, 1) := by decide +kernel
theorem dL_law_176 : decode cL_law 176 = .ok (.i2l, 1) := by decide +kernel
theorem dL_law_177 : decode cL_law 177 = .ok (.ldc2_w 24, 3) := by decide +kernel
theorem dL_law_180 : decode cL_law 180 = .ok (.land, 1) := by decide +kernel
theorem dL_law_181 : decode cL_law 181 = .ok (.lor, 1) := by decide +kernel
theorem dL_law_182 : decode cL_law 182 = .ok (.invokevirtual 26, 3) := by decide +kernel
theorem dL_law_185 : decode cL_law 185 = .ok (.aload_n 2, 1) := by decide +kernel
theorem dL_law_186 : decode cL_law 186 = .ok (.aload_n 0, 1) := by decide +kernel
theorem dL_law_187 : decode cL_law 187 = .ok (.iload 4, 2) := by decide +kernel
theorem dL_law_189 : decode cL_law 189 = .ok (.iconst 1, 1) := by decide +kernel
theorem dL_law_190 : decode cL_law 190 = .ok (.iadd, 1) := by decide +kernel
theorem dL_law_191 : decode cL_law 191 = .ok (.iaload, 1) := by decide +kernel
theorem dL_law_192 : decode cL_law 192 = .ok (.aload_n 0, 1) := by decide +kernel
theorem dL_law_193 : decode cL_law 193 = .ok (.iload 4, 2) := by decide +kernel
theorem dL_law_195 : decode cL_law 195 = .ok (.iconst 2, 1) := by decide +kernel
theorem dL_law_196 : decode cL_law 196 = .ok (.iadd, 1) := by decide +kernel
theorem dL_law_197 : decode cL_law 197 = .ok (.iaload, 1) := by decide +kernel
theorem dL_law_198 : decode cL_law 198 = .ok (.aload_n 0, 1) := by decide +kernel
theorem dL_law_199 : decode cL_law 199 = .ok (.iload 4, 2) := by decide +kernel
theorem dL_law_201 : decode cL_law 201 = .ok (.iconst 3, 1) := by decide +kernel
theorem dL_law_202 : decode cL_law 202 = .ok (.iadd, 1) := by decide +kernel
theorem dL_law_203 : decode cL_law 203 = .ok (.iaload, 1) := by decide +kernel
theorem dL_law_204 : decode cL_law 204 = .ok (.aload_n 0, 1) := by decide +kernel
theorem dL_law_205 : decode cL_law 205 = .ok (.iload 4, 2) := by decide +kernel
theorem dL_law_207 : decode cL_law 207 = .ok (.iconst 4, 1) := by decide +kernel
theorem dL_law_208 : decode cL_law 208 = .ok (.iadd, 1) := by decide +kernel
theorem dL_law_209 : decode cL_law 209 = .ok (.iaload, 1) := by decide +kernel
theorem dL_law_210 : decode cL_law 210 = .ok (.i2l, 1) := by decide +kernel
theorem dL_law_211 : decode cL_law 211 = .ok (.bipush 32, 2) := by decide +kernel
theorem dL_law_213 : decode cL_law 213 = .ok (.lshl, 1) := by decide +kernel
theorem dL_law_214 : decode cL_law 214 = .ok (.aload_n 0, 1) := by decide +kernel
theorem dL_law_215 : decode cL_law 215 = .ok (.iload 4, 2) := by decide +kernel
theorem dL_law_217 : decode cL_law 217 = .ok (.iconst 5, 1) := by decide +kernel
theorem dL_law_218 : decode cL_law 218 = .ok (.iadd, 1) := by decide +kernel
theorem dL_law_219 : decode cL_law 219 = .ok (.iaload, 1) := by decide +kernel
theorem dL_law_220 : decode cL_law 220 = .ok (.i2l, 1) := by decide +kernel
theorem dL_law_221 : decode cL_law 221 = .ok (.ldc2_w 24, 3) := by decide +kernel
theorem dL_law_224 : decode cL_law 224 = .ok (.land, 1) := by decide +kernel
theorem dL_law_225 : decode cL_law 225 = .ok (.lor, 1) := by decide +kernel
theorem dL_law_226 : decode cL_law 226 = .ok (.invokevirtual 30, 3) := by decide +kernel
theorem dL_law_229 : decode cL_law 229 = .ok (.if_icmp .eq 487, 3) := by decide +kernel
theorem dL_law_232 : decode cL_law 232 = .ok (.iconst 0, 1) := by decide +kernel
theorem dL_law_233 : decode cL_law 233 = .ok (.ireturn, 1) := by decide +kernel
theorem dL_law_234 : decode cL_law 234 = .ok (.aload_n 1, 1) := by decide +kernel
theorem dL_law_235 : decode cL_law 235 = .ok (.aload_n 0, 1) := by decide +kernel
theorem dL_law_236 : decode cL_law 236 = .ok (.iload 4, 2) := by decide +kernel
theorem dL_law_238 : decode cL_law 238 = .ok (.iconst 1, 1) := by decide +kernel
theorem dL_law_239 : decode cL_law 239 = .ok (.iadd, 1) := by decide +kernel
theorem dL_law_240 : decode cL_law 240 = .ok (.iaload, 1) := by decide +kernel
theorem dL_law_241 : decode cL_law 241 = .ok (.aload_n 0, 1) := by decide +kernel
theorem dL_law_242 : decode cL_law 242 = .ok (.iload 4, 2) := by decide +kernel
theorem dL_law_244 : decode cL_law 244 = .ok (.iconst 2, 1) := by decide +kernel
theorem dL_law_245 : decode cL_law 245 = .ok (.iadd, 1) := by decide +kernel
theorem dL_law_246 : decode cL_law 246 = .ok (.iaload, 1) := by decide +kernel
theorem dL_law_247 : decode cL_law 247 = .ok (.i2l, 1) := by decide +kernel
theorem dL_law_248 : decode cL_law 248 = .ok (.bipush 32, 2) := by decide +kernel
theorem dL_law_250 : decode cL_law 250 = .ok (.lshl, 1) := by decide +kernel
theorem dL_law_251 : decode cL_law 251 = .ok (.aload_n 0, 1) := by decide +kernel
theorem dL_law_252 : decode cL_law 252 = .ok (.iload 4, 2) := by decide +kernel
theorem dL_law_254 : decode cL_law 254 = .ok (.iconst 3, 1) := by decide +kernel
theorem dL_law_255 : decode cL_law 255 = .ok (.iadd, 1) := by decide +kernel
theorem dL_law_256 : decode cL_law 256 = .ok (.iaload, 1) := by decide +kernel
theorem dL_law_257 : decode cL_law 257 = .ok (.i2l, 1) := by decide +kernel
theorem dL_law_258 : decode cL_law 258 = .ok (.ldc2_w 24, 3) := by decide +kernel
theorem dL_law_261 : decode cL_law 261 = .ok (.land, 1) := by decide +kernel
theorem dL_law_262 : decode cL_law 262 = .ok (.lor, 1) := by decide +kernel
theorem dL_law_263 : decode cL_law 263 = .ok (.invokevirtual 31, 3) := by decide +kernel
theorem dL_law_266 : decode cL_law 266 = .ok (.aload_n 2, 1) := by decide +kernel
theorem dL_law_267 : decode cL_law 267 = .ok (.aload_n 0, 1) := by decide +kernel
theorem dL_law_268 : decode cL_law 268 = .ok (.iload 4, 2) := by decide +kernel
theorem dL_law_270 : decode cL_law 270 = .ok (.iconst 1, 1) := by decide +kernel
theorem dL_law_271 : decode cL_law 271 = .ok (.iadd, 1) := by decide +kernel
theorem dL_law_272 : decode cL_law 272 = .ok (.iaload, 1) := by decide +kernel
theorem dL_law_273 : decode cL_law 273 = .ok (.aload_n 0, 1) := by decide +kernel
theorem dL_law_274 : decode cL_law 274 = .ok (.iload 4, 2) := by decide +kernel
theorem dL_law_276 : decode cL_law 276 = .ok (.iconst 2, 1) := by decide +kernel
theorem dL_law_277 : decode cL_law 277 = .ok (.iadd, 1) := by decide +kernel
theorem dL_law_278 : decode cL_law 278 = .ok (.iaload, 1) := by decide +kernel
theorem dL_law_279 : decode cL_law 279 = .ok (.i2l, 1) := by decide +kernel
theorem dL_law_280 : decode cL_law 280 = .ok (.bipush 32, 2) := by decide +kernel
theorem dL_law_282 : decode cL_law 282 = .ok (.lshl, 1) := by decide +kernel
theorem dL_law_283 : decode cL_law 283 = .ok (.aload_n 0, 1) := by decide +kernel
theorem dL_law_284 : decode cL_law 284 = .ok (.iload 4, 2) := by decide +kernel
theorem dL_law_286 : decode cL_law 286 = .ok (.iconst 3, 1) := by decide +kernel
theorem dL_law_287 : decode cL_law 287 = .ok (.iadd, 1) := by decide +kernel
theorem dL_law_288 : decode cL_law 288 = .ok (.iaload, 1) := by decide +kernel
theorem dL_law_289 : decode cL_law 289 = .ok (.i2l, 1) := by decide +kernel
theorem dL_law_290 : decode cL_law 290 = .ok (.ldc2_w 24, 3) := by decide +kernel
theorem dL_law_293 : decode cL_law 293 = .ok (.land, 1) := by decide +kernel
theorem dL_law_294 : decode cL_law 294 = .ok (.lor, 1) := by decide +kernel
theorem dL_law_295 : decode cL_law 295 = .ok (.invokevirtual 35, 3) := by decide +kernel
theorem dL_law_298 : decode cL_law 298 = .ok (.if_icmp .eq 418, 3) := by decide +kernel
theorem dL_law_301 : decode cL_law 301 = .ok (.iconst 0, 1) := by decide +kernel
theorem dL_law_302 : decode cL_law 302 = .ok (.ireturn, 1) := by decide +kernel
theorem dL_law_303 : decode cL_law 303 = .ok (.aload_n 1, 1) := by decide +kernel
theorem dL_law_304 : decode cL_law 304 = .ok (.aload_n 0, 1) := by decide +kernel
theorem dL_law_305 : decode cL_law 305 = .ok (.iload 4, 2) := by decide +kernel
theorem dL_law_307 : decode cL_law 307 = .ok (.iconst 1, 1) := by decide +kernel
theorem dL_law_308 : decode cL_law 308 = .ok (.iadd, 1) := by decide +kernel
theorem dL_law_309 : decode cL_law 309 = .ok (.iaload, 1) := by decide +kernel
theorem dL_law_310 : decode cL_law 310 = .ok (.aload_n 0, 1) := by decide +kernel
theorem dL_law_311 : decode cL_law 311 = .ok (.iload 4, 2) := by decide +kernel
theorem dL_law_313 : decode cL_law 313 = .ok (.iconst 2, 1) := by decide +kernel
theorem dL_law_314 : decode cL_law 314 = .ok (.iadd, 1) := by decide +kernel
theorem dL_law_315 : decode cL_law 315 = .ok (.iaload, 1) := by decide +kernel
theorem dL_law_316 : decode cL_law 316 = .ok (.i2l, 1) := by decide +kernel
theorem dL_law_317 : decode cL_law 317 = .ok (.bipush 32, 2) := by decide +kernel
theorem dL_law_319 : decode cL_law 319 = .ok (.lshl, 1) := by decide +kernel
theorem dL_law_320 : decode cL_law 320 = .ok (.aload_n 0, 1) := by decide +kernel
theorem dL_law_321 : decode cL_law 321 = .ok (.iload 4, 2) := by decide +kernel
theorem dL_law_323 : decode cL_law 323 = .ok (.iconst 3, 1) := by decide +kernel
theorem dL_law_324 : decode cL_law 324 = .ok (.iadd, 1) := by decide +kernel
theorem dL_law_325 : decode cL_law 325 = .ok (.iaload, 1) := by decide +kernel
theorem dL_law_326 : decode cL_law 326 = .ok (.i2l, 1) := by decide +kernel
theorem dL_law_327 : decode cL_law 327 = .ok (.ldc2_w 24, 3) := by decide +kernel
theorem dL_law_330 : decode cL_law 330 = .ok (.land, 1) := by decide +kernel
theorem dL_law_331 : decode cL_law 331 = .ok (.lor, 1) := by decide +kernel
theorem dL_law_332 : decode cL_law 332 = .ok (.invokevirtual 36, 3) := by decide +kernel
theorem dL_law_335 : decode cL_law 335 = .ok (.aload_n 2, 1) := by decide +kernel
theorem dL_law_336 : decode cL_law 336 = .ok (.aload_n 0, 1) := by decide +kernel
theorem dL_law_337 : decode cL_law 337 = .ok (.iload 4, 2) := by decide +kernel
theorem dL_law_339 : decode cL_law 339 = .ok (.iconst 1, 1) := by decide +kernel
theorem dL_law_340 : decode cL_law 340 = .ok (.iadd, 1) := by decide +kernel
theorem dL_law_341 : decode cL_law 341 = .ok (.iaload, 1) := by decide +kernel
theorem dL_law_342 : decode cL_law 342 = .ok (.aload_n 0, 1) := by decide +kernel
theorem dL_law_343 : decode cL_law 343 = .ok (.iload 4, 2) := by decide +kernel
theorem dL_law_345 : decode cL_law 345 = .ok (.iconst 2, 1) := by decide +kernel
theorem dL_law_346 : decode cL_law 346 = .ok (.iadd, 1) := by decide +kernel
theorem dL_law_347 : decode cL_law 347 = .ok (.iaload, 1) := by decide +kernel
theorem dL_law_348 : decode cL_law 348 = .ok (.i2l, 1) := by decide +kernel
theorem dL_law_349 : decode cL_law 349 = .ok (.bipush 32, 2) := by decide +kernel
theorem dL_law_351 : decode cL_law 351 = .ok (.lshl, 1) := by decide +kernel
theorem dL_law_352 : decode cL_law 352 = .ok (.aload_n 0, 1) := by decide +kernel
theorem dL_law_353 : decode cL_law 353 = .ok (.iload 4, 2) := by decide +kernel
theorem dL_law_355 : decode cL_law 355 = .ok (.iconst 3, 1) := by decide +kernel
theorem dL_law_356 : decode cL_law 356 = .ok (.iadd, 1) := by decide +kernel
theorem dL_law_357 : decode cL_law 357 = .ok (.iaload, 1) := by decide +kernel
theorem dL_law_358 : decode cL_law 358 = .ok (.i2l, 1) := by decide +kernel
theorem dL_law_359 : decode cL_law 359 = .ok (.ldc2_w 24, 3) := by decide +kernel
theorem dL_law_362 : decode cL_law 362 = .ok (.land, 1) := by decide +kernel
theorem dL_law_363 : decode cL_law 363 = .ok (.lor, 1) := by decide +kernel
theorem dL_law_364 : decode cL_law 364 = .ok (.invokevirtual 39, 3) := by decide +kernel
theorem dL_law_367 : decode cL_law 367 = .ok (.if_icmp .eq 349, 3) := by decide +kernel
theorem dL_law_370 : decode cL_law 370 = .ok (.iconst 0, 1) := by decide +kernel
theorem dL_law_371 : decode cL_law 371 = .ok (.ireturn, 1) := by decide +kernel
theorem dL_law_372 : decode cL_law 372 = .ok (.aload_n 1, 1) := by decide +kernel
theorem dL_law_373 : decode cL_law 373 = .ok (.aload_n 0, 1) := by decide +kernel
theorem dL_law_374 : decode cL_law 374 = .ok (.iload 4, 2) := by decide +kernel
theorem dL_law_376 : decode cL_law 376 = .ok (.iconst 1, 1) := by decide +kernel
theorem dL_law_377 : decode cL_law 377 = .ok (.iadd, 1) := by decide +kernel
theorem dL_law_378 : decode cL_law 378 = .ok (.iaload, 1) := by decide +kernel
theorem dL_law_379 : decode cL_law 379 = .ok (.aload_n 0, 1) := by decide +kernel
theorem dL_law_380 : decode cL_law 380 = .ok (.iload 4, 2) := by decide +kernel
theorem dL_law_382 : decode cL_law 382 = .ok (.iconst 2, 1) := by decide +kernel
theorem dL_law_383 : decode cL_law 383 = .ok (.iadd, 1) := by decide +kernel
theorem dL_law_384 : decode cL_law 384 = .ok (.iaload, 1) := by decide +kernel
theorem dL_law_385 : decode cL_law 385 = .ok (.invokevirtual 40, 3) := by decide +kernel
theorem dL_law_388 : decode cL_law 388 = .ok (.aload_n 2, 1) := by decide +kernel
theorem dL_law_389 : decode cL_law 389 = .ok (.aload_n 0, 1) := by decide +kernel
theorem dL_law_390 : decode cL_law 390 = .ok (.iload 4, 2) := by decide +kernel
theorem dL_law_392 : decode cL_law 392 = .ok (.iconst 1, 1) := by decide +kernel
theorem dL_law_393 : decode cL_law 393 = .ok (.iadd, 1) := by decide +kernel
theorem dL_law_394 : decode cL_law 394 = .ok (.iaload, 1) := by decide +kernel
theorem dL_law_395 : decode cL_law 395 = .ok (.aload_n 0, 1) := by decide +kernel
theorem dL_law_396 : decode cL_law 396 = .ok (.iload 4, 2) := by decide +kernel
theorem dL_law_398 : decode cL_law 398 = .ok (.iconst 2, 1) := by decide +kernel
theorem dL_law_399 : decode cL_law 399 = .ok (.iadd, 1) := by decide +kernel
theorem dL_law_400 : decode cL_law 400 = .ok (.iaload, 1) := by decide +kernel
theorem dL_law_401 : decode cL_law 401 = .ok (.invokevirtual 43, 3) := by decide +kernel
theorem dL_law_404 : decode cL_law 404 = .ok (.if_icmp .eq 312, 3) := by decide +kernel
theorem dL_law_407 : decode cL_law 407 = .ok (.iconst 0, 1) := by decide +kernel
theorem dL_law_408 : decode cL_law 408 = .ok (.ireturn, 1) := by decide +kernel
theorem dL_law_409 : decode cL_law 409 = .ok (.aload_n 1, 1) := by decide +kernel
theorem dL_law_410 : decode cL_law 410 = .ok (.aload_n 0, 1) := by decide +kernel
theorem dL_law_411 : decode cL_law 411 = .ok (.iload 4, 2) := by decide +kernel
theorem dL_law_413 : decode cL_law 413 = .ok (.iconst 1, 1) := by decide +kernel
theorem dL_law_414 : decode cL_law 414 = .ok (.iadd, 1) := by decide +kernel
theorem dL_law_415 : decode cL_law 415 = .ok (.iaload, 1) := by decide +kernel
theorem dL_law_416 : decode cL_law 416 = .ok (.aload_n 0, 1) := by decide +kernel
theorem dL_law_417 : decode cL_law 417 = .ok (.iload 4, 2) := by decide +kernel
theorem dL_law_419 : decode cL_law 419 = .ok (.iconst 2, 1) := by decide +kernel
theorem dL_law_420 : decode cL_law 420 = .ok (.iadd, 1) := by decide +kernel
theorem dL_law_421 : decode cL_law 421 = .ok (.iaload, 1) := by decide +kernel
theorem dL_law_422 : decode cL_law 422 = .ok (.i2l, 1) := by decide +kernel
theorem dL_law_423 : decode cL_law 423 = .ok (.bipush 32, 2) := by decide +kernel
theorem dL_law_425 : decode cL_law 425 = .ok (.lshl, 1) := by decide +kernel
theorem dL_law_426 : decode cL_law 426 = .ok (.aload_n 0, 1) := by decide +kernel
theorem dL_law_427 : decode cL_law 427 = .ok (.iload 4, 2) := by decide +kernel
theorem dL_law_429 : decode cL_law 429 = .ok (.iconst 3, 1) := by decide +kernel
theorem dL_law_430 : decode cL_law 430 = .ok (.iadd, 1) := by decide +kernel
theorem dL_law_431 : decode cL_law 431 = .ok (.iaload, 1) := by decide +kernel
theorem dL_law_432 : decode cL_law 432 = .ok (.i2l, 1) := by decide +kernel
theorem dL_law_433 : decode cL_law 433 = .ok (.ldc2_w 24, 3) := by decide +kernel
theorem dL_law_436 : decode cL_law 436 = .ok (.land, 1) := by decide +kernel
theorem dL_law_437 : decode cL_law 437 = .ok (.lor, 1) := by decide +kernel
theorem dL_law_438 : decode cL_law 438 = .ok (.invokevirtual 44, 3) := by decide +kernel
theorem dL_law_441 : decode cL_law 441 = .ok (.aload_n 2, 1) := by decide +kernel
theorem dL_law_442 : decode cL_law 442 = .ok (.aload_n 0, 1) := by decide +kernel
theorem dL_law_443 : decode cL_law 443 = .ok (.iload 4, 2) := by decide +kernel
theorem dL_law_445 : decode cL_law 445 = .ok (.iconst 1, 1) := by decide +kernel
theorem dL_law_446 : decode cL_law 446 = .ok (.iadd, 1) := by decide +kernel
theorem dL_law_447 : decode cL_law 447 = .ok (.iaload, 1) := by decide +kernel
theorem dL_law_448 : decode cL_law 448 = .ok (.aload_n 0, 1) := by decide +kernel
theorem dL_law_449 : decode cL_law 449 = .ok (.iload 4, 2) := by decide +kernel
theorem dL_law_451 : decode cL_law 451 = .ok (.iconst 2, 1) := by decide +kernel
theorem dL_law_452 : decode cL_law 452 = .ok (.iadd, 1) := by decide +kernel
theorem dL_law_453 : decode cL_law 453 = .ok (.iaload, 1) := by decide +kernel
theorem dL_law_454 : decode cL_law 454 = .ok (.i2l, 1) := by decide +kernel
theorem dL_law_455 : decode cL_law 455 = .ok (.bipush 32, 2) := by decide +kernel
theorem dL_law_457 : decode cL_law 457 = .ok (.lshl, 1) := by decide +kernel
theorem dL_law_458 : decode cL_law 458 = .ok (.aload_n 0, 1) := by decide +kernel
theorem dL_law_459 : decode cL_law 459 = .ok (.iload 4, 2) := by decide +kernel
theorem dL_law_461 : decode cL_law 461 = .ok (.iconst 3, 1) := by decide +kernel
theorem dL_law_462 : decode cL_law 462 = .ok (.iadd, 1) := by decide +kernel
theorem dL_law_463 : decode cL_law 463 = .ok (.iaload, 1) := by decide +kernel
theorem dL_law_464 : decode cL_law 464 = .ok (.i2l, 1) := by decide +kernel
theorem dL_law_465 : decode cL_law 465 = .ok (.ldc2_w 24, 3) := by decide +kernel
theorem dL_law_468 : decode cL_law 468 = .ok (.land, 1) := by decide +kernel
theorem dL_law_469 : decode cL_law 469 = .ok (.lor, 1) := by decide +kernel
theorem dL_law_470 : decode cL_law 470 = .ok (.invokevirtual 47, 3) := by decide +kernel
theorem dL_law_473 : decode cL_law 473 = .ok (.if_icmp .eq 243, 3) := by decide +kernel
theorem dL_law_476 : decode cL_law 476 = .ok (.iconst 0, 1) := by decide +kernel
theorem dL_law_477 : decode cL_law 477 = .ok (.ireturn, 1) := by decide +kernel
theorem dL_law_478 : decode cL_law 478 = .ok (.aload_n 1, 1) := by decide +kernel
theorem dL_law_479 : decode cL_law 479 = .ok (.aload_n 0, 1) := by decide +kernel
theorem dL_law_480 : decode cL_law 480 = .ok (.iload 4, 2) := by decide +kernel
theorem dL_law_482 : decode cL_law 482 = .ok (.iconst 1, 1) := by decide +kernel
theorem dL_law_483 : decode cL_law 483 = .ok (.iadd, 1) := by decide +kernel
theorem dL_law_484 : decode cL_law 484 = .ok (.iaload, 1) := by decide +kernel
theorem dL_law_485 : decode cL_law 485 = .ok (.invokevirtual 48, 3) := by decide +kernel
theorem dL_law_488 : decode cL_law 488 = .ok (.aload_n 2, 1) := by decide +kernel
theorem dL_law_489 : decode cL_law 489 = .ok (.aload_n 0, 1) := by decide +kernel
theorem dL_law_490 : decode cL_law 490 = .ok (.iload 4, 2) := by decide +kernel
theorem dL_law_492 : decode cL_law 492 = .ok (.iconst 1, 1) := by decide +kernel
theorem dL_law_493 : decode cL_law 493 = .ok (.iadd, 1) := by decide +kernel
theorem dL_law_494 : decode cL_law 494 = .ok (.iaload, 1) := by decide +kernel
theorem dL_law_495 : decode cL_law 495 = .ok (.invokevirtual 51, 3) := by decide +kernel
theorem dL_law_498 : decode cL_law 498 = .ok (.if_icmp .eq 218, 3) := by decide +kernel
theorem dL_law_501 : decode cL_law 501 = .ok (.iconst 0, 1) := by decide +kernel
theorem dL_law_502 : decode cL_law 502 = .ok (.ireturn, 1) := by decide +kernel
theorem dL_law_503 : decode cL_law 503 = .ok (.aload_n 1, 1) := by decide +kernel
theorem dL_law_504 : decode cL_law 504 = .ok (.aload_n 0, 1) := by decide +kernel
theorem dL_law_505 : decode cL_law 505 = .ok (.iload 4, 2) := by decide +kernel
theorem dL_law_507 : decode cL_law 507 = .ok (.iconst 1, 1) := by decide +kernel
theorem dL_law_508 : decode cL_law 508 = .ok (.iadd, 1) := by decide +kernel
theorem dL_law_509 : decode cL_law 509 = .ok (.iaload, 1) := by decide +kernel
theorem dL_law_510 : decode cL_law 510 = .ok (.invokevirtual 52, 3) := by decide +kernel
theorem dL_law_513 : decode cL_law 513 = .ok (.aload_n 2, 1) := by decide +kernel
theorem dL_law_514 : decode cL_law 514 = .ok (.aload_n 0, 1) := by decide +kernel
theorem dL_law_515 : decode cL_law 515 = .ok (.iload 4, 2) := by decide +kernel
theorem dL_law_517 : decode cL_law 517 = .ok (.iconst 1, 1) := by decide +kernel
theorem dL_law_518 : decode cL_law 518 = .ok (.iadd, 1) := by decide +kernel
theorem dL_law_519 : decode cL_law 519 = .ok (.iaload, 1) := by decide +kernel
theorem dL_law_520 : decode cL_law 520 = .ok (.invokevirtual 55, 3) := by decide +kernel
theorem dL_law_523 : decode cL_law 523 = .ok (.if_icmp .eq 193, 3) := by decide +kernel
theorem dL_law_526 : decode cL_law 526 = .ok (.iconst 0, 1) := by decide +kernel
theorem dL_law_527 : decode cL_law 527 = .ok (.ireturn, 1) := by decide +kernel
theorem dL_law_528 : decode cL_law 528 = .ok (.aload_n 1, 1) := by decide +kernel
theorem dL_law_529 : decode cL_law 529 = .ok (.aload_n 0, 1) := by decide +kernel
theorem dL_law_530 : decode cL_law 530 = .ok (.iload 4, 2) := by decide +kernel
theorem dL_law_532 : decode cL_law 532 = .ok (.iconst 1, 1) := by decide +kernel
theorem dL_law_533 : decode cL_law 533 = .ok (.iadd, 1) := by decide +kernel
theorem dL_law_534 : decode cL_law 534 = .ok (.iaload, 1) := by decide +kernel
theorem dL_law_535 : decode cL_law 535 = .ok (.aload_n 0, 1) := by decide +kernel
theorem dL_law_536 : decode cL_law 536 = .ok (.iload 4, 2) := by decide +kernel
theorem dL_law_538 : decode cL_law 538 = .ok (.iconst 2, 1) := by decide +kernel
theorem dL_law_539 : decode cL_law 539 = .ok (.iadd, 1) := by decide +kernel
theorem dL_law_540 : decode cL_law 540 = .ok (.iaload, 1) := by decide +kernel
theorem dL_law_541 : decode cL_law 541 = .ok (.invokevirtual 56, 3) := by decide +kernel
theorem dL_law_544 : decode cL_law 544 = .ok (.aload_n 2, 1) := by decide +kernel
theorem dL_law_545 : decode cL_law 545 = .ok (.aload_n 0, 1) := by decide +kernel
theorem dL_law_546 : decode cL_law 546 = .ok (.iload 4, 2) := by decide +kernel
theorem dL_law_548 : decode cL_law 548 = .ok (.iconst 1, 1) := by decide +kernel
theorem dL_law_549 : decode cL_law 549 = .ok (.iadd, 1) := by decide +kernel
theorem dL_law_550 : decode cL_law 550 = .ok (.iaload, 1) := by decide +kernel
theorem dL_law_551 : decode cL_law 551 = .ok (.aload_n 0, 1) := by decide +kernel
theorem dL_law_552 : decode cL_law 552 = .ok (.iload 4, 2) := by decide +kernel
theorem dL_law_554 : decode cL_law 554 = .ok (.iconst 2, 1) := by decide +kernel
theorem dL_law_555 : decode cL_law 555 = .ok (.iadd, 1) := by decide +kernel
theorem dL_law_556 : decode cL_law 556 = .ok (.iaload, 1) := by decide +kernel
theorem dL_law_557 : decode cL_law 557 = .ok (.invokevirtual 59, 3) := by decide +kernel
theorem dL_law_560 : decode cL_law 560 = .ok (.if_icmp .eq 156, 3) := by decide +kernel
theorem dL_law_563 : decode cL_law 563 = .ok (.iconst 0, 1) := by decide +kernel
theorem dL_law_564 : decode cL_law 564 = .ok (.ireturn, 1) := by decide +kernel
theorem dL_law_565 : decode cL_law 565 = .ok (.aload_n 1, 1) := by decide +kernel
theorem dL_law_566 : decode cL_law 566 = .ok (.aload_n 0, 1) := by decide +kernel
theorem dL_law_567 : decode cL_law 567 = .ok (.iload 4, 2) := by decide +kernel
theorem dL_law_569 : decode cL_law 569 = .ok (.iconst 1, 1) := by decide +kernel
theorem dL_law_570 : decode cL_law 570 = .ok (.iadd, 1) := by decide +kernel
theorem dL_law_571 : decode cL_law 571 = .ok (.iaload, 1) := by decide +kernel
theorem dL_law_572 : decode cL_law 572 = .ok (.aload_n 0, 1) := by decide +kernel
theorem dL_law_573 : decode cL_law 573 = .ok (.iload 4, 2) := by decide +kernel
theorem dL_law_575 : decode cL_law 575 = .ok (.iconst 2, 1) := by decide +kernel
theorem dL_law_576 : decode cL_law 576 = .ok (.iadd, 1) := by decide +kernel
theorem dL_law_577 : decode cL_law 577 = .ok (.iaload, 1) := by decide +kernel
theorem dL_law_578 : decode cL_law 578 = .ok (.i2l, 1) := by decide +kernel
theorem dL_law_579 : decode cL_law 579 = .ok (.bipush 32, 2) := by decide +kernel
theorem dL_law_581 : decode cL_law 581 = .ok (.lshl, 1) := by decide +kernel
theorem dL_law_582 : decode cL_law 582 = .ok (.aload_n 0, 1) := by decide +kernel
theorem dL_law_583 : decode cL_law 583 = .ok (.iload 4, 2) := by decide +kernel
theorem dL_law_585 : decode cL_law 585 = .ok (.iconst 3, 1) := by decide +kernel
theorem dL_law_586 : decode cL_law 586 = .ok (.iadd, 1) := by decide +kernel
theorem dL_law_587 : decode cL_law 587 = .ok (.iaload, 1) := by decide +kernel
theorem dL_law_588 : decode cL_law 588 = .ok (.i2l, 1) := by decide +kernel
theorem dL_law_589 : decode cL_law 589 = .ok (.ldc2_w 24, 3) := by decide +kernel
theorem dL_law_592 : decode cL_law 592 = .ok (.land, 1) := by decide +kernel
theorem dL_law_593 : decode cL_law 593 = .ok (.lor, 1) := by decide +kernel
theorem dL_law_594 : decode cL_law 594 = .ok (.invokevirtual 60, 3) := by decide +kernel
theorem dL_law_597 : decode cL_law 597 = .ok (.aload_n 2, 1) := by decide +kernel
theorem dL_law_598 : decode cL_law 598 = .ok (.aload_n 0, 1) := by decide +kernel
theorem dL_law_599 : decode cL_law 599 = .ok (.iload 4, 2) := by decide +kernel
theorem dL_law_601 : decode cL_law 601 = .ok (.iconst 1, 1) := by decide +kernel
theorem dL_law_602 : decode cL_law 602 = .ok (.iadd, 1) := by decide +kernel
theorem dL_law_603 : decode cL_law 603 = .ok (.iaload, 1) := by decide +kernel
theorem dL_law_604 : decode cL_law 604 = .ok (.aload_n 0, 1) := by decide +kernel
theorem dL_law_605 : decode cL_law 605 = .ok (.iload 4, 2) := by decide +kernel
theorem dL_law_607 : decode cL_law 607 = .ok (.iconst 2, 1) := by decide +kernel
theorem dL_law_608 : decode cL_law 608 = .ok (.iadd, 1) := by decide +kernel
theorem dL_law_609 : decode cL_law 609 = .ok (.iaload, 1) := by decide +kernel
theorem dL_law_610 : decode cL_law 610 = .ok (.i2l, 1) := by decide +kernel
theorem dL_law_611 : decode cL_law 611 = .ok (.bipush 32, 2) := by decide +kernel
theorem dL_law_613 : decode cL_law 613 = .ok (.lshl, 1) := by decide +kernel
theorem dL_law_614 : decode cL_law 614 = .ok (.aload_n 0, 1) := by decide +kernel
theorem dL_law_615 : decode cL_law 615 = .ok (.iload 4, 2) := by decide +kernel
theorem dL_law_617 : decode cL_law 617 = .ok (.iconst 3, 1) := by decide +kernel
theorem dL_law_618 : decode cL_law 618 = .ok (.iadd, 1) := by decide +kernel
theorem dL_law_619 : decode cL_law 619 = .ok (.iaload, 1) := by decide +kernel
theorem dL_law_620 : decode cL_law 620 = .ok (.i2l, 1) := by decide +kernel
theorem dL_law_621 : decode cL_law 621 = .ok (.ldc2_w 24, 3) := by decide +kernel
theorem dL_law_624 : decode cL_law 624 = .ok (.land, 1) := by decide +kernel
theorem dL_law_625 : decode cL_law 625 = .ok (.lor, 1) := by decide +kernel
theorem dL_law_626 : decode cL_law 626 = .ok (.invokevirtual 64, 3) := by decide +kernel
theorem dL_law_629 : decode cL_law 629 = .ok (.lcmp, 1) := by decide +kernel
theorem dL_law_630 : decode cL_law 630 = .ok (.ifCond .eq 86, 3) := by decide +kernel
theorem dL_law_633 : decode cL_law 633 = .ok (.iconst 0, 1) := by decide +kernel
theorem dL_law_634 : decode cL_law 634 = .ok (.ireturn, 1) := by decide +kernel
theorem dL_law_635 : decode cL_law 635 = .ok (.aload_n 1, 1) := by decide +kernel
theorem dL_law_636 : decode cL_law 636 = .ok (.aload_n 0, 1) := by decide +kernel
theorem dL_law_637 : decode cL_law 637 = .ok (.iload 4, 2) := by decide +kernel
theorem dL_law_639 : decode cL_law 639 = .ok (.iconst 1, 1) := by decide +kernel
theorem dL_law_640 : decode cL_law 640 = .ok (.iadd, 1) := by decide +kernel
theorem dL_law_641 : decode cL_law 641 = .ok (.iaload, 1) := by decide +kernel
theorem dL_law_642 : decode cL_law 642 = .ok (.invokevirtual 65, 3) := by decide +kernel
theorem dL_law_645 : decode cL_law 645 = .ok (.aload_n 2, 1) := by decide +kernel
theorem dL_law_646 : decode cL_law 646 = .ok (.aload_n 0, 1) := by decide +kernel
theorem dL_law_647 : decode cL_law 647 = .ok (.iload 4, 2) := by decide +kernel
theorem dL_law_649 : decode cL_law 649 = .ok (.iconst 1, 1) := by decide +kernel
theorem dL_law_650 : decode cL_law 650 = .ok (.iadd, 1) := by decide +kernel
theorem dL_law_651 : decode cL_law 651 = .ok (.iaload, 1) := by decide +kernel
theorem dL_law_652 : decode cL_law 652 = .ok (.invokevirtual 68, 3) := by decide +kernel
theorem dL_law_655 : decode cL_law 655 = .ok (.if_icmp .eq 61, 3) := by decide +kernel
theorem dL_law_658 : decode cL_law 658 = .ok (.iconst 0, 1) := by decide +kernel
theorem dL_law_659 : decode cL_law 659 = .ok (.ireturn, 1) := by decide +kernel
theorem dL_law_660 : decode cL_law 660 = .ok (.aload_n 1, 1) := by decide +kernel
theorem dL_law_661 : decode cL_law 661 = .ok (.aload_n 0, 1) := by decide +kernel
theorem dL_law_662 : decode cL_law 662 = .ok (.iload 4, 2) := by decide +kernel
theorem dL_law_664 : decode cL_law 664 = .ok (.iconst 1, 1) := by decide +kernel
theorem dL_law_665 : decode cL_law 665 = .ok (.iadd, 1) := by decide +kernel
theorem dL_law_666 : decode cL_law 666 = .ok (.iaload, 1) := by decide +kernel
theorem dL_law_667 : decode cL_law 667 = .ok (.aload_n 3, 1) := by decide +kernel
theorem dL_law_668 : decode cL_law 668 = .ok (.invokestatic 69, 3) := by decide +kernel
theorem dL_law_671 : decode cL_law 671 = .ok (.istore 5, 2) := by decide +kernel
theorem dL_law_673 : decode cL_law 673 = .ok (.aload_n 2, 1) := by decide +kernel
theorem dL_law_674 : decode cL_law 674 = .ok (.aload_n 0, 1) := by decide +kernel
theorem dL_law_675 : decode cL_law 675 = .ok (.iload 4, 2) := by decide +kernel
theorem dL_law_677 : decode cL_law 677 = .ok (.iconst 1, 1) := by decide +kernel
theorem dL_law_678 : decode cL_law 678 = .ok (.iadd, 1) := by decide +kernel
theorem dL_law_679 : decode cL_law 679 = .ok (.iaload, 1) := by decide +kernel
theorem dL_law_680 : decode cL_law 680 = .ok (.invokevirtual 74, 3) := by decide +kernel
theorem dL_law_683 : decode cL_law 683 = .ok (.istore 6, 2) := by decide +kernel
theorem dL_law_685 : decode cL_law 685 = .ok (.aload_n 2, 1) := by decide +kernel
theorem dL_law_686 : decode cL_law 686 = .ok (.invokevirtual 75, 3) := by decide +kernel
theorem dL_law_689 : decode cL_law 689 = .ok (.iload 5, 2) := by decide +kernel
theorem dL_law_691 : decode cL_law 691 = .ok (.if_icmp .eq 5, 3) := by decide +kernel
theorem dL_law_694 : decode cL_law 694 = .ok (.iconst 0, 1) := by decide +kernel
theorem dL_law_695 : decode cL_law 695 = .ok (.ireturn, 1) := by decide +kernel
theorem dL_law_696 : decode cL_law 696 = .ok (.iload 5, 2) := by decide +kernel
theorem dL_law_698 : decode cL_law 698 = .ok (.ifCond .ne 15, 3) := by decide +kernel
theorem dL_law_701 : decode cL_law 701 = .ok (.aload_n 3, 1) := by decide +kernel
theorem dL_law_702 : decode cL_law 702 = .ok (.iconst 0, 1) := by decide +kernel
theorem dL_law_703 : decode cL_law 703 = .ok (.laload, 1) := by decide +kernel
theorem dL_law_704 : decode cL_law 704 = .ok (.iload 6, 2) := by decide +kernel
theorem dL_law_706 : decode cL_law 706 = .ok (.i2l, 1) := by decide +kernel
theorem dL_law_707 : decode cL_law 707 = .ok (.lcmp, 1) := by decide +kernel
theorem dL_law_708 : decode cL_law 708 = .ok (.ifCond .eq 5, 3) := by decide +kernel
theorem dL_law_711 : decode cL_law 711 = .ok (.iconst 0, 1) := by decide +kernel
theorem dL_law_712 : decode cL_law 712 = .ok (.ireturn, 1) := by decide +kernel
theorem dL_law_713 : decode cL_law 713 = .ok (.goto 3, 3) := by decide +kernel
theorem dL_law_716 : decode cL_law 716 = .ok (.iinc 4 6, 3) := by decide +kernel
theorem dL_law_719 : decode cL_law 719 = .ok (.goto (-696), 3) := by decide +kernel
theorem dL_law_722 : decode cL_law 722 = .ok (.iconst 1, 1) := by decide +kernel
theorem dL_law_723 : decode cL_law 723 = .ok (.ireturn, 1) := by decide +kernel
abbrev vwCl : List vw_C := [(RJ0, TJ0, 2), (RJx00060, TJx00060, 6), (RX0, TX0, 4), (RX1, TX1, 2), (RX2, TX2, 9), (RX3, TX3, 10), (RX4, TX4, 25)]
